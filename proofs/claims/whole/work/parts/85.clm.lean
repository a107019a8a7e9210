/-! The class: requests begun, handed over, asked -/
section REQ
variable {A : ab_H} {rd ln bd rl dc rq pl hl kc ks : Nat}
theorem c_Einit {a : Nat} {Q : ab_H → Prop} (hL : Li A) (h : A a = some (oR (.inr (7, mm_df 7)))) (h1 : 3 ≤ kc) (h2 : 8 ≤ ks) (hQ : ∀ B pl hl mp, A pl = none → A hl = none → B a = some (oR (.inr (7, [va_rf (some pl), va_rf (some hl), va_rf (some mp), va_rf (some mp), va_rf (some mp), .int (-1)]))) → B pl = some (oL [] 0) → B hl = some (oL [] 0) → PtAt B mp ([], []) → pl ≠ hl → Fw A B [a] → Q B) : wp_E_init a A kc ks Q := by
  have h : A a = some (oR (.inr (7, [.null, .null, .null, .null, .null, .int 0]))) := h
  refine ⟨⟨a, rfl⟩, ?_⟩
  refine wnw (by omega) (by omega) (fun b1 A1 _ n1 e1 f1 => al_init e1 (fun A2 e2 f2 => ?_))
  have a2 := f2.k (f1.e h) e1 (fun e => by cases e)
  refine wpu a2 (Nat.le_of_ble_eq_true rfl) (fun A3 e3 f3 => ?_)
  refine wnw (by omega) (by omega) (fun b2 A4 _ n4 e4 f4 => al_init e4 (fun A5 e5 f5 => ?_))
  have a5 := f5.k (f4.e e3) e4 (fun e => by cases e)
  refine wpu a5 (Nat.le_of_ble_eq_true rfl) (fun A6 e6 f6 => ?_)
  refine wnw (by omega) (by omega) (fun b3 A7 _ n7 e7 f7 => wD.i ?_)
  have ne1 : ∀ {x : Nat} {o : ab_O}, A x = some o → x ≠ b1 := fun hx => ne_no hx n1
  have up3 : ∀ {x : Nat} {o : ab_O}, A x = some o → x ≠ a → A3 x = some o := fun {x o} hx hn => f3.n (f2.n (f1.e hx) (ne1 hx)) hn
  have b1a : b1 ≠ a := ne_of e2 a2 (fun e => by cases e)
  have b1_3 := f3.n e2 b1a
  have b1b2 : b1 ≠ b2 := ne_no b1_3 n4
  have up6 : ∀ {x : Nat} {o : ab_O}, A3 x = some o → x ≠ a → A6 x = some o := fun {x o} hx hn => f6.n (f5.n (f4.e hx) (ne_no hx n4)) hn
  have b2a : b2 ≠ a := ne_of e5 a5 (fun e => by cases e)
  have b1_6 := up6 b1_3 b1a
  have b2_6 := f6.n e5 b2a
  refine c_Pinit (sn := 1) (sv := 1) e7 (fun A8 e8 f8 => ?_)
  have a8 := f8.k (f7.e e6) e7 (fun e => by cases e)
  refine wpu a8 (Nat.le_of_ble_eq_true rfl) (fun A9 e9 f9 => ?_)
  refine wgR.i (x := some b3) e9 rfl (wpu e9 (Nat.le_of_ble_eq_true rfl) (fun Aa ea fa => wgR.i (x := some b3) ea rfl (wpu ea (Nat.le_of_ble_eq_true rfl) (fun Ab eb fb => wpu eb (Nat.le_of_ble_eq_true rfl) (fun Ac ec fc => ?_)))))
  have last : ∀ {x : Nat} {o : ab_O}, A8 x = some o → x ≠ a → Ac x = some o := fun {x o} hx hn => fc.n (fb.n (fa.n (f9.n hx hn) hn) hn) hn
  have b3a : b3 ≠ a := ne_of e8 a8 (fun e => by cases e)
  have l8 : A8 1 = some (oS []) := f8.k (f7.e (up6 (up3 hL.1 (ne_of hL.1 h (fun e => by cases e))) (ne_of hL.1 h (fun e => by cases e)))) e7 (fun e => by cases e)
  have n2 : A b2 = none := by
    cases hz : A b2 with
    | none => rfl
    | some o =>
      rw [up3 hz b2a] at n4
      cases n4
  have n3 : A b3 = none := by
    cases hz : A b3 with
    | none => rfl
    | some o =>
      rw [up6 (up3 hz b3a) b3a] at n7
      cases n7
  refine hQ Ac b1 b2 b3 n1 n2 ec (last (f8.k (f7.e b1_6) e7 (fun e => by cases e)) b1a) (last (f8.k (f7.e b2_6) e7 (fun e => by cases e)) b2a) ⟨1, 1, last e8 b3a, last l8 (ne_of l8 a8 (fun e => by cases e)), last l8 (ne_of l8 a8 (fun e => by cases e))⟩ b1b2 (fun x o hx hn => ?_)
  have hn : x ≠ a := by simpa using hn
  exact last (f8.n (f7.e (up6 (up3 hx hn) hn)) (ne_no hx n3)) hn
theorem c_begin {Q : ab_H → Prop} (hL : Li A) (h : Rs A rd ln bd rl dc) (h1 : 6 ≤ kc) (h2 : 14 ≤ ks) (hQ : ∀ B rq pl hl, A rq = none → A pl = none → A hl = none → Ph0 B rd ln bd rl dc rq pl hl [] → Fw A B [rd, ln, bd] → Q B) : wp_R_begin rd A kc ks Q := by
  obtain ⟨⟨rq0, v4, v5, v6, v7, v8, v9, v10, r1⟩, ⟨L, c1, a1, a2, a3⟩, ⟨D, c2, b1, b2, b3⟩, d, ⟨Z, c3, e1, e2⟩, f1, f2, f3⟩ := h
  unfold wp_R_begin
  refine wgR.i (x := some ln) r1 rfl (sb_set a1 (k := 0) rfl (Nat.zero_le _) (by omega) (by omega) (fun A1 g1 F1 => ?_))
  have r2 := F1.k r1 a1 (fun e => by cases e)
  have bd1 := F1.n b1 (Ne.symm f1)
  refine wgR.i (x := some bd) r2 rfl (sb_set bd1 (k := 0) rfl (Nat.zero_le _) (by omega) (by omega) (fun A2 g2 F2 => ?_))
  have r3 := F2.k r2 bd1 (fun e => by cases e)
  have ln2 : A2 ln = some (oB [] c1) := F2.n g1 f1
  have g2 : A2 bd = some (oB [] c2) := g2
  have F12 : Fw A A2 [rd, ln, bd] := (F1.mo (fun x hx => by simp at hx ⊢; omega)).tr F2 (fun x hx => Or.inl (by simp at hx ⊢; omega))
  have l2 : Li A2 := (hL.fw F1 (Mu.c a1 rfl (Mu.nil _))).fw F2 (Mu.c bd1 rfl (Mu.nil _))
  refine wnw (by omega) (by omega) (fun b A3 _ n3 e3 F3 => wD.i (wXV.i 3 8 (by omega) (by omega) ?_))
  have nA : ∀ {x : Nat}, A2 x = none → A x = none := fun {x} hx => by
    cases hz : A x with
    | none => rfl
    | some o =>
      exfalso
      by_cases w : x = ln
      · rw [w, ln2] at hx
        cases hx
      · by_cases w2 : x = bd
        · rw [w2, g2] at hx
          cases hx
        · rw [F2.n (F1.n hz w) w2] at hx
          cases hx
  have nA3 : ∀ {x : Nat}, A3 x = none → A2 x = none := fun {x} hx => by
    cases hz : A2 x with
    | none => rfl
    | some o =>
      rw [F3.e hz] at hx
      cases hx
  refine c_Einit (l2.fw F3 (Mu.nil _)) e3 (Nat.le_refl _) (Nat.le_refl _) (fun A4 pl hl mp m1 m2 e4 e5 e6 pt e7 F4 => ?_)
  have rd4 := F4.k (F3.e r3) e3 (fun e => by cases e)
  have ln4 := F4.k (F3.e ln2) e3 (fun e => by cases e)
  have bd4 := F4.k (F3.e g2) e3 (fun e => by cases e)
  have rl4 := F4.k (F3.e (F2.k (F1.k d a1 (fun e => by cases e)) bd1 (fun e => by cases e))) e3 (fun e => by cases e)
  have dc4 := F4.k (F3.e (F2.n (F1.n e1 (Ne.symm f2)) (Ne.symm f3))) e3 (fun e => by cases e)
  refine wpu rd4 (Nat.le_of_ble_eq_true rfl) (fun B1 t1 G1 => wpu t1 (Nat.le_of_ble_eq_true rfl) (fun B2 t2 G2 => wpu t2 (Nat.le_of_ble_eq_true rfl) (fun B3 t3 G3 => wpu t3 (Nat.le_of_ble_eq_true rfl) (fun B4 t4 G4 => wpu t4 (Nat.le_of_ble_eq_true rfl) (fun B5 t5 G5 => wpu t5 (Nat.le_of_ble_eq_true rfl) (fun B6 t6 G6 => wpu t6 (Nat.le_of_ble_eq_true rfl) (fun B7 t7 G7 => wpu t7 (Nat.le_of_ble_eq_true rfl) (fun B8 t8 G8 => ?_))))))))
  have G : Fw A4 B8 [rd] := fww (fww (fww (fww (fww (fww (fww G1 G2) G3) G4) G5) G6) G7) G8
  have t8 : B8 rd = some (oRd ln bd rl b 0 false false false 0 0 0) := t8
  have F4' : Fw A A4 [rd, ln, bd] := (F12.tr F3 (by simp)).tr F4 (fun x hx => Or.inr (by simp at hx; rw [hx]; exact nA n3))
  refine hQ B8 b pl hl (nA n3) (nA (nA3 m1)) (nA (nA3 m2)) ⟨[], false, t8, ⟨⟨c1, G.k ln4 rd4 (fun e => by cases e), a2⟩, ⟨c2, G.k bd4 rd4 (fun e => by cases e), b2⟩, G.k rl4 rd4 (fun e => by cases e), ⟨Z, c3, G.k dc4 rd4 (fun e => by cases e), e2⟩, f1, f2, f3, by simp, by simp⟩, ⟨⟨mp, mp, mp, G.k e4 rd4 (fun e => by cases e)⟩, ⟨0, G.k e5 rd4 (fun e => by cases e)⟩, ⟨0, G.k e6 rd4 (fun e => by cases e)⟩, e7⟩, fun x hx => (by cases hx), by simp, by simp [cr]⟩ (F4'.tr G (fun x hx => Or.inl (by simp at hx ⊢; exact Or.inl hx)))
/-- a request that is handed over -/
def Kr (A : ab_H) (q : Nat) (r : Rq) (cid : Int) : Prop := ∃ pl hl mp pp bp ys cp zs cz, A q = some (oR (.inr (7, [va_rf (some pl), va_rf (some hl), va_rf (some mp), va_rf (some pp), va_rf (some bp), .int (iI cid)]))) ∧ PtAt A mp ([], r.1) ∧ PtAt A pp ([], r.2.1) ∧ A pl = some (oL ys cp) ∧ PtsAt A ys r.2.2.1 ∧ A hl = some (oL zs cz) ∧ PtsAt A zs r.2.2.2.1 ∧ PtAt A bp ([], r.2.2.2.2)
theorem c_handOver {Q : Option Nat → ab_H → Prop} {r : Rq} {cl : Bool} (hL : Li A) (h : Cp A rd ln bd rl dc rq pl hl r cl) (h1 : 9 ≤ kc) (h2 : 80 ≤ ks) (hQ : ∀ B rq2 pl2 hl2, A rq2 = none → A pl2 = none → A hl2 = none → Ph0 B rd ln bd rl dc rq2 pl2 hl2 [] → (∃ mp pp bp ys cp zs cz, B rq = some (oR (.inr (7, [va_rf (some pl), va_rf (some hl), va_rf (some mp), va_rf (some pp), va_rf (some bp), .int (-1)]))) ∧ PtAt B mp ([], r.1) ∧ PtAt B pp ([], r.2.1) ∧ B pl = some (oL ys cp) ∧ PtsAt B ys r.2.2.1 ∧ B hl = some (oL zs cz) ∧ PtsAt B zs r.2.2.2.1 ∧ PtAt B bp ([], r.2.2.2.2)) → cl = clH r.2.2.2.1 → Fw A B [rd, ln, bd, rq] → Q (some rq) B) : wp_R_handOver rd A kc ks Q := by
  obtain ⟨X, H, D, ph, wt, sd, sa, sr, tl, ck, p1, p2, p3, rfl, p5⟩ := h
  obtain ⟨⟨mp, pp, bp, t1, t2, t3⟩, ⟨ys, cp, t4, t5⟩, ⟨zs, cz, t6, t7⟩, t8⟩ := p3
  have pb := p2
  obtain ⟨⟨c1, a1, a2⟩, ⟨c2, b1, b2⟩, d, ⟨Z, c3, e1, e2⟩, f1, f2, f3, f4, f5⟩ := p2
  unfold wp_R_handOver
  refine wgR.i (x := some rq) p1 rfl ?_
  refine wnw (by omega) (by omega) (fun b A1 _ n1 g1 F1 => ?_)
  refine wgR.i (x := some bd) (F1.e p1) rfl (sb_str2 (F1.e b1) (by omega) (by omega) (fun s A2 n2 g2 F2 => wD.i ?_))
  have g1' : A2 b = some (oR (.inr (8, [.null, .null]))) := F2.e g1
  refine c_Pinit (sn := 1) (sv := s) g1' (fun A3 g3 F3 => ?_)
  have up3 : ∀ {x : Nat} {o : ab_O}, A x = some o → A3 x = some o := fun {x o} hx => F3.n (F2.e (F1.e hx)) (ne_no hx n1)
  refine wpu (up3 t1) (Nat.le_of_ble_eq_true rfl) (fun A4 g4 F4 => ?_)
  have brq : b ≠ rq := ne_of g3 (up3 t1) (fun e => by cases e)
  have up4 : ∀ {x : Nat} {o : ab_O}, A x = some o → x ≠ rq → A4 x = some o := fun {x o} hx hn => F4.n (up3 hx) hn
  have k4 : ∀ {x : Nat} {o : ab_O}, A x = some o → (∀ v, o ≠ oR (.inr (7, v))) → A4 x = some o := fun {x o} hx hn => up4 hx (ne_of hx t1 (hn _))
  have rd4 := k4 p1 (fun v e => by cases e)
  have F04 : Fw A A4 [rd, ln, bd, rq] := fun x o hx hn => up4 hx (by simp at hn; exact hn.2.2.2)
  have P34 : ∀ {y : Nat} {x : List Nat × List Nat}, PtAt A y x → PtAt A4 y x := fun {y x} hp => by
    obtain ⟨sn, sv, q1, q2, q3⟩ := hp
    exact ⟨sn, sv, k4 q1 (fun v e => by cases e), k4 q2 (fun v e => by cases e), k4 q3 (fun v e => by cases e)⟩
  have pB : PtAt A4 b ([], D) := ⟨1, s, F4.n g3 brq, F4.k (up3 hL.1) (up3 t1) (fun e => by cases e), F4.k (F3.k g2 g1' (fun e => by cases e)) (up3 t1) (fun e => by cases e)⟩
  have l4 : Li A4 := by
    obtain ⟨l1, l2, l3, l4, l5, l6, l7⟩ := hL
    exact ⟨k4 l1 (fun v e => by cases e), k4 l2 (fun v e => by cases e), k4 l3 (fun v e => by cases e), k4 l4 (fun v e => by cases e), k4 l5 (fun v e => by cases e), k4 l6 (fun v e => by cases e), k4 l7 (fun v e => by cases e)⟩
  refine wC.i rd4 (wXV.i 6 14 (by omega) (by omega) ?_)
  have rs4 : Rs A4 rd ln bd rl dc := ⟨⟨rq, _, _, _, _, _, _, _, rd4⟩, ⟨[], c1, k4 a1 (fun v e => by cases e), a2, by simp⟩, ⟨D, c2, k4 b1 (fun v e => by cases e), b2, f5⟩, k4 d (fun v e => by cases e), ⟨Z, c3, k4 e1 (fun v e => by cases e), e2⟩, f1, f2, f3⟩
  refine c_begin l4 rs4 (Nat.le_refl _) (Nat.le_refl _) (fun B rq2 pl2 hl2 m1 m2 m3 ph0 F5 => ?_)
  have nA : ∀ {x : Nat}, A4 x = none → A x = none := fun {x} hx => by
    cases hz : A x with
    | none => rfl
    | some o =>
      exfalso
      by_cases w : x = rq
      · rw [w, g4] at hx
        cases hx
      · rw [up4 hz w] at hx
        cases hx
  have hM : Mu A4 [rd, ln, bd] := Mu.c rd4 rfl (Mu.c (k4 a1 (fun v e => by cases e)) rfl (Mu.c (k4 b1 (fun v e => by cases e)) rfl (Mu.nil _)))
  have k5 : ∀ {x : Nat} {o : ab_O}, A4 x = some o → (∀ v, o ≠ oR (.inr (5, v))) → (∀ v c, o ≠ oB v c) → B x = some o := fun {x o} hx h1 h2 => F5 x o hx (by
    simp only [List.mem_cons, List.not_mem_nil, or_false, not_or]
    exact ⟨ne_of hx rd4 (h1 _), ne_of hx (k4 a1 (fun v e => by cases e)) (h2 _ _), ne_of hx (k4 b1 (fun v e => by cases e)) (h2 _ _)⟩)
  refine hQ B rq2 pl2 hl2 (nA m1) (nA m2) (nA m3) ph0 ⟨mp, pp, b, ys, cp, zs, cz, k5 g4 (fun v e => by cases e) (fun v c e => by cases e), (P34 t2).fw F5 hM, (P34 t3).fw F5 hM, k5 (k4 t4 (fun v e => by cases e)) (fun v e => by cases e) (fun v c e => by cases e), ?_, k5 (k4 t6 (fun v e => by cases e)) (fun v e => by cases e) (fun v c e => by cases e), ?_, pB.fw F5 hM⟩ p5 (F04.tr F5 (fun x hx => Or.inl (by simp at hx ⊢; omega)))
  · exact ⟨t5.1, fun j y x i1 i2 => (P34 (t5.2 j y x i1 i2)).fw F5 hM⟩
  · exact ⟨t7.1, fun j y x i1 i2 => (P34 (t7.2 j y x i1 i2)).fw F5 hM⟩
end REQ
