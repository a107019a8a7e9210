/-! The class: a new reader, a new connection -/
section NEW
variable {G A : ab_H} {kc ks : Nat} {Q : ab_H → Prop}
theorem c_Qinit {b : Nat} (h : A b = some (oR (.inr (6, mm_df 6)))) (h1 : 2 ≤ kc) (h2 : 20 ≤ ks) (hQ : ∀ B dc, A dc = none → B b = some (oR (.inr (6, [va_rf (some dc)]))) → B dc = some (oB [] 16) → Fw A B [b] → Q B) : wp_Q_init b A kc ks Q := by
  have h : A b = some (oR (.inr (6, [.null]))) := h
  refine ⟨⟨b, rfl⟩, wnw (by omega) (by omega) (fun dc A1 _ n1 e1 f1 => sb_init e1 (by omega) (by omega) (fun A2 e2 f2 => ?_))⟩
  have b2 := f2.k (f1.e h) e1 (fun e => by cases e)
  refine wpu b2 (Nat.le_of_ble_eq_true rfl) (fun A3 e3 f3 => hQ A3 dc n1 e3 (f3.k e2 b2 (fun e => by cases e)) ?_)
  exact ((f1.mo (by simp)).tr f2 (fun x hx => Or.inr (by simp at hx; rw [hx]; exact n1))).tr f3 (fun x hx => Or.inl hx)
theorem nn_a {A B : ab_H} {x a : Nat} {o : ab_O} (h : B x = none) (hF : Fw A B [a]) (ha : B a = some o) : A x = none := nn_1 h hF ha
theorem c_Rinit {a : Nat} (hL : Li A) (h : A a = some (oR (.inr (5, mm_df 5)))) (h1 : 11 ≤ kc) (h2 : 75 ≤ ks) (hQ : ∀ B ln bd rl dc rq pl hl, A ln = none → A bd = none → A dc = none → A rq = none → A pl = none → A hl = none → Ph0 B a ln bd rl dc rq pl hl [] → Fw A B [a] → Q B) : wp_R_init a A kc ks Q := by
  have h : A a = some (oR (.inr (5, [.null, .null, .null, .null, .int 0, .int 0, .int 0, .int 0, .int 0, .int 0, .int 0]))) := h
  refine ⟨⟨a, rfl⟩, wnw (by omega) (by omega) (fun ln A1 _ n1 e1 f1 => sb_init e1 (by omega) (by omega) (fun A2 e2 f2 => ?_))⟩
  have F2 : Fw A A2 [] := f1.tr f2 (fun x hx => Or.inr (by simp at hx; rw [hx]; exact n1))
  have a2 := F2.e h
  refine wpu a2 (Nat.le_of_ble_eq_true rfl) (fun A3 a3 f3 => ?_)
  have F3 : Fw A A3 [a] := (F2.mo (by simp)).tr f3 (fun x hx => Or.inl hx)
  have ln3 := f3.k e2 a2 (fun e => by cases e)
  refine wnw (by omega) (by omega) (fun bd A4 _ n4 e4 f4 => sb_init e4 (by omega) (by omega) (fun A5 e5 f5 => ?_))
  have n4A := nn_1 n4 F3 a3
  have F45 : Fw A3 A5 [] := f4.tr f5 (fun x hx => Or.inr (by simp at hx; rw [hx]; exact n4))
  have a5 := F45.e a3
  have ln5 := F45.e ln3
  refine wpu a5 (Nat.le_of_ble_eq_true rfl) (fun A6 a6 f6 => ?_)
  have F6 : Fw A A6 [a] := (F3.tr F45 (by simp)).tr f6 (fun x hx => Or.inl hx)
  have ln6 := f6.k ln5 a5 (fun e => by cases e)
  have bd6 := f6.k e5 a5 (fun e => by cases e)
  have lnbd : ln ≠ bd := ne_no ln3 n4
  refine wnw (by omega) (by omega) (fun rl A7 _ n7 e7 f7 => wD.i (wXV.i 2 20 (by omega) (by omega) (c_Qinit e7 (Nat.le_refl _) (Nat.le_refl _) (fun A8 dc n8 e8 d8 f8 => ?_))))
  have n7A := nn_1 n7 F6 a6
  have n86 := nn_f n8 f7
  have n8A := nn_1 n86 F6 a6
  have F78 : Fw A6 A8 [] := f7.tr f8 (fun x hx => Or.inr (by simp at hx; rw [hx]; exact n7))
  have a8 := F78.e a6
  refine wpu a8 (Nat.le_of_ble_eq_true rfl) (fun A9 a9 f9 => ?_)
  have F9 : Fw A A9 [a] := (F6.tr F78 (by simp)).tr f9 (fun x hx => Or.inl hx)
  have ln9 := f9.k (F78.e ln6) a8 (fun e => by cases e)
  have bd9 := f9.k (F78.e bd6) a8 (fun e => by cases e)
  have rl9 := f9.k e8 a8 (fun e => by cases e)
  have dc9 := f9.k d8 a8 (fun e => by cases e)
  have lndc : ln ≠ dc := ne_no ln6 n86
  have bddc : bd ≠ dc := ne_no bd6 n86
  have hL9 : Li A9 := hL.fw F9 (Mu.c h rfl (Mu.nil _))
  refine wnw (by omega) (by omega) (fun rq Ax _ nx ex fx => wD.i (wXV.i 3 8 (by omega) (by omega) (c_Einit (hL9.f0 fx) ex (Nat.le_refl _) (Nat.le_refl _) (fun Ay pl hl mp m1 m2 ey e5' e6' pt e7' fy => ?_))))
  have nxA := nn_1 nx F9 a9
  have m1A := nn_1 (nn_f m1 fx) F9 a9
  have m2A := nn_1 (nn_f m2 fx) F9 a9
  have Fxy : Fw A9 Ay [] := fx.tr fy (fun x hx => Or.inr (by simp at hx; rw [hx]; exact nx))
  have ay := Fxy.e a9
  refine wpu ay (Nat.le_of_ble_eq_true rfl) (fun Az az fz => wpu az (Nat.le_of_ble_eq_true rfl) (fun A' a' f' => ?_))
  have Fz : Fw Ay A' [a] := fww (W := [a]) fz f'
  have up : ∀ {y : Nat} {o : ab_O}, Ay y = some o → (∀ v, o ≠ oR (.inr (5, v))) → A' y = some o := fun {y o} hy hn => Fz.k hy ay (hn _)
  refine hQ A' ln bd rl dc rq pl hl n1 n4A n8A nxA m1A m2A ⟨[], false, a', ⟨⟨16, up (Fxy.e ln9) (fun v e => by cases e), by omega⟩, ⟨16, up (Fxy.e bd9) (fun v e => by cases e), by omega⟩, up (Fxy.e rl9) (fun v e => by cases e), ⟨[], 16, up (Fxy.e dc9) (fun v e => by cases e), by omega⟩, lnbd, lndc, bddc, by simp, by simp⟩, ⟨⟨mp, mp, mp, up ey (fun v e => by cases e)⟩, ⟨0, up e5' (fun v e => by cases e)⟩, ⟨0, up e6' (fun v e => by cases e)⟩, e7'⟩, fun x hx => (by cases hx), by simp, by simp [cr]⟩ ((F9.tr Fxy (by simp)).tr Fz (fun x hx => Or.inl hx))
theorem c_Cinit {a : Nat} (hL : Li A) (h : A a = some (oR (.inr (4, mm_df 4)))) (h1 : 14 ≤ kc) (h2 : 106 ≤ ks) (hQ : ∀ B rp rd ln bd rl dc rq pl hl, A rp = none → A rd = none → A ln = none → A bd = none → A dc = none → A rq = none → A pl = none → A hl = none → ln ≠ rp → bd ≠ rp → dc ≠ rp → B a = some (oCn rd rp false) → B rp = some (oB [] 16) → Ph0 B rd ln bd rl dc rq pl hl [] → Fw A B [a] → Q B) : wp_C_init a A kc ks Q := by
  have h : A a = some (oR (.inr (4, [.null, .null, .int 0]))) := h
  refine ⟨⟨a, rfl⟩, wnw (by omega) (by omega) (fun rd A1 _ n1 e1 f1 => wD.i (wXV.i 11 75 (by omega) (by omega) ?_))⟩
  refine c_Rinit (hL.f0 f1) e1 (Nat.le_refl _) (Nat.le_refl _) (fun A2 ln bd rl dc rq pl hl m1 m2 m3 m4 m5 m6 ph f2 => ?_)
  have F2 : Fw A A2 [] := f1.tr f2 (fun x hx => Or.inr (by simp at hx; rw [hx]; exact n1))
  have a2 := F2.e h
  refine wpu a2 (Nat.le_of_ble_eq_true rfl) (fun A3 a3 f3 => ?_)
  have F3 : Fw A A3 [a] := (F2.mo (by simp)).tr f3 (fun x hx => Or.inl hx)
  have kp3 : Kp A2 A3 [rd, ln, bd, dc, rq, pl, hl] := Kp.w f3 (Mu.c a2 rfl (Mu.nil _)) (fun x hx hz => by
    simp only [List.mem_cons, List.not_mem_nil, or_false] at hx hz
    subst hz
    rcases hx with z | z | z | z | z | z | z
    · exact absurd h (by rw [z, n1]; exact fun e => by cases e)
    · exact absurd h (by rw [z, nn_f m1 f1]; exact fun e => by cases e)
    · exact absurd h (by rw [z, nn_f m2 f1]; exact fun e => by cases e)
    · exact absurd h (by rw [z, nn_f m3 f1]; exact fun e => by cases e)
    · exact absurd h (by rw [z, nn_f m4 f1]; exact fun e => by cases e)
    · exact absurd h (by rw [z, nn_f m5 f1]; exact fun e => by cases e)
    · exact absurd h (by rw [z, nn_f m6 f1]; exact fun e => by cases e))
  refine wnw (by omega) (by omega) (fun rp A4 _ n4 e4 f4 => sb_init e4 (by omega) (by omega) (fun A5 e5 f5 => ?_))
  have n4A := nn_1 n4 F3 a3
  have F45 : Fw A3 A5 [] := f4.tr f5 (fun x hx => Or.inr (by simp at hx; rw [hx]; exact n4))
  have a5 := F45.e a3
  refine wpu a5 (Nat.le_of_ble_eq_true rfl) (fun A6 a6 f6 => wpu a6 (Nat.le_of_ble_eq_true rfl) (fun A7 a7 f7 => ?_))
  have F67 : Fw A5 A7 [a] := fww (W := [a]) f6 f7
  have rs := ph
  obtain ⟨L0, sr, p1, p2, p3, p4⟩ := rs
  have p22 := p2
  obtain ⟨⟨c1, l1, -⟩, ⟨c2, b1, -⟩, -, ⟨Z, c3, d1, -⟩, -⟩ := p22
  have up3 : ∀ {y : Nat} {o : ab_O}, A2 y = some o → (∀ v, o ≠ oR (.inr (4, v))) → A3 y = some o := fun {y o} hy hn => f3.k hy a2 (hn _)
  have ph0 : Ph0 A7 rd ln bd rl dc rq pl hl [] := by
    have k7 : ∀ {y : Nat} {o : ab_O}, A2 y = some o → (∀ v, o ≠ oR (.inr (4, v))) → A7 y = some o := fun {y o} hy hn => F67.k (F45.e (up3 hy hn)) a5 (hn _)
    obtain ⟨⟨c1, l1, l2⟩, ⟨c2, b1, b2⟩, r1, ⟨Z, c3, d1, d2⟩, r2⟩ := p2
    obtain ⟨⟨mp, pp, bp, q1⟩, ⟨cp, q2⟩, ⟨cz, q3⟩, q4⟩ := p3
    exact ⟨L0, sr, k7 p1 (fun v e => by cases e), ⟨⟨c1, k7 l1 (fun v e => by cases e), l2⟩, ⟨c2, k7 b1 (fun v e => by cases e), b2⟩, k7 r1 (fun v e => by cases e), ⟨Z, c3, k7 d1 (fun v e => by cases e), d2⟩, r2⟩, ⟨⟨mp, pp, bp, k7 q1 (fun v e => by cases e)⟩, ⟨cp, k7 q2 (fun v e => by cases e)⟩, ⟨cz, k7 q3 (fun v e => by cases e)⟩, q4⟩, p4⟩
  refine hQ A7 rp rd ln bd rl dc rq pl hl n4A n1 (nn_f m1 f1) (nn_f m2 f1) (nn_f m3 f1) (nn_f m4 f1) (nn_f m5 f1) (nn_f m6 f1) (ne_no (up3 l1 (fun v e => by cases e)) n4) (ne_no (up3 b1 (fun v e => by cases e)) n4) (ne_no (up3 d1 (fun v e => by cases e)) n4) a7 (F67.k e5 a5 (fun e => by cases e)) ph0 ((F3.tr F45 (by simp)).tr F67 (fun x hx => Or.inl hx))
end NEW
