/-! The class: match, stub -/
section MST
variable {G A : ab_H} {T : Nat → Nat} {sv kc ks : Nat} {S : St} {Q : Int32 → ab_H → Prop}
theorem MtAt.z {B : ab_H} {m : Nat} {x : Mt} (h : MtAt B m x) (hA : Hm A T) (hF : Fw A B []) (hf : MtF A B m) (hB : Hm B T) : MtAt (Zf B T) m x := by
  obtain ⟨sn, st, pr, e1, e2, e3, e4⟩ := h
  refine ⟨sn, st, pr, Zf.i e1 (hB.z e1 rfl), Zf.i e2 (hB.z e2 rfl), Zf.i e3 (hB.z e3 rfl), fun z => ?_⟩
  obtain ⟨b, L, y1, y2, w, g, gf, st', en, an, lv, rp, fa, t1, t2, t3, t4⟩ := e4 z
  refine ⟨b, L, y1, y2, w, g, gf, st', en, an, lv, rp, fa, Zf.i t1 (hB.z t1 rfl), Zf.i t2 (hB.z t2 rfl), Zf.i t3 ?_, t4⟩
  obtain ⟨v1, v2, v3, v4, pr', f1, f2⟩ := hf
  have hpp : pr' = pr := by
    rw [e1] at f1
    have := Option.some.inj f1
    simp at this
    have h5 := this.2.2.2.2
    cases pr <;> cases pr' <;> simp [va_rf] at h5 ⊢
    exact h5.symm
  obtain ⟨w', g', pc', q1, q2, q3, q4, q5, q6, q7, q8⟩ := f2 b (by rw [hpp]; exact y1)
  have hgg : g' = g := by
    rw [t1] at q7
    have := Option.some.inj q7
    simp [va_rf] at this
    exact this.2.1.symm
  rw [← hgg]
  exact hA.n q8
theorem pl_stl {X : List Nat} (h : X.length ≤ 40) (g : ∀ x ∈ X, 32 ≤ x ∧ x ≤ 126) : stl X := ⟨h, fun x hx => by have := g x hx; omega⟩
theorem c_match {p w : Int} (hp : rng p) (hw : rng w) (h : Inv G A T sv S) (k1 : 16 ≤ kc) (k2 : 360 ≤ ks) (h0 : ¬ (a_mok p w S ∧ a_mP p w S) → ∀ B T', Inv G B T' sv S → Q (iI 0) B) (h1 : a_mok p w S → a_mP p w S → ∀ B T', Inv G B T' sv (a_mS p w S) → Q (iI 1) B) : wp_S_match sv (iI p) (iI w) A kc ks Q := by
  have hh := h
  have hL := h.li
  obtain ⟨ca, sa, ty, sl, kl, dl, i1, i2, i3, i4, i5, i6, i7, i8, i9⟩ := h
  have i77 := i7
  have i88 := i8
  obtain ⟨t7, x1, x2, cap, x3, x4⟩ := i77
  obtain ⟨t8, ds, cd, d1, d2⟩ := i88
  have dl1 := d2.1
  have dl2 := d2.2.1
  unfold wp_S_match
  refine wgR.i (x := some dl) i3.1 rfl (al_size d1 ?_)
  by_cases q1 : ds.length < 4
  · rw [if_pos (by simp (disch := omega) only [iI_lit, iI_add, iI_sub, iI_mul, iI_neg, iI_lt, iI_le, iI_eq] <;> omega)]
    refine wgR.i (x := some ty) i3.1 rfl (sb_str2 x3 (by omega) (by omega) (fun s A1 n1 e1 F1 => ?_))
    have hst := pl_stl x1 x2
    refine wX.i 12 300 (by omega) (by omega) (c_of hp hw (hL.f0 F1) e1 hst (Nat.le_refl _) (Nat.le_refl _) (fun z B F2 => ?_) (fun z1 z2 m B b1 F2 b3 => ?_))
    · rw [if_pos rfl]
      have F12 : Fw A B [] := F1.tr F2 (by simp)
      have hT : Tf A T B T [] := Tf.w i1 F12 (by simp)
      refine h0 (fun y => z ⟨⟨y.1.1, y.1.2.1, y.1.2.2.1, y.1.2.2.2.1, y.1.2.2.2.2.2⟩, y.2⟩) B T ⟨ca, sa, ty, sl, kl, dl, hT.2.2, i2.tf hT (by decide) (by decide), ⟨hT.c i3.2 (by decide) i3.1, hT.t2 i1 i3.2 (by omega) (by decide)⟩, i4.tf hT i1 (by decide) (by decide) (fun i j1 j2 => by simp), i5.tf hT i1 (by decide) (by decide), i6.tf hT i1 (by decide), i7.tf hT i1 (by decide), i8.tf hT i1 (by decide) (by decide), i9.tf hT i1 (by decide) (by decide) (fun i hi => by simp)⟩
    · rw [if_neg (fun e => by cases e)]
      have F12 : Fw A B [] := F1.tr F2 (by simp)
      have b11 := b1
      obtain ⟨sn, st, pr, m1, m2, m3, m4⟩ := b11
      refine wgR.i (x := some dl) (F12.e i3.1) rfl (al_add (F12.e d1) m1 (by decide) (by omega) (by omega) (by omega) (fun C ks' c1 c2 _ => ?_))
      have cty := c2.k (F12.e x3) (F12.e d1) (fun e => by cases e)
      refine wgR.i (x := some ty) (c2.k (F12.e i3.1) (F12.e d1) (fun e => by cases e)) rfl (sb_set cty (k := 0) rfl (by omega) (by omega) (by omega) (fun D e1 e2 => ?_))
      rw [List.take_zero] at e1
      have d3 := e2.k c1 cty (fun e => by cases e)
      have hF : Fw A D [dl, ty] := ((F12.mo (by simp)).tr c2 (fun y hy => Or.inl (by simp at hy ⊢; omega))).tr e2 (fun y hy => Or.inl (by simp at hy ⊢; omega))
      have hT : Tf A T D T [7, 4] := Tf.w i1 hF (fun y hy => Or.inr (by
        simp only [List.mem_cons, List.not_mem_nil, or_false] at hy
        rcases hy with z | z
        · rw [z]; exact ⟨by rw [t8]; simp, _, d3, rfl⟩
        · rw [z]; exact ⟨by rw [t7]; simp, _, e1, rfl⟩))
      have hTB : Tf A T B T [] := Tf.w i1 F12 (by simp)
      have hTD : Tf B T D T [7, 4] := Tf.w hTB.2.2 (W := [dl, ty]) ((c2.mo (by simp)).tr e2 (fun y hy => Or.inl (by simp at hy ⊢; omega))) (fun y hy => Or.inr (by
        simp only [List.mem_cons, List.not_mem_nil, or_false] at hy
        rcases hy with z | z
        · rw [z]; exact ⟨by rw [t8]; simp, _, d3, rfl⟩
        · rw [z]; exact ⟨by rw [t7]; simp, _, e1, rfl⟩))
      have z0 := hT.z (by decide)
      have mtf : MtF A B m := by
        obtain ⟨v1, v2, v3, v4, pr', f1, f2⟩ := b3
        refine ⟨v1, v2, v3, v4, pr', f1, fun b hb => ?_⟩
        obtain ⟨w', g', y1, y2, y3, y4, y5, y6, y7, y8, y9⟩ := f2 b hb
        refine ⟨w', g', y1, y2, y3, y4, y5, y6, y7, y8, ?_⟩
        cases hz : A g' with
        | none => rfl
        | some o =>
          rw [F1.e hz] at y9
          cases y9
      have hm := (b1.z i1 F12 mtf hTB.2.2).f0 (hTD.z (by decide))
      have hfi := fi_le 32 S.2.2.2.2.1
      have hmk := z1
      obtain ⟨k3, k4, k5, k6, k7⟩ := hmk
      have hmw : mwf (p.toNat, w.toNat, amn p S.2.2.2.2.1, S.2.2.2.2.1) := by
        refine ⟨by dsimp only; omega, by dsimp only; split at k6 <;> omega, fun y => ?_, fun y => z2 (by dsimp only at y; omega)⟩
        dsimp only at y ⊢
        unfold amn
        by_cases v : p = 2 ∨ p = 3
        · rw [if_pos v]
          have := (k7 v).2
          omega
        · rw [if_neg v]
          omega
      refine h1 ⟨k3, k4, k5, k6, by omega, k7⟩ z2 D T ⟨ca, sa, ty, sl, kl, dl, hT.2.2, i2.tf hT (by decide) (by decide), ⟨hT.c i3.2 (by decide) i3.1, hT.t2 i1 i3.2 (by omega) (by decide)⟩, i4.tf hT i1 (by decide) (by decide) (fun i j1 j2 => by simp; omega), i5.tf hT i1 (by decide) (by decide), i6.tf hT i1 (by decide), ⟨t7, by simp [a_mS], fun y hy => (by cases hy), cap, e1, x4⟩, ⟨t8, ds ++ [m], 10, d3, ?_, ?_, fun j b y g1 g2 => ?_⟩, i9.tf hT i1 (by decide) (by decide) (fun i hi => by simp; omega)⟩
      · show _ = (S.2.2.2.2.2.1 ++ [_]).length
        rw [List.length_append, List.length_append, dl1]
        rfl
      · show (S.2.2.2.2.2.1 ++ [_]).length ≤ 4
        rw [List.length_append]
        simp
        omega
      · have g2 : (S.2.2.2.2.2.1 ++ [(p.toNat, w.toNat, a_mnm p S, S.2.2.2.2.1)])[j]? = some y := g2
        rcases Nat.lt_or_ge j ds.length with v | v
        · rw [List.getElem?_append_left v] at g1
          rw [List.getElem?_append_left (by omega)] at g2
          obtain ⟨u1, u2⟩ := d2.2.2 j b y g1 g2
          exact ⟨u1.f0 z0, u2⟩
        · rw [List.getElem?_append_right v] at g1
          rw [List.getElem?_append_right (by omega), ← dl1] at g2
          cases hz : j - ds.length with
          | zero =>
            rw [hz] at g1 g2
            simp at g1 g2
            subst g1 g2
            exact ⟨hm, hmw, hst⟩
          | succ i =>
            rw [hz] at g1
            simp at g1
  · rw [if_neg (by simp (disch := omega) only [iI_lit, iI_add, iI_sub, iI_mul, iI_neg, iI_lt, iI_le, iI_eq] <;> omega)]
    exact h0 (fun y => y.1.2.2.2.2.1 (by omega)) A T hh
theorem c_Binit {b id pr cd s dl : Nat} {Q : ab_H → Prop} (h : A b = some (oR (.inr (12, mm_df 12)))) (h1 : 1 ≤ kc) (h2 : 1 ≤ ks) (hQ : ∀ B tp, A tp = none → B b = some (oR (.inr (12, [.int (iI id), .int (iI pr), .int (iI cd), va_rf (some tp), va_rf (some dl), va_rf none]))) → B tp = some (oR (.inr (11, [va_rf (some s)]))) → Fw A B [b] → Q B) : wp_B_init b (iI id) (iI pr) (iI cd) (some s) (some dl) A kc ks Q := by
  have h : A b = some (oR (.inr (12, [.int 0, .int 0, .int 0, .null, .null, .null]))) := h
  refine ⟨⟨b, rfl⟩, wpu h (Nat.le_of_ble_eq_true rfl) (fun A1 e1 f1 => wpu e1 (Nat.le_of_ble_eq_true rfl) (fun A2 e2 f2 => wpu e2 (Nat.le_of_ble_eq_true rfl) (fun A3 e3 f3 => ?_)))⟩
  refine wnw h1 h2 (fun tp A4 _ n4 e4 f4 => wD.i ?_)
  have e4 : A4 tp = some (oR (.inr (11, [.null]))) := e4
  refine ⟨⟨tp, rfl⟩, wpu e4 (Nat.le_of_ble_eq_true rfl) (fun A5 e5 f5 => ?_)⟩
  have b5 := f5.k (f4.e e3) e4 (fun e => by cases e)
  refine wpu b5 (Nat.le_of_ble_eq_true rfl) (fun A6 e6 f6 => wpu e6 (Nat.le_of_ble_eq_true rfl) (fun A7 e7 f7 => ?_))
  have F3 : Fw A A3 [b] := fww (W := [b]) (fww (W := [b]) f1 f2) f3
  have n0 : A tp = none := by
    cases hz : A tp with
    | none => rfl
    | some o =>
      by_cases y : tp = b
      · rw [y, e3] at n4
        cases n4
      · rw [F3.n hz y] at n4
        cases n4
  have t7 := f7.k (f6.k e5 b5 (fun e => by cases e)) e6 (fun e => by cases e)
  refine hQ A7 tp n0 e7 t7 ?_
  exact (((F3.tr f4 (by simp)).tr f5 (fun x hx => Or.inr (by simp at hx; rw [hx]; exact n0))).tr f6 (fun x hx => Or.inl hx)).tr f7 (fun x hx => Or.inl hx)
end MST
