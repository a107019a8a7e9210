/-! The class: the signs of a pattern -/
theorem Sg.same {W : List Nat} {gf : Nat → Int32} {k : Nat} {T T' : List Tk} (h : Sg W gf k T) (e : ∀ c j, j < 64 → sgn T' c j = sgn T c j) : Sg W gf k T' := ⟨h.1, fun c j hj => by rw [e c j hj]; exact h.2 c j hj⟩
theorem Sg.no {W : List Nat} {gf : Nat → Int32} {k : Nat} {T : List Tk} (h : Sg W gf k T) : Sg W (upd gf k (iI (-1))) (k + 1) T := by
  refine ⟨fun i hi => ?_, fun c j hj => ?_⟩
  · by_cases q : i = k
    · subst q
      rw [pk_us]
      exact Or.inl rfl
    · rw [pk_un q]
      exact h.1 i (by omega)
  · rw [← h.2 c j hj]
    refine ⟨fun ⟨i, i1, i2, i3⟩ => ?_, fun ⟨i, i1, i2, i3⟩ => ⟨i, by omega, i2, by rw [pk_un (by omega)]; exact i3⟩⟩
    by_cases q : i = k
    · subst q
      rw [pk_us] at i3
      have := (iI_eq (a := -1) (b := j) (by omega) (by omega) (by omega) (by omega)).mp i3
      omega
    · rw [pk_un q] at i3
      exact ⟨i, by omega, i2, i3⟩
theorem sgn_no {T : List Tk} {c j : Nat} (h : T.length ≤ j) : sgn T c j = false := by
  unfold sgn
  rw [tk_no h]
theorem sgn_snoc {T : List Tk} {t : Tk} {c j : Nat} : sgn (T ++ [t]) c j = if j = T.length then (match t with
    | some x => decide (x.1.getD 0 0 ≠ 46) && pcT x.1 c
    | none => false) else sgn T c j := by
  unfold sgn
  rcases Nat.lt_trichotomy j T.length with z | z | z
  · rw [tk_lt z, if_neg (by omega)]
  · rw [z, tk_at, if_pos rfl]
    cases t <;> rfl
  · rw [tk_gt z, tk_no (by omega), if_neg (by omega)]
/-- a piece whose signs are these -/
theorem Sg.piece {W : List Nat} {gf gf' : Nat → Int32} {k e : Nat} {T : List Tk} {P : List Nat} {mz : Nat} (h : Sg W gf k T) (hT : T.length < 64) (hke : k ≤ e) (h1 : ∀ i, i < k → gf' i = gf i) (h2 : ∀ i, k ≤ i → i < e → gf' i = iI (-1) ∨ gf' i = iI T.length) (hP : P.getD 0 0 ≠ 46) (h3 : ∀ c, (∃ i, k ≤ i ∧ i < e ∧ W.getD i 0 = c ∧ gf' i = iI T.length) ↔ pcT P c = true) : Sg W gf' e (T ++ [some (P, mz)]) := by
  refine ⟨fun i hi => ?_, fun c j hj => ?_⟩
  · by_cases q : i < k
    · rw [h1 i q]
      exact h.1 i q
    · rcases h2 i (by omega) hi with z | z
      · exact Or.inl z
      · exact Or.inr ⟨T.length, hT, z⟩
  · rw [sgn_snoc]
    by_cases q : j = T.length
    · subst q
      rw [if_pos rfl]
      dsimp only
      rw [decide_eq_true hP, Bool.true_and, ← h3 c]
      refine ⟨fun ⟨i, i1, i2, i3⟩ => ?_, fun ⟨i, i1, i2, i3, i4⟩ => ⟨i, i2, i3, i4⟩⟩
      by_cases y : i < k
      · exfalso
        rw [h1 i y] at i3
        have := (h.2 c T.length hT).mp ⟨i, y, i2, i3⟩
        rw [sgn_no (Nat.le_refl _)] at this
        cases this
      · exact ⟨i, by omega, i1, i2, i3⟩
    · rw [if_neg q, ← h.2 c j hj]
      refine ⟨fun ⟨i, i1, i2, i3⟩ => ?_, fun ⟨i, i1, i2, i3⟩ => ⟨i, by omega, i2, by rw [h1 i i1]; exact i3⟩⟩
      by_cases y : i < k
      · exact ⟨i, y, i2, by rw [← h1 i y]; exact i3⟩
      · exfalso
        rcases h2 i (by omega) i1 with z | z
        · rw [z] at i3
          have := (iI_eq (a := -1) (b := j) (by omega) (by omega) (by omega) (by omega)).mp i3
          omega
        · rw [z] at i3
          have := (iI_eq (a := T.length) (b := j) (by omega) (by omega) (by omega) (by omega)).mp i3
          omega
section RPS
variable {A0 : ab_H} {a w g : Nat} {W : List Nat} {Q : Int32 → ab_H → Prop}
/-- how the reading of signs goes on from here -/
def Rgo (A0 : ab_H) (a w g : Nat) (W : List Nat) (Q : Int32 → ab_H → Prop) (j : Nat) : Prop := ∀ (k n : Nat) (T : List Tk) (b e : Bool) (A : ab_H) (gf : Nat → Int32), k + j = W.length → W.length ≤ k + n → T.length ≤ k → (b = true → bt W k ≠ 42 ∧ bt W k ≠ 63) → PB A a w g W T gf → Sg W gf k T → Fw A0 A [a, g] →
  (tks n (W.drop k) = none → ∀ B, Fw A0 B [a, g] → (∃ T' gf', PB B a w g W T' gf') → Q 0 B) → (∀ L, tks n (W.drop k) = some L → ∀ B gf', PB B a w g W (T ++ L) gf' → Sg W gf' W.length (T ++ L) → (T ++ L).length ≤ W.length → Fw A0 B [a, g] → Q 1 B) → wq_N_readPieces_9 a Q (j + 1) (iI (bI false)) (iI (bI e)) (iI (bI b)) (iI k) A
theorem PB.bad {A : ab_H} {T : List Tk} {gf : Nat → Int32} (h : PB A a w g W T gf) : ∃ T' gf', PB A a w g W T' gf' := ⟨T, gf, h⟩
/-- behind a piece: its mark, if there is one -/
theorem rp_after {j k n : Nat} {T : List Tk} {P : List Nat} {A : ab_H} {gf : Nat → Int32} {e : Bool} (hW : W.length ≤ 40) (hWb : ∀ x ∈ W, x < 256) (hR : ∀ j', j' ≤ j → Rgo A0 a w g W Q j') (hk : k + j = W.length) (hn : W.length ≤ k + n) (hT : T.length < k) (hB : PB A a w g W (T ++ [some (P, 0)]) gf) (hS : Sg W gf k (T ++ [some (P, 0)])) (hF : Fw A0 A [a, g])
    (h0 : tks n (W.drop (k + (if mkO (W.drop k) = 0 then 0 else 1))) = none → ∀ B, Fw A0 B [a, g] → (∃ T' gf', PB B a w g W T' gf') → Q 0 B) (h1 : ∀ L, tks n (W.drop (k + (if mkO (W.drop k) = 0 then 0 else 1))) = some L → ∀ B gf', PB B a w g W (T ++ (some (P, mkO (W.drop k)) :: L)) gf' → Sg W gf' W.length (T ++ (some (P, mkO (W.drop k)) :: L)) → (T ++ (some (P, mkO (W.drop k)) :: L)).length ≤ W.length → Fw A0 B [a, g] → Q 1 B) : wq_N_readPieces_9 a Q (j + 1) (iI (bI false)) (iI (bI e)) (iI (bI true)) (iI k) A := by
  have hm := mkO_0 (W.drop k)
  rw [bt_drop, Nat.add_zero] at hm
  have hTl : ∀ z, (T ++ [some (P, z)]).length = T.length + 1 := fun z => by simp
  by_cases q : mkO (W.drop k) = 0
  · rw [q] at h1
    rw [if_pos q] at h0
    rw [if_pos rfl] at h1
    rw [Nat.add_zero] at h0 h1
    refine hR j (Nat.le_refl _) k n (T ++ [some (P, 0)]) true e A gf hk hn (by rw [hTl]; omega) (fun _ => hm.mp q) hB hS hF h0 (fun L hL B gf' b1 b2 b3 b4 => h1 L hL B gf' ?_ ?_ ?_ b4)
    · rw [List.append_assoc] at b1
      exact b1
    · rw [List.append_assoc] at b2
      exact b2
    · rw [List.append_assoc] at b3
      exact b3
  · have hmark : bt W k = 42 ∨ bt W k = 63 := by
      by_cases z : bt W k = 42
      · exact Or.inl z
      · by_cases y : bt W k = 63
        · exact Or.inr y
        · exact absurd (hm.mpr ⟨z, y⟩) q
    have hkl : k < W.length := by
      rcases hmark with z | z
      · exact (bt_in (x := 42) z).1
      · exact (bt_in (x := 63) z).1
    have hat := bt_at hkl
    rw [if_neg q] at h0
    rw [if_neg q] at h1
    obtain ⟨jj, rfl⟩ : ∃ jj, j = jj + 1 := ⟨j - 1, by omega⟩
    have hbk := bt_ls hWb k hkl
    have hB' := hB
    obtain ⟨st, en, an, lv, rp, p1, p2, p3, -⟩ := hB'
    show wb_N_readPieces_9 _ _ _ _ _ _ _ _
    unfold wb_N_readPieces_9
    refine wgR.i (x := some w) p1 rfl (st_len p2 ?_)
    rw [if_neg (by simp (disch := omega) only [iI_lit, iI_add, iI_sub, iI_mul, iI_neg, iI_lt, iI_le, iI_eq] <;> omega)]
    refine wgR.i (x := some w) p1 rfl (st_at p2 rfl (j := k) hkl (wgR.i (x := some g) p1 rfl (hB.sg hkl hW (fun A1 b1 f1 => ?_))))
    rw [if_pos (by decide)]
    have hS1 := hS.no
    have F1 : Fw A0 A1 [a, g] := fww hF f1
    unfold wq_N_readPieces_74
    rw [if_pos (by decide)]
    have n167 : ∀ mz : Nat, mz = mkO (W.drop k) → (bt W k = 42 ∧ mz = 2 ∨ bt W k = 63 ∧ mz = 1) → wq_N_readPieces_167 a Q (wq_N_readPieces_9 a Q (jj + 1)) (iI (bI false)) (iI (bI e)) (iI (bI true)) (iI k) (iI (W.getD k 0)) A1 := fun mz hmz hor => by
      unfold wq_N_readPieces_167
      rw [if_neg (by decide)]
      have go : ∀ y : Int32, (y = 1 ∧ mz = 2) ∨ (y = 0 ∧ mz = 1) → wq_N_readPieces_186 a Q (wq_N_readPieces_9 a Q (jj + 1)) (iI (bI false)) (iI (bI e)) (iI k) (some a) y A1 := fun y hy => by
        unfold wq_N_readPieces_186
        have b1' := b1
        obtain ⟨st1, en1, an1, lv1, rp1, p1', -⟩ := b1'
        refine wC.i p1' (b1.mark (by omega) hy (fun A2 b2 f2 => ?_))
        rw [show iI (k : Int) + 1 = iI ((k + 1 : Nat) : Int) from iI_add _ 1]
        have hS2 : Sg W (upd gf k (iI (-1))) (k + 1) (T ++ [some (P, mz)]) := hS1.same (fun c i _ => by rw [sgn_snoc, sgn_snoc])
        refine hR jj (by omega) (k + 1) n (T ++ [some (P, mz)]) false e A2 _ (by omega) (by omega) (by rw [hTl]; omega) (fun z => by cases z) b2 hS2 (fww F1 f2) h0 (fun L hL B gf' c1 c2 c3 c4 => h1 L hL B gf' ?_ ?_ ?_ c4)
        · rw [List.append_assoc, hmz] at c1
          exact c1
        · rw [List.append_assoc, hmz] at c2
          exact c2
        · rw [List.append_assoc, hmz] at c3
          exact c3
      rcases hor with ⟨z, y⟩ | ⟨z, y⟩
      · rw [if_pos (by simp (disch := omega) only [iI_lit, iI_add, iI_sub, iI_mul, iI_neg, iI_lt, iI_le, iI_eq] <;> omega)]
        exact go 1 (Or.inl ⟨rfl, y⟩)
      · rw [if_neg (by simp (disch := omega) only [iI_lit, iI_add, iI_sub, iI_mul, iI_neg, iI_lt, iI_le, iI_eq] <;> omega)]
        exact go 0 (Or.inr ⟨rfl, y⟩)
    have emk : mkO (W.drop k) = if bt W k = 42 then 2 else if bt W k = 63 then 1 else 0 := by
      unfold mkO
      rw [bt_drop, Nat.add_zero]
    rcases hmark with z | z
    · rw [if_neg (by simp (disch := omega) only [iI_lit, iI_add, iI_sub, iI_mul, iI_neg, iI_lt, iI_le, iI_eq] <;> omega), if_neg (by simp (disch := omega) only [iI_lit, iI_add, iI_sub, iI_mul, iI_neg, iI_lt, iI_le, iI_eq] <;> omega), if_pos (by simp (disch := omega) only [iI_lit, iI_add, iI_sub, iI_mul, iI_neg, iI_lt, iI_le, iI_eq] <;> omega)]
      exact n167 2 (by rw [emk, if_pos z]) (Or.inl ⟨z, rfl⟩)
    · rw [if_neg (by simp (disch := omega) only [iI_lit, iI_add, iI_sub, iI_mul, iI_neg, iI_lt, iI_le, iI_eq] <;> omega), if_neg (by simp (disch := omega) only [iI_lit, iI_add, iI_sub, iI_mul, iI_neg, iI_lt, iI_le, iI_eq] <;> omega), if_neg (by simp (disch := omega) only [iI_lit, iI_add, iI_sub, iI_mul, iI_neg, iI_lt, iI_le, iI_eq] <;> omega), if_pos (by simp (disch := omega) only [iI_lit, iI_add, iI_sub, iI_mul, iI_neg, iI_lt, iI_le, iI_eq] <;> omega)]
      exact n167 1 (by rw [emk, if_neg (by omega), if_pos z]) (Or.inr ⟨z, rfl⟩)
end RPS
