/-! The reference's small questions -/
def hxv (c : Int) : Int := if 48 ≤ c ∧ c ≤ 57 then c - 48 else if 97 ≤ c ∧ c ≤ 102 then c - 87 else if 65 ≤ c ∧ c ≤ 70 then c - 55 else -1
def smv (c : Int) : Int := if 65 ≤ c ∧ c ≤ 90 then c + 32 else c
def ltr (c : Int) : Bool := decide (97 ≤ c ∧ c ≤ 122) || decide (65 ≤ c ∧ c ≤ 90)
theorem hxv_r (c : Int) : -1 ≤ hxv c ∧ hxv c ≤ 15 := by
  unfold hxv
  split
  · omega
  · split
    · omega
    · split <;> omega
theorem smv_r {c : Int} (h1 : -1 ≤ c) (h2 : c < 256) : -1 ≤ smv c ∧ smv c < 256 := by
  unfold smv
  split <;> omega
theorem sm_hex {s : RS} {c : Int} {Q : Int32 → RS → Prop} (h1 : -1 ≤ c) (h2 : c < 256) (hQ : Q (iI (hxv c)) s) : vp_M_hex (iI c) s Q := by
  simp (disch := omega) only [vp_M_hex, vq_M_hex_19, vq_M_hex_41, iI_lit, iI_lt, iI_sub, iI_add, iI_neg]
  (repeat' split) <;> exact iI_q hQ (by unfold hxv; (repeat' split) <;> omega)
theorem sm_small {s : RS} {c : Int} {Q : Int32 → RS → Prop} (h1 : -1 ≤ c) (h2 : c < 256) (hQ : Q (iI (smv c)) s) : vp_M_small (iI c) s Q := by
  simp (disch := omega) only [vp_M_small, iI_lit, iI_lt, iI_sub, iI_add, iI_neg]
  (repeat' split) <;> exact iI_q hQ (by unfold smv; (repeat' split) <;> omega)
theorem sm_letter {s : RS} {c : Int} {Q : Int32 → RS → Prop} (h1 : -1 ≤ c) (h2 : c < 256) (hQ : Q (iI (bI (ltr c))) s) : vp_M_letter (iI c) s Q := by
  simp (disch := omega) only [vp_M_letter, vq_M_letter_12, iI_lit, iI_lt, iI_le, iI_sub, iI_add, iI_neg]
  (repeat' split) <;> exact iI_b hQ (by simp [ltr]; omega)
/-- lineEnd: 0 if the line goes on; below 0 the status; else its length with its end -/
def lef (most over : Nat) : List Nat → Nat → Bool → Int
  | [], _, _ => 0
  | b :: _, i, true => if b = 10 then (i : Int) + 1 else -400
  | b :: X, i, false => if b = 13 then lef most over X (i + 1) true else if b < 32 ∨ 126 < b then -400 else if most ≤ i then -over else lef most over X (i + 1) false
theorem Bf.at {s : RS} {B : List Nat} {p : Nat} (h : Bf s B) (hp : p < B.length) : bt B p = (B.getD p 0 : Int) ∧ B.getD p 0 < 256 := by
  obtain ⟨bb, -, -, -, h4⟩ := h
  exact ⟨if_pos hp, (h4 p hp).1⟩
theorem Bf.size {s : RS} {B : List Nat} (h : Bf s B) : s.1 28 = iI B.length := by
  obtain ⟨bb, -, h2, -⟩ := h
  exact h2
theorem ls_drop {B : List Nat} {p : Nat} (hp : p < B.length) : B.drop p = B.getD p 0 :: B.drop (p + 1) := by
  rw [List.drop_eq_getElem_cons hp]
  simp [List.getD_eq_getElem?_getD, hp]
theorem sl_lineEnd {s : RS} {B : List Nat} {f most over : Nat} {Q : Int32 → RS → Prop} (h : Bf s B) (hm : most < 1000) (ho : over < 1000) : ∀ k i last, f + i + k = B.length → (last = 13 ∨ (-1 < last ∧ last < 256 ∧ last ≠ 13)) →
    Q (iI (if 0 < lef most over (B.drop (f + i)) i (decide (last = 13)) then f + lef most over (B.drop (f + i)) i (decide (last = 13)) else lef most over (B.drop (f + i)) i (decide (last = 13)))) s → vq_M_lineEnd_6 (iI f) (iI most) (iI over) Q (k + 1) (iI last) (iI ((f + i : Nat) : Int)) s := by
  have hl := h.len
  intro k
  induction k with
  | zero =>
    intro i last hk hla hQ
    show vb_M_lineEnd_6 _ _ _ _ _ _ _ _
    unfold vb_M_lineEnd_6 wL
    rw [List.drop_eq_nil_of_le (by omega)] at hQ
    simp (disch := omega) only [h.size, iI_le]
    rw [if_pos (by omega)]
    exact hQ
  | succ k ih =>
    intro i last hk hla hQ
    have hb := h.at (p := f + i) (by omega)
    show vb_M_lineEnd_6 _ _ _ _ _ _ _ _
    unfold vb_M_lineEnd_6 wL
    simp (disch := omega) only [h.size, iI_le]
    rw [if_neg (by omega)]
    refine sm_byteAt h (by omega) ?_
    rw [hb.1]
    rw [ls_drop (show f + i < B.length by omega)] at hQ
    have hb2 := hb.2
    generalize B.getD (f + i) 0 = b at hQ hb2
    simp (disch := omega) only [vq_M_lineEnd_30, vq_M_lineEnd_73, iI_lit, iI_lt, iI_le, iI_eq, iI_sub, iI_add, iI_neg]
    rcases hla with rfl | ⟨hl1, hl2, hl3⟩
    · rw [if_pos rfl]
      simp only [decide_true, lef] at hQ
      split
      · rw [if_pos (by omega), if_pos (by omega)] at hQ
        exact iI_q hQ (by omega)
      · rw [if_neg (show ¬ b = 10 by omega), if_neg (by omega)] at hQ
        exact iI_q hQ (by omega)
    · rw [if_neg hl3]
      simp only [hl3, decide_false, lef] at hQ
      by_cases q13 : b = 13
      · subst q13
        rw [if_pos rfl] at hQ
        rw [if_pos (by omega), if_pos (by omega)]
        have := ih (i + 1) 13 (by omega) (Or.inl rfl) (by simpa [Nat.add_assoc] using hQ)
        exact this
      · rw [if_neg q13] at hQ
        rw [if_neg (show ¬ ((b : Int) = 13) by omega)]
        by_cases q32 : (b : Int) < 32
        · rw [if_pos (show b < 32 ∨ 126 < b by omega), if_neg (by omega)] at hQ
          rw [if_pos q32]
          exact hQ
        · rw [if_neg q32]
          by_cases q126 : (b : Int) ≤ 126
          · rw [if_neg (show ¬ (b < 32 ∨ 126 < b) by omega)] at hQ
            rw [if_pos q126, if_neg (show ¬ ((b : Int) = 13) by omega)]
            by_cases qm : most ≤ i
            · rw [if_pos qm, if_neg (by omega)] at hQ
              rw [if_neg (by omega)]
              exact hQ
            · rw [if_neg qm] at hQ
              rw [if_pos (by omega)]
              have := ih (i + 1) b (by omega) (Or.inr ⟨by omega, by omega, by omega⟩) (by simpa [Nat.add_assoc, show ¬ ((b : Int) = 13) by omega] using hQ)
              exact this
          · rw [if_pos (show b < 32 ∨ 126 < b by omega), if_neg (by omega)] at hQ
            rw [if_neg q126]
            exact hQ
theorem sm_lineEnd {s : RS} {B : List Nat} {f most over : Nat} {Q : Int32 → RS → Prop} (h : Bf s B) (hm : most < 1000) (ho : over < 1000) (hf : f ≤ B.length) (hQ : Q (iI (if 0 < lef most over (B.drop f) 0 false then f + lef most over (B.drop f) 0 false else lef most over (B.drop f) 0 false)) s) : vp_M_lineEnd (iI f) (iI most) (iI over) s Q :=
  ⟨B.length - f + 1, sl_lineEnd h hm ho (B.length - f) 0 0 (by omega) (Or.inr (by omega)) (by simpa using hQ)⟩
