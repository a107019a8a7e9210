/-! The reference: contains, holds -/
def cont (W : List Nat) : List Nat → Bool
  | [] => decide (W = [])
  | x :: X => decide ((x :: X).take W.length = W) || cont W X
theorem cont_short {W : List Nat} : ∀ X : List Nat, X.length < W.length → cont W X = false
  | [], h => by
    unfold cont
    refine decide_eq_false (fun z => ?_)
    rw [z] at h
    exact absurd h (by decide)
  | x :: X, h => by
    unfold cont
    rw [cont_short X (by rw [List.length_cons] at h; omega), Bool.or_false]
    refine decide_eq_false (fun z => ?_)
    have := congrArg List.length z
    rw [List.length_take] at this
    omega
theorem cont_drop {W X : List Nat} {k : Nat} (h : k + W.length ≤ X.length) : cont W (X.drop k) = (decide ((X.drop k).take W.length = W) || cont W (X.drop (k + 1))) := by
  by_cases q : k < X.length
  · rw [ls_drop q]
    rfl
  · rw [List.drop_of_length_le (by omega), List.drop_of_length_le (by omega)]
    have : W = [] := by
      rw [← List.length_eq_zero_iff]
      omega
    rw [this]
    rfl
section CO
variable {s : RS} {m : Nat} {nm : Int} {T X : List Nat}
theorem sl_contains1 {Q : Int32 → RS → Prop} {k24 : Int32 → Int32 → Int32 → Int32 → RS → Prop} {f n o : Nat} {u4 : Int32} (h : Tx s m nm T) (hF : Fo s X) (hX : X.length ≤ 40) (hf : f + n = T.length) (ho : o + n ≤ X.length) : ∀ j k (g : Bool), k + j = n → vq_M_contains_92 (iI m) Q k24 (iI f) (iI n) u4 (iI o) (iI (bI (g && decide ((X.drop (o + k)).take (n - k) = T.drop (f + k))))) s → vq_M_contains_41 (iI m) Q k24 (j + 1) (iI f) (iI n) u4 (iI o) (iI (bI g)) (iI k) s := by
  have h1 := h.1
  have h2 := h.2.1
  intro j
  induction j with
  | zero =>
    intro k g hk hQ
    show vb_M_contains_41 _ _ _ _ _ _ _ _ _ _ _
    unfold vb_M_contains_41
    rw [if_pos (by simp (disch := omega) only [iI_lit, iI_add, iI_sub, iI_mul, iI_neg, iI_lt, iI_le, iI_eq] <;> omega)]
    rw [show n - k = 0 by omega, List.take_zero, List.drop_of_length_le (show T.length ≤ f + k by omega), decide_eq_true rfl, Bool.and_true] at hQ
    exact hQ
  | succ j ih =>
    intro k g hk hQ
    show vb_M_contains_41 _ _ _ _ _ _ _ _ _ _ _
    unfold vb_M_contains_41
    rw [if_neg (by simp (disch := omega) only [iI_lit, iI_add, iI_sub, iI_mul, iI_neg, iI_lt, iI_le, iI_eq] <;> omega)]
    have hx := (hF.2 (o + k) (by omega)).1
    have ht := (h.2.2.2.2.2 (f + k) (by omega)).1
    rw [show n - k = n - (k + 1) + 1 by omega, ls_drop (show o + k < X.length by omega), ls_drop (show f + k < T.length by omega), List.take_succ_cons] at hQ
    have nx : ∀ g2 : Bool, g2 = (g && decide (X.getD (o + k) 0 = T.getD (f + k) 0)) → vq_M_contains_41 (iI m) Q k24 (j + 1) (iI f) (iI n) u4 (iI o) (iI (bI g2)) (iI ((k + 1 : Nat) : Int)) s := fun g2 hg => by
      refine ih (k + 1) g2 (by omega) ?_
      have e : (g && decide (X.getD (o + k) 0 :: List.take (n - (k + 1)) (List.drop (o + k + 1) X) = T.getD (f + k) 0 :: List.drop (f + k + 1) T)) = (g2 && decide (List.take (n - (k + 1)) (List.drop (o + (k + 1)) X) = List.drop (f + (k + 1)) T)) := by
        rw [hg, Bool.and_assoc]
        congr 1
        rw [← Bool.decide_and]
        exact decide_eq_decide.mpr ⟨fun z => ⟨(List.cons.inj z).1, (List.cons.inj z).2⟩, fun z => by rw [z.1]; exact congrArg _ z.2⟩
      rw [← e]
      exact hQ
    rw [show iI (k : Int) + 1 = iI ((k + 1 : Nat) : Int) from iI_add _ 1]
    cases g with
    | false =>
      rw [if_pos (by decide)]
      exact nx false rfl
    | true =>
      rw [if_neg (by decide), show iI (o : Int) + iI k = iI ((o + k : Nat) : Int) from iI_add _ _]
      refine hF.el (by omega) hX ?_
      refine h.txt (k := f + k) (by omega) ?_ ?_
      · rw [ix_40, show iI ((40 * m + f : Nat) : Int) + iI k = iI ((40 * m + f + k : Nat) : Int) from iI_add _ _]
        congr 1
        omega
      by_cases q : X.getD (o + k) 0 = T.getD (f + k) 0
      · rw [if_pos (by rw [q])]
        exact nx true (by rw [decide_eq_true q]; rfl)
      · rw [if_neg (by simp (disch := omega) only [iI_lit, iI_add, iI_sub, iI_mul, iI_neg, iI_lt, iI_le, iI_eq] <;> omega)]
        exact nx false (by rw [decide_eq_false q]; rfl)
theorem sl_contains {Q : Int32 → RS → Prop} {f n : Nat} (h : Tx s m nm T) (hF : Fo s X) (hX : X.length ≤ 40) (hf : f + n = T.length) : ∀ j o (g : Bool), o + j = X.length + 1 → Q (iI (bI (g || (decide (o ≤ X.length) && cont (T.drop f) (X.drop o))))) s → vq_M_contains_24 (iI m) Q (j + 1) (iI f) (iI n) (iI (bI g)) (iI o) s := by
  have h1 := h.1
  have h2 := h.2.1
  have hW : (T.drop f).length = n := by rw [List.length_drop]; omega
  intro j
  induction j with
  | zero =>
    intro o g ho hQ
    show vb_M_contains_24 _ _ _ _ _ _ _ _
    unfold vb_M_contains_24
    refine wL.i ?_
    rw [hF.1, if_pos (by simp (disch := omega) only [iI_lit, iI_add, iI_sub, iI_mul, iI_neg, iI_lt, iI_le, iI_eq] <;> omega)]
    rw [decide_eq_false (show ¬ o ≤ X.length by omega), Bool.false_and, Bool.or_false] at hQ
    exact ⟨bI_b g, hQ⟩
  | succ j ih =>
    intro o g ho hQ
    show vb_M_contains_24 _ _ _ _ _ _ _ _
    unfold vb_M_contains_24
    refine wL.i ?_
    rw [hF.1]
    by_cases q : X.length < o + n
    · rw [if_pos (by simp (disch := omega) only [iI_lit, iI_add, iI_sub, iI_mul, iI_neg, iI_lt, iI_le, iI_eq] <;> omega)]
      rw [cont_short _ (by rw [List.length_drop, hW]; omega), Bool.and_false, Bool.or_false] at hQ
      exact ⟨bI_b g, hQ⟩
    rw [if_neg (by simp (disch := omega) only [iI_lit, iI_add, iI_sub, iI_mul, iI_neg, iI_lt, iI_le, iI_eq] <;> omega)]
    refine ⟨n + 1, sl_contains1 (f := f) (n := n) (o := o) h hF hX hf (by omega) n 0 true (by omega) ?_⟩
    rw [cont_drop (by rw [hW]; omega), hW, decide_eq_true (show o ≤ X.length by omega), Bool.true_and] at hQ
    have ec : (decide ((X.drop o).take n = T.drop f) || cont (T.drop f) (X.drop (o + 1))) = (decide ((X.drop o).take n = T.drop f) || (decide (o + 1 ≤ X.length) && cont (T.drop f) (X.drop (o + 1)))) := by
      by_cases z : o + 1 ≤ X.length
      · rw [decide_eq_true z, Bool.true_and]
      · have e0 : T.drop f = [] := List.length_eq_zero_iff.mp (by omega)
        rw [e0, List.drop_of_length_le (show X.length ≤ o by omega), List.take_nil]
        rfl
    rw [ec] at hQ
    rw [Bool.true_and, Nat.add_zero, Nat.sub_zero, Nat.add_zero]
    unfold vq_M_contains_92
    rw [show iI (o : Int) + 1 = iI ((o + 1 : Nat) : Int) from iI_add _ 1]
    cases g with
    | false =>
      rw [if_pos (by decide)]
      rw [Bool.false_or] at hQ
      cases hd : decide ((X.drop o).take n = T.drop f) with
      | false =>
        rw [hd] at hQ
        rw [if_pos (by decide)]
        exact ih (o + 1) false (by omega) hQ
      | true =>
        rw [hd] at hQ
        rw [if_neg (by decide)]
        exact ih (o + 1) true (by omega) hQ
    | true =>
      rw [if_neg (by decide)]
      exact ih (o + 1) true (by omega) hQ
theorem sm_contains {Q : Int32 → RS → Prop} (h : Tx s m nm T) (hn : nm < T.length) (hF : Fo s X) (hX : X.length ≤ 40) (hQ : Q (iI (bI (cont (T.drop (nm + 1).toNat) X))) s) : vp_M_contains (iI m) s Q := by
  have h2 := h.2.1
  have h3 := h.2.2.1
  unfold vp_M_contains
  refine h.nmd (wL.i (h.len (wL.i ?_)))
  rw [show iI nm + 1 = iI (((nm + 1).toNat : Nat) : Int) from (iI_add nm 1).trans (by congr 1; omega), show iI (T.length : Int) - iI (((nm + 1).toNat : Nat) : Int) = iI ((T.length - (nm + 1).toNat : Nat) : Int) from (iI_sub _ _).trans (by congr 1; omega)]
  exact ⟨_, sl_contains h hF hX (f := (nm + 1).toNat) (n := T.length - (nm + 1).toNat) (by omega) (X.length + 1) 0 false (by omega) (by simpa using hQ)⟩
end CO
