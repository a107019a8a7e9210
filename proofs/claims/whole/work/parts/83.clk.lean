/-! The class: headers that tell a size -/
section LS
variable {A : ab_H} {rd ln bd rl dc rq : Nat} {Q : Int32 → ab_H → Prop}
theorem take_snoc {V : List Nat} {i : Nat} (hi : i < V.length) : V.take (i + 1) = V.take i ++ [V.getD i 0] := by
  rw [List.take_succ]
  simp [List.getD_eq_getElem?_getD, hi]
theorem cl_readLength {s : Nat} {V : List Nat} {ph sd sa : Nat} {sr tl ck : Bool} (hV : ∀ x ∈ V, x < 256) (hl : V.length ≤ 3) (A0 : ab_H) (hs : A0 s = some (oS V)) (hr0 : A0 rd = some (oRd ln bd rl rq ph sr tl ck 0 sd sa)) (hQ0 : digAll V = false → ∀ C wt, C rd = some (oRd ln bd rl rq ph sr tl ck wt sd sa) → Fw A0 C [rd] → Q 400 C) (hQ1 : digAll V = true → ∀ C, C rd = some (oRd ln bd rl rq ph sr tl ck (numv V) sd sa) → Fw A0 C [rd] → Q (iI (if numv V ≤ 40 then 0 else 413)) C) : ∀ (j i : Nat) (A : ab_H), i + j = V.length → A rd = some (oRd ln bd rl rq ph sr tl ck (numv (V.take i)) sd sa) → Fw A0 A [rd] → digAll (V.take i) = true → wq_R_readLength_21 rd (some s) Q (j + 1) (iI i) A := by
  have hsr : s ≠ rd := ne_of hs hr0 (fun e => by cases e)
  intro j
  induction j with
  | zero =>
    intro i A hi hr hF hd
    show wb_R_readLength_21 _ _ _ _ _ _
    unfold wb_R_readLength_21
    refine st_len (hF.n hs hsr) ?_
    rw [if_pos (by simp (disch := omega) only [iI_lit, iI_add, iI_sub, iI_mul, iI_neg, iI_lt, iI_le, iI_eq] <;> omega)]
    rw [List.take_of_length_le (by omega)] at hr hd
    have hn := pw_1000 (numv_lt hd) hl
    unfold wq_R_readLength_68
    refine wgI.i hr rfl ?_
    have := hQ1 hd A hr hF
    by_cases q : numv V ≤ 40
    · rw [if_pos (by simp (disch := omega) only [iI_lit, iI_add, iI_sub, iI_mul, iI_neg, iI_lt, iI_le, iI_eq] <;> omega)]
      rw [if_pos q] at this
      exact this
    · rw [if_neg (by simp (disch := omega) only [iI_lit, iI_add, iI_sub, iI_mul, iI_neg, iI_lt, iI_le, iI_eq] <;> omega)]
      rw [if_neg q] at this
      exact this
  | succ j ih =>
    intro i A hi hr hF hd
    show wb_R_readLength_21 _ _ _ _ _ _
    unfold wb_R_readLength_21
    refine st_len (hF.n hs hsr) ?_
    rw [if_neg (by simp (disch := omega) only [iI_lit, iI_add, iI_sub, iI_mul, iI_neg, iI_lt, iI_le, iI_eq] <;> omega)]
    refine st_at (hF.n hs hsr) rfl (j := i) (by omega) ?_
    have hb := bt_ls hV i (by omega)
    have hn := pw_1000 (numv_lt hd) (by rw [List.length_take]; omega)
    refine c_isDigit (by omega) (by omega) ?_
    have ts := take_snoc (V := V) (i := i) (by omega)
    by_cases q : 48 ≤ V.getD i 0 ∧ V.getD i 0 ≤ 57
    · rw [decide_eq_true (by omega), if_neg (by decide)]
      refine wgI.i hr rfl (wpu hr (Nat.le_of_ble_eq_true rfl) (fun C e f => ?_))
      rw [show iI (i : Int) + 1 = iI ((i + 1 : Nat) : Int) from iI_add _ 1]
      have ev : (10 : Int32) * iI (numv (V.take i)) + (iI (V.getD i 0) - 48) = iI (numv (V.take (i + 1)) : Nat) := by
        rw [ts, numv_snoc, show (10 : Int32) = iI 10 from rfl, show (48 : Int32) = iI 48 from rfl, iI_mul, iI_sub, iI_add]
        congr 1
        omega
      rw [ev] at e
      refine ih (i + 1) C (by omega) e (hF.tr f (fun x hx => Or.inl hx)) ?_
      rw [ts, digAll_snoc, hd, decide_eq_true q]
      rfl
    · rw [decide_eq_false (by omega), if_pos (by decide)]
      refine hQ0 ?_ A _ hr hF
      have : digAll V = (digAll (V.take (i + 1)) && digAll (V.drop (i + 1))) := by
        unfold digAll
        rw [← List.all_append, List.take_append_drop]
      rw [this, ts, digAll_snoc, decide_eq_false q, Bool.and_false, Bool.false_and]
theorem c_readLength {s : Nat} {V : List Nat} {ph sd sa : Nat} {sr tl ck : Bool} (hV : ∀ x ∈ V, x < 256) (hVl : V.length < 1000) (hs : A s = some (oS V)) (hr : A rd = some (oRd ln bd rl rq ph sr tl ck 0 sd sa)) (hQ0 : anOK V = false → ∀ C wt, C rd = some (oRd ln bd rl rq ph sr tl ck wt sd sa) → Fw A C [rd] → Q 400 C) (hQ1 : anOK V = true → ∀ C, C rd = some (oRd ln bd rl rq ph sr tl ck (numv V) sd sa) → Fw A C [rd] → Q (iI (if numv V ≤ 40 then 0 else 413)) C) : wp_R_readLength rd (some s) A Q := by
  unfold anOK at hQ0 hQ1
  unfold wp_R_readLength
  refine st_emp hs ?_
  by_cases q : V = []
  · rw [decide_eq_true q, if_neg (by decide)]
    rw [decide_eq_false (by rw [q]; decide), Bool.false_and] at hQ0
    exact hQ0 rfl A 0 hr (Fw.rf _ _)
  have hp : 0 < V.length := List.length_pos_iff.mpr q
  rw [decide_eq_false q, if_pos (by decide)]
  refine st_len hs ?_
  by_cases q2 : V.length ≤ 3
  · rw [if_pos (by simp (disch := omega) only [iI_lit, iI_add, iI_sub, iI_mul, iI_neg, iI_lt, iI_le, iI_eq] <;> omega)]
    rw [decide_eq_true (by omega), Bool.true_and] at hQ0 hQ1
    exact ⟨_, cl_readLength hV q2 A hs hr hQ0 hQ1 V.length 0 A (by omega) hr (Fw.rf _ _) rfl⟩
  · rw [if_neg (by simp (disch := omega) only [iI_lit, iI_add, iI_sub, iI_mul, iI_neg, iI_lt, iI_le, iI_eq] <;> omega)]
    rw [decide_eq_false (by omega), Bool.false_and] at hQ0
    exact hQ0 rfl A 0 hr (Fw.rf _ _)
theorem c_lookForSize {pb : Nat} {T : List Nat} {an : Int} {ic sr : Bool} (hL : Li A) (hp : PtAt A pb (hnm T, hvl T)) (hT : ∀ x ∈ hvl T, x < 256) (hTl : (hvl T).length < 1000) (hr : A rd = some (oRd ln bd rl rq 1 sr (decide (0 ≤ an ∨ ic = true)) ic an.toNat 0 0)) (hi : ic = true → an < 0) (hOKT : hOK T = true) (hQ0 : hcode T an ic ≠ 0 → ∀ C tl ck wt, C rd = some (oRd ln bd rl rq 1 sr tl ck wt 0 0) → Fw A C [rd] → Q (iI (hcode T an ic)) C) (hQ1 : hcode T an ic = 0 → ∀ C, C rd = some (oRd ln bd rl rq 1 sr (decide (0 ≤ hAn T an ∨ hIc T ic = true)) (hIc T ic) (hAn T an).toNat 0 0) → (hIc T ic = true → hAn T an < 0) → Fw A C [rd] → Q 0 C) : wp_R_lookForSize rd (some pb) A Q := by
  obtain ⟨sn, sv, p1, p2, p3⟩ := hp
  obtain ⟨l1, l2, l3, l4, l5, -⟩ := hL
  unfold hcode at hQ0 hQ1
  rw [if_pos hOKT] at hQ0 hQ1
  unfold wp_R_lookForSize
  refine wgR.i (x := some sn) p1 rfl (st_eq p2 l3 ?_)
  have n28 : ∀ u2 : Bool, (u2 = true ↔ hnm T = w_len) → (hnm T = w_len ∨ hnm T = w_chk) → wq_R_lookForSize_28 rd (some pb) Q (iI (bI u2)) A := fun u2 hu hor => by
    unfold wq_R_lookForSize_28
    refine wgI.i hr rfl ?_
    by_cases q : 0 ≤ an ∨ ic = true
    · rw [decide_eq_true q, if_neg (by decide)]
      rw [if_pos ⟨hor, q⟩] at hQ0
      exact hQ0 (by decide) A _ _ _ hr (Fw.rf _ _)
    rw [decide_eq_false q, if_pos (by decide)]
    rw [if_neg (fun z => q z.2)] at hQ0 hQ1
    have han : an.toNat = 0 := by omega
    have hic : ic = false := by cases ic; rfl; exact absurd (Or.inr rfl) q
    refine wpu hr (Nat.le_of_ble_eq_true rfl) (fun A1 e1 f1 => ?_)
    have e1 : A1 rd = some (oRd ln bd rl rq 1 sr true ic an.toNat 0 0) := e1
    have p1' := f1.k p1 hr (fun e => by cases e)
    have p3' := f1.k p3 hr (fun e => by cases e)
    by_cases q2 : hnm T = w_len
    · rw [hu.mpr q2, if_neg (by decide)]
      have q3 : ¬ hnm T = w_chk := by rw [q2]; decide
      rw [if_neg q3, if_pos q2] at hQ0 hQ1
      refine wgR.i (x := some sv) p1' rfl (wC.i e1 ?_)
      rw [han] at e1
      refine c_readLength hT hTl p3' e1 (fun z C wt e f => ?_) (fun z C e f => ?_)
      · rw [z, if_neg (by decide)] at hQ0
        exact hQ0 (by decide) C _ _ _ e (fww (W := [rd]) f1 f)
      · rw [z, if_pos rfl] at hQ0 hQ1
        by_cases y : numv (hvl T) ≤ 40
        · rw [if_pos y] at hQ1 ⊢
          refine hQ1 rfl C ?_ (fun w => ?_) (fww (W := [rd]) f1 f)
          · unfold hAn hIc
            rw [if_pos q2, if_neg q3, decide_eq_true (Or.inl (by omega))]
            exact e
          · unfold hIc at w
            rw [if_neg q3, hic] at w
            cases w
        · rw [if_neg y] at hQ0 ⊢
          exact hQ0 (by decide) C _ _ _ e (fww (W := [rd]) f1 f)
    · have q3 : hnm T = w_chk := by
        rcases hor with z | z
        · exact absurd z q2
        · exact z
      rw [show u2 = false from by cases u2; rfl; exact absurd (hu.mp rfl) q2, if_pos (by decide)]
      rw [if_pos q3] at hQ0 hQ1
      refine wpu e1 (Nat.le_of_ble_eq_true rfl) (fun A2 e2 f2 => ?_)
      have e2 : A2 rd = some (oRd ln bd rl rq 1 sr true true an.toNat 0 0) := e2
      refine wgR.i (x := some sv) (f2.k p1' e1 (fun e => by cases e)) rfl (st_eq (f2.k p3' e1 (fun e => by cases e)) (f2.k (f1.k l5 hr (fun e => by cases e)) e1 (fun e => by cases e)) ?_)
      by_cases y : hvl T = w_yes
      · rw [decide_eq_true y, if_neg (by decide)]
        rw [if_pos y] at hQ1
        refine hQ1 rfl A2 ?_ (fun w => ?_) (fww (W := [rd]) f1 f2)
        · unfold hAn hIc
          rw [if_neg q2, if_pos q3, decide_eq_true (Or.inr rfl)]
          exact e2
        · unfold hAn
          rw [if_neg q2]
          omega
      · rw [decide_eq_false y, if_pos (by decide)]
        rw [if_neg y] at hQ0
        exact hQ0 (by decide) A2 _ _ _ e2 (fww (W := [rd]) f1 f2)
  by_cases q1 : hnm T = w_len
  · rw [decide_eq_true q1, if_neg (by decide)]
    exact n28 true ⟨fun _ => q1, fun _ => rfl⟩ (Or.inl q1)
  rw [decide_eq_false q1, if_pos (by decide)]
  refine wgR.i (x := some sn) p1 rfl (st_eq p2 l4 ?_)
  by_cases q2 : hnm T = w_chk
  · rw [decide_eq_true q2, if_neg (by decide)]
    exact n28 false ⟨(fun z => by cases z), fun z => absurd z q1⟩ (Or.inr q2)
  rw [decide_eq_false q2, if_pos (by decide)]
  rw [if_neg (fun z => by rcases z.1 with y | y; exact q1 y; exact q2 y), if_neg q2, if_neg q1] at hQ1
  refine hQ1 rfl A ?_ (fun w => ?_) (Fw.rf _ _)
  · unfold hAn hIc
    rw [if_neg q1, if_neg q2]
    exact hr
  · unfold hIc at w
    rw [if_neg q2] at w
    unfold hAn
    rw [if_neg q1]
    exact hi w
end LS
