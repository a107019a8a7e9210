/-! The class: a request is asked for its parts -/
def rqg (r : Rq) (pt : Nat) (N : List Nat) : Option (List Nat) := if pt = 2 then pf r.2.2.1 N else if pt = 3 then pf r.2.2.2.1 N else if pt = 0 then some r.1 else if pt = 1 then some r.2.1 else some r.2.2.2.2
theorem rqf_g (r : Rq) (pt : Nat) (N : List Nat) : rqf r pt N = rqg r pt (if pt = 3 then low N else N) := by
  unfold rqf rqg
  by_cases q2 : pt = 2
  · rw [if_pos q2, if_pos q2, if_neg (show ¬ pt = 3 by omega)]
  · rw [if_neg q2, if_neg q2]
    by_cases q3 : pt = 3
    · rw [if_pos q3, if_pos q3, if_pos q3]
    · rw [if_neg q3, if_neg q3]
theorem pf_cons (x : List Nat × List Nat) (L : List (List Nat × List Nat)) (N : List Nat) : pf (x :: L) N = if x.1 = N then some x.2 else pf L N := rfl
section FND
variable {A : ab_H}
theorem ls_get {ys : List Nat} {k : Nat} (hk : k < ys.length) : ys[k]? = some (ys.getD k 0) := by
  rw [List.getElem?_eq_getElem hk]
  simp [List.getD_eq_getElem?_getD, hk]
theorem PtsAt.at {ys : List Nat} {L : List (List Nat × List Nat)} (h : PtsAt A ys L) {k : Nat} (hk : k < ys.length) : ∃ x, L[k]? = some x ∧ L.drop k = x :: L.drop (k + 1) ∧ PtAt A (ys.getD k 0) x := by
  have hl : k < L.length := by rw [← h.1]; exact hk
  exact ⟨L[k]'hl, List.getElem?_eq_getElem hl, List.drop_eq_getElem_cons hl, h.2 k _ _ (ls_get hk) (List.getElem?_eq_getElem hl)⟩
theorem cl_firstOf {Q : Option Nat → ab_H → Prop} {p s cp : Nat} {ys N : List Nat} {L : List (List Nat × List Nat)} (hp : A p = some (oL ys cp)) (hL : PtsAt A ys L) (hl : ys.length ≤ 10) (hs : A s = some (oS N)) (hQ0 : pf L N = none → Q none A) (hQ1 : ∀ V y nm, pf L N = some V → PtAt A y (nm, V) → Q (some y) A) : ∀ (j k : Nat), k + j = ys.length → pf (L.drop k) N = pf L N → wq_E_firstOf_2 (some p) (some s) Q (j + 1) (iI k) A := by
  intro j
  induction j with
  | zero =>
    intro k hk he
    show wb_E_firstOf_2 _ _ _ _ _ _
    unfold wb_E_firstOf_2
    refine al_size hp ?_
    rw [if_pos (by simp (disch := omega) only [iI_lit, iI_add, iI_sub, iI_mul, iI_neg, iI_lt, iI_le, iI_eq] <;> omega)]
    rw [List.drop_of_length_le (by rw [← hL.1]; omega)] at he
    exact hQ0 he.symm
  | succ j ih =>
    intro k hk he
    show wb_E_firstOf_2 _ _ _ _ _ _
    unfold wb_E_firstOf_2
    refine al_size hp ?_
    rw [if_neg (by simp (disch := omega) only [iI_lit, iI_add, iI_sub, iI_mul, iI_neg, iI_lt, iI_le, iI_eq] <;> omega)]
    obtain ⟨x, x1, x2, x3⟩ := hL.at (k := k) (by omega)
    have xx := x3
    obtain ⟨sn, sv, y1, y2, y3⟩ := x3
    refine al_get hp rfl (j := k) (by omega) (wC.i y1 (wgR.i (x := some sn) y1 rfl (st_eq y2 hs ?_)))
    rw [x2, pf_cons] at he
    by_cases q : x.1 = N
    · rw [decide_eq_true q, if_neg (by decide)]
      rw [if_pos q] at he
      unfold wq_E_firstOf_28
      refine al_get hp rfl (j := k) (by omega) (wC.i y1 (hQ1 x.2 _ x.1 he.symm xx))
    · rw [decide_eq_false q, if_pos (by decide), show iI (k : Int) + 1 = iI ((k + 1 : Nat) : Int) from iI_add _ 1]
      rw [if_neg q] at he
      exact ih (k + 1) (by omega) he
/-- a request's parts are short texts -/
def stl (X : List Nat) : Prop := X.length ≤ 40 ∧ ∀ x ∈ X, x < 256
def rqw (r : Rq) : Prop := stl r.1 ∧ stl r.2.1 ∧ (r.2.2.1.length ≤ 4 ∧ ∀ x ∈ r.2.2.1, stl x.1 ∧ stl x.2) ∧ (r.2.2.2.1.length ≤ 4 ∧ ∀ x ∈ r.2.2.2.1, stl x.1 ∧ stl x.2) ∧ stl r.2.2.2.2
theorem pf_mem {L : List (List Nat × List Nat)} {N V : List Nat} (h : pf L N = some V) : ∃ x ∈ L, x.2 = V := by
  induction L with
  | nil => cases h
  | cons a L ih =>
    unfold pf at h
    by_cases q : a.1 = N
    · rw [if_pos q] at h
      cases h
      exact ⟨a, by simp, rfl⟩
    · rw [if_neg q] at h
      obtain ⟨x, hx, he⟩ := ih h
      exact ⟨x, by simp [hx], he⟩
theorem rqg_w {r : Rq} {pt : Nat} {N V : List Nat} (hr : rqw r) (h : rqg r pt N = some V) : stl V := by
  obtain ⟨w1, w2, w3, w4, w5⟩ := hr
  unfold rqg at h
  by_cases q2 : pt = 2
  · rw [if_pos q2] at h
    obtain ⟨x, hx, he⟩ := pf_mem h
    rw [← he]
    exact (w3.2 x hx).2
  · rw [if_neg q2] at h
    by_cases q3 : pt = 3
    · rw [if_pos q3] at h
      obtain ⟨x, hx, he⟩ := pf_mem h
      rw [← he]
      exact (w4.2 x hx).2
    · rw [if_neg q3] at h
      by_cases q0 : pt = 0
      · rw [if_pos q0] at h
        cases h
        exact w1
      · rw [if_neg q0] at h
        by_cases q1 : pt = 1
        · rw [if_pos q1] at h
          cases h
          exact w2
        · rw [if_neg q1] at h
          cases h
          exact w5
theorem c_find {Q : Option Nat → ab_H → Prop} {q s pt : Nat} {r : Rq} {cid : Int} {N : List Nat} (h : Kr A q r cid) (hw : rqw r) (hs : A s = some (oS N)) (hpt : pt ≤ 4) (hQ0 : rqg r pt N = none → Q none A) (hQ1 : ∀ V y nm, rqg r pt N = some V → PtAt A y (nm, V) → Q (some y) A) : wp_E_find q (iI pt) (some s) A Q := by
  obtain ⟨pl, hl, mp, pp, bp, ys, cp, zs, cz, t1, t2, t3, t4, t5, t6, t7, t8⟩ := h
  unfold rqg at hQ0 hQ1
  unfold wp_E_find
  by_cases q0 : pt = 0
  · subst q0
    rw [if_pos (by decide)]
    rw [if_neg (by decide), if_neg (by decide), if_pos rfl] at hQ1
    exact wgR.i (x := some mp) t1 rfl (hQ1 _ mp [] rfl t2)
  rw [if_neg (by simp (disch := omega) only [iI_lit, iI_add, iI_sub, iI_mul, iI_neg, iI_lt, iI_le, iI_eq] <;> omega)]
  by_cases q1 : pt = 1
  · subst q1
    rw [if_pos (by decide)]
    rw [if_neg (by decide), if_neg (by decide), if_neg (by decide), if_pos rfl] at hQ1
    exact wgR.i (x := some pp) t1 rfl (hQ1 _ pp [] rfl t3)
  rw [if_neg (by simp (disch := omega) only [iI_lit, iI_add, iI_sub, iI_mul, iI_neg, iI_lt, iI_le, iI_eq] <;> omega)]
  by_cases q2 : pt = 2
  · subst q2
    rw [if_pos (by decide)]
    rw [if_pos rfl] at hQ0 hQ1
    refine wgR.i (x := some pl) t1 rfl ⟨_, cl_firstOf t4 t5 (by rw [t5.1]; have := hw.2.2.1.1; omega) hs hQ0 hQ1 ys.length 0 (by omega) rfl⟩
  rw [if_neg (by simp (disch := omega) only [iI_lit, iI_add, iI_sub, iI_mul, iI_neg, iI_lt, iI_le, iI_eq] <;> omega)]
  by_cases q3 : pt = 3
  · subst q3
    rw [if_pos (by decide)]
    rw [if_neg (by decide), if_pos rfl] at hQ0 hQ1
    refine wgR.i (x := some hl) t1 rfl ⟨_, cl_firstOf t6 t7 (by rw [t7.1]; have := hw.2.2.2.1.1; omega) hs hQ0 hQ1 zs.length 0 (by omega) rfl⟩
  rw [if_neg (by simp (disch := omega) only [iI_lit, iI_add, iI_sub, iI_mul, iI_neg, iI_lt, iI_le, iI_eq] <;> omega)]
  rw [if_neg q2, if_neg q3, if_neg q0, if_neg q1] at hQ1
  exact wgR.i (x := some bp) t1 rfl (hQ1 _ bp [] rfl t8)
theorem cl_close {Q : Int32 → ab_H → Prop} {q hl zc : Nat} {zs : List Nat} {H : List (List Nat × List Nat)} {a0 a2 a3 a4 a5 : Value} (hLi : Li A) (hq : A q = some (oR (.inr (7, [a0, va_rf (some hl), a2, a3, a4, a5])))) (hp : A hl = some (oL zs zc)) (hL : PtsAt A zs H) (hl10 : zs.length ≤ 10) (hQ : Q (iI (bI (clH H))) A) : ∀ (j k : Nat), k + j = zs.length → clH (H.drop k) = clH H → wq_E_asksToClose_2 q Q (j + 1) (iI k) A := by
  intro j
  induction j with
  | zero =>
    intro k hk he
    show wb_E_asksToClose_2 _ _ _ _ _
    unfold wb_E_asksToClose_2
    refine wgR.i (x := some hl) hq rfl (al_size hp ?_)
    rw [if_pos (by simp (disch := omega) only [iI_lit, iI_add, iI_sub, iI_mul, iI_neg, iI_lt, iI_le, iI_eq] <;> omega)]
    rw [List.drop_of_length_le (by rw [← hL.1]; omega)] at he
    rw [← he] at hQ
    exact hQ
  | succ j ih =>
    intro k hk he
    show wb_E_asksToClose_2 _ _ _ _ _
    unfold wb_E_asksToClose_2
    refine wgR.i (x := some hl) hq rfl (al_size hp ?_)
    rw [if_neg (by simp (disch := omega) only [iI_lit, iI_add, iI_sub, iI_mul, iI_neg, iI_lt, iI_le, iI_eq] <;> omega)]
    obtain ⟨x, x1, x2, x3⟩ := hL.at (k := k) (by omega)
    obtain ⟨sn, sv, y1, y2, y3⟩ := x3
    refine wgR.i (x := some hl) hq rfl (al_get hp rfl (j := k) (by omega) (wC.i y1 (wgR.i (x := some sn) y1 rfl (st_eq y2 hLi.2.2.2.2.2.1 ?_))))
    rw [x2] at he
    unfold clH at he
    rw [List.any_cons] at he
    rw [show iI (k : Int) + 1 = iI ((k + 1 : Nat) : Int) from iI_add _ 1]
    by_cases q1 : x.1 = w_con
    · rw [decide_eq_true q1, if_neg (by decide)]
      refine wgR.i (x := some sv) y1 rfl (st_eq y3 hLi.2.2.2.2.2.2 ?_)
      by_cases q2 : x.2 = w_clo
      · rw [decide_eq_true q2, if_neg (by decide)]
        rw [decide_eq_true q1, decide_eq_true q2, Bool.true_and, Bool.true_or] at he
        unfold clH at hQ
        rw [← he] at hQ
        exact hQ
      · rw [decide_eq_false q2, if_pos (by decide)]
        rw [decide_eq_false q2, Bool.false_and, Bool.false_or] at he
        exact ih (k + 1) (by omega) he
    · rw [decide_eq_false q1, if_pos (by decide)]
      rw [decide_eq_false q1, Bool.and_false, Bool.false_or] at he
      exact ih (k + 1) (by omega) he
theorem c_close {Q : Int32 → ab_H → Prop} {q : Nat} {r : Rq} {cid : Int} (hLi : Li A) (h : Kr A q r cid) (hw : rqw r) (hQ : Q (iI (bI (clH r.2.2.2.1))) A) : wp_E_asksToClose q A Q := by
  obtain ⟨pl, hl, mp, pp, bp, ys, cp, zs, cz, t1, t2, t3, t4, t5, t6, t7, t8⟩ := h
  exact ⟨_, cl_close hLi t1 t6 t7 (by rw [t7.1]; have := hw.2.2.2.1.1; omega) hQ zs.length 0 (by omega) rfl⟩
theorem cl_contains1 {Q : Int32 → ab_H → Prop} {k2 : Int32 → ab_H → Prop} {s t : Nat} {V W : List Nat} {o : Nat} (hs : A s = some (oS V)) (ht : A t = some (oS W)) (hV : stl V) (hW : stl W) (ho : o + W.length ≤ V.length) (hQ1 : (V.drop o).take W.length = W → Q 1 A) (hQ0 : ¬ (V.drop o).take W.length = W → k2 (iI ((o + 1 : Nat) : Int)) A) : ∀ (j k : Nat), k + j = W.length → ((V.drop o).take W.length = W ↔ (V.drop (o + k)).take (W.length - k) = W.drop k) → wq_X_contains_17 (some s) (some t) Q k2 (j + 1) (iI o) (iI k) A := by
  obtain ⟨v1, v2⟩ := hV
  obtain ⟨w1, w2⟩ := hW
  intro j
  induction j with
  | zero =>
    intro k hk he
    show wb_X_contains_17 _ _ _ _ _ _ _ _
    unfold wb_X_contains_17
    refine st_len ht ?_
    rw [if_pos (by simp (disch := omega) only [iI_lit, iI_add, iI_sub, iI_mul, iI_neg, iI_lt, iI_le, iI_eq] <;> omega)]
    unfold wq_X_contains_46
    refine st_len ht ?_
    rw [if_pos (by simp (disch := omega) only [iI_lit, iI_add, iI_sub, iI_mul, iI_neg, iI_lt, iI_le, iI_eq] <;> omega)]
    refine hQ1 (he.mpr ?_)
    rw [show W.length - k = 0 by omega, List.take_zero, List.drop_of_length_le (by omega)]
  | succ j ih =>
    intro k hk he
    show wb_X_contains_17 _ _ _ _ _ _ _ _
    unfold wb_X_contains_17
    refine st_len ht ?_
    rw [if_neg (by simp (disch := omega) only [iI_lit, iI_add, iI_sub, iI_mul, iI_neg, iI_lt, iI_le, iI_eq] <;> omega)]
    have b1 := bt_ls v2 (o + k) (by omega)
    have b2 := bt_ls w2 k (by omega)
    refine st_at hs (j := o + k) (iI_add _ _) (by omega) (st_at ht rfl (j := k) (by omega) ?_)
    rw [ls_drop (show o + k < V.length by omega), ls_drop (show k < W.length by omega), show W.length - k = W.length - (k + 1) + 1 by omega, List.take_succ_cons] at he
    by_cases q : V.getD (o + k) 0 = W.getD k 0
    · rw [if_pos (by simp (disch := omega) only [iI_lit, iI_add, iI_sub, iI_mul, iI_neg, iI_lt, iI_le, iI_eq] <;> omega), show iI (k : Int) + 1 = iI ((k + 1 : Nat) : Int) from iI_add _ 1]
      refine ih (k + 1) (by omega) ?_
      rw [he, q]
      exact ⟨fun z => (List.cons.inj z).2, fun z => congrArg _ z⟩
    · rw [if_neg (by simp (disch := omega) only [iI_lit, iI_add, iI_sub, iI_mul, iI_neg, iI_lt, iI_le, iI_eq] <;> omega)]
      unfold wq_X_contains_46
      refine st_len ht ?_
      rw [if_neg (by simp (disch := omega) only [iI_lit, iI_add, iI_sub, iI_mul, iI_neg, iI_lt, iI_le, iI_eq] <;> omega), show iI (o : Int) + 1 = iI ((o + 1 : Nat) : Int) from iI_add _ 1]
      exact hQ0 (fun z => q (List.cons.inj (he.mp z)).1)
theorem cl_contains {Q : Int32 → ab_H → Prop} {s t : Nat} {V W : List Nat} (hs : A s = some (oS V)) (ht : A t = some (oS W)) (hV : stl V) (hW : stl W) (hQ : Q (iI (bI (cont W V))) A) : ∀ (j o : Nat), o + j = V.length + 1 → (decide (o ≤ V.length) && cont W (V.drop o)) = cont W V → wq_X_contains_2 (some s) (some t) Q (j + 1) (iI o) A := by
  have v1 := hV.1
  have w1 := hW.1
  intro j
  induction j with
  | zero =>
    intro o ho he
    show wb_X_contains_2 _ _ _ _ _ _
    unfold wb_X_contains_2
    refine st_len ht (st_len hs ?_)
    rw [if_pos (by simp (disch := omega) only [iI_lit, iI_add, iI_sub, iI_mul, iI_neg, iI_lt, iI_le, iI_eq] <;> omega)]
    rw [decide_eq_false (show ¬ o ≤ V.length by omega), Bool.false_and] at he
    rw [← he] at hQ
    exact hQ
  | succ j ih =>
    intro o ho he
    show wb_X_contains_2 _ _ _ _ _ _
    unfold wb_X_contains_2
    refine st_len ht (st_len hs ?_)
    rw [decide_eq_true (show o ≤ V.length by omega), Bool.true_and] at he
    by_cases q : V.length < o + W.length
    · rw [if_pos (by simp (disch := omega) only [iI_lit, iI_add, iI_sub, iI_mul, iI_neg, iI_lt, iI_le, iI_eq] <;> omega)]
      rw [cont_short _ (by rw [List.length_drop]; omega)] at he
      rw [← he] at hQ
      exact hQ
    rw [if_neg (by simp (disch := omega) only [iI_lit, iI_add, iI_sub, iI_mul, iI_neg, iI_lt, iI_le, iI_eq] <;> omega)]
    rw [cont_drop (by omega)] at he
    refine ⟨_, cl_contains1 (o := o) hs ht hV hW (by omega) (fun z => ?_) (fun z => ?_) W.length 0 (by omega) (by rw [Nat.add_zero, Nat.sub_zero, List.drop_zero])⟩
    · rw [decide_eq_true z, Bool.true_or] at he
      rw [← he] at hQ
      exact hQ
    · rw [decide_eq_false z, Bool.false_or] at he
      refine ih (o + 1) (by omega) ?_
      by_cases y : o + 1 ≤ V.length
      · rw [decide_eq_true y, Bool.true_and]
        exact he
      · exfalso
        have e0 : W = [] := List.length_eq_zero_iff.mp (by omega)
        rw [e0] at z
        exact z rfl
theorem c_contains {Q : Int32 → ab_H → Prop} {s t : Nat} {V W : List Nat} (hs : A s = some (oS V)) (ht : A t = some (oS W)) (hV : stl V) (hW : stl W) (hQ : Q (iI (bI (cont W V))) A) : wp_X_contains (some s) (some t) A Q := ⟨_, cl_contains hs ht hV hW hQ (V.length + 1) 0 (by omega) (by simp)⟩
end FND
