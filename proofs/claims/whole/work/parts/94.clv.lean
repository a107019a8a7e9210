/-! The class: templates, answers -/
def tcl (Y : List Nat) : Int := if (tmK Y = 110 ∨ tmK Y = 109 ∨ tmK Y = 112 ∨ tmK Y = 98) ∧ Y.getD 2 0 = 125 then 2 else if (tmK Y = 113 ∨ tmK Y = 104) ∧ 0 < tmW Y ∧ 2 + tmW Y < Y.length then (tmW Y : Int) + 2 else -1
theorem tmK_l {Y : List Nat} (h : tmK Y ≠ 0) : 2 < Y.length ∧ Y.getD 0 0 = 123 ∧ tmK Y = Y.getD 1 0 := by
  unfold tmK at h ⊢
  by_cases q : Y.getD 0 0 = 123 ∧ 2 < Y.length
  · rw [if_pos q]
    exact ⟨q.2, q.1, rfl⟩
  · rw [if_neg q] at h
    exact absurd rfl h
theorem tcl_no {Y : List Nat} (r : Rq) (n : Nat) (h : tcl Y < 0) : tmS r n Y = ([Y.getD 0 0], 1) := by
  unfold tcl at h
  by_cases q1 : (tmK Y = 110 ∨ tmK Y = 109 ∨ tmK Y = 112 ∨ tmK Y = 98) ∧ Y.getD 2 0 = 125
  · rw [if_pos q1] at h
    omega
  rw [if_neg q1] at h
  by_cases q2 : (tmK Y = 113 ∨ tmK Y = 104) ∧ 0 < tmW Y ∧ 2 + tmW Y < Y.length
  · rw [if_pos q2] at h
    omega
  unfold tmS
  rw [if_neg (by omega), if_neg (by omega), if_neg (by omega), if_neg (by omega), if_neg (by omega), if_neg (by omega)]
/-- what stands for the element that begins here -/
theorem tcl_yes {Y : List Nat} (r : Rq) (n : Nat) (h : 0 ≤ tcl Y) : 2 ≤ tcl Y ∧ tcl Y < Y.length ∧ (tmS r n Y).2 = (tcl Y).toNat + 1 ∧ (tmS r n Y).1 = (if tmK Y = 98 then r.2.2.2.2 else if tmK Y = 109 then r.1 else if tmK Y = 110 then dc_l n else if tmK Y = 112 then r.2.1 else if tmK Y = 113 then prt (rqg r 2 ((Y.drop 2).take ((tcl Y).toNat - 2))) else prt (rqg r 3 (low ((Y.drop 2).take ((tcl Y).toNat - 2))))) ∧ tmK Y ≠ 0 := by
  unfold tcl at h ⊢
  by_cases q1 : (tmK Y = 110 ∨ tmK Y = 109 ∨ tmK Y = 112 ∨ tmK Y = 98) ∧ Y.getD 2 0 = 125
  · rw [if_pos q1]
    obtain ⟨l1, l2, l3⟩ := tmK_l (Y := Y) (by omega)
    refine ⟨by omega, by omega, ?_, ?_, by omega⟩
    · unfold tmS
      by_cases a1 : tmK Y = 110
      · rw [if_pos ⟨a1, q1.2⟩]
        rfl
      rw [if_neg (by omega)]
      by_cases a2 : tmK Y = 109
      · rw [if_pos ⟨a2, q1.2⟩]
        rfl
      rw [if_neg (by omega)]
      by_cases a3 : tmK Y = 112
      · rw [if_pos ⟨a3, q1.2⟩]
        rfl
      rw [if_neg (by omega), if_pos (by omega)]
      rfl
    · unfold tmS
      by_cases a1 : tmK Y = 110
      · rw [if_pos ⟨a1, q1.2⟩, if_neg (by omega), if_neg (by omega), if_pos a1]
      rw [if_neg (by omega)]
      by_cases a2 : tmK Y = 109
      · rw [if_pos ⟨a2, q1.2⟩, if_neg (by omega), if_pos a2]
      rw [if_neg (by omega)]
      by_cases a3 : tmK Y = 112
      · rw [if_pos ⟨a3, q1.2⟩, if_neg (by omega), if_neg (by omega), if_neg (by omega), if_pos a3]
      rw [if_neg (by omega), if_pos (by omega), if_pos (by omega)]
  rw [if_neg q1] at h ⊢
  by_cases q2 : (tmK Y = 113 ∨ tmK Y = 104) ∧ 0 < tmW Y ∧ 2 + tmW Y < Y.length
  · rw [if_pos q2]
    have e1 : ((tmW Y : Int) + 2).toNat - 2 = tmW Y := by omega
    refine ⟨by omega, by omega, ?_, ?_, by omega⟩
    · unfold tmS
      rw [if_neg (by omega), if_neg (by omega), if_neg (by omega), if_neg (by omega)]
      by_cases a1 : tmK Y = 113
      · rw [if_pos ⟨a1, q2.2⟩]
        dsimp only
        omega
      rw [if_neg (by omega), if_pos ⟨by omega, q2.2⟩]
      dsimp only
      omega
    · unfold tmS
      rw [if_neg (by omega), if_neg (by omega), if_neg (by omega), if_neg (by omega), e1]
      by_cases a1 : tmK Y = 113
      · rw [if_pos ⟨a1, q2.2⟩, if_neg (by omega), if_neg (by omega), if_neg (by omega), if_neg (by omega), if_pos a1]
        rfl
      rw [if_neg (by omega), if_pos ⟨by omega, q2.2⟩, if_neg (by omega), if_neg (by omega), if_neg (by omega), if_neg (by omega), if_neg a1]
      rfl
  · rw [if_neg q2] at h
    omega
section TPL
variable {A : ab_H} {t s kc ks : Nat} {P : List Nat}
theorem cl_close112 {k : Nat} {Q : Int32 → ab_H → Prop} (ht : A t = some (oR (.inr (11, [va_rf (some s)])))) (hs : A s = some (oS P)) (hP : stl P) (hk : k + 2 ≤ P.length) (hQ : Q (iI (if 0 < fi 125 (P.drop (k + 2)) ∧ k + 2 + fi 125 (P.drop (k + 2)) < P.length then ((k + 2 + fi 125 (P.drop (k + 2)) : Nat) : Int) else -1)) A) : ∀ (j e : Nat), e + j = P.length → k + 2 ≤ e → e + fi 125 (P.drop e) = k + 2 + fi 125 (P.drop (k + 2)) → wq_T_closeOf_112 t (iI k) Q (j + 1) (iI e) A := by
  have p1 := hP.1
  intro j
  induction j with
  | zero =>
    intro e he hke hf
    show wb_T_closeOf_112 _ _ _ _ _ _
    unfold wb_T_closeOf_112
    refine wgR.i (x := some s) ht rfl (st_len hs ?_)
    rw [if_pos (by simp (disch := omega) only [iI_lit, iI_add, iI_sub, iI_mul, iI_neg, iI_lt, iI_le, iI_eq] <;> omega)]
    rw [List.drop_of_length_le (show P.length ≤ e by omega), fi_nil] at hf
    rw [if_neg (by omega)] at hQ
    exact hQ
  | succ j ih =>
    intro e he hke hf
    show wb_T_closeOf_112 _ _ _ _ _ _
    unfold wb_T_closeOf_112
    refine wgR.i (x := some s) ht rfl (st_len hs ?_)
    rw [if_neg (by simp (disch := omega) only [iI_lit, iI_add, iI_sub, iI_mul, iI_neg, iI_lt, iI_le, iI_eq] <;> omega)]
    refine wgR.i (x := some s) ht rfl (st_at hs rfl (j := e) (by omega) ?_)
    have hb := bt_ls hP.2 e (by omega)
    rw [ls_drop (show e < P.length by omega), fi_cons] at hf
    by_cases q : P.getD e 0 = 125
    · rw [if_pos (by simp (disch := omega) only [iI_lit, iI_add, iI_sub, iI_mul, iI_neg, iI_lt, iI_le, iI_eq] <;> omega)]
      rw [if_pos q, Nat.add_zero] at hf
      unfold wq_T_closeOf_136
      by_cases q2 : e ≤ k + 2
      · rw [if_pos (by simp (disch := omega) only [iI_lit, iI_add, iI_sub, iI_mul, iI_neg, iI_lt, iI_le, iI_eq] <;> omega)]
        rw [if_neg (by omega)] at hQ
        exact hQ
      · rw [if_neg (by simp (disch := omega) only [iI_lit, iI_add, iI_sub, iI_mul, iI_neg, iI_lt, iI_le, iI_eq] <;> omega)]
        rw [if_pos (by omega), ← hf] at hQ
        exact hQ
    · rw [if_neg (by simp (disch := omega) only [iI_lit, iI_add, iI_sub, iI_mul, iI_neg, iI_lt, iI_le, iI_eq] <;> omega), show iI (e : Int) + 1 = iI ((e + 1 : Nat) : Int) from iI_add _ 1]
      rw [if_neg q] at hf
      exact ih (e + 1) (by omega) (by omega) (by omega)
theorem c_closeOf {k : Nat} {Q : Int32 → ab_H → Prop} (ht : A t = some (oR (.inr (11, [va_rf (some s)])))) (hs : A s = some (oS P)) (hP : stl P) (hPp : ∀ x ∈ P, 0 < x) (hk : k < P.length) (hQ : Q (iI (if 0 ≤ tcl (P.drop k) then (k : Int) + tcl (P.drop k) else -1)) A) : wp_T_closeOf t (iI k) A Q := by
  have p1 := hP.1
  have hb := bt_ls hP.2 k hk
  have gd : ∀ j, (P.drop k).getD j 0 = P.getD (k + j) 0 := fun j => by simp [List.getD_eq_getElem?_getD]
  have ln : (P.drop k).length = P.length - k := List.length_drop
  have dd : (P.drop k).drop 2 = P.drop (k + 2) := by rw [List.drop_drop]
  have fle := fi_le 125 (P.drop (k + 2))
  rw [List.length_drop] at fle
  have no : tmK (P.drop k) = 0 → Q (iI (-1)) A := fun z => by
    unfold tcl at hQ
    rw [z, if_neg (show ¬ (((0 : Nat) = 110 ∨ (0 : Nat) = 109 ∨ (0 : Nat) = 112 ∨ (0 : Nat) = 98) ∧ (P.drop k).getD 2 0 = 125) by omega), if_neg (show ¬ (((0 : Nat) = 113 ∨ (0 : Nat) = 104) ∧ 0 < tmW (P.drop k) ∧ 2 + tmW (P.drop k) < (P.drop k).length) by omega), if_neg (by decide)] at hQ
    exact hQ
  unfold wp_T_closeOf
  refine wgR.i (x := some s) ht rfl (st_at hs rfl (j := k) hk ?_)
  by_cases q1 : P.getD k 0 ≠ 123
  · rw [if_neg (by simp (disch := omega) only [iI_lit, iI_add, iI_sub, iI_mul, iI_neg, iI_lt, iI_le, iI_eq] <;> omega)]
    refine no ?_
    unfold tmK
    rw [gd 0, Nat.add_zero, if_neg (fun z => q1 z.1)]
  have q1 : P.getD k 0 = 123 := by omega
  rw [if_pos (by simp (disch := omega) only [iI_lit, iI_add, iI_sub, iI_mul, iI_neg, iI_lt, iI_le, iI_eq] <;> omega)]
  refine wgR.i (x := some s) ht rfl (st_len hs ?_)
  by_cases q2 : P.length ≤ k + 2
  · rw [if_neg (by simp (disch := omega) only [iI_lit, iI_add, iI_sub, iI_mul, iI_neg, iI_lt, iI_le, iI_eq] <;> omega)]
    refine no ?_
    unfold tmK
    rw [if_neg (fun z => by have := z.2; omega)]
  rw [if_pos (by simp (disch := omega) only [iI_lit, iI_add, iI_sub, iI_mul, iI_neg, iI_lt, iI_le, iI_eq] <;> omega)]
  refine wgR.i (x := some s) ht rfl (st_at hs (j := k + 1) (iI_add _ 1) (by omega) ?_)
  have hb1 := bt_ls hP.2 (k + 1) (by omega)
  have hK : tmK (P.drop k) = P.getD (k + 1) 0 := by
    unfold tmK
    rw [gd 0, Nat.add_zero, gd 1, if_pos ⟨q1, by omega⟩]
  unfold tcl tmW at hQ
  rw [hK, gd 2, dd, ln] at hQ
  have hb2 := bt_ls hP.2 (k + 2) (by omega)
  have n108 : (P.getD (k + 1) 0 = 113 ∨ P.getD (k + 1) 0 = 104) → wq_T_closeOf_108 t (iI k) Q A := fun z => by
    rw [if_neg (show ¬ ((P.getD (k + 1) 0 = 110 ∨ P.getD (k + 1) 0 = 109 ∨ P.getD (k + 1) 0 = 112 ∨ P.getD (k + 1) 0 = 98) ∧ P.getD (k + 2) 0 = 125) by omega)] at hQ
    refine wL.i ?_
    rw [show iI (k : Int) + 2 = iI ((k + 2 : Nat) : Int) from iI_add _ 2]
    refine ⟨_, cl_close112 ht hs hP (by omega) ?_ (P.length - (k + 2)) (k + 2) (by omega) (Nat.le_refl _) rfl⟩
    by_cases y : 0 < fi 125 (P.drop (k + 2)) ∧ k + 2 + fi 125 (P.drop (k + 2)) < P.length
    · rw [if_pos y]
      rw [if_pos (show (P.getD (k + 1) 0 = 113 ∨ P.getD (k + 1) 0 = 104) ∧ 0 < fi 125 (P.drop (k + 2)) ∧ 2 + fi 125 (P.drop (k + 2)) < P.length - k from ⟨z, y.1, by omega⟩), if_pos (by omega)] at hQ
      rw [show ((k + 2 + fi 125 (P.drop (k + 2)) : Nat) : Int) = (k : Int) + ((fi 125 (P.drop (k + 2)) : Int) + 2) by omega]
      exact hQ
    · rw [if_neg y]
      rw [if_neg (show ¬ ((P.getD (k + 1) 0 = 113 ∨ P.getD (k + 1) 0 = 104) ∧ 0 < fi 125 (P.drop (k + 2)) ∧ 2 + fi 125 (P.drop (k + 2)) < P.length - k) from fun w => y ⟨w.2.1, by omega⟩), if_neg (by decide)] at hQ
      exact hQ
  have n75 : (P.getD (k + 1) 0 = 110 ∨ P.getD (k + 1) 0 = 109 ∨ P.getD (k + 1) 0 = 112 ∨ P.getD (k + 1) 0 = 98) → wq_T_closeOf_75 t (iI k) Q A := fun z => by
    unfold wq_T_closeOf_75 wq_T_closeOf_80
    rw [if_neg (by decide)]
    refine wgR.i (x := some s) ht rfl (st_at hs (j := k + 2) (iI_add _ 2) (by omega) ?_)
    by_cases y : P.getD (k + 2) 0 = 125
    · rw [if_pos (by simp (disch := omega) only [iI_lit, iI_add, iI_sub, iI_mul, iI_neg, iI_lt, iI_le, iI_eq] <;> omega)]
      rw [if_pos (show (P.getD (k + 1) 0 = 110 ∨ P.getD (k + 1) 0 = 109 ∨ P.getD (k + 1) 0 = 112 ∨ P.getD (k + 1) 0 = 98) ∧ P.getD (k + 2) 0 = 125 from ⟨z, y⟩), if_pos (by decide)] at hQ
      rw [show iI (k : Int) + 2 = iI ((k : Int) + 2) from iI_add _ 2]
      exact hQ
    · rw [if_neg (by simp (disch := omega) only [iI_lit, iI_add, iI_sub, iI_mul, iI_neg, iI_lt, iI_le, iI_eq] <;> omega)]
      rw [if_neg (show ¬ ((P.getD (k + 1) 0 = 110 ∨ P.getD (k + 1) 0 = 109 ∨ P.getD (k + 1) 0 = 112 ∨ P.getD (k + 1) 0 = 98) ∧ P.getD (k + 2) 0 = 125) from fun w => y w.2), if_neg (show ¬ ((P.getD (k + 1) 0 = 113 ∨ P.getD (k + 1) 0 = 104) ∧ 0 < fi 125 (P.drop (k + 2)) ∧ 2 + fi 125 (P.drop (k + 2)) < P.length - k) from fun w => by omega), if_neg (by decide)] at hQ
      exact hQ
  generalize P.getD (k + 1) 0 = kd at *
  by_cases y1 : kd = 113
  · rw [if_pos (by simp (disch := omega) only [iI_lit, iI_add, iI_sub, iI_mul, iI_neg, iI_lt, iI_le, iI_eq] <;> omega)]
    exact n108 (by omega)
  rw [if_neg (by simp (disch := omega) only [iI_lit, iI_add, iI_sub, iI_mul, iI_neg, iI_lt, iI_le, iI_eq] <;> omega)]
  by_cases y2 : kd = 104
  · rw [if_pos (by simp (disch := omega) only [iI_lit, iI_add, iI_sub, iI_mul, iI_neg, iI_lt, iI_le, iI_eq] <;> omega)]
    exact n108 (by omega)
  rw [if_neg (by simp (disch := omega) only [iI_lit, iI_add, iI_sub, iI_mul, iI_neg, iI_lt, iI_le, iI_eq] <;> omega)]
  by_cases y3 : kd = 109
  · rw [if_pos (by simp (disch := omega) only [iI_lit, iI_add, iI_sub, iI_mul, iI_neg, iI_lt, iI_le, iI_eq] <;> omega)]
    exact n75 (by omega)
  rw [if_neg (by simp (disch := omega) only [iI_lit, iI_add, iI_sub, iI_mul, iI_neg, iI_lt, iI_le, iI_eq] <;> omega)]
  by_cases y4 : kd = 112
  · rw [if_pos (by simp (disch := omega) only [iI_lit, iI_add, iI_sub, iI_mul, iI_neg, iI_lt, iI_le, iI_eq] <;> omega)]
    exact n75 (by omega)
  rw [if_neg (by simp (disch := omega) only [iI_lit, iI_add, iI_sub, iI_mul, iI_neg, iI_lt, iI_le, iI_eq] <;> omega)]
  by_cases y5 : kd = 98
  · rw [if_pos (by simp (disch := omega) only [iI_lit, iI_add, iI_sub, iI_mul, iI_neg, iI_lt, iI_le, iI_eq] <;> omega)]
    exact n75 (by omega)
  rw [if_neg (by simp (disch := omega) only [iI_lit, iI_add, iI_sub, iI_mul, iI_neg, iI_lt, iI_le, iI_eq] <;> omega)]
  by_cases y6 : kd = 110
  · rw [if_pos (by simp (disch := omega) only [iI_lit, iI_add, iI_sub, iI_mul, iI_neg, iI_lt, iI_le, iI_eq] <;> omega)]
    exact n75 (by omega)
  rw [if_neg (by simp (disch := omega) only [iI_lit, iI_add, iI_sub, iI_mul, iI_neg, iI_lt, iI_le, iI_eq] <;> omega)]
  unfold wq_T_closeOf_80
  rw [if_pos rfl]
  rw [if_neg (fun w => by omega)] at hQ
  exact hQ
variable {q : Nat} {r : Rq} {cid : Int} {n : Nat}
theorem bu_le (cap k : Nat) : k ≤ bu_gr cap k := by
  unfold bu_gr
  split <;> omega
theorem sb_strE {a b : Nat} {bs cs : List Nat} {cap : Nat} {K : Option Nat → ab_H → Nat → Nat → Prop} (h : A a = some (oB bs cap)) (g : A b = some (oS cs)) (hl : bs.length + cs.length ≤ 99) (h1 : 1 ≤ kc) (h2 : bu_ks cap (bs.length + cs.length) ≤ ks) (hK : ∀ A', A' a = some (oB (bs ++ cs) (bu_gr cap (bs.length + cs.length))) → Fw A A' [a] → K (some a) A' (kc - 1) (ks - bu_ks cap (bs.length + cs.length))) : wj_SB_append_S A kc ks (some a) (some b) K :=
  ⟨a, bs, cap, b, cs, rfl, h, rfl, g, by omega, h1, h2, hK _ ab_us Fw.u⟩
theorem sb_intE {a : Nat} {bs : List Nat} {cap n : Nat} {y : Int32} {K : Option Nat → ab_H → Nat → Nat → Prop} (h : A a = some (oB bs cap)) (hy : y = iI n) (hn : n < 10000) (hl : bs.length ≤ 95) (h1 : 1 ≤ kc) (h2 : bu_ks cap (bs.length + (dc_l n).length) ≤ ks) (hK : ∀ A', A' a = some (oB (bs ++ dc_l n) (bu_gr cap (bs.length + (dc_l n).length))) → Fw A A' [a] → K (some a) A' (kc - 1) (ks - bu_ks cap (bs.length + (dc_l n).length))) : wj_SB_append_I A kc ks (some a) y K :=
  ⟨a, bs, cap, n, rfl, h, hy, hn, by omega, h1, h2, hK _ ab_us Fw.u⟩
theorem c_appendValue {fb : Nat} {o : Option Nat} {M : List Nat} {cap : Nat} {V : Option (List Nat)} {Q : ab_H → Prop} (hf : A fb = some (oB M cap)) (hM : M.length < 60) (hMc : M.length ≤ cap) (h1 : 1 ≤ kc) (h2 : bu_ks cap (M.length + (prt V).length) ≤ ks) (ho : (o = none ∧ V = none) ∨ ∃ y nm v, o = some y ∧ V = some v ∧ PtAt A y (nm, v) ∧ stl v) (hQ : ∀ B, B fb = some (oB (M ++ prt V) (bu_gr cap (M.length + (prt V).length))) → Fw A B [fb] → Q B) : wp_T_appendValue (some fb) o A kc ks Q := by
  unfold wp_T_appendValue
  rcases ho with ⟨e1, e2⟩ | ⟨y, nm, v, e1, e2, e3, e4⟩
  · rw [e1, if_pos rfl]
    refine hQ A ?_ (Fw.rf _ _)
    rw [e2, show prt none = [] from rfl, List.append_nil, show M.length + ([] : List Nat).length = M.length from rfl, show bu_gr cap M.length = cap from if_pos hMc]
    exact hf
  · rw [e1, if_neg (fun e => by cases e)]
    obtain ⟨pn, pv, k1, k2, k3⟩ := e3
    have := e4.1
    rw [e2] at h2 hQ
    exact wgR.i (x := some pv) k1 rfl (sb_strE hf k3 (show M.length + v.length ≤ 99 by omega) h1 h2 (fun B g1 g2 => hQ B g1 g2))
theorem c_appendFor {fb k : Nat} {M : List Nat} {cap : Nat} {Q : ab_H → Prop} (ht : A t = some (oR (.inr (11, [va_rf (some s)])))) (hs : A s = some (oS P)) (hP : stl P) (hk : Kr A q r cid) (hw : rqw r) (hf : A fb = some (oB M cap)) (hM : M.length < 60) (hMc : M.length ≤ cap) (hn : n < 10000) (hcl : 0 ≤ tcl (P.drop k)) (hkl : k < P.length) (h1 : 6 ≤ kc) (h2 : 128 + bu_ks cap (M.length + (tmS r n (P.drop k)).1.length) ≤ ks) (hQ : ∀ B, B fb = some (oB (M ++ (tmS r n (P.drop k)).1) (bu_gr cap (M.length + (tmS r n (P.drop k)).1.length))) → Fw A B [fb] → Q B) : wp_T_appendFor t (some fb) (iI k) (iI ((k : Int) + tcl (P.drop k))) (some q) (iI n) A kc ks Q := by
  obtain ⟨y1, y2, y3, y4, y5⟩ := tcl_yes r n hcl
  have p1 := hP.1
  rw [y4] at hQ h2
  rw [List.length_drop] at y2
  obtain ⟨l1, l2, l3⟩ := tmK_l y5
  have e1 : (P.drop k).getD 1 0 = P.getD (k + 1) 0 := by simp [List.getD_eq_getElem?_getD]
  rw [e1] at l3
  rw [List.length_drop] at l1
  have hb1 := bt_ls hP.2 (k + 1) (by omega)
  have esl : sl P (k + 2) (k + (tcl (P.drop k)).toNat) = ((P.drop k).drop 2).take ((tcl (P.drop k)).toNat - 2) := by
    unfold sl
    rw [List.drop_drop]
    congr 1
    omega
  unfold wp_T_appendFor
  refine wgR.i (x := some s) ht rfl (st_sub2 (i := k + 2) (j := k + (tcl (P.drop k)).toNat) hs (iI_add _ 2) (by congr 1; omega) (by omega) (by omega) (by omega) (by omega) (fun sn A1 g1 f1 => ?_))
  rw [esl] at g1
  generalize hN : ((P.drop k).drop 2).take ((tcl (P.drop k)).toNat - 2) = N at *
  have hNs : stl N := by
    rw [← esl]
    exact ⟨by rw [sl_len (by omega) (by omega)]; omega, ls_bt hP.2⟩
  refine wgR.i (x := some s) (f1.e ht) rfl (st_at (f1.e hs) (j := k + 1) (iI_add _ 1) (by omega) ?_)
  rw [← l3]
  have hkd : tmK (P.drop k) < 256 := by omega
  have hk1 : Kr A1 q r cid := by
    obtain ⟨pl, hl, mp, pp, bp, ys, cp, zs, cz, t1, t2, t3, t4, t5, t6, t7, t8⟩ := hk
    exact ⟨pl, hl, mp, pp, bp, ys, cp, zs, cz, f1.e t1, t2.fw f1 (Mu.nil _), t3.fw f1 (Mu.nil _), f1.e t4, t5.fw f1 (Mu.nil _), f1.e t6, t7.fw f1 (Mu.nil _), t8.fw f1 (Mu.nil _)⟩
  have fb1 := f1.e hf
  have hkk := hk1
  obtain ⟨pl, hl, mp, pp, bp, ys, cp, zs, cz, t1, t2, t3, t4, t5, t6, t7, t8⟩ := hkk
  have app : ∀ (y : Nat) (V nm : List Nat) (kc' ks' : Nat), PtAt A1 y (nm, V) → stl V → 1 ≤ kc' → bu_ks cap (M.length + V.length) ≤ ks' → (∀ B, B fb = some (oB (M ++ V) (bu_gr cap (M.length + V.length))) → Fw A B [fb] → Q B) → wgR A1 (some y) 8 1 (fun r6 => wj_SB_append_S A1 kc' ks' (some fb) r6 (fun r7 A kc ks => Q A)) := fun y V nm kc' ks' hp hv c1 c2 hq => by
    obtain ⟨pn, pv, k1, k2, k3⟩ := hp
    have := hv.1
    exact wgR.i (x := some pv) k1 rfl (sb_strE fb1 k3 (show M.length + V.length ≤ 99 by omega) c1 c2 (fun B g1 g2 => hq B g1 ((f1.mo (by simp)).tr g2 (fun x hx => Or.inl hx))))
  generalize tmK (P.drop k) = kd at *
  by_cases z1 : kd = 98
  · rw [if_pos (by simp (disch := omega) only [iI_lit, iI_add, iI_sub, iI_mul, iI_neg, iI_lt, iI_le, iI_eq] <;> omega)]
    rw [if_pos z1] at hQ h2
    exact wgR.i (x := some bp) t1 rfl (app bp _ _ _ _ t8 hw.2.2.2.2 (by omega) (by omega) hQ)
  rw [if_neg (by simp (disch := omega) only [iI_lit, iI_add, iI_sub, iI_mul, iI_neg, iI_lt, iI_le, iI_eq] <;> omega)]
  rw [if_neg z1] at hQ h2
  by_cases z2 : kd = 109
  · rw [if_pos (by simp (disch := omega) only [iI_lit, iI_add, iI_sub, iI_mul, iI_neg, iI_lt, iI_le, iI_eq] <;> omega)]
    rw [if_pos z2] at hQ h2
    exact wgR.i (x := some mp) t1 rfl (app mp _ _ _ _ t2 hw.1 (by omega) (by omega) hQ)
  rw [if_neg (by simp (disch := omega) only [iI_lit, iI_add, iI_sub, iI_mul, iI_neg, iI_lt, iI_le, iI_eq] <;> omega)]
  rw [if_neg z2] at hQ h2
  by_cases z3 : kd = 110
  · rw [if_pos (by simp (disch := omega) only [iI_lit, iI_add, iI_sub, iI_mul, iI_neg, iI_lt, iI_le, iI_eq] <;> omega)]
    rw [if_pos z3] at hQ h2
    exact sb_intE fb1 rfl hn (by omega) (by omega) (by omega) (fun B g1 g2 => hQ B g1 ((f1.mo (by simp)).tr g2 (fun x hx => Or.inl hx)))
  rw [if_neg (by simp (disch := omega) only [iI_lit, iI_add, iI_sub, iI_mul, iI_neg, iI_lt, iI_le, iI_eq] <;> omega)]
  rw [if_neg z3] at hQ h2
  by_cases z4 : kd = 112
  · rw [if_pos (by simp (disch := omega) only [iI_lit, iI_add, iI_sub, iI_mul, iI_neg, iI_lt, iI_le, iI_eq] <;> omega)]
    rw [if_pos z4] at hQ h2
    exact wgR.i (x := some pp) t1 rfl (app pp _ _ _ _ t3 hw.2.1 (by omega) (by omega) hQ)
  rw [if_neg (by simp (disch := omega) only [iI_lit, iI_add, iI_sub, iI_mul, iI_neg, iI_lt, iI_le, iI_eq] <;> omega)]
  rw [if_neg z4] at hQ h2
  by_cases z5 : kd = 113
  · rw [if_pos (by simp (disch := omega) only [iI_lit, iI_add, iI_sub, iI_mul, iI_neg, iI_lt, iI_le, iI_eq] <;> omega)]
    rw [if_pos z5] at hQ h2
    refine wC.i t1 (c_find (pt := 2) hk1 hw g1 (by decide) (fun v => wXV.i 1 _ (by omega) (by rw [v] at h2; omega) (c_appendValue (V := none) fb1 hM hMc (Nat.le_refl _) (Nat.le_refl _) (Or.inl ⟨rfl, rfl⟩) (fun B b1 b2 => hQ B ?_ ((f1.mo (by simp)).tr b2 (fun x hx => Or.inl hx))))) (fun V y nm v hp => wXV.i 1 _ (by omega) (by rw [v] at h2; omega) (c_appendValue (V := some V) fb1 hM hMc (Nat.le_refl _) (Nat.le_refl _) (Or.inr ⟨y, nm, V, rfl, rfl, hp, rqg_w hw v⟩) (fun B b1 b2 => hQ B ?_ ((f1.mo (by simp)).tr b2 (fun x hx => Or.inl hx))))))
    · rw [v]
      exact b1
    · rw [v]
      exact b1
  rw [if_neg (by simp (disch := omega) only [iI_lit, iI_add, iI_sub, iI_mul, iI_neg, iI_lt, iI_le, iI_eq] <;> omega)]
  rw [if_neg z5] at hQ h2
  refine wX.i 3 84 (by omega) (by omega) (c_small g1 hNs.2 hNs.1 (Nat.le_refl _) (Nat.le_refl _) (fun s2 A2 g2 f2 => ?_))
  have hk2 : Kr A2 q r cid := by
    exact ⟨pl, hl, mp, pp, bp, ys, cp, zs, cz, f2.e t1, t2.fw f2 (Mu.nil _), t3.fw f2 (Mu.nil _), f2.e t4, t5.fw f2 (Mu.nil _), f2.e t6, t7.fw f2 (Mu.nil _), t8.fw f2 (Mu.nil _)⟩
  have f12 : Fw A A2 [] := f1.tr f2 (by simp)
  refine wC.i (f2.e t1) (c_find (pt := 3) hk2 hw g2 (by decide) (fun v => wXV.i 1 _ (by omega) (by rw [v] at h2; omega) (c_appendValue (V := none) (f2.e fb1) hM hMc (Nat.le_refl _) (Nat.le_refl _) (Or.inl ⟨rfl, rfl⟩) (fun B b1 b2 => hQ B ?_ ((f12.mo (by simp)).tr b2 (fun x hx => Or.inl hx))))) (fun V y nm v hp => wXV.i 1 _ (by omega) (by rw [v] at h2; omega) (c_appendValue (V := some V) (f2.e fb1) hM hMc (Nat.le_refl _) (Nat.le_refl _) (Or.inr ⟨y, nm, V, rfl, rfl, hp, rqg_w hw v⟩) (fun B b1 b2 => hQ B ?_ ((f12.mo (by simp)).tr b2 (fun x hx => Or.inl hx))))))
  · rw [v]
    exact b1
  · rw [v]
    exact b1
theorem Kr.f1 {A B : ab_H} {fb : Nat} {M : List Nat} {cap : Nat} (h : Kr A q r cid) (hf : A fb = some (oB M cap)) (hF : Fw A B [fb]) : Kr B q r cid := by
  obtain ⟨pl, hl, mp, pp, bp, ys, cp, zs, cz, t1, t2, t3, t4, t5, t6, t7, t8⟩ := h
  have hM : Mu A [fb] := Mu.c hf rfl (Mu.nil _)
  exact ⟨pl, hl, mp, pp, bp, ys, cp, zs, cz, hF.k t1 hf (fun e => by cases e), t2.fw hF hM, t3.fw hF hM, hF.k t4 hf (fun e => by cases e), t5.fw hF hM, hF.k t6 hf (fun e => by cases e), t7.fw hF hM, t8.fw hF hM⟩
theorem Kr.f0 {A B : ab_H} (h : Kr A q r cid) (hF : Fw A B []) : Kr B q r cid := by
  obtain ⟨pl, hl, mp, pp, bp, ys, cp, zs, cz, t1, t2, t3, t4, t5, t6, t7, t8⟩ := h
  exact ⟨pl, hl, mp, pp, bp, ys, cp, zs, cz, hF.e t1, t2.fw hF (Mu.nil _), t3.fw hF (Mu.nil _), hF.e t4, t5.fw hF (Mu.nil _), hF.e t6, t7.fw hF (Mu.nil _), t8.fw hF (Mu.nil _)⟩
theorem cl_fill {fb : Nat} {Q : Option Nat → ab_H → Prop} (A0 : ab_H) (n0 : A0 fb = none) (hP : stl P) (hPp : ∀ x ∈ P, 0 < x) (hw : rqw r) (hn : n < 10000) (hQ : ∀ u B, B u = some (oS (fil r n P)) → Fw A0 B [] → Q (some u) B) : ∀ (f k : Nat) (A : ab_H) (M : List Nat) (cap kc ks : Nat), P.length ≤ k + f → k ≤ P.length → A t = some (oR (.inr (11, [va_rf (some s)]))) → A s = some (oS P) → Kr A q r cid → A fb = some (oB M cap) → M.length ≤ 99 → cap ≤ 200 → M.length ≤ cap → Fw A0 A [] → (M ++ tmf r n f (P.drop k)).take 60 = fil r n P → 2 * (P.length - k) + 4 ≤ kc → 43 * (P.length - k) + 2 * (200 - cap) + 64 ≤ ks → wq_T_fill_11 t (some q) (iI n) Q (f + 1) (some fb) (iI k) A kc ks := by
  have p1 := hP.1
  have fin : ∀ (A : ab_H) (M : List Nat) (cap kc ks : Nat), A fb = some (oB M cap) → M.length ≤ 99 → Fw A0 A [] → M.take 60 = fil r n P → 4 ≤ kc → 64 ≤ ks → wq_T_fill_83 t (some q) (iI n) Q (some fb) A kc ks := fun A M cap kc ks hf hM hF he c1 c2 => by
    unfold wq_T_fill_83
    refine sb_len hf ?_
    by_cases y : M.length ≤ 60
    · rw [if_pos (by simp (disch := omega) only [iI_lit, iI_add, iI_sub, iI_mul, iI_neg, iI_lt, iI_le, iI_eq] <;> omega)]
      rw [List.take_of_length_le y] at he
      unfold wq_T_fill_98
      refine sb_str2 hf (by omega) (by omega) (fun u B _ g1 g2 => hQ u B (by rw [← he]; exact g1) (hF.tr g2 (by simp)))
    · rw [if_neg (by simp (disch := omega) only [iI_lit, iI_add, iI_sub, iI_mul, iI_neg, iI_lt, iI_le, iI_eq] <;> omega)]
      refine sb_set hf (k := 60) rfl (by omega) (by omega) (by omega) (fun B g1 g2 => ?_)
      unfold wq_T_fill_98
      have hl : (M.take 60).length = 60 := by rw [List.length_take]; omega
      refine sb_str2 g1 (by omega) (by rw [hl]; omega) (fun u C _ g3 g4 => hQ u C (by rw [← he]; exact g3) ((hF.tr g2 (fun x hx => Or.inr (by simp at hx; rw [hx]; exact n0))).tr g4 (by simp)))
  intro f
  induction f with
  | zero =>
    intro k A M cap kc ks hk hk2 ht hs hkr hf hM hc hMc hF he c1 c2
    show wb_T_fill_11 _ _ _ _ _ _ _ _ _ _
    unfold wb_T_fill_11
    refine wgR.i (x := some s) ht rfl (st_len hs ?_)
    rw [if_pos (by simp (disch := omega) only [iI_lit, iI_add, iI_sub, iI_mul, iI_neg, iI_lt, iI_le, iI_eq] <;> omega)]
    rw [show tmf r n 0 (P.drop k) = [] from rfl, List.append_nil] at he
    exact fin A M cap kc ks hf hM hF he (by omega) (by omega)
  | succ f ih =>
    intro k A M cap kc ks hk hk2 ht hs hkr hf hM hc hMc hF he c1 c2
    show wb_T_fill_11 _ _ _ _ _ _ _ _ _ _
    unfold wb_T_fill_11
    refine wgR.i (x := some s) ht rfl (st_len hs ?_)
    by_cases y1 : P.length ≤ k
    · rw [if_pos (by simp (disch := omega) only [iI_lit, iI_add, iI_sub, iI_mul, iI_neg, iI_lt, iI_le, iI_eq] <;> omega)]
      rw [List.drop_of_length_le y1, tmf_nil, List.append_nil] at he
      exact fin A M cap kc ks hf hM hF he (by omega) (by omega)
    rw [if_neg (by simp (disch := omega) only [iI_lit, iI_add, iI_sub, iI_mul, iI_neg, iI_lt, iI_le, iI_eq] <;> omega)]
    refine sb_len hf ?_
    by_cases y2 : 60 ≤ M.length
    · rw [if_pos (by simp (disch := omega) only [iI_lit, iI_add, iI_sub, iI_mul, iI_neg, iI_lt, iI_le, iI_eq] <;> omega)]
      rw [List.take_append_of_le_length y2] at he
      exact fin A M cap kc ks hf hM hF he (by omega) (by omega)
    rw [if_neg (by simp (disch := omega) only [iI_lit, iI_add, iI_sub, iI_mul, iI_neg, iI_lt, iI_le, iI_eq] <;> omega)]
    have hkl : k < P.length := by omega
    have hne := drop_ne hkl
    have hr := tmS_r r n hne
    rw [List.length_drop] at hr
    unfold tmf at he
    rw [if_neg hne, List.drop_drop, ← List.append_assoc] at he
    have hbk := bt_ls hP.2 k hkl
    refine wC.i ht (c_closeOf ht hs hP hPp hkl ?_)
    by_cases y3 : 0 ≤ tcl (P.drop k)
    · have ty := tcl_yes r n y3
      have tl := ty.2.1
      rw [List.length_drop] at tl
      rw [if_pos y3, if_pos (by simp (disch := omega) only [iI_lit, iI_add, iI_sub, iI_mul, iI_neg, iI_lt, iI_le, iI_eq] <;> omega)]
      have hlen : (tmS r n (P.drop k)).1.length ≤ 40 := by
        rw [ty.2.2.2.1]
        have dl : (dc_l n).length ≤ 40 := by
          unfold dc_l
          (repeat' split) <;> simp
        (repeat' split)
        · exact hw.2.2.2.2.1
        · exact hw.1.1
        · exact dl
        · exact hw.2.1.1
        · cases hg : rqg r 2 ((List.drop 2 (List.drop k P)).take ((tcl (P.drop k)).toNat - 2)) with
          | none => simp [prt]
          | some V => exact (rqg_w hw hg).1
        · cases hg : rqg r 3 (low ((List.drop 2 (List.drop k P)).take ((tcl (P.drop k)).toNat - 2))) with
          | none => simp [prt]
          | some V => exact (rqg_w hw hg).1
      have hbo := bu_ok (cap := cap) (k := M.length + (tmS r n (P.drop k)).1.length) (by omega) hc
      have hbl := bu_le cap (M.length + (tmS r n (P.drop k)).1.length)
      refine wC.i ht (wXV.i 6 (128 + bu_ks cap (M.length + (tmS r n (P.drop k)).1.length)) (by omega) (by omega) ?_)
      refine c_appendFor ht hs hP hkr hw hf (by omega) hMc hn y3 hkl (Nat.le_refl _) (Nat.le_refl _) (fun B b1 b2 => ?_)
      rw [show iI ((k : Int) + tcl (P.drop k)) + 1 = iI ((k + (tmS r n (P.drop k)).2 : Nat) : Int) from (iI_add _ 1).trans (by congr 1; omega)]
      have fin2 : Fw A0 B [] := hF.tr b2 (fun x hx => Or.inr (by simp at hx; rw [hx]; exact n0))
      exact ih _ B _ _ _ _ (by omega) (by omega) (b2.k ht hf (fun e => by cases e)) (b2.k hs hf (fun e => by cases e)) (hkr.f1 hf b2) b1 (by rw [List.length_append]; omega) hbo.1 (by rw [List.length_append]; exact hbl) fin2 he (by omega) (by omega)
    · rw [if_neg y3, if_neg (by decide)]
      rw [tcl_no r n (by omega)] at he
      refine wgR.i (x := some s) ht rfl (st_at hs rfl (j := k) hkl ?_)
      have hbo := bu_ok (cap := cap) (k := M.length + 1) (by omega) hc
      have hbl := bu_le cap (M.length + 1)
      refine ⟨fb, M, cap, P.getD k 0, rfl, hf, rfl, hbk, by omega, by omega, by omega, ?_⟩
      have b1 : ab_u A fb (oB (M ++ [P.getD k 0]) (bu_gr cap (M.length + 1))) fb = some (oB (M ++ [P.getD k 0]) (bu_gr cap (M.length + 1))) := ab_us
      have b2 : Fw A (ab_u A fb (oB (M ++ [P.getD k 0]) (bu_gr cap (M.length + 1)))) [fb] := Fw.u
      generalize ab_u A fb (oB (M ++ [P.getD k 0]) (bu_gr cap (M.length + 1))) = B at *
      rw [show iI (k : Int) + 1 = iI ((k + 1 : Nat) : Int) from iI_add _ 1]
      have g0 : (P.drop k).getD 0 0 = P.getD k 0 := by simp [List.getD_eq_getElem?_getD]
      rw [g0] at he
      exact ih (k + 1) B (M ++ [P.getD k 0]) _ _ _ (by omega) (by omega) (b2.k ht hf (fun e => by cases e)) (b2.k hs hf (fun e => by cases e)) (hkr.f1 hf b2) b1 (by rw [List.length_append]; simp; omega) hbo.1 (by rw [List.length_append]; exact hbl) (hF.tr b2 (fun x hx => Or.inr (by simp at hx; rw [hx]; exact n0))) he (by omega) (by omega)
end TPL
