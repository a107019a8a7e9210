/-! The class: a pattern is read -/
def isN (T : List Tk) (j : Nat) : Bool := decide (T[j]? = some none)
def isD (T : List Tk) (j : Nat) : Bool := match T[j]? with
  | some (some x) => decide (x.1.getD 0 0 = 46)
  | _ => false
def sgn (T : List Tk) (c j : Nat) : Bool := match T[j]? with
  | some (some x) => decide (x.1.getD 0 0 ≠ 46) && pcT x.1 c
  | _ => false
theorem tk_lt {T : List Tk} {t : Tk} {j : Nat} (h : j < T.length) : (T ++ [t])[j]? = T[j]? := List.getElem?_append_left h
theorem tk_at {T : List Tk} {t : Tk} : (T ++ [t])[T.length]? = some t := by
  rw [List.getElem?_append_right (Nat.le_refl _), Nat.sub_self]
  rfl
theorem tk_gt {T : List Tk} {t : Tk} {j : Nat} (h : T.length < j) : (T ++ [t])[j]? = none := List.getElem?_eq_none (by rw [List.length_append]; simp; omega)
theorem tk_no {T : List Tk} {j : Nat} (h : T.length ≤ j) : T[j]? = none := List.getElem?_eq_none h
/-- a builder of a pattern: so many signs read, these pieces made -/
def PB (A : ab_H) (a w g : Nat) (W : List Nat) (T : List Tk) (gf : Nat → Int32) : Prop := ∃ st en an lv rp, A a = some (oPt w g T.length st en an lv rp 0) ∧ A w = some (oS W) ∧ A g = some (oR (.inl (0, W.length, .inl gf))) ∧ Bs st (isS T) ∧ Bs en (isN T) ∧ Bs an (isD T) ∧ Bs lv (isL T) ∧ Bs rp (isR T)
def Sg (W : List Nat) (gf : Nat → Int32) (k : Nat) (T : List Tk) : Prop := (∀ i, i < k → gf i = iI (-1) ∨ ∃ j : Nat, j < 64 ∧ gf i = iI j) ∧ ∀ (c j : Nat), j < 64 → ((∃ i, i < k ∧ W.getD i 0 = c ∧ gf i = iI (j : Int)) ↔ sgn T c j = true)
section BU
variable {A : ab_H} {a w g : Nat} {W : List Nat} {T : List Tk} {gf : Nat → Int32}
theorem PB.sg (h : PB A a w g W T gf) {i : Nat} {x : Int32} {K : ab_H → Prop} (hi : i < W.length) (hW : W.length ≤ 40) (hK : ∀ B, PB B a w g W T (upd gf i x) → Fw A B [a, g] → K B) : wSI A (some g) (iI i) x K := by
  obtain ⟨st, en, an, lv, rp, h1, h2, h3, h4⟩ := h
  exact wSI.i h3 hi (by omega) (fun B e f => hK B ⟨st, en, an, lv, rp, f.k h1 h3 (fun e => by cases e), f.k h2 h3 (fun e => by cases e), e, h4⟩ (f.mo (fun x hx => by simp at hx ⊢; exact Or.inr hx)))
theorem PB.pc (h : PB A a w g W T gf) {P : List Nat} (hP : P.getD 0 0 ≠ 46) {K : ab_H → Prop} (hK : ∀ B, PB B a w g W (T ++ [some (P, 0)]) gf → Fw A B [a, g] → K B) : wgI A (some a) 10 2 (fun x3 => wp A (some a) 10 2 (.int (x3 + (1 : Int32))) (fun A => K A)) := by
  obtain ⟨st, en, an, lv, rp, h1, h2, h3, h4, h5, h6, h7, h8⟩ := h
  refine wgI.i h1 rfl (wpu h1 (Nat.le_of_ble_eq_true rfl) (fun B e f => ?_))
  rw [show iI (T.length : Int) + 1 = iI ((T.length + 1 : Nat) : Int) from iI_add _ 1] at e
  have e : B a = some (oPt w g (T.length + 1) st en an lv rp 0) := e
  have hTl : (T ++ [some (P, 0)]).length = T.length + 1 := by simp
  refine hK B ⟨st, en, an, lv, rp, by rw [hTl]; exact e, f.k h2 h1 (fun e => by cases e), f.k h3 h1 (fun e => by cases e), h4.cg (fun j _ => ?_), h5.cg (fun j _ => ?_), h6.cg (fun j _ => ?_), h7.cg (fun j _ => ?_), h8.cg (fun j _ => ?_)⟩ (f.mo (fun x hx => by simp at hx ⊢; exact Or.inl hx))
  · unfold isS
    congr 1
    by_cases q : 0 < j
    · rw [decide_eq_true q, Bool.true_and, Bool.true_and]
      rcases Nat.lt_trichotomy (j - 1) T.length with z | z | z
      · rw [tk_lt z]
      · rw [z, tk_at, tk_no (Nat.le_refl _)]
        rfl
      · rw [tk_gt z, tk_no (by omega)]
    · rw [decide_eq_false q]
      rfl
  · unfold isN
    rcases Nat.lt_trichotomy j T.length with z | z | z
    · rw [tk_lt z]
    · rw [z, tk_at, tk_no (Nat.le_refl _)]
      rfl
    · rw [tk_gt z, tk_no (by omega)]
  · unfold isD
    rcases Nat.lt_trichotomy j T.length with z | z | z
    · rw [tk_lt z]
    · rw [z, tk_at, tk_no (Nat.le_refl _)]
      exact (decide_eq_false hP).symm
    · rw [tk_gt z, tk_no (by omega)]
  · unfold isL
    rcases Nat.lt_trichotomy j T.length with z | z | z
    · rw [tk_lt z]
    · rw [z, tk_at, tk_no (Nat.le_refl _)]
      rfl
    · rw [tk_gt z, tk_no (by omega)]
  · unfold isR
    rcases Nat.lt_trichotomy j T.length with z | z | z
    · rw [tk_lt z]
    · rw [z, tk_at, tk_no (Nat.le_refl _)]
      rfl
    · rw [tk_gt z, tk_no (by omega)]
theorem PB.dot (h : PB A a w g W T gf) (hT : T.length ≤ 41) {K : ab_H → Prop} (hK : ∀ B, PB B a w g W (T ++ [some ([46], 0)]) gf → Fw A B [a, g] → K B) : wgJ A (some a) 10 5 (fun y4 => wgI A (some a) 10 2 (fun x5 => wp A (some a) 10 5 (.long (y4 ||| (wsl (1 : Int64) x5))) (fun A => wgI A (some a) 10 2 (fun x1 => wp A (some a) 10 2 (.int (x1 + (1 : Int32))) (fun A => K A))))) := by
  obtain ⟨st, en, an, lv, rp, h1, h2, h3, h4, h5, h6, h7, h8⟩ := h
  refine wgJ.i h1 rfl (wgI.i h1 rfl (wpu h1 (Nat.le_of_ble_eq_true rfl) (fun A1 e1 f1 => ?_)))
  have e1 : A1 a = some (oPt w g T.length st en (an ||| wsl 1 (iI T.length)) lv rp 0) := e1
  refine wgI.i e1 rfl (wpu e1 (Nat.le_of_ble_eq_true rfl) (fun B e f => ?_))
  rw [show iI (T.length : Int) + 1 = iI ((T.length + 1 : Nat) : Int) from iI_add _ 1] at e
  have e : B a = some (oPt w g (T.length + 1) st en (an ||| wsl 1 (iI T.length)) lv rp 0) := e
  have hTl : (T ++ [some ([46], 0)]).length = T.length + 1 := by simp
  refine hK B ⟨st, en, _, lv, rp, by rw [hTl]; exact e, f.k (f1.k h2 h1 (fun e => by cases e)) e1 (fun e => by cases e), f.k (f1.k h3 h1 (fun e => by cases e)) e1 (fun e => by cases e), h4.cg (fun j _ => ?_), h5.cg (fun j _ => ?_), (h6.or (Bs.bit (i := T.length) (by omega))).cg (fun j _ => ?_), h7.cg (fun j _ => ?_), h8.cg (fun j _ => ?_)⟩ ((fww f1 f : Fw A B [a]).mo (fun x hx => by simp at hx ⊢; exact Or.inl hx))
  · unfold isS
    congr 1
    by_cases q : 0 < j
    · rw [decide_eq_true q, Bool.true_and, Bool.true_and]
      rcases Nat.lt_trichotomy (j - 1) T.length with z | z | z
      · rw [tk_lt z]
      · rw [z, tk_at, tk_no (Nat.le_refl _)]
        rfl
      · rw [tk_gt z, tk_no (by omega)]
    · rw [decide_eq_false q]
      rfl
  · unfold isN
    rcases Nat.lt_trichotomy j T.length with z | z | z
    · rw [tk_lt z]
    · rw [z, tk_at, tk_no (Nat.le_refl _)]
      rfl
    · rw [tk_gt z, tk_no (by omega)]
  · unfold isD
    rcases Nat.lt_trichotomy j T.length with z | z | z
    · rw [tk_lt z, decide_eq_false (by omega), Bool.or_false]
    · rw [z, tk_at, decide_eq_true rfl, Bool.or_true]
      rfl
    · rw [tk_gt z, tk_no (by omega), decide_eq_false (by omega)]
      rfl
  · unfold isL
    rcases Nat.lt_trichotomy j T.length with z | z | z
    · rw [tk_lt z]
    · rw [z, tk_at, tk_no (Nat.le_refl _)]
      rfl
    · rw [tk_gt z, tk_no (by omega)]
  · unfold isR
    rcases Nat.lt_trichotomy j T.length with z | z | z
    · rw [tk_lt z]
    · rw [z, tk_at, tk_no (Nat.le_refl _)]
      rfl
    · rw [tk_gt z, tk_no (by omega)]
/-- a row ends -/
theorem PB.row (h : PB A a w g W T gf) (hT : T.length ≤ 41) {K : ab_H → Prop} (hK : ∀ B, PB B a w g W (T ++ [none]) gf → Fw A B [a, g] → K B) : wp_N_endRow a A (fun A => wgJ A (some a) 10 3 (fun y1 => wgI A (some a) 10 2 (fun x2 => wp A (some a) 10 3 (.long (y1 ||| (wsl (1 : Int64) x2))) (fun A => K A)))) := by
  obtain ⟨st, en, an, lv, rp, h1, h2, h3, h4, h5, h6, h7, h8⟩ := h
  unfold wp_N_endRow
  refine wgJ.i h1 rfl (wgI.i h1 rfl (wpu h1 (Nat.le_of_ble_eq_true rfl) (fun A1 e1 f1 => ?_)))
  have e1 : A1 a = some (oPt w g T.length st (en ||| wsl 1 (iI T.length)) an lv rp 0) := e1
  refine wgI.i e1 rfl (wpu e1 (Nat.le_of_ble_eq_true rfl) (fun A2 e2 f2 => ?_))
  rw [show iI (T.length : Int) + 1 = iI ((T.length + 1 : Nat) : Int) from iI_add _ 1] at e2
  have e2 : A2 a = some (oPt w g (T.length + 1) st (en ||| wsl 1 (iI T.length)) an lv rp 0) := e2
  refine wgJ.i e2 rfl (wgI.i e2 rfl (wpu e2 (Nat.le_of_ble_eq_true rfl) (fun B e f => ?_)))
  have e : B a = some (oPt w g (T.length + 1) (st ||| wsl 1 (iI ((T.length + 1 : Nat) : Int))) (en ||| wsl 1 (iI T.length)) an lv rp 0) := e
  have hTl : (T ++ [none]).length = T.length + 1 := by simp
  refine hK B ⟨_, _, an, lv, rp, by rw [hTl]; exact e, f.k (f2.k (f1.k h2 h1 (fun e => by cases e)) e1 (fun e => by cases e)) e2 (fun e => by cases e), f.k (f2.k (f1.k h3 h1 (fun e => by cases e)) e1 (fun e => by cases e)) e2 (fun e => by cases e), (h4.or (Bs.bit (i := T.length + 1) (by omega))).cg (fun j _ => ?_), (h5.or (Bs.bit (i := T.length) (by omega))).cg (fun j _ => ?_), h6.cg (fun j _ => ?_), h7.cg (fun j _ => ?_), h8.cg (fun j _ => ?_)⟩ ((fww (fww f1 f2) f : Fw A B [a]).mo (fun x hx => by simp at hx ⊢; exact Or.inl hx))
  · unfold isS
    rw [Bool.or_assoc]
    congr 1
    by_cases q : 0 < j
    · rw [decide_eq_true q, Bool.true_and, Bool.true_and]
      rcases Nat.lt_trichotomy (j - 1) T.length with z | z | z
      · rw [tk_lt z, decide_eq_false (show ¬ j = T.length + 1 by omega), Bool.or_false]
      · rw [z, tk_at, decide_eq_true (show j = T.length + 1 by omega), Bool.or_true]
        rfl
      · rw [tk_gt z, tk_no (by omega), decide_eq_false (show ¬ j = T.length + 1 by omega)]
        rfl
    · rw [decide_eq_false q, decide_eq_false (show ¬ j = T.length + 1 by omega)]
      rfl
  · unfold isN
    rcases Nat.lt_trichotomy j T.length with z | z | z
    · rw [tk_lt z, decide_eq_false (show ¬ j = T.length by omega), Bool.or_false]
    · rw [z, tk_at, decide_eq_true (show T.length = T.length from rfl), Bool.or_true]
      rfl
    · rw [tk_gt z, tk_no (by omega), decide_eq_false (show ¬ j = T.length by omega)]
      rfl
  · unfold isD
    rcases Nat.lt_trichotomy j T.length with z | z | z
    · rw [tk_lt z]
    · rw [z, tk_at, tk_no (Nat.le_refl _)]
    · rw [tk_gt z, tk_no (by omega)]
  · unfold isL
    rcases Nat.lt_trichotomy j T.length with z | z | z
    · rw [tk_lt z]
    · rw [z, tk_at, tk_no (Nat.le_refl _)]
    · rw [tk_gt z, tk_no (by omega)]
  · unfold isR
    rcases Nat.lt_trichotomy j T.length with z | z | z
    · rw [tk_lt z]
    · rw [z, tk_at, tk_no (Nat.le_refl _)]
    · rw [tk_gt z, tk_no (by omega)]
theorem PB.mark {P : List Nat} {mz : Nat} {y : Int32} (h : PB A a w g W (T ++ [some (P, 0)]) gf) (hT : T.length ≤ 41) (hy : (y = 1 ∧ mz = 2) ∨ (y = 0 ∧ mz = 1)) {K : ab_H → Prop} (hK : ∀ B, PB B a w g W (T ++ [some (P, mz)]) gf → Fw A B [a, g] → K B) : wp_N_markPiece a y A K := by
  obtain ⟨st, en, an, lv, rp, h1, h2, h3, h4, h5, h6, h7, h8⟩ := h
  have hTl : ∀ z, (T ++ [some (P, z)]).length = T.length + 1 := fun z => by simp
  unfold wp_N_markPiece
  rw [hTl 0] at h1
  refine wgI.i h1 rfl (wL.i (wgJ.i h1 rfl (wpu h1 (Nat.le_of_ble_eq_true rfl) (fun A1 e1 f1 => ?_))))
  have e1 : A1 a = some (oPt w g (T.length + 1) st en an (lv ||| wsl 1 (iI ((T.length + 1 : Nat) : Int) - 1)) rp 0) := e1
  rw [show iI ((T.length + 1 : Nat) : Int) - 1 = iI (T.length : Int) from (iI_sub _ 1).trans (by congr 1; omega)] at e1 ⊢
  have e1 : A1 a = some (oPt w g (T.length + 1) st en an (lv ||| wsl 1 (iI T.length)) rp 0) := e1
  refine wgJ.i e1 rfl ?_
  have go : ∀ s2 : Int64, (s2 = wsl 1 (iI T.length) ∧ mz = 2) ∨ (s2 = 0 ∧ mz = 1) → wq_N_markPiece_33 a y K (some a) rp s2 A1 := fun s2 hs => by
    unfold wq_N_markPiece_33
    refine wpu e1 (Nat.le_of_ble_eq_true rfl) (fun B e f => ?_)
    have e : B a = some (oPt w g (T.length + 1) st en an (lv ||| wsl 1 (iI T.length)) (rp ||| s2) 0) := e
    have hm0 : mz ≠ 0 := by omega
    refine hK B ⟨st, en, an, _, _, by rw [hTl]; exact e, f.k (f1.k h2 h1 (fun e => by cases e)) e1 (fun e => by cases e), f.k (f1.k h3 h1 (fun e => by cases e)) e1 (fun e => by cases e), h4.cg (fun j _ => ?_), h5.cg (fun j _ => ?_), h6.cg (fun j _ => ?_), (h7.or (Bs.bit (i := T.length) (by omega))).cg (fun j _ => ?_), ?_⟩ ((fww f1 f : Fw A B [a]).mo (fun x hx => by simp at hx ⊢; exact Or.inl hx))
    · unfold isS
      congr 2
      rcases Nat.lt_trichotomy (j - 1) T.length with z | z | z
      · rw [tk_lt z, tk_lt z]
      · rw [z, tk_at, tk_at]
        rw [decide_eq_false (fun e => by cases e), decide_eq_false (fun e => by cases e)]
      · rw [tk_gt z, tk_gt z]
    · unfold isN
      rcases Nat.lt_trichotomy j T.length with z | z | z
      · rw [tk_lt z, tk_lt z]
      · rw [z, tk_at, tk_at]
        rw [decide_eq_false (fun e => by cases e), decide_eq_false (fun e => by cases e)]
      · rw [tk_gt z, tk_gt z]
    · unfold isD
      rcases Nat.lt_trichotomy j T.length with z | z | z
      · rw [tk_lt z, tk_lt z]
      · rw [z, tk_at, tk_at]
      · rw [tk_gt z, tk_gt z]
    · unfold isL
      rcases Nat.lt_trichotomy j T.length with z | z | z
      · rw [tk_lt z, tk_lt z, decide_eq_false (show ¬ j = T.length by omega), Bool.or_false]
      · rw [z, tk_at, tk_at]
        simp [hm0]
      · rw [tk_gt z, tk_gt z, decide_eq_false (show ¬ j = T.length by omega)]
        rfl
    · rcases hs with ⟨s1, m1⟩ | ⟨s1, m1⟩
      · rw [s1]
        refine (h8.or (Bs.bit (i := T.length) (by omega))).cg (fun j _ => ?_)
        unfold isR
        rcases Nat.lt_trichotomy j T.length with z | z | z
        · rw [tk_lt z, tk_lt z, decide_eq_false (show ¬ j = T.length by omega), Bool.or_false]
        · rw [z, tk_at, tk_at]
          simp [m1]
        · rw [tk_gt z, tk_gt z, decide_eq_false (show ¬ j = T.length by omega)]
          rfl
      · rw [s1]
        refine (h8.or Bs.z).cg (fun j _ => ?_)
        unfold isR
        rcases Nat.lt_trichotomy j T.length with z | z | z
        · rw [tk_lt z, tk_lt z, Bool.or_false]
        · rw [z, tk_at, tk_at]
          simp [m1]
        · rw [tk_gt z, tk_gt z]
          rfl
  rcases hy with ⟨y1, m1⟩ | ⟨y1, m1⟩
  · rw [y1, if_neg (by decide)]
    rw [y1] at go
    exact go _ (Or.inl ⟨rfl, m1⟩)
  · rw [y1, if_pos rfl]
    rw [y1] at go
    exact go _ (Or.inr ⟨rfl, m1⟩)
end BU
