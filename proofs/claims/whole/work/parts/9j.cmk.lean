/-! The class: send -/
theorem lef_ap {most over : Nat} : ∀ (X Y : List Nat) (i : Nat) (f : Bool), lef most over X i f ≠ 0 → lef most over (X ++ Y) i f = lef most over X i f
  | [], Y, i, f, h => absurd rfl h
  | b :: X, Y, i, true, h => rfl
  | b :: X, Y, i, false, h => by
    show (if b = 13 then lef most over (X ++ Y) (i + 1) true else if b < 32 ∨ 126 < b then (-400 : Int) else if most ≤ i then -(over : Int) else lef most over (X ++ Y) (i + 1) false) = (if b = 13 then lef most over X (i + 1) true else if b < 32 ∨ 126 < b then (-400 : Int) else if most ≤ i then -(over : Int) else lef most over X (i + 1) false)
    have h : (if b = 13 then lef most over X (i + 1) true else if b < 32 ∨ 126 < b then (-400 : Int) else if most ≤ i then -(over : Int) else lef most over X (i + 1) false) ≠ 0 := h
    by_cases q1 : b = 13
    · rw [if_pos q1] at h
      rw [if_pos q1, if_pos q1]
      exact lef_ap X Y (i + 1) true h
    rw [if_neg q1] at h
    rw [if_neg q1, if_neg q1]
    by_cases q2 : b < 32 ∨ 126 < b
    · rw [if_pos q2, if_pos q2]
    rw [if_neg q2] at h
    rw [if_neg q2, if_neg q2]
    by_cases q3 : most ≤ i
    · rw [if_pos q3, if_pos q3]
    rw [if_neg q3] at h
    rw [if_neg q3, if_neg q3]
    exact lef_ap X Y (i + 1) false h
theorem lef_en {most over b : Nat} : ∀ (X : List Nat) (i : Nat) (f : Bool), lef most over X i f = 0 → 0 < lef most over (X ++ [b]) i f → lef most over (X ++ [b]) i f = (i : Int) + X.length + 1
  | [], i, true, _, h => by
    have h : 0 < (if b = 10 then (i : Int) + 1 else -400) := h
    show (if b = 10 then (i : Int) + 1 else -400) = _
    by_cases q : b = 10
    · rw [if_pos q]
      simp
    · rw [if_neg q] at h
      omega
  | [], i, false, _, h => by
    have h : 0 < (if b = 13 then (0 : Int) else if b < 32 ∨ 126 < b then (-400 : Int) else if most ≤ i then -(over : Int) else 0) := h
    exfalso
    (repeat' split at h) <;> omega
  | a :: X, i, true, h0, h => by
    have h0 : (if a = 10 then (i : Int) + 1 else -400) = 0 := h0
    exfalso
    split at h0 <;> omega
  | a :: X, i, false, h0, h => by
    have h0 : (if a = 13 then lef most over X (i + 1) true else if a < 32 ∨ 126 < a then (-400 : Int) else if most ≤ i then -(over : Int) else lef most over X (i + 1) false) = 0 := h0
    have h : 0 < (if a = 13 then lef most over (X ++ [b]) (i + 1) true else if a < 32 ∨ 126 < a then (-400 : Int) else if most ≤ i then -(over : Int) else lef most over (X ++ [b]) (i + 1) false) := h
    show (if a = 13 then lef most over (X ++ [b]) (i + 1) true else if a < 32 ∨ 126 < a then (-400 : Int) else if most ≤ i then -(over : Int) else lef most over (X ++ [b]) (i + 1) false) = _
    rw [List.length_cons]
    by_cases q1 : a = 13
    · rw [if_pos q1] at h0 h ⊢
      rw [lef_en X (i + 1) true h0 h]
      omega
    rw [if_neg q1] at h0 h ⊢
    by_cases q2 : a < 32 ∨ 126 < a
    · rw [if_pos q2] at h
      omega
    rw [if_neg q2] at h0 h ⊢
    by_cases q3 : most ≤ i
    · rw [if_pos q3] at h
      omega
    rw [if_neg q3] at h0 h ⊢
    rw [lef_en X (i + 1) false h0 h]
    omega
theorem jd_1 {B : List Nat} (h : (jd B).1 = 1) : 2 ≤ lef1 B ∧ lef1 B + 2 ≤ B.length := by
  have r1 := lef1_r B
  unfold jd at h
  by_cases q : lef1 B ≤ 0
  · rw [if_pos q] at h
    have h : -(lef1 B) = 1 := h
    omega
  rw [if_neg q] at h
  by_cases q2 : rlB (sl B 0 ((lef1 B).toNat - 2)) = false
  · rw [if_pos q2] at h
    exact absurd h (by decide)
  rw [if_neg q2] at h
  have r3 := lef3_r (B := B) (p := (lef1 B).toNat) (by omega)
  unfold jhl at h
  by_cases q3 : lef3 B (lef1 B).toNat ≤ 0
  · rw [if_pos q3] at h
    have h : -(lef3 B (lef1 B).toNat) = 1 := h
    omega
  omega
/-- so many bytes more, and the first line cannot end yet -/
def Ds (B : List Nat) (d : Nat) : Prop := d = 0 ∨ (d ≤ 1 ∧ B = []) ∨ (0 < lef1 B ∧ d ≤ 1) ∨ (0 < lef1 B ∧ (B.length : Int) ≤ lef1 B + 1 ∧ d ≤ 2) ∨ (0 < lef1 B ∧ (B.length : Int) ≤ lef1 B ∧ d ≤ 3)
theorem lef1_ap {B : List Nat} {b : Nat} (h : 0 < lef1 B) : lef1 (B ++ [b]) = lef1 B := lef_ap B [b] 0 false (by have : lef 40 414 B 0 false = lef1 B := rfl; omega)
theorem Ds.no {B : List Nat} {d b : Nat} (h : Ds B (d + 1)) : ¬ exq B b := fun ⟨e1, e2⟩ => by
  rcases h with h | h | h | h | h
  · omega
  · rw [h.2] at e2
    have := lef1_r ([] ++ [b])
    simp at this e2
    omega
  · omega
  · omega
  · omega
theorem Ds.st {B : List Nat} {d b : Nat} (h : Ds B (d + 1)) : Ds (B ++ [b]) d := by
  rcases h with h | h | h | h | h
  · omega
  · exact Or.inl (by omega)
  · exact Or.inl (by omega)
  · exact Or.inr (Or.inr (Or.inl ⟨by rw [lef1_ap h.1]; exact h.1, by omega⟩))
  · exact Or.inr (Or.inr (Or.inr (Or.inl ⟨by rw [lef1_ap h.1]; exact h.1, by rw [lef1_ap h.1, List.length_append]; simp; omega, by omega⟩)))
theorem Ds.sv {B : List Nat} {d b : Nat} (h : Ds B (d + 1)) (hj : (jd (B ++ [b])).1 = 1) : Ds [] d := by
  have j := jd_1 hj
  rw [List.length_append] at j
  simp at j
  rcases h with h | h | h | h | h
  · omega
  · exact Or.inl (by omega)
  · exact Or.inl (by omega)
  · exact Or.inr (Or.inl ⟨by omega, rfl⟩)
  · rw [lef1_ap h.1] at j
    omega
theorem Ds.ex {B : List Nat} {b : Nat} (h : exq B b) : Ds (B ++ [b]) 3 := by
  obtain ⟨e1, e2⟩ := h
  have := lef_en (most := 40) (over := 414) (b := b) B 0 false e1 e2
  have e : lef 40 414 (B ++ [b]) 0 false = lef1 (B ++ [b]) := rfl
  rw [e] at this
  exact Or.inr (Or.inr (Or.inr (Or.inr ⟨e2, by rw [this, List.length_append]; simp, by omega⟩)))
theorem Ds.sx {B : List Nat} {b : Nat} (h : exq B b) : (jd (B ++ [b])).1 ≠ 1 := fun hj => by
  obtain ⟨e1, e2⟩ := h
  have := lef_en (most := 40) (over := 414) (b := b) B 0 false e1 e2
  have e : lef 40 414 (B ++ [b]) 0 false = lef1 (B ++ [b]) := rfl
  have j := jd_1 hj
  rw [List.length_append] at j
  simp at j
  omega
