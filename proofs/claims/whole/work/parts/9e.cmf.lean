/-! The class: a request's texts are small -/
theorem dec_lt : ∀ (X : List Nat) (k : Nat), (∀ x ∈ X, x < 256) → ∀ x ∈ dec k X, x < 256
  | [], k, _ => fun x hx => by rw [dec_nil] at hx; cases hx
  | c :: Y, k + 1, h => fun x hx => dec_lt Y k (fun y hy => h y (List.mem_cons_of_mem _ hy)) x hx
  | c :: Y, 0, h => fun x hx => by
    rw [dec_0] at hx
    have hY : ∀ y ∈ Y, y < 256 := fun y hy => h y (List.mem_cons_of_mem _ hy)
    by_cases q : c = 37
    · rw [if_pos q] at hx
      rcases List.mem_cons.mp hx with z | z
      · have h1 := hxv_r ((Y.getD 0 0 : Nat) : Int)
        have h2 := hxv_r ((Y.getD 1 0 : Nat) : Int)
        omega
      · exact dec_lt Y 2 hY x z
    · rw [if_neg q] at hx
      rcases List.mem_cons.mp hx with z | z
      · rw [z]
        exact h c (List.mem_cons_self ..)
      · exact dec_lt Y 0 hY x z
theorem stl_dec {X : List Nat} (h : stl X) (k : Nat) : stl (dec k X) := ⟨Nat.le_trans (dec_len X k) h.1, dec_lt X k h.2⟩
theorem stl_take {X : List Nat} (h : stl X) (k : Nat) : stl (X.take k) := ⟨by rw [List.length_take]; have := h.1; omega, fun x hx => h.2 x (List.mem_of_mem_take hx)⟩
theorem stl_drop {X : List Nat} (h : stl X) (k : Nat) : stl (X.drop k) := ⟨by rw [List.length_drop]; have := h.1; omega, fun x hx => h.2 x (List.mem_of_mem_drop hx)⟩
theorem prm_pgo : ∀ (n : Nat) (Z : List Nat), (prm n Z).length = (pgo n Z).2
  | 0, _ => rfl
  | n + 1, Z => by
    unfold prm pgo
    by_cases q : Z = []
    · rw [if_pos q, if_pos q]
      rfl
    · rw [if_neg q, if_neg q]
      show (prm n _).length + 1 = _
      rw [prm_pgo n]
theorem prm_stl : ∀ (n : Nat) (Z : List Nat), stl Z → ∀ x ∈ prm n Z, stl x.1 ∧ stl x.2
  | 0, _, _ => fun x hx => by cases hx
  | n + 1, Z, h => fun x hx => by
    unfold prm at hx
    by_cases q : Z = []
    · rw [if_pos q] at hx
      cases hx
    · rw [if_neg q] at hx
      rcases List.mem_cons.mp hx with z | z
      · rw [z]
        exact ⟨stl_dec (stl_take (stl_take h _) _) _, stl_dec (stl_drop (stl_take h _) _) _⟩
      · exact prm_stl n _ (stl_drop h _) x z
theorem rqw_B {B : List Nat} (h8 : ∀ x ∈ B, x < 256) (h1 : (jd B).1 = 1) : rqw (rqB B) := by
  obtain ⟨⟨E, e1, e2, e3, e4, e5⟩, ⟨g1, g2⟩, g3, g4⟩ := (jd_f B).1 h1
  have hL : rqL B = sl B 0 (E - 2) := by
    unfold rqL
    rw [e4]
    rfl
  have hX : stl (rqL B) := by
    rw [hL]
    exact ⟨by rw [sl_len (by omega) (by omega)]; omega, fun x hx => h8 x (sl_mem hx)⟩
  unfold rqB rqOf
  have hG : stl (rlG (rqL B)) := stl_take (stl_drop hX _) _
  refine ⟨stl_take hX _, stl_dec (stl_take hG _) _, ⟨?_, prm_stl _ _ (stl_drop hG _)⟩, ⟨?_, fun x hx => ?_⟩, g3, fun x hx => h8 x (g4 x hx)⟩
  · show (prm _ _).length ≤ 4
    rw [prm_pgo]
    rw [← hL] at e5
    unfold rlB at e5
    rw [Bool.and_eq_true] at e5
    have e6 := e5.2
    unfold rlT at e6
    rw [Bool.and_eq_true] at e6
    exact of_decide_eq_true e6.2
  · show (rqH B _).length ≤ 4
    unfold rqH
    rw [List.length_map]
    exact g1
  · have hx : x ∈ rqH B (jd B).2.2.1 := hx
    unfold rqH at hx
    obtain ⟨y, hy, rfl⟩ := List.mem_map.mp hx
    obtain ⟨y1, y2, y3, -⟩ := g2 y hy
    have hy : stl (sl B y.1 y.2) := ⟨by rw [sl_len (by omega) (by omega)]; omega, fun x hx => h8 x (sl_mem hx)⟩
    exact ⟨low_stl (stl_take hy _), ⟨Nat.le_trans (hvl_le _) hy.1, fun x hx => hy.2 x (hvl_mem hx)⟩⟩
