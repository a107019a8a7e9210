/-! What has been judged so far decides what a further byte does -/
def cr (sr : Bool) : List Nat := if sr then [13] else []
def plL (L : List Nat) : Prop := ∀ x ∈ L, 32 ≤ x ∧ x ≤ 126
theorem lef_pl {most over : Nat} : ∀ (L X : List Nat) (i : Nat), plL L → i + L.length ≤ most → lef most over (L ++ X) i false = lef most over X (i + L.length) false
  | [], X, i, _, _ => by simp
  | a :: L, X, i, hp, hl => by
    have ha := hp a (by simp)
    rw [List.length_cons] at hl
    rw [List.cons_append]
    show (if a = 13 then lef most over (L ++ X) (i + 1) true else if a < 32 ∨ 126 < a then -400 else if most ≤ i then -over else lef most over (L ++ X) (i + 1) false) = _
    rw [if_neg (by omega), if_neg (by omega), if_neg (by omega), lef_pl L X (i + 1) (fun x hx => hp x (by simp [hx])) (by omega), List.length_cons]
    congr 1
    omega
/-- a line's next byte -/
def lnc (most over : Nat) (L : List Nat) (sr : Bool) (b : Nat) : Int := if sr = true then (if b = 10 then (L.length : Int) + 2 else -400) else if b = 13 then 0 else if b < 32 ∨ 126 < b then -400 else if most ≤ L.length then -over else 0
theorem ln_step {most over : Nat} {L : List Nat} {sr : Bool} {b : Nat} (hp : plL L) (hl : L.length ≤ most) : lef most over (L ++ cr sr ++ [b]) 0 false = lnc most over L sr b := by
  unfold lnc
  rw [List.append_assoc, lef_pl L _ 0 hp (by omega), Nat.zero_add]
  cases sr with
  | true =>
    rw [if_pos rfl]
    show (if (13 : Nat) = 13 then lef most over [b] (L.length + 1) true else _) = _
    rw [if_pos rfl]
    show (if b = 10 then ((L.length + 1 : Nat) : Int) + 1 else -400) = _
    congr 1
  | false =>
    rw [if_neg (by decide)]
    show (if b = 13 then lef most over [] (L.length + 1) true else if b < 32 ∨ 126 < b then -400 else if most ≤ L.length then -over else lef most over [] (L.length + 1) false) = _
    rfl
theorem ln_end {most over : Nat} {L : List Nat} (hp : plL L) (hl : L.length ≤ most) (Y : List Nat) : lef most over (L ++ [13, 10] ++ Y) 0 false = (L.length : Int) + 2 := by
  rw [List.append_assoc, lef_pl L _ 0 hp (by omega), Nat.zero_add]
  show (if (13 : Nat) = 13 then lef most over (10 :: Y) (L.length + 1) true else _) = _
  rw [if_pos rfl]
  show (if (10 : Nat) = 10 then ((L.length + 1 : Nat) : Int) + 1 else -400) = _
  rw [if_pos rfl]
  omega
theorem sl_in {P Y : List Nat} {f t : Nat} (ht : t ≤ P.length) : sl (P ++ Y) f t = sl P f t := by
  unfold sl
  by_cases q : f ≤ t
  · rw [List.drop_append_of_le_length (by omega), List.take_append_of_le_length (by rw [List.length_drop]; omega)]
  · rw [show t - f = 0 by omega, List.take_zero, List.take_zero]
theorem sl_mid {P T Y : List Nat} {f t : Nat} (hf : f = P.length) (ht : t = P.length + T.length) : sl (P ++ (T ++ Y)) f t = T := by
  subst hf ht
  unfold sl
  rw [List.drop_left, show P.length + T.length - P.length = T.length by omega, List.take_left]
def clH (H : List (List Nat × List Nat)) : Bool := H.any (fun x => decide (x.2 = w_clo) && decide (x.1 = w_con))
/-- the request line and some headers are read -/
def J1 (P : List Nat) (an : Int) (ic : Bool) (hs : List (Nat × Nat)) (X : List Nat) (H : List (List Nat × List Nat)) : Prop :=
  (∀ Y, jd (P ++ Y) = jhl (P ++ Y) (6 - hs.length) P.length an ic (clH H) hs) ∧ hs.length ≤ 4 ∧ (-1 ≤ an ∧ an ≤ 40) ∧ (∀ Y, rqL (P ++ Y) = X) ∧ (∀ Y, rqH (P ++ Y) hs = H) ∧ H.length = hs.length
theorem J1_init {X : List Nat} (hX : plL X) (hl : X.length ≤ 40) (hr : rlB X = true) : J1 (X ++ [13, 10]) (-1) false [] X [] := by
  have h1 : ∀ Y, lef1 (X ++ [13, 10] ++ Y) = (X.length : Int) + 2 := fun Y => ln_end hX hl Y
  have h2 : ∀ Y, sl (X ++ [13, 10] ++ Y) 0 ((lef1 (X ++ [13, 10] ++ Y)).toNat - 2) = X := fun Y => by
    rw [h1 Y, show ((X.length : Int) + 2).toNat - 2 = X.length by omega, List.append_assoc]
    unfold sl
    simp
  refine ⟨fun Y => ?_, by simp, by omega, h2, fun Y => rfl, rfl⟩
  unfold jd
  rw [if_neg (by rw [h1 Y]; omega), h2 Y, hr, if_neg (by decide), h1 Y]
  show jhl _ 6 _ _ _ _ _ = jhl _ 6 _ _ _ _ _
  congr 1
  rw [List.length_append]
  show ((X.length : Int) + 2).toNat = X.length + 2
  omega
theorem l1_code {L : List Nat} {sr : Bool} {b : Nat} (hp : plL L) (hl : L.length ≤ 40) (h : lnc 40 414 L sr b ≤ 0) : (jd (L ++ cr sr ++ [b])).1 = -(lnc 40 414 L sr b) := by
  have e : lef1 (L ++ cr sr ++ [b]) = lnc 40 414 L sr b := ln_step hp hl
  unfold jd
  rw [e, if_pos h]
theorem l1_bad {X : List Nat} (hX : plL X) (hl : X.length ≤ 40) (hr : rlB X = false) : (jd (X ++ cr true ++ [10])).1 = 400 := by
  have h1 : lef1 (X ++ cr true ++ [10]) = (X.length : Int) + 2 := ln_step (sr := true) (b := 10) hX hl
  have h2 : sl (X ++ cr true ++ [10]) 0 ((lef1 (X ++ cr true ++ [10])).toNat - 2) = X := by
    rw [h1, show ((X.length : Int) + 2).toNat - 2 = X.length by omega, List.append_assoc]
    unfold sl
    simp
  unfold jd
  rw [if_neg (by rw [h1]; omega), h2, hr, if_pos rfl]
section JJ
variable {P : List Nat} {an : Int} {ic : Bool} {hs : List (Nat × Nat)} {X : List Nat} {H : List (List Nat × List Nat)}
theorem lef3_P (P Y : List Nat) : lef3 (P ++ Y) P.length = lef 32 431 Y 0 false := by
  unfold lef3
  rw [List.drop_left]
theorem J1.nil (h : J1 P an ic hs X H) : (jd P).1 = 0 := by
  have := h.1 []
  rw [List.append_nil] at this
  rw [this]
  obtain ⟨k, hk⟩ : ∃ k, 6 - hs.length = k + 1 := ⟨5 - hs.length, by have := h.2.1; omega⟩
  rw [hk]
  unfold jhl
  have e : lef3 P P.length = 0 := by
    have := lef3_P P []
    rw [List.append_nil] at this
    rw [this]
    rfl
  rw [e, if_pos (by decide)]
  rfl
theorem J1.code {L : List Nat} {sr : Bool} {b : Nat} (h : J1 P an ic hs X H) (hp : plL L) (hl : L.length ≤ 32) (hc : lnc 32 431 L sr b ≤ 0) : (jd (P ++ (L ++ cr sr ++ [b]))).1 = -(lnc 32 431 L sr b) := by
  rw [h.1]
  obtain ⟨k, hk⟩ : ∃ k, 6 - hs.length = k + 1 := ⟨5 - hs.length, by have := h.2.1; omega⟩
  rw [hk]
  unfold jhl
  rw [lef3_P, ln_step hp hl, if_pos hc]
theorem J1.line {T : List Nat} (h : J1 P an ic hs X H) (hp : plL T) (hl : T.length ≤ 32) (hT : T ≠ []) : (hs.length = 4 → (jd (P ++ (T ++ [13, 10]))).1 = 431) ∧ (hs.length ≠ 4 → hcode T an ic ≠ 0 → (jd (P ++ (T ++ [13, 10]))).1 = hcode T an ic) ∧ (hs.length ≠ 4 → hcode T an ic = 0 → J1 (P ++ (T ++ [13, 10])) (hAn T an) (hIc T ic) (hs ++ [(P.length, P.length + T.length)]) X (H ++ [(hnm T, hvl T)])) := by
  obtain ⟨j1, j2, j3, j4, j5, j6⟩ := h
  obtain ⟨k, hk⟩ : ∃ k, 6 - hs.length = k + 1 := ⟨5 - hs.length, by omega⟩
  have hTl : 0 < T.length := List.length_pos_iff.mpr hT
  have e3 : ∀ Y, lef3 (P ++ (T ++ [13, 10] ++ Y)) P.length = (T.length : Int) + 2 := fun Y => by rw [lef3_P]; exact ln_end hp hl Y
  have es : ∀ Y, sl (P ++ (T ++ [13, 10] ++ Y)) P.length (P.length + ((T.length : Int) + 2).toNat - 2) = T := fun Y => by
    rw [List.append_assoc]
    exact sl_mid rfl (by omega)
  have main : ∀ Y, jd (P ++ (T ++ [13, 10] ++ Y)) = if hs.length = 4 then (431, clH H, hs, []) else if hcode T an ic ≠ 0 then (hcode T an ic, clH H, hs, []) else jhl (P ++ (T ++ [13, 10] ++ Y)) k (P.length + ((T.length : Int) + 2).toNat) (hAn T an) (hIc T ic) (hCl T (clH H)) (hs ++ [(P.length, P.length + ((T.length : Int) + 2).toNat - 2)]) := fun Y => by
    rw [j1, hk]
    conv => lhs; unfold jhl
    rw [e3, if_neg (by omega), if_neg (by omega), es]
  have m0 := main []
  rw [List.append_nil] at m0
  refine ⟨fun z => by rw [m0, if_pos z], fun z y => by rw [m0, if_neg z, if_pos y], fun z y => ⟨fun Y => ?_, by rw [List.length_append]; simp; omega, hAn_r y j3, fun Y => ?_, fun Y => ?_, by rw [List.length_append, List.length_append, j6]; rfl⟩⟩
  · rw [List.append_assoc, main, if_neg z, if_neg (fun w => w y)]
    have c1 : hCl T (clH H) = clH (H ++ [(hnm T, hvl T)]) := by
      unfold hCl clH
      rw [List.any_append]
      simp
    rw [c1, List.length_append, show 6 - (hs.length + [(P.length, P.length + T.length)].length) = k by simp; omega, show P.length + ((T.length : Int) + 2).toNat = (P ++ (T ++ [13, 10])).length by simp; omega]
    congr 4
    simp
    omega
  · rw [List.append_assoc]
    exact j4 _
  · unfold rqH at j5 ⊢
    rw [List.map_append, List.append_assoc, j5]
    congr 1
    show [(hnm (sl (P ++ ((T ++ [13, 10]) ++ Y)) P.length (P.length + T.length)), hvl (sl (P ++ ((T ++ [13, 10]) ++ Y)) P.length (P.length + T.length)))] = _
    rw [List.append_assoc, sl_mid rfl rfl]
/-- the headers are read -/
def J2 (P : List Nat) (an : Int) (ic : Bool) (hs : List (Nat × Nat)) (X : List Nat) (H : List (List Nat × List Nat)) : Prop :=
  (∀ Y, jd (P ++ Y) = jfin (P ++ Y) P.length an ic (clH H) hs) ∧ (-1 ≤ an ∧ an ≤ 40) ∧ (∀ Y, rqL (P ++ Y) = X) ∧ (∀ Y, rqH (P ++ Y) hs = H)
theorem J1.fin (h : J1 P an ic hs X H) : J2 (P ++ [13, 10]) an ic hs X H := by
  obtain ⟨j1, j2, j3, j4, j5, j6⟩ := h
  obtain ⟨k, hk⟩ : ∃ k, 6 - hs.length = k + 1 := ⟨5 - hs.length, by omega⟩
  refine ⟨fun Y => ?_, j3, fun Y => by rw [List.append_assoc]; exact j4 _, fun Y => by rw [List.append_assoc]; exact j5 _⟩
  have e3 : lef3 (P ++ ([13, 10] ++ Y)) P.length = 2 := by
    rw [lef3_P]
    exact ln_end (L := []) (fun x hx => by cases hx) (by simp) Y
  rw [List.append_assoc, j1, hk]
  conv => lhs; unfold jhl
  rw [e3, if_neg (by decide), if_pos (by decide)]
  congr 1
  rw [List.length_append]
  rfl
theorem J2.plain (h : J2 P an false hs X H) (D : List Nat) : (D.length < an.toNat → (jd (P ++ D)).1 = 0) ∧ (D.length = an.toNat → (jd (P ++ D)).1 = 1 ∧ (jd (P ++ D)).2.1 = clH H ∧ rqB (P ++ D) = (rlM X, rlP X, rlQ X, H, D)) := by
  obtain ⟨j1, j3, j4, j5⟩ := h
  have e : jd (P ++ D) = if an.toNat ≤ D.length then (1, clH H, hs, D.take an.toNat) else (0, clH H, hs, []) := by
    rw [j1]
    unfold jfin
    rw [if_neg (by decide), List.length_append]
    by_cases q : an.toNat ≤ D.length
    · rw [if_pos (by omega), if_pos q]
      congr 3
      unfold sl
      rw [List.drop_left]
      congr 1
      omega
    · rw [if_neg (by omega), if_neg q]
  refine ⟨fun z => by rw [e, if_neg (by omega)], fun z => ?_⟩
  have e2 : jd (P ++ D) = (1, clH H, hs, D) := by
    rw [e, if_pos (by omega), ← z, List.take_length]
  refine ⟨by rw [e2], by rw [e2], ?_⟩
  unfold rqB rqOf
  rw [e2, j4, j5]
/-- some chunks are read -/
def J3 (P : List Nat) (n tot : Nat) (bd : List Nat) (hs : List (Nat × Nat)) (X : List Nat) (H : List (List Nat × List Nat)) : Prop :=
  (∀ Y, jd (P ++ Y) = ((ckf n Y tot bd).1, clH H, hs, (ckf n Y tot bd).2)) ∧ (100 ≤ n + tot ∧ tot = bd.length ∧ tot ≤ 40) ∧ (∀ Y, rqL (P ++ Y) = X) ∧ (∀ Y, rqH (P ++ Y) hs = H)
theorem J2.chunks (h : J2 P an true hs X H) : J3 P 100 0 [] hs X H := by
  obtain ⟨j1, j3, j4, j5⟩ := h
  refine ⟨fun Y => ?_, ⟨by omega, rfl, by omega⟩, j4, j5⟩
  rw [j1]
  unfold jfin
  rw [if_pos rfl, List.drop_left]
end JJ
