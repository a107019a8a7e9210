/-! Chunks, byte by byte -/
def hvd (ds : List Nat) : Nat := ds.foldl (fun n c => 16 * n + lhv c) 0
def dgs (ds : List Nat) : Prop := ds.length ≤ 2 ∧ ∀ x ∈ ds, lhx x = true
theorem hvd_snoc (ds : List Nat) (c : Nat) : hvd (ds ++ [c]) = 16 * hvd ds + lhv c := by
  unfold hvd
  rw [List.foldl_append]
  rfl
theorem dg_ds {ds R : List Nat} (h : dgs ds) (hR : ds.length < 2 → ∀ c R', R = c :: R' → lhx c = false) : dg (ds ++ R) = (ds.length, hvd ds) := by
  obtain ⟨h1, h2⟩ := h
  match ds, h1, h2, hR with
  | [], _, _, hR =>
    cases R with
    | nil => rfl
    | cons c R =>
      have := hR (by simp) c R rfl
      show (if lhx c = true then _ else ((0, 0) : Nat × Nat)) = _
      rw [this]
      rfl
  | [a], _, h2, hR =>
    have ha := h2 a (by simp)
    cases R with
    | nil =>
      show (if lhx a = true then ((1, lhv a) : Nat × Nat) else (0, 0)) = _
      rw [if_pos ha]
      unfold hvd
      simp
    | cons c R =>
      have := hR (by simp) c R rfl
      show (if lhx a = true then (if lhx c = true then (2, 16 * lhv a + lhv c) else (1, lhv a)) else ((0, 0) : Nat × Nat)) = _
      rw [if_pos ha, this, if_neg (by decide)]
      unfold hvd
      simp
  | [a, b], _, h2, _ =>
    have ha := h2 a (by simp)
    have hb := h2 b (by simp)
    show (if lhx a = true then (if lhx b = true then (2, 16 * lhv a + lhv b) else (1, lhv a)) else ((0, 0) : Nat × Nat)) = _
    rw [if_pos ha, if_pos hb]
    unfold hvd
    simp
theorem ck_p {ds : List Nat} {n tot : Nat} {bd : List Nat} (h : dgs ds) : (ckf (n + 1) ds tot bd).1 = 0 := by
  have e := dg_ds (R := []) h (fun _ c R' z => by cases z)
  rw [List.append_nil] at e
  unfold ckf
  rw [e]
  dsimp only
  rw [if_neg (fun z => z.2 (List.length_eq_zero_iff.mp z.1)), List.drop_length, if_pos (by decide)]
  rfl
theorem ck_x {ds : List Nat} {n tot b : Nat} {bd : List Nat} (h : dgs ds) (hb : ds.length < 2 → lhx b = false) (hc : b ≠ 13 ∨ ds = []) : (ckf (n + 1) (ds ++ [b]) tot bd).1 = 400 := by
  have e := dg_ds (R := [b]) h (fun z c R' y => by cases y; exact hb z)
  unfold ckf
  rw [e]
  dsimp only
  by_cases q : ds = []
  · subst q
    rw [if_pos ⟨rfl, by simp⟩]
  · have hd : ds.length ≠ 0 := fun z => q (List.length_eq_zero_iff.mp z)
    rw [if_neg (fun z => hd z.1), List.drop_left]
    have hb13 : b ≠ 13 := by
      rcases hc with z | z
      · exact z
      · exact absurd z q
    have e2 : crlf [b] = 400 := if_neg hb13
    rw [e2, if_pos (by decide)]
theorem ck_c {ds : List Nat} {n tot : Nat} {bd : List Nat} (h : dgs ds) (hd : ds ≠ []) : (ckf (n + 1) (ds ++ [13]) tot bd).1 = 0 := by
  have e := dg_ds (R := [13]) h (fun z c R' y => by cases y; decide)
  have hd : ds.length ≠ 0 := fun z => hd (List.length_eq_zero_iff.mp z)
  unfold ckf
  rw [e]
  dsimp only
  rw [if_neg (fun z => hd z.1), List.drop_left, if_pos (by decide)]
  rfl
theorem ck_cx {ds : List Nat} {n tot b : Nat} {bd : List Nat} (h : dgs ds) (hd : ds ≠ []) (hb : b ≠ 10) : (ckf (n + 1) (ds ++ [13, b]) tot bd).1 = 400 := by
  have e := dg_ds (R := [13, b]) h (fun z c R' y => by cases y; decide)
  have hd : ds.length ≠ 0 := fun z => hd (List.length_eq_zero_iff.mp z)
  have e2 : crlf [13, b] = 400 := by
    show (if (13 : Nat) = 13 then (if b = 10 then 1 else 400) else 400 : Int) = 400
    rw [if_pos rfl, if_neg hb]
  unfold ckf
  rw [e]
  dsimp only
  rw [if_neg (fun z => hd z.1), List.drop_left, e2, if_pos (by decide)]
theorem ck_at {ds : List Nat} {n tot : Nat} {bd : List Nat} (h : dgs ds) (hd : ds ≠ []) (R : List Nat) : ckf (n + 1) (ds ++ [13, 10] ++ R) tot bd = if 40 < tot + hvd ds then (413, bd) else if R.length < hvd ds then (0, bd ++ R) else if crlf (R.drop (hvd ds)) ≠ 1 ∨ hvd ds = 0 then (crlf (R.drop (hvd ds)), bd ++ R.take (hvd ds)) else ckf n (R.drop (hvd ds + 2)) (tot + hvd ds) (bd ++ R.take (hvd ds)) := by
  rw [List.append_assoc]
  have e := dg_ds (R := [13, 10] ++ R) h (fun z c R' y => by cases y; decide)
  have hd : ds.length ≠ 0 := fun z => hd (List.length_eq_zero_iff.mp z)
  have d2 : (ds ++ ([13, 10] ++ R)).drop (ds.length + 2) = R := by
    rw [← List.drop_drop, List.drop_left]
    rfl
  have dm : ∀ k, (ds ++ ([13, 10] ++ R)).drop (ds.length + 2 + k) = R.drop k := fun k => by
    rw [← List.drop_drop, d2]
  conv => lhs; unfold ckf
  rw [e]
  dsimp only
  rw [if_neg (fun z => hd z.1), List.drop_left, if_neg (show ¬ crlf ([13, 10] ++ R) ≠ 1 from fun z => z rfl), d2, dm, show ds.length + 2 + hvd ds + 2 = ds.length + 2 + (hvd ds + 2) by omega, dm]
section JC
variable {P : List Nat} {n tot : Nat} {bd : List Nat} {hs : List (Nat × Nat)} {X : List Nat} {H : List (List Nat × List Nat)}
theorem J3.pos (h : J3 P n tot bd hs X H) : ∃ k, n = k + 1 := ⟨n - 1, by have := h.2.1; omega⟩
theorem J3.dig {ds : List Nat} (h : J3 P n tot bd hs X H) (hd : dgs ds) : (jd (P ++ ds)).1 = 0 := by
  obtain ⟨k, rfl⟩ := h.pos
  rw [h.1]
  exact ck_p hd
theorem J3.bad {ds : List Nat} {b : Nat} (h : J3 P n tot bd hs X H) (hd : dgs ds) (hb : ds.length < 2 → lhx b = false) (hc : b ≠ 13 ∨ ds = []) : (jd (P ++ (ds ++ [b]))).1 = 400 := by
  obtain ⟨k, rfl⟩ := h.pos
  rw [h.1]
  exact ck_x hd hb hc
theorem J3.ret {ds : List Nat} (h : J3 P n tot bd hs X H) (hd : dgs ds) (hn : ds ≠ []) : (jd (P ++ (ds ++ [13]))).1 = 0 := by
  obtain ⟨k, rfl⟩ := h.pos
  rw [h.1]
  exact ck_c hd hn
theorem J3.rbad {ds : List Nat} {b : Nat} (h : J3 P n tot bd hs X H) (hd : dgs ds) (hn : ds ≠ []) (hb : b ≠ 10) : (jd (P ++ (ds ++ [13, b]))).1 = 400 := by
  obtain ⟨k, rfl⟩ := h.pos
  rw [h.1]
  exact ck_cx hd hn hb
theorem J3.large {ds : List Nat} (h : J3 P n tot bd hs X H) (hd : dgs ds) (hn : ds ≠ []) (hl : 40 < tot + hvd ds) : (jd (P ++ (ds ++ [13, 10]))).1 = 413 := by
  obtain ⟨k, rfl⟩ := h.pos
  have := ck_at (n := k) (tot := tot) (bd := bd) hd hn []
  rw [List.append_nil] at this
  rw [h.1, this, if_pos hl]
theorem J3.data {ds D : List Nat} (h : J3 P n tot bd hs X H) (hd : dgs ds) (hn : ds ≠ []) (hl : tot + hvd ds ≤ 40) (hD : D.length ≤ hvd ds) : (jd (P ++ (ds ++ [13, 10] ++ D))).1 = 0 := by
  obtain ⟨k, rfl⟩ := h.pos
  rw [h.1, ck_at hd hn, if_neg (by omega)]
  by_cases q : D.length < hvd ds
  · rw [if_pos q]
  · rw [if_neg q, List.drop_of_length_le (by omega), if_pos (Or.inl (show crlf [] ≠ 1 by decide))]
    rfl
theorem J3.dret {ds D : List Nat} (h : J3 P n tot bd hs X H) (hd : dgs ds) (hn : ds ≠ []) (hl : tot + hvd ds ≤ 40) (hD : D.length = hvd ds) : (jd (P ++ (ds ++ [13, 10] ++ (D ++ [13])))).1 = 0 := by
  obtain ⟨k, rfl⟩ := h.pos
  rw [h.1, ck_at hd hn, if_neg (by omega), if_neg (by rw [List.length_append]; omega), ← hD, List.drop_left, if_pos (Or.inl (show crlf [13] ≠ 1 by decide))]
  rfl
theorem J3.dbad {ds D : List Nat} {b : Nat} (h : J3 P n tot bd hs X H) (hd : dgs ds) (hn : ds ≠ []) (hl : tot + hvd ds ≤ 40) (hD : D.length = hvd ds) (hb : b ≠ 13) : (jd (P ++ (ds ++ [13, 10] ++ (D ++ [b])))).1 = 400 := by
  obtain ⟨k, rfl⟩ := h.pos
  have e : crlf [b] = 400 := if_neg hb
  rw [h.1, ck_at hd hn, if_neg (by omega), if_neg (by rw [List.length_append]; omega), ← hD, List.drop_left, e, if_pos (Or.inl (by decide))]
theorem J3.drbad {ds D : List Nat} {b : Nat} (h : J3 P n tot bd hs X H) (hd : dgs ds) (hn : ds ≠ []) (hl : tot + hvd ds ≤ 40) (hD : D.length = hvd ds) (hb : b ≠ 10) : (jd (P ++ (ds ++ [13, 10] ++ (D ++ [13, b])))).1 = 400 := by
  obtain ⟨k, rfl⟩ := h.pos
  have e : crlf [13, b] = 400 := by
    show (if (13 : Nat) = 13 then (if b = 10 then 1 else 400) else 400 : Int) = 400
    rw [if_pos rfl, if_neg hb]
  rw [h.1, ck_at hd hn, if_neg (by omega), if_neg (by rw [List.length_append]; omega), ← hD, List.drop_left, e, if_pos (Or.inl (by decide))]
theorem J3.last {ds : List Nat} (h : J3 P n tot bd hs X H) (hd : dgs ds) (hn : ds ≠ []) (hl : tot ≤ 40) (h0 : hvd ds = 0) : (jd (P ++ (ds ++ [13, 10] ++ [13, 10]))).1 = 1 ∧ (jd (P ++ (ds ++ [13, 10] ++ [13, 10]))).2.1 = clH H ∧ rqB (P ++ (ds ++ [13, 10] ++ [13, 10])) = (rlM X, rlP X, rlQ X, H, bd) := by
  obtain ⟨k, rfl⟩ := h.pos
  have e : jd (P ++ (ds ++ [13, 10] ++ [13, 10])) = (1, clH H, hs, bd) := by
    rw [h.1, ck_at hd hn, if_neg (by omega), h0, if_neg (by simp), if_pos (Or.inr rfl), List.take_zero, List.append_nil]
    rfl
  refine ⟨by rw [e], by rw [e], ?_⟩
  unfold rqB rqOf
  rw [e, h.2.2.1, h.2.2.2]
theorem J3.next {ds D : List Nat} (h : J3 P n tot bd hs X H) (hd : dgs ds) (hn : ds ≠ []) (hl : tot + hvd ds ≤ 40) (h0 : 0 < hvd ds) (hD : D.length = hvd ds) : J3 (P ++ (ds ++ [13, 10] ++ (D ++ [13, 10]))) (n - 1) (tot + hvd ds) (bd ++ D) hs X H := by
  obtain ⟨k, rfl⟩ := h.pos
  refine ⟨fun Y => ?_, ⟨by have := h.2.1; omega, by rw [List.length_append, hD, h.2.1.2.1], hl⟩, fun Y => by rw [List.append_assoc]; exact h.2.2.1 _, fun Y => by rw [List.append_assoc]; exact h.2.2.2 _⟩
  have e1 : D ++ [13, 10] ++ Y = D ++ ([13, 10] ++ Y) := List.append_assoc _ _ _
  have d1 : (D ++ [13, 10] ++ Y).drop (hvd ds) = [13, 10] ++ Y := by rw [e1, ← hD, List.drop_left]
  have d2 : (D ++ [13, 10] ++ Y).drop (hvd ds + 2) = Y := by rw [← List.drop_drop, d1]; rfl
  have d3 : (D ++ [13, 10] ++ Y).take (hvd ds) = D := by rw [e1, ← hD, List.take_left]
  rw [List.append_assoc, List.append_assoc, h.1, ck_at hd hn, if_neg (by omega), if_neg (by rw [List.length_append, List.length_append]; omega), d1, d2, d3, if_neg (fun z => by
    rcases z with z | z
    · exact z rfl
    · omega)]
  rfl
end JC
