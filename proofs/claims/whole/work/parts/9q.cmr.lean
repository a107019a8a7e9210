/-! The law: its loop -/
theorem toI (v : Int32) : ∃ y : Int, v = iI y ∧ rng y := ⟨v.toInt, by unfold iI; rw [Int32.ofInt_toInt], by have h1 := Int32.le_toInt v; have h2 := Int32.toInt_lt v; unfold rng; omega⟩
theorem arr_s (S : St) (c b : Nat) : (arr S c b).2.2.1 ≤ S.2.2.1 + 1 ∧ (arr S c b).2.2.2.2.2.2.2 = S.2.2.2.2.2.2.2 := by
  unfold arr
  split
  · exact ⟨Nat.le_succ _, rfl⟩
  · split
    · unfold srv
      split
      · exact ⟨Nat.le_refl _, rfl⟩
      · exact ⟨Nat.le_refl _, rfl⟩
    · exact ⟨Nat.le_succ _, rfl⟩
theorem snl_s (c : Nat) : ∀ (bs : List Nat) (S : St) (r : Nat), (snl c bs S r).1.2.2.1 ≤ S.2.2.1 + bs.length ∧ (snl c bs S r).1.2.2.2.2.2.2.2 = S.2.2.2.2.2.2.2
  | [], S, r => ⟨Nat.le_refl _, rfl⟩
  | b :: bs, S, r => by
    have h1 := arr_s S c b
    unfold snl
    split
    · exact ⟨by show (arr S c b).2.2.1 ≤ _; rw [List.length_cons]; omega, h1.2⟩
    · have h2 := snl_s c bs (arr S c b) (r + 1)
      exact ⟨by rw [List.length_cons]; omega, by rw [h2.2]; exact h1.2⟩
theorem bts_l (w : Int32) : ∀ k, (bts w k).length = k
  | 0 => rfl
  | k + 1 => by show (bts w k).length + 1 = k + 1; rw [bts_l w k]
theorem a_send_s (c : Int) (w : Int32) (n : Int) (S : St) : (a_send c w n S).1.2.2.1 ≤ S.2.2.1 + 4 ∧ (a_send c w n S).1.2.2.2.2.2.2.2 = S.2.2.2.2.2.2.2 := by
  unfold a_send
  split
  · rename_i z
    have := snl_s c.toNat (bts w n.toNat) S 0
    rw [bts_l] at this
    exact ⟨by have := this.1; dsimp only; omega, this.2⟩
  · exact ⟨Nat.le_add_right _ _, rfl⟩
section LLP
variable {sv a inp n : Nat} {f : Nat → Int32} {R : Nat → Nat} {Q : Int32 → ab_H → Prop}
set_option maxHeartbeats 4000000 in
theorem cl_law (hn : n ≤ 2560) (hQ : ∀ B, Q (iI 1) B) : ∀ (j k i : Nat) (A : ab_H) (T : Nat → Nat) (s : RS) (S : St) (kc ks : Nat), n ≤ k + 5 * j + 4 → k = 5 * i → k ≤ n + 5 → Lw A T sv a inp n f R s S → Rl s S → S.2.2.2.2.2.2.2 ≤ i → S.2.2.1 ≤ 4 * i → 796 * j ≤ kc → 13000 * j ≤ ks → wq_L_law_18 (some inp) Q (j + 1) (some sv) (some a) (iI k) A kc ks := by
  intro j
  induction j with
  | zero =>
    intro k i A T s S kc ks hk hi hkn hL hR b1 b2 b3 b4
    show wb_L_law_18 _ _ _ _ _ _ _ _ _
    unfold wb_L_law_18
    refine wLen.i hL.2.2.2.2.2.2 (by decide) ?_
    rw [if_pos (by simp (disch := omega) only [iI_lit, iI_add, iI_sub, iI_mul, iI_neg, iI_lt, iI_le, iI_eq] <;> omega)]
    exact hQ A
  | succ j ih =>
    intro k i A T s S kc ks hk hi hkn hL hR b1 b2 b3 b4
    show wb_L_law_18 _ _ _ _ _ _ _ _ _
    unfold wb_L_law_18
    refine wLen.i hL.2.2.2.2.2.2 (by decide) ?_
    by_cases q : (n : Int) - 5 < k
    · rw [if_pos (by simp (disch := omega) only [iI_lit, iI_add, iI_sub, iI_mul, iI_neg, iI_lt, iI_le, iI_eq] <;> omega)]
      exact hQ A
    rw [if_neg (by simp (disch := omega) only [iI_lit, iI_add, iI_sub, iI_mul, iI_neg, iI_lt, iI_le, iI_eq] <;> omega)]
    have hA := hL.2.2.2.2.2.2
    have hI := hL.1
    obtain ⟨fsv, hsv⟩ : ∃ fs, A sv = some (oR (.inr (3, fs))) := by
      obtain ⟨_, _, _, _, _, _, _, _, ⟨v1, -⟩, -⟩ := hI
      exact ⟨_, v1⟩
    obtain ⟨y1, e1, g1⟩ := toI (f (k + 1))
    obtain ⟨y2, e2, g2⟩ := toI (f (k + 2))
    obtain ⟨y3, e3, g3⟩ := toI (f (k + 3))
    obtain ⟨y4, e4, g4⟩ := toI (f (k + 4))
    have r1 : ∀ {A : ab_H} {K : Int32 → Prop}, A inp = some (oR (.inl (8, n, .inl f))) → K (iI y1) → wAI A (some inp) (iI k + 1) K := fun {A K} hA hK => by
      rw [show iI (k : Int) + 1 = iI ((k + 1 : Nat) : Int) from iI_add _ 1]
      exact wAI.i hA (Or.inr rfl) (by omega) (by omega) (by rw [e1]; exact hK)
    have r2 : ∀ {A : ab_H} {K : Int32 → Prop}, A inp = some (oR (.inl (8, n, .inl f))) → K (iI y2) → wAI A (some inp) (iI k + 2) K := fun {A K} hA hK => by
      rw [show iI (k : Int) + 2 = iI ((k + 2 : Nat) : Int) from iI_add _ 2]
      exact wAI.i hA (Or.inr rfl) (by omega) (by omega) (by rw [e2]; exact hK)
    have r3 : ∀ {A : ab_H} {K : Int32 → Prop}, A inp = some (oR (.inl (8, n, .inl f))) → K (iI y3) → wAI A (some inp) (iI k + 3) K := fun {A K} hA hK => by
      rw [show iI (k : Int) + 3 = iI ((k + 3 : Nat) : Int) from iI_add _ 3]
      exact wAI.i hA (Or.inr rfl) (by omega) (by omega) (by rw [e3]; exact hK)
    have r4 : ∀ {A : ab_H} {K : Int32 → Prop}, A inp = some (oR (.inl (8, n, .inl f))) → K (iI y4) → wAI A (some inp) (iI k + 4) K := fun {A K} hA hK => by
      rw [show iI (k : Int) + 4 = iI ((k + 4 : Nat) : Int) from iI_add _ 4]
      exact wAI.i hA (Or.inr rfl) (by omega) (by omega) (by rw [e4]; exact hK)
    have go : ∀ (B : ab_H) (T' : Nat → Nat) (s' : RS) (S' : St) (kc' ks' : Nat), Lw B T' sv a inp n f R s' S' → Rl s' S' → S'.2.2.2.2.2.2.2 ≤ i + 1 → S'.2.2.1 ≤ 4 * i + 4 → 796 * j ≤ kc' → 13000 * j ≤ ks' → wq_L_law_18 (some inp) Q (j + 1) (some sv) (some a) (iI k + 5) B kc' ks' := fun B T' s' S' kc' ks' w1 w2 w3 w4 w5 w6 => by
      rw [show iI (k : Int) + 5 = iI ((k + 5 : Nat) : Int) from iI_add _ 5]
      exact ih (k + 5) (i + 1) B T' s' S' kc' ks' (by omega) (by omega) (by omega) w1 w2 w3 (by omega) w5 w6
    refine wAI.i hA (Or.inr rfl) (by omega) (by omega) ?_
    by_cases c0 : f k &&& 31 = 0
    · rw [if_pos c0]
      refine r1 hA (r2 hA (r3 hA (wC.i hsv (wX.i 796 13000 (by omega) (by omega) (c_send g1 g3 hI hR.b8 (by omega) (Nat.le_refl _) (Nat.le_refl _) (fun B T' hB => ?_))))))
      have hL2 := hL.cls hB
      refine r1 hL2.2.2.2.2.2.2 (r2 hL2.2.2.2.2.2.2 (r3 hL2.2.2.2.2.2.2 (wC.i hL2.2.1.1 (vs_M_send (QV := fun v s' => v = iI ((a_send y1 (iI y2) y3 S).2) ∧ Rl s' ((a_send y1 (iI y2) y3 S).1)) hL2.me (sm_send g1 g3 hR (by omega) (fun s' hs => ⟨rfl, hs⟩)) (fun v s' A' hM hv => ?_)))))
      rw [hv.1, if_pos rfl]
      exact go _ _ _ _ _ _ (hL2.ref hM) hv.2 (by rw [(a_send_s y1 (iI y2) y3 S).2]; omega) (by have := (a_send_s y1 (iI y2) y3 S).1; omega) (by omega) (by omega)
    rw [if_neg c0]
    by_cases c1 : f k &&& 31 = 1
    · rw [if_pos c1]
      refine r1 hA (wC.i hsv (wX.i 7 14 (by omega) (by omega) (c_open g1 hI (Nat.le_refl _) (Nat.le_refl _) (fun B T' hB => ?_))))
      have hL2 := hL.cls hB
      refine r1 hL2.2.2.2.2.2.2 (wC.i hL2.2.1.1 (vs_M_open (QV := fun v s' => v = iI ((a_open y1 S).2) ∧ Rl s' ((a_open y1 S).1)) hL2.me (sm_open g1 hR (fun s' hs => ⟨rfl, hs⟩)) (fun v s' A' hM hv => ?_)))
      rw [hv.1, if_pos rfl]
      exact go _ _ _ _ _ _ (hL2.ref hM) hv.2 (by unfold a_open; split <;> exact Nat.le_succ_of_le b1) (by unfold a_open; split <;> exact Nat.le_trans b2 (Nat.le_add_right _ _)) (by omega) (by omega)
    rw [if_neg c1]
    by_cases c2 : f k &&& 31 = 2
    · rw [if_pos c2]
      refine r1 hA (wC.i hsv ((c_isOpen g1 hI ?_)))
      refine r1 hA (wC.i hL.2.1.1 (vs_M_isOpen (QV := fun v s' => v = iI ((a_isOpen y1 S).2) ∧ Rl s' (S)) hL.me (sm_isOpen g1 hR (fun s' hs => ⟨rfl, hs⟩)) (fun v s' A' hM hv => ?_)))
      rw [hv.1, if_pos rfl]
      exact go _ _ _ _ _ _ (hL.ref hM) hv.2 (Nat.le_succ_of_le b1) (Nat.le_trans b2 (Nat.le_add_right _ _)) (by omega) (by omega)
    rw [if_neg c2]
    by_cases c3 : f k &&& 31 = 3
    · rw [if_pos c3]
      refine r1 hA (wC.i hsv ((c_size g1 hI ?_)))
      refine r1 hA (wC.i hL.2.1.1 (vs_M_size (QV := fun v s' => v = iI ((a_size y1 S).2) ∧ Rl s' (S)) hL.me (sm_size g1 hR (fun s' hs => ⟨rfl, hs⟩)) (fun v s' A' hM hv => ?_)))
      rw [hv.1, if_pos rfl]
      exact go _ _ _ _ _ _ (hL.ref hM) hv.2 (Nat.le_succ_of_le b1) (Nat.le_trans b2 (Nat.le_add_right _ _)) (by omega) (by omega)
    rw [if_neg c3]
    by_cases c4 : f k &&& 31 = 4
    · rw [if_pos c4]
      refine r1 hA (r2 hA (wC.i hsv ((c_at g1 g2 hI ?_))))
      refine r1 hA (r2 hA (wC.i hL.2.1.1 (vs_M_at (QV := fun v s' => v = iI ((a_at y1 y2 S).2) ∧ Rl s' (S)) hL.me (sm_at g1 g2 hR (fun s' hs => ⟨rfl, hs⟩)) (fun v s' A' hM hv => ?_))))
      rw [hv.1, if_pos rfl]
      exact go _ _ _ _ _ _ (hL.ref hM) hv.2 (Nat.le_succ_of_le b1) (Nat.le_trans b2 (Nat.le_add_right _ _)) (by omega) (by omega)
    rw [if_neg c4]
    by_cases c5 : f k &&& 31 = 5
    · rw [if_pos c5]
      refine r1 hA (r2 hA (wC.i hsv (wX.i 4 400 (by omega) (by omega) (c_type g2 hI (Nat.le_refl _) (Nat.le_refl _) (fun B T' hB => ?_)))))
      have hL2 := hL.cls hB
      refine r1 hL2.2.2.2.2.2.2 (r2 hL2.2.2.2.2.2.2 (wC.i hL2.2.1.1 (vs_M_type (QV := fun v s' => v = iI ((a_type (iI y1) y2 S).2) ∧ Rl s' ((a_type (iI y1) y2 S).1)) hL2.me (sm_type g2 hR (fun s' hs => ⟨rfl, hs⟩)) (fun v s' A' hM hv => ?_))))
      rw [hv.1, if_pos rfl]
      exact go _ _ _ _ _ _ (hL2.ref hM) hv.2 (by unfold a_type; split <;> exact Nat.le_succ_of_le b1) (by unfold a_type; split <;> exact Nat.le_trans b2 (Nat.le_add_right _ _)) (by omega) (by omega)
    rw [if_neg c5]
    by_cases c6 : f k &&& 31 = 6
    · rw [if_pos c6]
      refine r1 hA (r2 hA (wC.i hsv (wX.i 16 360 (by omega) (by omega) (c_match g1 g2 hI (Nat.le_refl _) (Nat.le_refl _) (fun z B T' hB => ?_) (fun z1 z2 B T' hB => ?_)))))
      · have hL2 := hL.cls hB
        refine r1 hL2.2.2.2.2.2.2 (r2 hL2.2.2.2.2.2.2 (wC.i hL2.2.1.1 (vs_M_match (QV := fun v s' => v = iI (0) ∧ Rl s' S) hL2.me (sm_match g1 g2 hR (fun _ s' hs => ⟨rfl, hs⟩) (fun y1 y2 => absurd ⟨y1, y2⟩ z)) (fun v s' A' hM hv => ?_))))
        rw [hv.1, if_pos rfl]
        exact go _ _ _ _ _ _ (hL2.ref hM) hv.2 (Nat.le_succ_of_le b1) (Nat.le_trans b2 (Nat.le_add_right _ _)) (by omega) (by omega)
      · have hL2 := hL.cls hB
        refine r1 hL2.2.2.2.2.2.2 (r2 hL2.2.2.2.2.2.2 (wC.i hL2.2.1.1 (vs_M_match (QV := fun v s' => v = iI (1) ∧ Rl s' (a_mS y1 y2 S)) hL2.me (sm_match g1 g2 hR (fun y => absurd ⟨z1, z2⟩ y) (fun _ _ s' hs => ⟨rfl, hs⟩)) (fun v s' A' hM hv => ?_))))
        rw [hv.1, if_pos rfl]
        exact go _ _ _ _ _ _ (hL2.ref hM) hv.2 (Nat.le_succ_of_le b1) (Nat.le_trans b2 (Nat.le_add_right _ _)) (by omega) (by omega)
    rw [if_neg c6]
    by_cases c7 : f k &&& 31 = 7
    · rw [if_pos c7]
      refine r1 hA (r2 hA (wC.i hsv (wX.i 8 80 (by omega) (by omega) (c_stub g1 g2 hI (by omega) hR.id (Nat.le_refl _) (Nat.le_refl _) (fun z B T' hB => ?_) (fun z1 B T' hB => ?_)))))
      · have hL2 := hL.cls hB
        refine r1 hL2.2.2.2.2.2.2 (r2 hL2.2.2.2.2.2.2 (wC.i hL2.2.1.1 (vs_M_stub (QV := fun v s' => v = iI (-1) ∧ Rl s' S) hL2.me (sm_stub g1 g2 hR (by omega) (fun _ s' hs => ⟨rfl, hs⟩) (fun y => absurd y z)) (fun v s' A' hM hv => ?_))))
        rw [hv.1, if_pos rfl]
        exact go _ _ _ _ _ _ (hL2.ref hM) hv.2 (Nat.le_succ_of_le b1) (Nat.le_trans b2 (Nat.le_add_right _ _)) (by omega) (by omega)
      · have hL2 := hL.cls hB
        refine r1 hL2.2.2.2.2.2.2 (r2 hL2.2.2.2.2.2.2 (wC.i hL2.2.1.1 (vs_M_stub (QV := fun v s' => v = iI (S.2.2.2.2.2.2.2) ∧ Rl s' (a_sS y1 y2 S)) hL2.me (sm_stub g1 g2 hR (by omega) (fun y => absurd z1 y) (fun _ s' hs => ⟨rfl, hs⟩)) (fun v s' A' hM hv => ?_))))
        rw [hv.1, if_pos rfl]
        exact go _ _ _ _ _ _ (hL2.ref hM) hv.2 (Nat.succ_le_succ b1) (Nat.le_trans b2 (Nat.le_add_right _ _)) (by omega) (by omega)
    rw [if_neg c7]
    by_cases c8 : f k &&& 31 = 8
    · rw [if_pos c8]
      refine r1 hA (r2 hA (r3 hA (r4 hA (wC.i hsv (wX.i 1 3 (by omega) (by omega) (c_scene g1 g2 g3 g4 hI (Nat.le_refl _) (Nat.le_refl _) (fun z B T' hB => ?_) (fun z1 B T' hB => ?_)))))))
      · have hL2 := hL.cls hB
        refine r1 hL2.2.2.2.2.2.2 (r2 hL2.2.2.2.2.2.2 (r3 hL2.2.2.2.2.2.2 (r4 hL2.2.2.2.2.2.2 (wC.i hL2.2.1.1 (vs_M_scene (QV := fun v s' => v = iI (0) ∧ Rl s' S) hL2.me (sm_scene g1 g2 g3 g4 hR (fun _ s' hs => ⟨rfl, hs⟩) (fun y => absurd y z)) (fun v s' A' hM hv => ?_))))))
        rw [hv.1, if_pos rfl]
        exact go _ _ _ _ _ _ (hL2.ref hM) hv.2 (Nat.le_succ_of_le b1) (Nat.le_trans b2 (Nat.le_add_right _ _)) (by omega) (by omega)
      · have hL2 := hL.cls hB
        refine r1 hL2.2.2.2.2.2.2 (r2 hL2.2.2.2.2.2.2 (r3 hL2.2.2.2.2.2.2 (r4 hL2.2.2.2.2.2.2 (wC.i hL2.2.1.1 (vs_M_scene (QV := fun v s' => v = iI (1) ∧ Rl s' (a_cS y1 y2 y3 y4 S)) hL2.me (sm_scene g1 g2 g3 g4 hR (fun y => absurd z1 y) (fun _ s' hs => ⟨rfl, hs⟩)) (fun v s' A' hM hv => ?_))))))
        rw [hv.1, if_pos rfl]
        exact go _ _ _ _ _ _ (hL2.ref hM) hv.2 (Nat.le_succ_of_le b1) (Nat.le_trans b2 (Nat.le_add_right _ _)) (by omega) (by omega)
    rw [if_neg c8]
    by_cases c9 : f k &&& 31 = 9
    · rw [if_pos c9]
      refine r1 hA (wC.i hsv ((c_remove g1 hI (fun z B T' hB => ?_) (fun z1 B T' hB => ?_))))
      · have hL2 := hL.cls hB
        refine r1 hL2.2.2.2.2.2.2 (wC.i hL2.2.1.1 (vs_M_remove (QV := fun v s' => v = iI (0) ∧ Rl s' S) hL2.me (sm_remove g1 hR (fun _ s' hs => ⟨rfl, hs⟩) (fun y => absurd y z)) (fun v s' A' hM hv => ?_)))
        rw [hv.1, if_pos rfl]
        exact go _ _ _ _ _ _ (hL2.ref hM) hv.2 (Nat.le_succ_of_le b1) (Nat.le_trans b2 (Nat.le_add_right _ _)) (by omega) (by omega)
      · have hL2 := hL.cls hB
        refine r1 hL2.2.2.2.2.2.2 (wC.i hL2.2.1.1 (vs_M_remove (QV := fun v s' => v = iI (1) ∧ Rl s' (a_rS y1 S)) hL2.me (sm_remove g1 hR (fun y => absurd z1 y) (fun _ s' hs => ⟨rfl, hs⟩)) (fun v s' A' hM hv => ?_)))
        rw [hv.1, if_pos rfl]
        exact go _ _ _ _ _ _ (hL2.ref hM) hv.2 (Nat.le_succ_of_le b1) (Nat.le_trans b2 (Nat.le_add_right _ _)) (by omega) (by omega)
    rw [if_neg c9]
    by_cases c10 : f k &&& 31 = 10
    · rw [if_pos c10]
      refine wC.i hsv ((c_reset hI (fun B T' hB => ?_)))
      have hL2 := hL.cls hB
      refine wC.i hL2.2.1.1 (vs_M_reset (QV := fun v s' => v = iI (S.2.1.length) ∧ Rl s' (a_zS S)) hL2.me (sm_reset hR (fun s' hs => ⟨rfl, hs⟩)) (fun v s' A' hM hv => ?_))
      rw [hv.1, if_pos rfl]
      exact go _ _ _ _ _ _ (hL2.ref hM) hv.2 (Nat.le_succ_of_le b1) (Nat.le_trans b2 (Nat.le_add_right _ _)) (by omega) (by omega)
    rw [if_neg c10]
    by_cases c11 : f k &&& 31 = 11
    · rw [if_pos c11]
      refine wC.i hsv ((c_count hI (fun B T' hB => ?_)))
      have hL2 := hL.cls hB
      refine wC.i hL2.2.1.1 (vs_M_count (QV := fun v s' => v = iI (a_cnt S) ∧ Rl s' (a_nS S)) hL2.me (sm_count hR (fun s' hs => ⟨rfl, hs⟩)) (fun v s' A' hM hv => ?_))
      rw [hv.1, if_pos rfl]
      exact go _ _ _ _ _ _ (hL2.ref hM) hv.2 (Nat.le_succ_of_le b1) (Nat.le_trans b2 (Nat.le_add_right _ _)) (by omega) (by omega)
    rw [if_neg c11]
    by_cases c12 : f k &&& 31 = 12
    · rw [if_pos c12]
      refine wC.i hsv ((c_journal hI ?_))
      refine wC.i hL.2.1.1 (vs_M_journal (QV := fun v s' => v = iI (S.2.1.length) ∧ Rl s' (S)) hL.me (sm_journal ⟨rfl, hR⟩ hR) (fun v s' A' hM hv => ?_))
      rw [hv.1, if_pos rfl]
      exact go _ _ _ _ _ _ (hL.ref hM) hv.2 (Nat.le_succ_of_le b1) (Nat.le_trans b2 (Nat.le_add_right _ _)) (by omega) (by omega)
    rw [if_neg c12]
    by_cases c13 : f k &&& 31 = 13
    · rw [if_pos c13]
      refine r1 hA (wC.i hsv ((c_chosen g1 hI ?_)))
      refine r1 hA (wC.i hL.2.1.1 (vs_M_chosen (QV := fun v s' => v = iI (a_chosen y1 S) ∧ Rl s' (S)) hL.me (sm_chosen g1 hR ⟨rfl, hR⟩) (fun v s' A' hM hv => ?_)))
      rw [hv.1, if_pos rfl]
      exact go _ _ _ _ _ _ (hL.ref hM) hv.2 (Nat.le_succ_of_le b1) (Nat.le_trans b2 (Nat.le_add_right _ _)) (by omega) (by omega)
    rw [if_neg c13]
    by_cases c14 : f k &&& 31 = 14
    · rw [if_pos c14]
      refine r1 hA (wC.i hsv ((c_nearK g1 hI ?_)))
      refine r1 hA (wC.i hL.2.1.1 (vs_M_near (QV := fun v s' => v = iI (a_near y1 S) ∧ Rl s' (S)) hL.me (sm_near g1 hR (fun s' hs => ⟨rfl, hs⟩)) (fun v s' A' hM hv => ?_)))
      rw [hv.1, if_pos rfl]
      exact go _ _ _ _ _ _ (hL.ref hM) hv.2 (Nat.le_succ_of_le b1) (Nat.le_trans b2 (Nat.le_add_right _ _)) (by omega) (by omega)
    rw [if_neg c14]
    by_cases c15 : f k &&& 31 = 15
    · rw [if_pos c15]
      refine r1 hA (wC.i hsv ((c_state g1 hI ?_)))
      refine r1 hA (wC.i hL.2.1.1 (vs_M_state (QV := fun v s' => v = iI (a_state y1 S) ∧ Rl s' (S)) hL.me (sm_state g1 hR ⟨rfl, hR⟩) (fun v s' A' hM hv => ?_)))
      rw [hv.1, if_pos rfl]
      exact go _ _ _ _ _ _ (hL.ref hM) hv.2 (Nat.le_succ_of_le b1) (Nat.le_trans b2 (Nat.le_add_right _ _)) (by omega) (by omega)
    rw [if_neg c15]
    by_cases c16 : f k &&& 31 = 16
    · rw [if_pos c16]
      refine wC.i hsv ((c_served hI ?_))
      refine wC.i hL.2.1.1 (vs_M_served (QV := fun v s' => v = iI (S.2.2.1) ∧ Rl s' (S)) hL.me (sm_served ⟨rfl, hR⟩ hR) (fun v s' A' hM hv => ?_))
      rw [hv.1, if_pos rfl]
      exact go _ _ _ _ _ _ (hL.ref hM) hv.2 (Nat.le_succ_of_le b1) (Nat.le_trans b2 (Nat.le_add_right _ _)) (by omega) (by omega)
    rw [if_neg c16]
    exact go _ _ _ _ _ _ hL hR (Nat.le_succ_of_le b1) (Nat.le_trans b2 (Nat.le_add_right _ _)) (by omega) (by omega)
end LLP
