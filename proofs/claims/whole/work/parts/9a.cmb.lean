/-! The class: type, reset, count -/
theorem w31 : ∀ k : Fin 4, (((8 : Int32) * iI (k.val : Int)).toUInt32 &&& Int32.toUInt32 31).toBitVec % 32 = BitVec.ofNat 32 (8 * k.val) := by decide
theorem wu_b {w : Int32} {k : Nat} (hk : k < 4) : (wu w ((8 : Int32) * iI k)) &&& (255 : Int32) = iI (byt w k) := by
  apply Int32.toBitVec_inj.mp
  rw [Int32.toBitVec_and]
  unfold wu
  rw [UInt32.toBitVec_toInt32, UInt32.toBitVec_shiftRight, w31 ⟨k, hk⟩]
  show (w.toBitVec >>> (BitVec.ofNat 32 (8 * k)).toNat) &&& 255#32 = _
  rw [BitVec.toNat_ofNat, Nat.mod_eq_of_lt (by omega)]
  exact and_b _ _
section TYP
variable {G A0 : ab_H} {T : Nat → Nat} {sv : Nat} {S : St} {Q : Int32 → ab_H → Prop}
theorem cl_type56 {w p1 : Int32} {ca sa ty sl kl dl nx sd : Nat} {X : List Nat} {n : Nat} (hX : X.length + n ≤ 40) (hn : n ≤ 4) (hsv : A0 sv = some (oSv ca sa ty sl kl dl nx sd)) {cap0 : Nat} (hty : A0 ty = some (oB X cap0)) (hQ : ∀ B cap, B ty = some (oB (X ++ bts w n) cap) → cap ≤ 200 → Fw A0 B [ty] → Q (iI 1) B) : ∀ (j : Nat) (A : ab_H) (Y : List Nat) (cap kc ks : Nat), j ≤ n → A ty = some (oB (X ++ Y) cap) → Y ++ bts w j = bts w n → Y.length + j = n → cap ≤ 200 → Fw A0 A [ty] → j ≤ kc → 2 * (200 - cap) ≤ ks → wq_S_type_56 sv w p1 Q (j + 1) (iI ((j : Int) - 1)) A kc ks := by
  intro j
  induction j with
  | zero =>
    intro A Y cap kc ks hj hA hY hl hc hF h1 h2
    show wb_S_type_56 _ _ _ _ _ _ _ _ _
    unfold wb_S_type_56
    rw [if_pos (by simp (disch := omega) only [iI_lit, iI_add, iI_sub, iI_mul, iI_neg, iI_lt, iI_le, iI_eq] <;> omega)]
    rw [show bts w 0 = [] from rfl, List.append_nil] at hY
    rw [hY] at hA
    exact hQ A cap hA hc hF
  | succ j ih =>
    intro A Y cap kc ks hj hA hY hl hc hF h1 h2
    show wb_S_type_56 _ _ _ _ _ _ _ _ _
    unfold wb_S_type_56
    rw [if_neg (by simp (disch := omega) only [iI_lit, iI_add, iI_sub, iI_mul, iI_neg, iI_lt, iI_le, iI_eq] <;> omega)]
    rw [show (((j + 1 : Nat) : Int) - 1) = (j : Int) from by omega]
    have hb := byt_r w j
    refine wgR.i (x := some ty) (hF.k hsv hty (fun e => by cases e)) rfl ?_
    unfold wp_S_byteOf
    rw [wu_b (k := j) (by omega)]
    dsimp only
    rw [wch_i (n := ((byt w j : Nat) : Int)) (by omega) (by omega)]
    refine sb_chr hA rfl hb (by rw [List.length_append]; omega) hc (by omega) h2 (fun B cap' ks' b1 b2 b3 b4 b5 => ?_)
    rw [show iI (j : Int) - 1 = iI ((j : Int) - 1) from iI_sub _ 1]
    refine ih B (Y ++ [byt w j]) cap' _ _ (by omega) (by rw [← List.append_assoc]; exact b1) ?_ (by rw [List.length_append]; simp; omega) b3 (fww (W := [ty]) hF b2) (by omega) (by omega)
    rw [← hY, List.append_assoc]
    rfl
theorem c_type {w : Int32} {n : Int} {kc ks : Nat} (hn : rng n) (h : Inv G A0 T sv S) (h1 : 4 ≤ kc) (h2 : 400 ≤ ks) (hQ : ∀ B T', Inv G B T' sv (a_type w n S).1 → Q (iI (a_type w n S).2) B) : wp_S_type sv w (iI n) A0 kc ks Q := by
  have hh := h
  obtain ⟨ca, sa, ty, sl, kl, dl, i1, i2, i3, i4, i5, i6, i7, i8, i9⟩ := h
  have i77 := i7
  obtain ⟨tt, x1, x2, cap, x3, x4⟩ := i77
  obtain ⟨n1, n2⟩ := hn
  unfold a_type at hQ
  have no : ¬ (1 ≤ n ∧ n ≤ 4 ∧ S.2.2.2.2.1.length + n ≤ 40 ∧ pln (bts w n.toNat) = true) → Q (iI 0) A0 := fun z => by
    rw [if_neg z] at hQ
    exact hQ A0 T hh
  unfold wp_S_type
  by_cases q1 : n < 1
  · rw [if_pos (by simp (disch := omega) only [iI_lit, iI_add, iI_sub, iI_mul, iI_neg, iI_lt, iI_le, iI_eq] <;> omega)]
    exact no (by omega)
  rw [if_neg (by simp (disch := omega) only [iI_lit, iI_add, iI_sub, iI_mul, iI_neg, iI_lt, iI_le, iI_eq] <;> omega)]
  by_cases q2 : 4 < n
  · rw [if_pos (by simp (disch := omega) only [iI_lit, iI_add, iI_sub, iI_mul, iI_neg, iI_lt, iI_le, iI_eq] <;> omega)]
    exact no (by omega)
  rw [if_neg (by simp (disch := omega) only [iI_lit, iI_add, iI_sub, iI_mul, iI_neg, iI_lt, iI_le, iI_eq] <;> omega)]
  refine wgR.i (x := some ty) i3.1 rfl (sb_len x3 ?_)
  obtain ⟨m, rfl⟩ := Int.eq_ofNat_of_zero_le (show 0 ≤ n by omega)
  rw [show (m : Int).toNat = m from rfl] at *
  by_cases q3 : S.2.2.2.2.1.length + m ≤ 40
  · rw [if_pos (by simp (disch := omega) only [iI_lit, iI_add, iI_sub, iI_mul, iI_neg, iI_lt, iI_le, iI_eq] <;> omega)]
    have go : ∀ (j k : Nat), k + j = m → plo w k j = pln (bts w m) → wq_S_type_28 sv w (iI m) Q (j + 1) (iI k) A0 kc ks := by
      intro j
      induction j with
      | zero =>
        intro k hk hp
        show wb_S_type_28 _ _ _ _ _ _ _ _ _
        unfold wb_S_type_28
        rw [if_pos (by simp (disch := omega) only [iI_lit, iI_add, iI_sub, iI_mul, iI_neg, iI_lt, iI_le, iI_eq] <;> omega)]
        have hp : pln (bts w m) = true := hp.symm
        rw [if_pos ⟨by omega, by omega, by omega, hp⟩] at hQ
        unfold wq_S_type_52
        refine wL.i ?_
        rw [show iI (m : Int) - 1 = iI ((m : Int) - 1) from iI_sub _ 1]
        refine ⟨_, cl_type56 (n := m) q3 (by omega) i3.1 x3 (fun B cap' b1 b2 b3 => ?_) m A0 [] cap _ _ (Nat.le_refl _) (by rw [List.append_nil]; exact x3) rfl (by simp) x4 (Fw.rf _ _) (by omega) (by omega)⟩
        have hF : Tf A0 T B T [4] := Tf.w i1 b3 (fun w hw => Or.inr (by simp at hw; rw [hw]; exact ⟨by rw [tt]; simp, _, b1, rfl⟩))
        refine hQ B T ⟨ca, sa, ty, sl, kl, dl, hF.2.2, i2.tf hF (by decide) (by decide), ⟨hF.c i3.2 (by decide) i3.1, hF.t2 i1 i3.2 (by omega) (by decide)⟩, i4.tf hF i1 (by decide) (by decide) (fun i j1 j2 => by simp; omega), i5.tf hF i1 (by decide) (by decide), i6.tf hF i1 (by decide), ⟨tt, ?_, ?_, cap', b1, b2⟩, i8.tf hF i1 (by decide) (by decide), i9.tf hF i1 (by decide) (by decide) (fun i hi => by simp; omega)⟩
        · show (S.2.2.2.2.1 ++ bts w m).length ≤ 40
          have : ∀ k, (bts w k).length = k := fun k => by
            induction k with
            | zero => rfl
            | succ k ih => show (bts w k).length + 1 = k + 1; omega
          rw [List.length_append, this]
          omega
        · intro y hy
          rcases List.mem_append.mp hy with z | z
          · exact x2 y z
          · unfold pln at hp
            have := List.all_eq_true.mp hp y z
            exact of_decide_eq_true this
      | succ j ih =>
        intro k hk hp
        have hb := byt_r w k
        show wb_S_type_28 _ _ _ _ _ _ _ _ _
        unfold wb_S_type_28
        rw [if_neg (by simp (disch := omega) only [iI_lit, iI_add, iI_sub, iI_mul, iI_neg, iI_lt, iI_le, iI_eq] <;> omega)]
        unfold wp_S_byteOf
        rw [wu_b (k := k) (by omega)]
        refine c_isPlain (by omega) (by omega) ?_
        unfold plo at hp
        by_cases y : 32 ≤ byt w k ∧ byt w k ≤ 126
        · rw [decide_eq_true (show 32 ≤ ((byt w k : Nat) : Int) ∧ ((byt w k : Nat) : Int) ≤ 126 by omega), if_neg (by decide), show iI (k : Int) + 1 = iI ((k + 1 : Nat) : Int) from iI_add _ 1]
          rw [decide_eq_true y, Bool.true_and] at hp
          exact ih (k + 1) (by omega) hp
        · rw [decide_eq_false (show ¬ (32 ≤ ((byt w k : Nat) : Int) ∧ ((byt w k : Nat) : Int) ≤ 126) by omega), if_pos (by decide)]
          rw [decide_eq_false y, Bool.false_and] at hp
          exact no (fun z => by rw [← hp] at z; cases z.2.2.2)
    exact ⟨_, go m 0 (by omega) (plo_pln w m)⟩
  · rw [if_neg (by simp (disch := omega) only [iI_lit, iI_add, iI_sub, iI_mul, iI_neg, iI_lt, iI_le, iI_eq] <;> omega)]
    exact no (by omega)
theorem c_reset (h : Inv G A0 T sv S) (hQ : ∀ B T', Inv G B T' sv (a_zS S) → Q (iI S.2.1.length) B) : wp_S_reset sv A0 Q := by
  obtain ⟨ca, sa, ty, sl, kl, dl, i1, i2, i3, i4, i5, i6, i7, i8, i9⟩ := h
  obtain ⟨t5, qs, cap, k1, k2⟩ := i5
  obtain ⟨t6, f, s1, s2⟩ := i6
  unfold wp_S_reset
  refine wgR.i (x := some kl) i3.1 rfl (al_size k1 ?_)
  refine wgR.i (x := some kl) i3.1 rfl (al_clr k1 (fun A1 e1 f1 => ?_))
  rw [k2.1]
  have sv1 := f1.k i3.1 k1 (fun e => by cases e)
  have sa1 := f1.k s1 k1 (fun e => by cases e)
  have go : ∀ (j k : Nat) (B : ab_H) (g : Nat → Int32), k + j = 3 → B sv = some (oSv ca sa ty sl kl dl S.2.2.2.2.2.2.2 S.2.2.1) → B sa = some (oR (.inl (0, 3, .inl g))) → (∀ i, i < k → g i = iI 0) → Fw A1 B [sa] → wq_S_reset_17 sv Q (j + 1) (iI S.2.1.length) (iI k) B := by
    intro j
    induction j with
    | zero =>
      intro k B g hk hv hb hg hF
      show wb_S_reset_17 _ _ _ _ _ _
      unfold wb_S_reset_17
      rw [if_pos (by simp (disch := omega) only [iI_lit, iI_add, iI_sub, iI_mul, iI_neg, iI_lt, iI_le, iI_eq] <;> omega)]
      have bk := hF.k e1 sa1 (fun e => by cases e)
      have hF2 : Fw A0 B [kl, sa] := (f1.mo (by simp)).tr hF (fun x hx => Or.inl (by simp at hx ⊢; omega))
      have hT : Tf A0 T B T [6, 3] := Tf.w i1 hF2 (fun w hw => Or.inr (by
        simp only [List.mem_cons, List.not_mem_nil, or_false] at hw
        rcases hw with z | z
        · rw [z]; exact ⟨by rw [t5]; simp, _, bk, rfl⟩
        · rw [z]; exact ⟨by rw [t6]; simp, _, hb, rfl⟩))
      exact hQ B T ⟨ca, sa, ty, sl, kl, dl, hT.2.2, i2.tf hT (by decide) (by decide), ⟨hT.c i3.2 (by decide) i3.1, hT.t2 i1 i3.2 (by omega) (by decide)⟩, i4.tf hT i1 (by decide) (by decide) (fun i j1 j2 => by simp; omega), ⟨t5, [], cap, bk, rfl, by simp [a_zS], fun j q y h => by simp at h⟩, ⟨t6, g, hb, fun i hi => ⟨hg i (by omega), Nat.zero_le _⟩⟩, i7.tf hT i1 (by decide), i8.tf hT i1 (by decide) (by decide), i9.tf hT i1 (by decide) (by decide) (fun i hi => by simp; omega)⟩
    | succ j ih =>
      intro k B g hk hv hb hg hF
      show wb_S_reset_17 _ _ _ _ _ _
      unfold wb_S_reset_17
      rw [if_neg (by simp (disch := omega) only [iI_lit, iI_add, iI_sub, iI_mul, iI_neg, iI_lt, iI_le, iI_eq] <;> omega)]
      refine wgR.i (x := some sa) hv rfl (wSI.i hb (by omega) (by omega) (fun C c1 c2 => ?_))
      rw [show iI (k : Int) + 1 = iI ((k + 1 : Nat) : Int) from iI_add _ 1]
      refine ih (k + 1) C _ (by omega) (c2.k hv hb (fun e => by cases e)) c1 (fun i hi => ?_) (fww (W := [sa]) hF c2)
      by_cases e : i = k
      · rw [e, pk_us]
        rfl
      · rw [pk_un e]
        exact hg i (by omega)
  exact ⟨_, go 3 0 A1 f (by omega) sv1 sa1 (fun i hi => absurd hi (by omega)) (Fw.rf _ _)⟩
theorem mss_all (r : Rq) (L : List Mt) : mss r L = 0 ↔ L.all (fun m => hld r m) = true := by
  unfold mss
  rw [List.countP_eq_zero, List.all_eq_true]
  constructor
  · intro h x hx
    have := h x hx
    simpa using this
  · intro h x hx
    rw [h x hx]
    simp
theorem c_count (h : Inv G A0 T sv S) (hQ : ∀ B T', Inv G B T' sv (a_nS S) → Q (iI (a_cnt S)) B) : wp_S_count sv A0 Q := by
  obtain ⟨ca, sa, ty, sl, kl, dl, i1, i2, i3, i4, i5, i6, i7, i8, i9⟩ := h
  have i55 := i5
  have i88 := i8
  obtain ⟨t5, qs, cap, k1, k2⟩ := i55
  obtain ⟨t8, ds, cd, d1, d2⟩ := i88
  have hsa := i6.2
  have hl5 := k2.2.1
  have hl6 := k2.1
  have go : ∀ (j k c : Nat), k + j = qs.length → c ≤ k → c + (S.2.1.drop k).countP (fun y => S.2.2.2.2.2.1.all (fun m => hld (rqB y.1) m)) = a_cnt S → wq_S_count_4 sv Q (j + 1) (iI c) (iI k) A0 := by
    intro j
    induction j with
    | zero =>
      intro k c hk hck hc
      show wb_S_count_4 _ _ _ _ _ _
      unfold wb_S_count_4
      refine wgR.i (x := some kl) i3.1 rfl (al_size k1 ?_)
      rw [if_pos (by simp (disch := omega) only [iI_lit, iI_add, iI_sub, iI_mul, iI_neg, iI_lt, iI_le, iI_eq] <;> omega)]
      rw [List.drop_of_length_le (by omega), List.countP_nil, Nat.add_zero] at hc
      unfold wq_S_count_47
      refine wgR.i (x := some dl) i3.1 rfl (al_clr d1 (fun B b1 b2 => ?_))
      rw [hc]
      have hT : Tf A0 T B T [7] := Tf.w i1 b2 (fun w hw => Or.inr (by simp at hw; rw [hw]; exact ⟨by rw [t8]; simp, _, b1, rfl⟩))
      exact hQ B T ⟨ca, sa, ty, sl, kl, dl, hT.2.2, i2.tf hT (by decide) (by decide), ⟨hT.c i3.2 (by decide) i3.1, hT.t2 i1 i3.2 (by omega) (by decide)⟩, i4.tf hT i1 (by decide) (by decide) (fun i j1 j2 => by simp; omega), i5.tf hT i1 (by decide) (by decide), i6.tf hT i1 (by decide), i7.tf hT i1 (by decide), ⟨t8, [], cd, b1, rfl, by simp [a_nS], fun j q y h => by simp at h⟩, i9.tf hT i1 (by decide) (by decide) (fun i hi => by simp; omega)⟩
    | succ j ih =>
      intro k c hk hck hc
      have hkl : k < qs.length := by omega
      have hkl2 : k < S.2.1.length := by omega
      show wb_S_count_4 _ _ _ _ _ _
      unfold wb_S_count_4
      refine wgR.i (x := some kl) i3.1 rfl (al_size k1 ?_)
      rw [if_neg (by simp (disch := omega) only [iI_lit, iI_add, iI_sub, iI_mul, iI_neg, iI_lt, iI_le, iI_eq] <;> omega)]
      refine wgR.i (x := some dl) i3.1 rfl (wgR.i (x := some kl) i3.1 rfl (al_get k1 rfl hkl ?_))
      obtain ⟨hkr, hw⟩ := k2.2.2 k _ _ (ls_get hkl) (li_at ([], 0) hkl2)
      have hkr := hkr.f0 (Zf.le A0 T)
      have hk2 := hkr
      obtain ⟨pl, hl, mp, pp, bp, ys, cp, zs, cz, u1, -⟩ := hkr
      refine wC.i u1 (wC.i i3.1 (c_miss (y := none) (st := S.2.2.2.1) i3.1 rfl hsa d1 (d2.f0 (Zf.le A0 T)) rfl hk2 hw ?_))
      have hd : S.2.1.drop k = S.2.1.getD k ([], 0) :: S.2.1.drop (k + 1) := by
        rw [List.drop_eq_getElem_cons hkl2, List.getD_eq_getElem?_getD, List.getElem?_eq_getElem hkl2]
        rfl
      rw [hd, List.countP_cons] at hc
      have hm := miss_le (r := rqB (S.2.1.getD k ([], 0)).1) S.2.2.2.1 none d2.2.1
      rw [show scn S.2.2.2.1 none = 0 from rfl, Nat.zero_add] at hm ⊢
      rw [show iI (k : Int) + 1 = iI ((k + 1 : Nat) : Int) from iI_add _ 1]
      by_cases y : mss (rqB (S.2.1.getD k ([], 0)).1) S.2.2.2.2.2.1 = 0
      · rw [y, if_pos (by decide), show iI (c : Int) + 1 = iI ((c + 1 : Nat) : Int) from iI_add _ 1]
        rw [if_pos ((mss_all _ _).mp y)] at hc
        exact ih (k + 1) (c + 1) (by omega) (by omega) (by omega)
      · rw [if_neg (by simp (disch := omega) only [iI_lit, iI_add, iI_sub, iI_mul, iI_neg, iI_lt, iI_le, iI_eq] <;> omega)]
        rw [if_neg (fun z => y ((mss_all _ _).mpr z))] at hc
        exact ih (k + 1) c (by omega) (by omega) (by omega)
  exact ⟨_, go qs.length 0 0 (by omega) (by omega) (by rw [List.drop_zero, Nat.zero_add]; rfl)⟩
end TYP
