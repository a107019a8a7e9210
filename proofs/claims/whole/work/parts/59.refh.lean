/-! The reference: does a matcher hold? -/
abbrev Mt : Type := Nat × Nat × Int × List Nat
def f0 : Nat → Bool := fun i => decide (i = 0)
def hldV (wy : Nat) (W V : List Nat) : Bool := if wy = 4 then true else if wy = 3 then false else if wy = 2 then (match tks W.length W with
  | some L => fitk V L f0
  | none => false) else if wy = 1 then cont W V else decide (V = W)
def hld (r : Rq) (x : Mt) : Bool := match rqf r x.1 (x.2.2.2.take x.2.2.1.toNat) with
  | none => decide (x.2.1 = 3)
  | some V => hldV x.2.1 (x.2.2.2.drop (x.2.2.1 + 1).toNat) V
/-- a matcher as the rows hold it -/
def mwf (x : Mt) : Prop := x.1 ≤ 4 ∧ x.2.1 ≤ 4 ∧ (x.2.1 ≤ 2 → x.2.2.1 < x.2.2.2.length) ∧ (x.2.1 = 2 → (tks (x.2.2.2.drop (x.2.2.1 + 1).toNat).length (x.2.2.2.drop (x.2.2.1 + 1).toNat)).isSome = true)
def Mr (s : RS) (m : Nat) (x : Mt) : Prop := Tx s m x.2.2.1 x.2.2.2 ∧ s.2 11 m = iI x.1 ∧ s.2 12 m = iI x.2.1 ∧ mwf x
theorem Ch.mr {I R : List Nat} {s t : RS} {m : Nat} {x : Mt} (h : Ch I R s t) (hx : Mr s m x) (h1 : ∀ k ∈ [11, 12, 13, 14, 15], k ∉ R) : Mr t m x :=
  ⟨h.tx hx.1 (fun k hk => h1 k (by simp at hk ⊢; omega)), by rw [h.2 11 (h1 11 (by decide))]; exact hx.2.1, by rw [h.2 12 (h1 12 (by decide))]; exact hx.2.2.1, hx.2.2.2⟩
theorem cont_eq (W V : List Nat) : (cont W V = true ∧ V.length = W.length) ↔ V = W := by
  match V with
  | [] =>
    unfold cont
    rw [decide_eq_true_eq]
    exact ⟨fun h => h.1.symm, fun h => ⟨h.symm, by rw [← h]⟩⟩
  | v :: V =>
    unfold cont
    rw [Bool.or_eq_true, decide_eq_true_eq]
    refine ⟨fun h => ?_, fun h => ?_⟩
    · rcases h.1 with z | z
      · rw [List.take_of_length_le (by rw [h.2]; exact Nat.le_refl _)] at z
        exact z
      · rw [cont_short V (by have := h.2; rw [List.length_cons] at this; omega)] at z
        cases z
    · rw [h]
      exact ⟨Or.inl (List.take_of_length_le (Nat.le_refl _)), rfl⟩
section HO
variable {s0 : RS} {B : List Nat} {cl : Bool} {hs : List (Nat × Nat)} {bd : List Nat} {m : Nat} {Q : Int32 → RS → Prop}
theorem Mr.wy {s : RS} {x : Mt} (h : Mr s m x) {K : Int32 → Prop} (hK : K (iI x.2.1)) : vA s 12 (iI m) K := by
  have := h.1.1
  refine vA_i (by omega) (show (m : Int) < (36 : Nat) by omega) (by decide) ?_
  rw [show (m : Int).toNat = m from rfl, h.2.2.1]
  exact hK
theorem Mr.pt {s : RS} {x : Mt} (h : Mr s m x) {K : Int32 → Prop} (hK : K (iI x.1)) : vA s 11 (iI m) K := by
  have := h.1.1
  refine vA_i (by omega) (show (m : Int) < (36 : Nat) by omega) (by decide) ?_
  rw [show (m : Int).toNat = m from rfl, h.2.1]
  exact hK
theorem sm_holds56 {s : RS} {x : Mt} (hJ : Jd s B cl hs bd) (hG : Gd B hs bd) (hM : Mr s m x) (hS : So s (x.2.2.2.take x.2.2.1.toNat)) (hQ : ∀ s', Ch [38, 40] [37, 39] s s' → Q (iI (bI (hld (rqOf B hs bd) x))) s') : vq_M_holds_56 (iI m) Q s := by
  obtain ⟨pt, wy, nm, T⟩ := x
  obtain ⟨w1, w2, w3, w4⟩ := hM.2.2.2
  have hT := hM.1
  have t1 := hT.1
  have t2 := hT.2.1
  have t3 := hT.2.2.1
  unfold hld at hQ
  dsimp only at w1 w2 w3 w4 hT t2 t3 hS hQ
  have hW : (T.drop (nm + 1).toNat).length = T.length - (nm + 1).toNat := List.length_drop
  unfold vq_M_holds_56
  refine hM.pt ?_
  dsimp only
  refine sm_seekPart hJ hG (fun _ => hS) (by rw [List.length_take]; omega) w1 (fun z s' a => ?_) (fun V z l s' a b => ?_)
  · rw [z] at hQ
    have hM' := a.mr hM (by decide)
    have hc : Ch [38, 40] [37, 39] s s' := a.mo (by decide) (by decide)
    refine hM'.wy ?_
    dsimp only
    by_cases q : wy < 3
    · rw [if_pos (by simp (disch := omega) only [iI_lit, iI_add, iI_sub, iI_mul, iI_neg, iI_lt, iI_le, iI_eq] <;> omega), if_pos (by decide)]
      have := hQ s' hc
      rw [decide_eq_false (show ¬ wy = 3 by omega)] at this
      exact this
    · rw [if_neg (by simp (disch := omega) only [iI_lit, iI_add, iI_sub, iI_mul, iI_neg, iI_lt, iI_le, iI_eq] <;> omega)]
      refine hM'.wy ?_
      dsimp only
      by_cases q4 : wy = 4
      · rw [if_pos (by simp (disch := omega) only [iI_lit, iI_add, iI_sub, iI_mul, iI_neg, iI_lt, iI_le, iI_eq] <;> omega)]
        unfold vq_M_holds_93
        rw [if_neg (by decide)]
        have := hQ s' hc
        rw [decide_eq_false (show ¬ wy = 3 by omega)] at this
        exact this
      · rw [if_neg (by simp (disch := omega) only [iI_lit, iI_add, iI_sub, iI_mul, iI_neg, iI_lt, iI_le, iI_eq] <;> omega)]
        unfold vq_M_holds_93
        rw [if_pos (by decide)]
        have := hQ s' hc
        rw [decide_eq_true (show wy = 3 by omega)] at this
        exact this
  · rw [z] at hQ
    have hM' := a.mr hM (by decide)
    have hT' := hM'.1
    dsimp only at hT'
    have hc : Ch [38, 40] [37, 39] s s' := a.mo (by decide) (by decide)
    have hQ := hQ s' hc
    unfold hldV at hQ
    dsimp only at hQ
    refine hM'.wy ?_
    dsimp only
    by_cases q : wy < 3
    · rw [if_pos (by simp (disch := omega) only [iI_lit, iI_add, iI_sub, iI_mul, iI_neg, iI_lt, iI_le, iI_eq] <;> omega), if_neg (by decide)]
      rw [if_neg (show ¬ wy = 4 by omega), if_neg (show ¬ wy = 3 by omega)] at hQ
      refine hM'.wy ?_
      dsimp only
      by_cases q2 : wy = 2
      · rw [if_pos (by simp (disch := omega) only [iI_lit, iI_add, iI_sub, iI_mul, iI_neg, iI_lt, iI_le, iI_eq] <;> omega)]
        rw [if_pos q2] at hQ
        have w4 := w4 q2
        rw [hW] at hQ w4
        obtain ⟨L, hL⟩ := Option.isSome_iff_exists.mp w4
        rw [hL] at hQ
        exact sm_fits hT' b l hL ⟨bI_b _, hQ⟩
      · rw [if_neg (by simp (disch := omega) only [iI_lit, iI_add, iI_sub, iI_mul, iI_neg, iI_lt, iI_le, iI_eq] <;> omega)]
        rw [if_neg q2] at hQ
        have hn := w3 (by omega)
        refine sm_contains hT' hn b l ?_
        by_cases q1 : wy = 1
        · rw [if_pos q1] at hQ
          cases hd : cont (T.drop (nm + 1).toNat) V with
          | false =>
            rw [if_pos (by decide)]
            rw [hd] at hQ
            exact hQ
          | true =>
            rw [if_neg (by decide)]
            rw [hd] at hQ
            refine hM'.wy ?_
            dsimp only
            rw [if_pos (by simp (disch := omega) only [iI_lit, iI_add, iI_sub, iI_mul, iI_neg, iI_lt, iI_le, iI_eq] <;> omega)]
            exact hQ
        · rw [if_neg q1] at hQ
          have ce := cont_eq (T.drop (nm + 1).toNat) V
          cases hd : cont (T.drop (nm + 1).toNat) V with
          | false =>
            rw [if_pos (by decide)]
            rw [decide_eq_false (fun y => by rw [(ce.mpr y).1] at hd; cases hd)] at hQ
            exact hQ
          | true =>
            rw [if_neg (by decide)]
            refine hM'.wy ?_
            dsimp only
            rw [if_neg (by simp (disch := omega) only [iI_lit, iI_add, iI_sub, iI_mul, iI_neg, iI_lt, iI_le, iI_eq] <;> omega)]
            refine wL.i (hT'.len (hT'.nmd ?_))
            rw [b.1]
            rw [hd, hW] at ce
            by_cases y : V.length = T.length - (nm + 1).toNat
            · rw [if_pos (by simp (disch := omega) only [iI_lit, iI_add, iI_sub, iI_mul, iI_neg, iI_lt, iI_le, iI_eq] <;> omega)]
              rw [decide_eq_true (ce.mp ⟨rfl, y⟩)] at hQ
              exact hQ
            · rw [if_neg (by simp (disch := omega) only [iI_lit, iI_add, iI_sub, iI_mul, iI_neg, iI_lt, iI_le, iI_eq] <;> omega)]
              rw [decide_eq_false (fun v => y (ce.mpr v).2)] at hQ
              exact hQ
    · rw [if_neg (by simp (disch := omega) only [iI_lit, iI_add, iI_sub, iI_mul, iI_neg, iI_lt, iI_le, iI_eq] <;> omega)]
      refine hM'.wy ?_
      dsimp only
      by_cases q4 : wy = 4
      · rw [if_pos (by simp (disch := omega) only [iI_lit, iI_add, iI_sub, iI_mul, iI_neg, iI_lt, iI_le, iI_eq] <;> omega)]
        unfold vq_M_holds_93
        rw [if_pos (by decide)]
        rw [if_pos q4] at hQ
        exact hQ
      · rw [if_neg (by simp (disch := omega) only [iI_lit, iI_add, iI_sub, iI_mul, iI_neg, iI_lt, iI_le, iI_eq] <;> omega)]
        unfold vq_M_holds_93
        rw [if_neg (by decide)]
        rw [if_neg q4, if_pos (show wy = 3 by omega)] at hQ
        exact hQ
theorem sl_holds {x : Mt} {N : Nat} (hJ : Jd s0 B cl hs bd) (hG : Gd B hs bd) (hM : Mr s0 m x) (hN : N = x.2.2.1.toNat) (hQ : ∀ s', Ch [38, 40] [37, 39] s0 s' → Q (iI (bI (hld (rqOf B hs bd) x))) s') : ∀ (j k : Nat) (s : RS), k + j = N → Ch [38, 40] [37, 39] s0 s → s.1 38 = iI N → (∀ i, i < k → s.2 37 i = iI (x.2.2.2.getD i 0)) → vq_M_holds_25 (iI m) Q (j + 1) (iI k) s := by
  have t2 := hM.1.2.1
  have t3 := hM.1.2.2.1
  intro j
  induction j with
  | zero =>
    intro k s hk hC h38 hi
    show vb_M_holds_25 _ _ _ _ _
    unfold vb_M_holds_25
    refine wL.i ?_
    rw [h38, if_pos (by simp (disch := omega) only [iI_lit, iI_add, iI_sub, iI_mul, iI_neg, iI_lt, iI_le, iI_eq] <;> omega)]
    refine sm_holds56 (hC.jd hJ (by decide) (by decide)) hG (hC.mr hM (by decide)) ⟨?_, fun i h => ?_⟩ (fun s' a => hQ s' (hC.tr a))
    · rw [h38, List.length_take]
      congr 1
      omega
    · rw [List.length_take] at h
      have e : (x.2.2.2.take x.2.2.1.toNat).getD i 0 = x.2.2.2.getD i 0 := by
        simp [List.getD_eq_getElem?_getD, List.getElem?_take, show i < x.2.2.1.toNat by omega]
      rw [e]
      exact ⟨(hM.1.2.2.2.2.2 i (by omega)).1, hi i (by omega)⟩
  | succ j ih =>
    intro k s hk hC h38 hi
    have hM' := hC.mr hM (by decide)
    show vb_M_holds_25 _ _ _ _ _
    unfold vb_M_holds_25
    refine wL.i ?_
    rw [h38, if_neg (by simp (disch := omega) only [iI_lit, iI_add, iI_sub, iI_mul, iI_neg, iI_lt, iI_le, iI_eq] <;> omega)]
    refine hM'.1.txt (k := k) (by omega) (ix_40 m k) ?_
    refine vS_i (by omega) (show (k : Int) < (40 : Nat) by omega) (by decide) ?_
    rw [show (k : Int).toNat = k from rfl, show iI (k : Int) + 1 = iI ((k + 1 : Nat) : Int) from iI_add _ 1]
    refine ih (k + 1) _ (by omega) (hC.r (by decide)) h38 (fun i h => ?_)
    rw [sR_at]
    show upd (s.2 37) k _ i = _
    by_cases q : i = k
    · subst q
      rw [pk_us]
    · rw [pk_un q]
      exact hi i (by omega)
theorem sm_holds {x : Mt} (hJ : Jd s0 B cl hs bd) (hG : Gd B hs bd) (hM : Mr s0 m x) (hQ : ∀ s', Ch [38, 40] [37, 39] s0 s' → Q (iI (bI (hld (rqOf B hs bd) x))) s') : vp_M_holds (iI m) s0 Q := by
  have t2 := hM.1.2.1
  have t3 := hM.1.2.2.1
  have go : ∀ y, y = iI ((x.2.2.1.toNat : Nat) : Int) → vq_M_holds_20 (iI m) Q y s0 := fun y hy => by
    unfold vq_M_holds_20
    exact vP.i ⟨_, sl_holds hJ hG hM rfl hQ x.2.2.1.toNat 0 _ (by omega) ((Ch.rf s0).i (by decide)) (by rw [sI_at, hy]) (fun i hi => absurd hi (by omega))⟩
  unfold vp_M_holds
  refine hM.1.nmd ?_
  by_cases q : 0 ≤ x.2.2.1
  · rw [if_pos (by simp (disch := omega) only [iI_lit, iI_add, iI_sub, iI_mul, iI_neg, iI_lt, iI_le, iI_eq] <;> omega)]
    refine hM.1.nmd (go _ ?_)
    congr 1
    omega
  · rw [if_neg (by simp (disch := omega) only [iI_lit, iI_add, iI_sub, iI_mul, iI_neg, iI_lt, iI_le, iI_eq] <;> omega)]
    refine go _ ?_
    rw [show x.2.2.1.toNat = 0 by omega]
    rfl
end HO
