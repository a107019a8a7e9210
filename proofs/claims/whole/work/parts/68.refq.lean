/-! The reference: send, open, isOpen, size, at, type -/
def byt (w : Int32) (k : Nat) : Nat := w.toBitVec.toNat / 2 ^ (8 * k) % 256
theorem byt_r (w : Int32) (k : Nat) : byt w k < 256 := Nat.mod_lt _ (by decide)
theorem s31 : ∀ k : Fin 4, (((8 : Int32) * iI (k.val : Int)) &&& 31).toBitVec.smod 32 = BitVec.ofNat 32 (8 * k.val) := by decide
theorem b255 (i : Nat) : (255#32).getLsbD i = decide (i < 8) := by
  by_cases h : i < 32
  · have : ∀ j : Fin 32, (255#32).getLsbD j.val = decide (j.val < 8) := by decide
    exact this ⟨i, h⟩
  · rw [BitVec.getLsbD_of_ge _ _ (by omega)]
    simp
    omega
theorem and_b (w : BitVec 32) (k : Nat) : (w >>> (8 * k)) &&& 255#32 = (iI ((w.toNat / 2 ^ (8 * k) % 256 : Nat) : Int)).toBitVec := by
  apply BitVec.eq_of_toNat_eq
  rw [BitVec.toNat_and, BitVec.toNat_ushiftRight, show (255#32).toNat = 2^8 - 1 from rfl, Nat.and_two_pow_sub_one_eq_mod, Nat.shiftRight_eq_div_pow]
  unfold iI
  rw [Int32.toBitVec_ofInt]
  generalize w.toNat / 2 ^ (8 * k) = d
  rw [show (2 ^ 8 : Nat) = 256 from rfl]
  have : d % 256 < 256 := Nat.mod_lt _ (by decide)
  rw [BitVec.toNat_ofInt]
  omega
theorem shr_b {w : Int32} {k : Nat} (hk : k < 4) : ((w >>> (((8 : Int32) * iI k) &&& 31)) &&& (255 : Int32)) = iI (byt w k) := by
  apply Int32.toBitVec_inj.mp
  rw [Int32.toBitVec_and, Int32.toBitVec_shiftRight, s31 ⟨k, hk⟩, BitVec.sshiftRight_eq']
  show _ &&& 255#32 = _
  have h1 : (BitVec.sshiftRight w.toBitVec (BitVec.ofNat 32 (8 * k)).toNat &&& 255#32) = ((w.toBitVec >>> (8 * k)) &&& 255#32) := by
    apply BitVec.eq_of_getLsbD_eq
    intro i hi
    rw [BitVec.getLsbD_and, BitVec.getLsbD_and, b255, BitVec.getLsbD_sshiftRight, BitVec.getLsbD_ushiftRight, BitVec.toNat_ofNat, Nat.mod_eq_of_lt (by omega)]
    by_cases q : i < 8
    · simp [q, show 8 * k + i < 32 by omega, hi]
    · simp [q]
  rw [h1]
  exact and_b _ _
def bts (w : Int32) : Nat → List Nat
  | 0 => []
  | n + 1 => byt w n :: bts w n
def snl (c : Nat) : List Nat → St → Nat → St × Nat
  | [], S, r => (S, r)
  | b :: bs, S, r => if ((arr S c b).1 c).1 = true then (arr S c b, r + 1) else snl c bs (arr S c b) (r + 1)
def a_send (c : Int) (w : Int32) (n : Int) (S : St) : St × Int := if 0 ≤ c ∧ c ≤ 2 ∧ 1 ≤ n ∧ n ≤ 4 ∧ (S.1 c.toNat).1 = false then ((snl c.toNat (bts w n.toNat) S 0).1, ((snl c.toNat (bts w n.toNat) S 0).2 : Int)) else (S, -1)
def a_open (c : Int) (S : St) : St × Int := if 0 ≤ c ∧ c ≤ 2 then ((upC S.1 c.toNat (false, [], []), S.2), 1) else (S, 0)
def a_isOpen (c : Int) (S : St) : St × Int := (S, if 0 ≤ c ∧ c ≤ 2 ∧ (S.1 c.toNat).1 = false then 1 else 0)
def a_size (c : Int) (S : St) : St × Int := (S, if 0 ≤ c ∧ c ≤ 2 then ((S.1 c.toNat).2.2.length : Int) else 0)
def a_at (c i : Int) (S : St) : St × Int := (S, if 0 ≤ i ∧ i < (a_size c S).2 then ((S.1 c.toNat).2.2.getD i.toNat 0 : Int) else -1)
def pln (X : List Nat) : Bool := X.all (fun b => decide (32 ≤ b ∧ b ≤ 126))
def a_type (w : Int32) (n : Int) (S : St) : St × Int := if 1 ≤ n ∧ n ≤ 4 ∧ S.2.2.2.2.1.length + n ≤ 40 ∧ pln (bts w n.toNat) = true then ((S.1, S.2.1, S.2.2.1, S.2.2.2.1, S.2.2.2.2.1 ++ bts w n.toNat, S.2.2.2.2.2), 1) else (S, 0)
def rng (x : Int) : Prop := -2147483648 ≤ x ∧ x < 2147483648
theorem arr_sv (S : St) (c b : Nat) : (arr S c b).2.2.1 ≤ S.2.2.1 + 1 := by
  unfold arr
  split
  · exact Nat.le_succ _
  · split
    · unfold srv
      split <;> exact Nat.le_refl _
    · exact Nat.le_succ _
section SD
variable {s0 : RS} {S : St} {Q : Int32 → RS → Prop}
theorem sl_send {c : Nat} {w p2 : Int32} (hc : c < 3) : ∀ (j : Nat) (S : St) (r : Nat) (s : RS), j ≤ 4 → r + j ≤ 4 → Rl s S → S.2.2.1 + j < 9000 → (S.1 c).1 = false → (∀ s', Rl s' (snl c (bts w j) S r).1 → Q (iI (snl c (bts w j) S r).2) s') → vq_M_send_38 (iI c) w p2 Q (j + 1) (iI r) (iI ((j : Int) - 1)) s := by
  intro j
  induction j with
  | zero =>
    intro S r s h4 hr h h7 ho hQ
    show vb_M_send_38 _ _ _ _ _ _ _ _
    unfold vb_M_send_38
    rw [if_pos (by decide)]
    exact hQ s h
  | succ j ih =>
    intro S r s h4 hr h h7 ho hQ
    show vb_M_send_38 _ _ _ _ _ _ _ _
    unfold vb_M_send_38
    rw [show ((j + 1 : Nat) : Int) - 1 = (j : Int) by omega, if_neg (by simp (disch := omega) only [iI_lit, iI_add, iI_sub, iI_mul, iI_neg, iI_lt, iI_le, iI_eq] <;> omega)]
    refine vA_i (by omega) (show (c : Int) < (3 : Nat) by omega) (by decide) ?_
    rw [show (c : Int).toNat = c from rfl, (h.1 c hc).2.1, ho, if_pos (by decide), shr_b (k := j) (by omega)]
    have hs := arr_sv S c (byt w j)
    refine sm_arrive hc (byt_r w j) h (by omega) (fun s' h' => ?_)
    rw [show iI (r : Int) + 1 = iI ((r + 1 : Nat) : Int) from iI_add _ 1, show iI (j : Int) - 1 = iI ((j : Int) - 1) from iI_sub _ 1]
    unfold bts snl at hQ
    by_cases q : ((arr S c (byt w j)).1 c).1 = true
    · rw [if_pos q] at hQ
      show vb_M_send_38 _ _ _ _ _ _ _ _
      unfold vb_M_send_38
      by_cases z : iI ((j : Int) - 1) < 0
      · rw [if_pos z]
        exact hQ s' h'
      · rw [if_neg z]
        refine vA_i (by omega) (show (c : Int) < (3 : Nat) by omega) (by decide) ?_
        rw [show (c : Int).toNat = c from rfl, (h'.1 c hc).2.1, q, if_neg (by decide)]
        exact hQ s' h'
    · rw [if_neg q] at hQ
      exact ih _ (r + 1) s' (by omega) (by omega) h' (by omega) (by simpa using q) hQ
theorem sm_send {c n : Int} {w : Int32} (hc : rng c) (hn : rng n) (h : Rl s0 S) (h7 : S.2.2.1 < 8900) (hQ : ∀ s', Rl s' (a_send c w n S).1 → Q (iI (a_send c w n S).2) s') : vp_M_send (iI c) w (iI n) s0 Q := by
  obtain ⟨c1, c2⟩ := hc
  obtain ⟨n1, n2⟩ := hn
  unfold vp_M_send
  unfold a_send at hQ
  by_cases q1 : c < 0
  · rw [if_pos (by simp (disch := omega) only [iI_lit, iI_add, iI_sub, iI_mul, iI_neg, iI_lt, iI_le, iI_eq] <;> omega)]
    rw [if_neg (by omega)] at hQ
    exact hQ s0 h
  rw [if_neg (by simp (disch := omega) only [iI_lit, iI_add, iI_sub, iI_mul, iI_neg, iI_lt, iI_le, iI_eq] <;> omega)]
  by_cases q2 : 2 < c
  · rw [if_pos (by simp (disch := omega) only [iI_lit, iI_add, iI_sub, iI_mul, iI_neg, iI_lt, iI_le, iI_eq] <;> omega)]
    rw [if_neg (by omega)] at hQ
    exact hQ s0 h
  rw [if_neg (by simp (disch := omega) only [iI_lit, iI_add, iI_sub, iI_mul, iI_neg, iI_lt, iI_le, iI_eq] <;> omega)]
  by_cases q3 : n < 1
  · rw [if_pos (by simp (disch := omega) only [iI_lit, iI_add, iI_sub, iI_mul, iI_neg, iI_lt, iI_le, iI_eq] <;> omega)]
    rw [if_neg (by omega)] at hQ
    exact hQ s0 h
  rw [if_neg (by simp (disch := omega) only [iI_lit, iI_add, iI_sub, iI_mul, iI_neg, iI_lt, iI_le, iI_eq] <;> omega)]
  by_cases q4 : 4 < n
  · rw [if_pos (by simp (disch := omega) only [iI_lit, iI_add, iI_sub, iI_mul, iI_neg, iI_lt, iI_le, iI_eq] <;> omega)]
    rw [if_neg (by omega)] at hQ
    exact hQ s0 h
  rw [if_neg (by simp (disch := omega) only [iI_lit, iI_add, iI_sub, iI_mul, iI_neg, iI_lt, iI_le, iI_eq] <;> omega)]
  obtain ⟨d, rfl⟩ : ∃ d : Nat, c = d := ⟨c.toNat, by omega⟩
  obtain ⟨m, rfl⟩ : ∃ m : Nat, n = m := ⟨n.toNat, by omega⟩
  refine vA_i (by omega) (show (d : Int) < (3 : Nat) by omega) (by decide) ?_
  rw [show (d : Int).toNat = d from rfl, (h.1 d (by omega)).2.1]
  rw [show (d : Int).toNat = d from rfl, show (m : Int).toNat = m from rfl] at hQ
  cases hd : (S.1 d).1 with
  | false =>
    rw [if_pos ⟨by omega, by omega, by omega, by omega, hd⟩] at hQ
    rw [if_pos (by decide)]
    refine wL.i ?_
    rw [show iI (m : Int) - 1 = iI ((m : Int) - 1) from iI_sub _ 1]
    exact ⟨_, sl_send (by omega) m S 0 s0 (by omega) (by omega) h (by omega) hd hQ⟩
  | true =>
    rw [if_neg (fun z => by rw [z.2.2.2.2] at hd; cases hd)] at hQ
    rw [if_neg (by decide)]
    exact hQ s0 h
theorem sm_open {c : Int} (hc : rng c) (h : Rl s0 S) (hQ : ∀ s', Rl s' (a_open c S).1 → Q (iI (a_open c S).2) s') : vp_M_open (iI c) s0 Q := by
  obtain ⟨c1, c2⟩ := hc
  unfold vp_M_open
  unfold a_open at hQ
  by_cases q1 : c < 0
  · rw [if_pos (by simp (disch := omega) only [iI_lit, iI_add, iI_sub, iI_mul, iI_neg, iI_lt, iI_le, iI_eq] <;> omega)]
    rw [if_neg (by omega)] at hQ
    exact hQ s0 h
  rw [if_neg (by simp (disch := omega) only [iI_lit, iI_add, iI_sub, iI_mul, iI_neg, iI_lt, iI_le, iI_eq] <;> omega)]
  by_cases q2 : c ≤ 2
  · rw [if_pos (by simp (disch := omega) only [iI_lit, iI_add, iI_sub, iI_mul, iI_neg, iI_lt, iI_le, iI_eq] <;> omega)]
    rw [if_pos (by omega)] at hQ
    obtain ⟨d, rfl⟩ : ∃ d : Nat, c = d := ⟨c.toNat, by omega⟩
    rw [show (d : Int).toNat = d from rfl] at hQ
    refine ⟨Or.inl rfl, ?_⟩
    refine vS_i (by omega) (show (d : Int) < (3 : Nat) by omega) (by decide) ?_
    refine vS_i (by omega) (show (d : Int) < (8 : Nat) by omega) (by decide) ?_
    refine vS_i (by omega) (show (d : Int) < (3 : Nat) by omega) (by decide) ?_
    rw [show (d : Int).toNat = d from rfl]
    have hC : Ch [] [1, 2, 4] s0 (sR (sR (sR s0 2 d 0) 1 d 0) 4 d 0) := (((Ch.rf s0).r (by decide)).r (by decide)).r (by decide)
    have e1 : ∀ x, (sR (sR (sR s0 2 d 0) 1 d 0) 4 d 0).2 1 x = upd (s0.2 1) d 0 x := fun x => by rw [sR_ne (by decide), sR_at, sR_ne (by decide)]
    have e2 : ∀ x, (sR (sR (sR s0 2 d 0) 1 d 0) 4 d 0).2 2 x = upd (s0.2 2) d 0 x := fun x => by rw [sR_ne (by decide), sR_ne (by decide), sR_at]
    have e4 : ∀ x, (sR (sR (sR s0 2 d 0) 1 d 0) 4 d 0).2 4 x = upd (s0.2 4) d 0 x := fun x => by rw [sR_at, sR_ne (by decide), sR_ne (by decide)]
    generalize sR (sR (sR s0 2 d 0) 1 d 0) 4 d 0 = t at *
    obtain ⟨h1, h2, h3, h4, h5⟩ := h
    refine hQ t ⟨fun x hx => ?_, ⟨⟨h2.1.1, by rw [hC.1 5 (by decide)]; exact h2.1.2.1, fun q y hy => ?_⟩, h2.2⟩, by rw [hC.1 7 (by decide)]; exact h3, hC.sc h4 (by decide), hC.rt h5 (by decide) (by decide)⟩
    · unfold upC
      dsimp only
      by_cases q : x = d
      · subst q
        rw [if_pos rfl]
        exact ⟨⟨by omega, by simp, by rw [e1, pk_us]; rfl, fun j hj => absurd hj (by simp)⟩, by rw [e2, pk_us]; rfl, ⟨by simp, by rw [e4, pk_us]; rfl, fun j hj => absurd hj (by simp)⟩, show (jd []).1 = 0 by decide⟩
      · rw [if_neg q]
        have := h1 x hx
        exact ⟨⟨this.1.1, this.1.2.1, by rw [e1, pk_un q]; exact this.1.2.2.1, fun j hj => by rw [hC.2 0 (by decide)]; exact this.1.2.2.2 j hj⟩, by rw [e2, pk_un q]; exact this.2.1, ⟨this.2.2.1.1, by rw [e4, pk_un q]; exact this.2.2.1.2.1, fun j hj => by rw [hC.2 3 (by decide)]; exact this.2.2.1.2.2 j hj⟩, this.2.2.2⟩
    · have := h2.1.2.2 q y hy
      exact ⟨⟨this.1.1, this.1.2.1, by rw [e1, pk_un (by omega)]; exact this.1.2.2.1, fun j hj => by rw [hC.2 0 (by decide)]; exact this.1.2.2.2 j hj⟩, by rw [hC.2 6 (by decide)]; exact this.2⟩
  · rw [if_neg (by simp (disch := omega) only [iI_lit, iI_add, iI_sub, iI_mul, iI_neg, iI_lt, iI_le, iI_eq] <;> omega)]
    rw [if_neg (by omega)] at hQ
    exact hQ s0 h
theorem sm_isOpen {c : Int} (hc : rng c) (h : Rl s0 S) (hQ : ∀ s', Rl s' (a_isOpen c S).1 → Q (iI (a_isOpen c S).2) s') : vp_M_isOpen (iI c) s0 Q := by
  obtain ⟨c1, c2⟩ := hc
  unfold vp_M_isOpen
  unfold a_isOpen at hQ
  have hQ := hQ s0 h
  dsimp only at hQ
  by_cases q1 : c < 0
  · rw [if_pos (by simp (disch := omega) only [iI_lit, iI_add, iI_sub, iI_mul, iI_neg, iI_lt, iI_le, iI_eq] <;> omega)]
    rw [if_neg (by omega)] at hQ
    exact hQ
  rw [if_neg (by simp (disch := omega) only [iI_lit, iI_add, iI_sub, iI_mul, iI_neg, iI_lt, iI_le, iI_eq] <;> omega)]
  by_cases q2 : 2 < c
  · rw [if_pos (by simp (disch := omega) only [iI_lit, iI_add, iI_sub, iI_mul, iI_neg, iI_lt, iI_le, iI_eq] <;> omega)]
    rw [if_neg (by omega)] at hQ
    exact hQ
  rw [if_neg (by simp (disch := omega) only [iI_lit, iI_add, iI_sub, iI_mul, iI_neg, iI_lt, iI_le, iI_eq] <;> omega)]
  obtain ⟨d, rfl⟩ : ∃ d : Nat, c = d := ⟨c.toNat, by omega⟩
  refine vA_i (by omega) (show (d : Int) < (3 : Nat) by omega) (by decide) ?_
  rw [show (d : Int).toNat = d from rfl, (h.1 d (by omega)).2.1]
  rw [show (d : Int).toNat = d from rfl] at hQ
  cases hd : (S.1 d).1 with
  | false =>
    rw [if_pos ⟨by omega, by omega, hd⟩] at hQ
    rw [if_pos (by decide)]
    exact hQ
  | true =>
    rw [if_neg (fun z => by rw [z.2.2] at hd; cases hd)] at hQ
    rw [if_neg (by decide)]
    exact hQ
theorem sm_size0 {c : Int} (hc : rng c) (h : Rl s0 S) (hQ : Q (iI (a_size c S).2) s0) : vp_M_size (iI c) s0 Q := by
  obtain ⟨c1, c2⟩ := hc
  unfold vp_M_size
  unfold a_size at hQ
  dsimp only at hQ
  by_cases q1 : c < 0
  · rw [if_pos (by simp (disch := omega) only [iI_lit, iI_add, iI_sub, iI_mul, iI_neg, iI_lt, iI_le, iI_eq] <;> omega)]
    rw [if_neg (by omega)] at hQ
    exact hQ
  rw [if_neg (by simp (disch := omega) only [iI_lit, iI_add, iI_sub, iI_mul, iI_neg, iI_lt, iI_le, iI_eq] <;> omega)]
  by_cases q2 : c ≤ 2
  · rw [if_pos (by simp (disch := omega) only [iI_lit, iI_add, iI_sub, iI_mul, iI_neg, iI_lt, iI_le, iI_eq] <;> omega)]
    rw [if_pos (by omega)] at hQ
    obtain ⟨d, rfl⟩ : ∃ d : Nat, c = d := ⟨c.toNat, by omega⟩
    refine vA_i (by omega) (show (d : Int) < (3 : Nat) by omega) (by decide) ?_
    rw [show (d : Int).toNat = d from rfl, (h.1 d (by omega)).2.2.1.2.1]
    exact hQ
  · rw [if_neg (by simp (disch := omega) only [iI_lit, iI_add, iI_sub, iI_mul, iI_neg, iI_lt, iI_le, iI_eq] <;> omega)]
    rw [if_neg (by omega)] at hQ
    exact hQ
theorem sm_size {c : Int} (hc : rng c) (h : Rl s0 S) (hQ : ∀ s', Rl s' (a_size c S).1 → Q (iI (a_size c S).2) s') : vp_M_size (iI c) s0 Q := sm_size0 hc h (hQ s0 h)
theorem sm_at {c i : Int} (hc : rng c) (hi : rng i) (h : Rl s0 S) (hQ : ∀ s', Rl s' (a_at c i S).1 → Q (iI (a_at c i S).2) s') : vp_M_at (iI c) (iI i) s0 Q := by
  have hQ := hQ s0 h
  unfold a_at at hQ
  dsimp only at hQ
  obtain ⟨i1, i2⟩ := hi
  have hsz : 0 ≤ (a_size c S).2 ∧ (a_size c S).2 ≤ 80 ∧ (0 < (a_size c S).2 → 0 ≤ c ∧ c ≤ 2 ∧ (a_size c S).2 = ((S.1 c.toNat).2.2.length : Int)) := by
    unfold a_size
    dsimp only
    by_cases q : 0 ≤ c ∧ c ≤ 2
    · rw [if_pos q]
      have := (h.1 c.toNat (by omega)).2.2.1.1
      omega
    · rw [if_neg q]
      omega
  unfold vp_M_at
  by_cases q1 : i < 0
  · rw [if_pos (by simp (disch := omega) only [iI_lit, iI_add, iI_sub, iI_mul, iI_neg, iI_lt, iI_le, iI_eq] <;> omega)]
    rw [if_neg (by omega)] at hQ
    exact hQ
  rw [if_neg (by simp (disch := omega) only [iI_lit, iI_add, iI_sub, iI_mul, iI_neg, iI_lt, iI_le, iI_eq] <;> omega)]
  refine sm_size0 hc h ?_
  by_cases q2 : i < (a_size c S).2
  · rw [if_pos (by simp (disch := omega) only [iI_lit, iI_add, iI_sub, iI_mul, iI_neg, iI_lt, iI_le, iI_eq] <;> omega)]
    rw [if_pos (by omega)] at hQ
    obtain ⟨z1, z2, z3⟩ := hsz.2.2 (by omega)
    obtain ⟨d, rfl⟩ : ∃ d : Nat, c = d := ⟨c.toNat, by omega⟩
    obtain ⟨m, rfl⟩ : ∃ m : Nat, i = m := ⟨i.toNat, by omega⟩
    rw [show (d : Int).toNat = d from rfl] at z3 hQ
    rw [show (80 : Int32) * iI d + iI m = iI ((80 * d + m : Nat) : Int) from by rw [show (80 : Int32) = iI 80 from rfl, iI_mul, iI_add]; congr 1]
    refine vA_i (by omega) (show ((80 * d + m : Nat) : Int) < (240 : Nat) by omega) (by decide) ?_
    rw [show ((80 * d + m : Nat) : Int).toNat = 80 * d + m from rfl, ((h.1 d (by omega)).2.2.1.2.2 m (by omega)).2]
    exact hQ
  · rw [if_neg (by simp (disch := omega) only [iI_lit, iI_add, iI_sub, iI_mul, iI_neg, iI_lt, iI_le, iI_eq] <;> omega)]
    rw [if_neg (by omega)] at hQ
    exact hQ
theorem pln_snoc (w : Int32) (n : Nat) : pln (bts w (n + 1)) = (decide (32 ≤ byt w n ∧ byt w n ≤ 126) && pln (bts w n)) := rfl
theorem bts_len (w : Int32) : ∀ n, (bts w n).length = n
  | 0 => rfl
  | n + 1 => by
    unfold bts
    rw [List.length_cons, bts_len w n]
theorem sl_type0 {w : Int32} {n : Int32} {x k : Int32} {s : RS} (hQ : Q 0 s) : vq_M_type_26 w n Q 0 s := by
  refine ⟨1, ?_⟩
  have h84 : vq_M_type_84 w n Q 0 s := by
    refine wL.i ⟨1, ?_⟩
    show vb_M_type_89 _ _ _ _ _ _ _
    unfold vb_M_type_89
    by_cases z : n - 1 < 0
    · rw [if_pos z]
      exact ⟨Or.inl rfl, hQ⟩
    · rw [if_neg z, if_pos rfl]
      exact ⟨Or.inl rfl, hQ⟩
  show vb_M_type_30 _ _ _ _ _ _ _
  unfold vb_M_type_30
  by_cases z : n ≤ 0
  · rw [if_pos z]
    exact h84
  · rw [if_neg z, if_pos rfl]
    exact h84
theorem sl_type89 {w p1 : Int32} {ty : List Nat} (hQ : ∀ s', Ch [10] [9] s0 s' → RT s' ty → Q 1 s') : ∀ (j : Nat) (s : RS) (X : List Nat), j ≤ 4 → Ch [10] [9] s0 s → RT s X → X ++ bts w j = ty → ty.length ≤ 40 → pln (bts w j) = true → vq_M_type_89 w p1 Q (j + 1) 1 (iI ((j : Int) - 1)) s := by
  intro j
  induction j with
  | zero =>
    intro s X h4 hC hX he hl hp
    show vb_M_type_89 _ _ _ _ _ _ _
    unfold vb_M_type_89
    rw [if_pos (by decide)]
    rw [show bts w 0 = [] from rfl, List.append_nil] at he
    exact ⟨Or.inr rfl, hQ s hC (he ▸ hX)⟩
  | succ j ih =>
    intro s X h4 hC hX he hl hp
    rw [pln_snoc, Bool.and_eq_true, decide_eq_true_eq] at hp
    show vb_M_type_89 _ _ _ _ _ _ _
    unfold vb_M_type_89
    rw [show ((j + 1 : Nat) : Int) - 1 = (j : Int) by omega, if_neg (by simp (disch := omega) only [iI_lit, iI_add, iI_sub, iI_mul, iI_neg, iI_lt, iI_le, iI_eq] <;> omega), if_neg (by decide)]
    refine wL.i ?_
    have hl2 := hl
    rw [← he, List.length_append, bts_len] at hl2
    rw [hX.2.1, shr_b (k := j) (by omega)]
    refine vS_i (by omega) (show (X.length : Int) < (40 : Nat) by omega) (by decide) (wL.i (vP.i ?_))
    rw [show (X.length : Int).toNat = X.length from rfl, sR_1, hX.2.1, show iI (X.length : Int) + 1 = iI ((X.length + 1 : Nat) : Int) from iI_add _ 1, show iI (j : Int) - 1 = iI ((j : Int) - 1) from iI_sub _ 1]
    refine ih _ (X ++ [byt w j]) (by omega) ((hC.r (by decide)).i (by decide)) ⟨by rw [List.length_append]; simp; omega, by rw [List.length_append]; exact sI_at, fun i hi => ?_⟩ (by rw [List.append_assoc]; exact he) hl hp.2
    rw [List.length_append] at hi
    have hi : i < X.length + 1 := hi
    rw [sI_2, sR_at]
    show _ ∧ upd (s.2 9) X.length (iI (byt w j)) i = _
    by_cases q : i = X.length
    · subst q
      rw [ls_snoc_at, pk_us]
      exact ⟨hp.1, rfl⟩
    · rw [pk_un q, ls_snoc_lt (by omega)]
      exact hX.2.2 i (by omega)
/-- the lowest bytes first -/
def plo (w : Int32) (k : Nat) : Nat → Bool
  | 0 => true
  | j + 1 => decide (32 ≤ byt w k ∧ byt w k ≤ 126) && plo w (k + 1) j
theorem plo_snoc (w : Int32) : ∀ (j k : Nat), plo w k (j + 1) = (plo w k j && decide (32 ≤ byt w (k + j) ∧ byt w (k + j) ≤ 126))
  | 0, k => by simp [plo]
  | j + 1, k => by
    have := plo_snoc w j (k + 1)
    unfold plo
    rw [this, Bool.and_assoc, show k + 1 + j = k + (j + 1) by omega]
theorem plo_pln (w : Int32) : ∀ n, plo w 0 n = pln (bts w n)
  | 0 => rfl
  | n + 1 => by
    rw [plo_snoc, plo_pln w n, pln_snoc, Nat.zero_add, Bool.and_comm]
theorem sl_type30 {w : Int32} {n : Nat} {s : RS} (hn : n ≤ 4) (h0 : pln (bts w n) = false → Q 0 s) (h1 : pln (bts w n) = true → vq_M_type_84 w (iI n) Q 1 s) : ∀ (j k : Nat), k + j = n → plo w k j = pln (bts w n) → vq_M_type_30 w (iI n) Q (j + 2) 1 (iI k) s := by
  intro j
  induction j with
  | zero =>
    intro k hk hp
    show vb_M_type_30 _ _ _ _ _ _ _
    unfold vb_M_type_30
    rw [if_pos (by simp (disch := omega) only [iI_lit, iI_add, iI_sub, iI_mul, iI_neg, iI_lt, iI_le, iI_eq] <;> omega)]
    exact h1 (hp ▸ rfl)
  | succ j ih =>
    intro k hk hp
    have hb := byt_r w k
    show vb_M_type_30 _ _ _ _ _ _ _
    unfold vb_M_type_30
    rw [if_neg (by simp (disch := omega) only [iI_lit, iI_add, iI_sub, iI_mul, iI_neg, iI_lt, iI_le, iI_eq] <;> omega), if_neg (by decide), shr_b (k := k) (by omega), show iI (k : Int) + 1 = iI ((k + 1 : Nat) : Int) from iI_add _ 1]
    have bad : ¬ (32 ≤ byt w k ∧ byt w k ≤ 126) → vq_M_type_30 w (iI n) Q (j + 2) 0 (iI ((k + 1 : Nat) : Int)) s := fun zz => by
      have h0 := h0 (by rw [← hp]; unfold plo; rw [decide_eq_false zz]; rfl)
      have h84 : vq_M_type_84 w (iI n) Q 0 s := by
        refine wL.i ⟨1, ?_⟩
        show vb_M_type_89 _ _ _ _ _ _ _
        unfold vb_M_type_89
        by_cases z : iI n - 1 < 0
        · rw [if_pos z]
          exact ⟨Or.inl rfl, h0⟩
        · rw [if_neg z, if_pos rfl]
          exact ⟨Or.inl rfl, h0⟩
      show vb_M_type_30 _ _ _ _ _ _ _
      unfold vb_M_type_30
      by_cases z : iI n ≤ iI ((k + 1 : Nat) : Int)
      · rw [if_pos z]
        exact h84
      · rw [if_neg z, if_pos rfl]
        exact h84
    by_cases q1 : byt w k < 32
    · rw [if_pos (by simp (disch := omega) only [iI_lit, iI_add, iI_sub, iI_mul, iI_neg, iI_lt, iI_le, iI_eq] <;> omega)]
      exact bad (by omega)
    rw [if_neg (by simp (disch := omega) only [iI_lit, iI_add, iI_sub, iI_mul, iI_neg, iI_lt, iI_le, iI_eq] <;> omega)]
    by_cases q2 : 126 < byt w k
    · rw [if_pos (by simp (disch := omega) only [iI_lit, iI_add, iI_sub, iI_mul, iI_neg, iI_lt, iI_le, iI_eq] <;> omega)]
      exact bad (by omega)
    rw [if_neg (by simp (disch := omega) only [iI_lit, iI_add, iI_sub, iI_mul, iI_neg, iI_lt, iI_le, iI_eq] <;> omega)]
    refine ih (k + 1) (by omega) ?_
    unfold plo at hp
    rw [decide_eq_true (by omega), Bool.true_and] at hp
    exact hp
theorem sm_type {w : Int32} {n : Int} (hn : rng n) (h : Rl s0 S) (hQ : ∀ s', Rl s' (a_type w n S).1 → Q (iI (a_type w n S).2) s') : vp_M_type w (iI n) s0 Q := by
  obtain ⟨n1, n2⟩ := hn
  have hT := h.2.2.2.2.1
  have hl := hT.1
  unfold vp_M_type
  unfold a_type at hQ
  by_cases q1 : n < 1
  · rw [if_pos (by simp (disch := omega) only [iI_lit, iI_add, iI_sub, iI_mul, iI_neg, iI_lt, iI_le, iI_eq] <;> omega)]
    rw [if_neg (by omega)] at hQ
    exact sl_type0 (x := 0) (k := 0) (hQ s0 h)
  rw [if_neg (by simp (disch := omega) only [iI_lit, iI_add, iI_sub, iI_mul, iI_neg, iI_lt, iI_le, iI_eq] <;> omega)]
  by_cases q2 : 4 < n
  · rw [if_pos (by simp (disch := omega) only [iI_lit, iI_add, iI_sub, iI_mul, iI_neg, iI_lt, iI_le, iI_eq] <;> omega)]
    rw [if_neg (by omega)] at hQ
    exact sl_type0 (x := 0) (k := 0) (hQ s0 h)
  rw [if_neg (by simp (disch := omega) only [iI_lit, iI_add, iI_sub, iI_mul, iI_neg, iI_lt, iI_le, iI_eq] <;> omega)]
  refine wL.i ?_
  rw [hT.2.1]
  obtain ⟨m, rfl⟩ : ∃ m : Nat, n = m := ⟨n.toNat, by omega⟩
  rw [show (m : Int).toNat = m from rfl] at hQ
  by_cases q3 : 40 < S.2.2.2.2.1.length + m
  · rw [if_pos (by simp (disch := omega) only [iI_lit, iI_add, iI_sub, iI_mul, iI_neg, iI_lt, iI_le, iI_eq] <;> omega)]
    rw [if_neg (by omega)] at hQ
    exact sl_type0 (x := 0) (k := 0) (hQ s0 h)
  rw [if_neg (by simp (disch := omega) only [iI_lit, iI_add, iI_sub, iI_mul, iI_neg, iI_lt, iI_le, iI_eq] <;> omega)]
  have hp := plo_pln w m
  refine ⟨_, sl_type30 (n := m) (by omega) (fun z => ?_) (fun z => ?_) m 0 (by omega) hp⟩
  · rw [if_neg (fun y => by rw [y.2.2.2] at z; cases z)] at hQ
    exact hQ s0 h
  · rw [if_pos ⟨by omega, by omega, by omega, z⟩] at hQ
    refine wL.i ?_
    rw [show iI (m : Int) - 1 = iI ((m : Int) - 1) from iI_sub _ 1]
    refine ⟨_, sl_type89 (s0 := s0) (ty := S.2.2.2.2.1 ++ bts w m) (fun s' hC hR => hQ s' ?_) m s0 _ (by omega) (Ch.rf _) hT rfl (by rw [List.length_append, bts_len]; omega) z⟩
    obtain ⟨h1, h2, h3, h4, h5⟩ := h
    refine ⟨fun c hc => hC.rc (h1 c hc) (by decide), ⟨hC.jo h2.1 (by decide) (by decide) (by decide) (by decide), h2.2⟩, by rw [hC.1 7 (by decide)]; exact h3, hC.sc h4 (by decide), hR, ?_⟩
    obtain ⟨-, b, ⟨PL, p1, p2⟩, d, e⟩ := h5
    exact ⟨⟨b.1, by rw [hC.1 16 (by decide)]; exact b.2.1, fun k x hx => hC.mr (b.2.2 k x hx) (by decide)⟩, ⟨PL, p1, hC.sbs p2 (by decide)⟩, by rw [hC.1 17 (by decide)]; exact d, e⟩
end SD
