/-! Patterns of the reference -/
theorem b63 : ∀ i : Fin 64, ((iI (i.val : Int)).toInt64 &&& 63).toBitVec.smod 64 = BitVec.ofNat 64 i.val := by decide
theorem wsr_b {x : Int64} {i : Nat} (hi : i < 64) : (wsr x (iI i)).toBitVec.getLsbD 0 = x.toBitVec.getLsbD i := by
  unfold wsr
  rw [Int64.toBitVec_shiftRight, b63 ⟨i, hi⟩]
  rw [BitVec.sshiftRight_eq', BitVec.getLsbD_sshiftRight]
  simp [Nat.mod_eq_of_lt (show i < 2^64 by omega), hi]
theorem wsl_b {i j : Nat} (hi : i < 64) (hj : j < 64) : (wsl 1 (iI i)).toBitVec.getLsbD j = decide (j = i) := by
  unfold wsl
  rw [Int64.toBitVec_shiftLeft, b63 ⟨i, hi⟩]
  rw [BitVec.shiftLeft_eq', BitVec.getLsbD_shiftLeft, show (1 : Int64).toBitVec = 1#64 from rfl, BitVec.getLsbD_one]
  rw [BitVec.toNat_ofNat, Nat.mod_eq_of_lt (show i < 2^64 by omega)]
  by_cases q : j = i
  · subst q
    simp [hj]
  · by_cases r : j < i
    · simp [r, q]
    · have : ¬ j - i = 0 := by omega
      simp [q, this]
theorem one_b (x : Int64) : x &&& 1 = 1 ↔ x.toBitVec.getLsbD 0 = true := by
  rw [← Int64.toBitVec_inj, Int64.toBitVec_and]
  show x.toBitVec &&& 1#64 = 1#64 ↔ _
  rw [BitVec.and_one_eq_setWidth_ofBool_getLsbD]
  cases x.toBitVec.getLsbD 0 <;> decide
theorem cmp_0 (x y : Int64) : lg_cmp x y = 0 ↔ x = y := by
  unfold lg_cmp
  by_cases q : x > y
  · rw [if_pos q]
    refine ⟨fun h => absurd h (by decide), fun h => ?_⟩
    subst h
    exact absurd q (by simp)
  · rw [if_neg q]
    by_cases r : x = y
    · rw [if_pos r]
      exact ⟨fun _ => r, fun _ => rfl⟩
    · rw [if_neg r]
      exact ⟨fun h => absurd h (by decide), fun h => absurd h r⟩
theorem bit_t {x : Int64} {i : Nat} (hi : i < 64) : lg_cmp (wsr x (iI i) &&& 1) 1 = 0 ↔ x.toBitVec.getLsbD i = true := by
  rw [cmp_0, one_b, wsr_b hi]
/-- the set that the bits are -/
def Bs (S : Int64) (f : Nat → Bool) : Prop := ∀ j, j < 64 → S.toBitVec.getLsbD j = f j
theorem Bs.z : Bs 0 (fun _ => false) := fun j hj => by simp
theorem Bs.o : Bs 1 (fun j => decide (j = 0)) := fun j hj => by
  rw [show (1 : Int64).toBitVec = 1#64 from rfl, BitVec.getLsbD_one]
  simp
theorem Bs.add {S : Int64} {f g : Nat → Bool} {i : Nat} (h : Bs S f) (hi : i < 64) (hg : ∀ j, g j = (f j || decide (j = i))) : Bs (S ||| wsl 1 (iI i)) g := fun j hj => by
  rw [Int64.toBitVec_or, BitVec.getLsbD_or, h j hj, wsl_b hi hj, hg]
/-- the text of a matcher -/
def Tx (s : RS) (m : Nat) (nm : Int) (T : List Nat) : Prop := m < 36 ∧ T.length ≤ 40 ∧ (-1 ≤ nm ∧ nm ≤ T.length) ∧ s.2 13 m = iI nm ∧ s.2 14 m = iI T.length ∧ ∀ j, j < T.length → T.getD j 0 < 256 ∧ s.2 15 (40 * m + j) = iI (T.getD j 0)
theorem Ch.tx {I R : List Nat} {s t : RS} {m : Nat} {nm : Int} {T : List Nat} (h : Ch I R s t) (hx : Tx s m nm T) (h1 : ∀ k ∈ [13, 14, 15], k ∉ R) : Tx t m nm T :=
  ⟨hx.1, hx.2.1, hx.2.2.1, by rw [h.2 13 (h1 13 (by decide))]; exact hx.2.2.2.1, by rw [h.2 14 (h1 14 (by decide))]; exact hx.2.2.2.2.1, fun j hj => by rw [h.2 15 (h1 15 (by decide))]; exact hx.2.2.2.2.2 j hj⟩
theorem bt_r2 {T : List Nat} {k : Nat} (h : ∀ j, j < T.length → T.getD j 0 < 256) : -1 ≤ bt T k ∧ bt T k < 256 := bt_r h k
section PT
variable {s : RS} {m : Nat} {nm : Int} {T X : List Nat}
theorem Tx.len (h : Tx s m nm T) {K : Int32 → Prop} (hK : K (iI T.length)) : vA s 14 (iI m) K := by
  have := h.1
  refine vA_i (by omega) (show (m : Int) < (36 : Nat) by omega) (by decide) ?_
  rw [show (m : Int).toNat = m from rfl, h.2.2.2.2.1]
  exact hK
theorem Tx.nmd (h : Tx s m nm T) {K : Int32 → Prop} (hK : K (iI nm)) : vA s 13 (iI m) K := by
  have := h.1
  refine vA_i (by omega) (show (m : Int) < (36 : Nat) by omega) (by decide) ?_
  rw [show (m : Int).toNat = m from rfl, h.2.2.2.1]
  exact hK
theorem Tx.rg (h : Tx s m nm T) (k : Nat) : -1 ≤ bt T k ∧ bt T k < 256 := bt_r (fun j hj => (h.2.2.2.2.2 j hj).1) k
theorem Tx.txt (h : Tx s m nm T) {k : Nat} (hk : k < T.length) {y : Int32} (hy : y = iI ((40 * m + k : Nat) : Int)) {K : Int32 → Prop} (hK : K (iI (T.getD k 0))) : vA s 15 y K := by
  have := h.1
  have := h.2.1
  subst hy
  refine vA_i (by omega) (show ((40 * m + k : Nat) : Int) < (1440 : Nat) by omega) (by decide) ?_
  rw [show (((40 * m + k : Nat) : Int)).toNat = 40 * m + k from rfl, (h.2.2.2.2.2 k hk).2]
  exact hK
theorem ix_40 (m k : Nat) : (40 : Int32) * iI m + iI k = iI ((40 * m + k : Nat) : Int) := by
  rw [show (40 : Int32) = iI 40 from rfl, iI_mul, iI_add]
  congr 1
theorem sm_letterOf {k : Nat} {Q : Int32 → RS → Prop} (h : Tx s m nm T) (hk : k < 1000) (hQ : Q (iI (bt T k)) s) : vp_M_letterOf (iI m) (iI k) s Q := by
  have h1 := h.1
  have h2 := h.2.1
  unfold vp_M_letterOf
  refine h.len ?_
  unfold bt at hQ
  by_cases q : k < T.length
  · rw [if_neg (by simp (disch := omega) only [iI_lit, iI_add, iI_sub, iI_mul, iI_neg, iI_lt, iI_le, iI_eq] <;> omega)]
    rw [if_pos q] at hQ
    exact h.txt q (ix_40 m k) hQ
  · rw [if_pos (by simp (disch := omega) only [iI_lit, iI_add, iI_sub, iI_mul, iI_neg, iI_lt, iI_le, iI_eq] <;> omega)]
    rw [if_neg q] at hQ
    exact hQ
theorem sm_letterIs {k : Nat} (x : Nat) {y : Int32} {F G : RS → Prop} (h : Tx s m nm T) (hk : k < 1000) (hx : x < 256) (hy : y = iI x) (ht : bt T k = x → F s) (hf : ¬ bt T k = x → G s) : vp_M_letterOf (iI m) (iI k) s (fun z s => if z = y then F s else G s) := by
  subst hy
  have r := h.rg k
  refine sm_letterOf h hk ?_
  by_cases q : bt T k = x
  · rw [if_pos (by rw [q])]
    exact ht q
  · rw [if_neg (by simp (disch := omega) only [iI_lit, iI_add, iI_sub, iI_mul, iI_neg, iI_lt, iI_le, iI_eq] <;> omega)]
    exact hf q
theorem bt_in {k x : Nat} (h : bt T k = (x : Int)) : k < T.length ∧ T.getD k 0 = x := by
  unfold bt at h
  by_cases q : k < T.length
  · rw [if_pos q] at h
    exact ⟨q, by omega⟩
  · rw [if_neg q] at h
    omega
theorem bt_at {k : Nat} (h : k < T.length) : bt T k = (T.getD k 0 : Int) := if_pos h
theorem bt_no {k : Nat} (h : ¬ k < T.length) : bt T k = -1 := if_neg h
/-- how far a set goes -/
def wd : List Nat → Nat
  | [] => 0
  | d :: Y => if d = 91 ∨ d = 93 then 0 else wd Y + 1
/-- the length of the piece that begins here, 0 if none does -/
def pe : List Nat → Nat
  | [] => 0
  | c :: Y => if c = 42 ∨ c = 63 ∨ c = 124 ∨ c = 93 then 0 else if c ≠ 91 then 1 else if 0 < wd Y ∧ bt Y (wd Y) = 93 then wd Y + 2 else 0
theorem pe_cons (c : Nat) (Y : List Nat) : pe (c :: Y) = if c = 42 ∨ c = 63 ∨ c = 124 ∨ c = 93 then 0 else if c ≠ 91 then 1 else if 0 < wd Y ∧ bt Y (wd Y) = 93 then wd Y + 2 else 0 := rfl
theorem wd_le : ∀ Y : List Nat, wd Y ≤ Y.length
  | [] => Nat.le_refl _
  | d :: Y => by
    have := wd_le Y
    unfold wd
    by_cases q : d = 91 ∨ d = 93
    · rw [if_pos q]; omega
    · rw [if_neg q, List.length_cons]; omega
theorem bt_drop (k j : Nat) : bt (T.drop k) j = bt T (k + j) := by
  unfold bt
  rw [List.length_drop]
  by_cases q : k + j < T.length
  · rw [if_pos q, if_pos (by omega)]
    simp [List.getD_eq_getElem?_getD]
  · rw [if_neg q, if_neg (by omega)]
theorem pe_le (Y : List Nat) : pe Y ≤ Y.length := by
  match Y with
  | [] => exact Nat.le_refl _
  | c :: Y =>
    rw [pe_cons, List.length_cons]
    (repeat' split)
    · omega
    · omega
    · rename_i h
      have := bt_in (x := 93) h.2
      omega
    · omega
theorem sl_pieceEnd {Q : Int32 → RS → Prop} {k : Nat} (h : Tx s m nm T) : ∀ j e, e + j = T.length → k < e → k < T.length → Q (iI (if k + 1 < e + wd (T.drop e) ∧ bt T (e + wd (T.drop e)) = 93 then ((e + wd (T.drop e) + 1 : Nat) : Int) else -1)) s → vq_M_pieceEnd_52 (iI m) (iI k) Q (j + 1) (iI e) s := by
  have h1 := h.1
  have h2 := h.2.1
  have fin : ∀ e, e ≤ T.length → k < e → k < T.length → Q (iI (if k + 1 < e ∧ bt T e = 93 then ((e + 1 : Nat) : Int) else -1)) s → vq_M_pieceEnd_93 (iI m) (iI k) Q (iI e) s := fun e he hk hk2 hq => by
    unfold vq_M_pieceEnd_93
    refine sm_letterIs 93 h (by omega) (by decide) rfl (fun q => ?_) (fun q => ?_)
    · by_cases z : k + 1 < e
      · rw [if_neg (by simp (disch := omega) only [iI_lit, iI_add, iI_sub, iI_mul, iI_neg, iI_lt, iI_le, iI_eq] <;> omega), show iI (e : Int) + 1 = iI ((e + 1 : Nat) : Int) from iI_add _ 1]
        rw [if_pos ⟨z, q⟩] at hq
        exact hq
      · rw [if_pos (by simp (disch := omega) only [iI_lit, iI_add, iI_sub, iI_mul, iI_neg, iI_lt, iI_le, iI_eq] <;> omega)]
        rw [if_neg (fun y => z y.1)] at hq
        exact hq
    · rw [if_neg (fun y => q y.2)] at hq
      exact hq
  intro j
  induction j with
  | zero =>
    intro e he hk hk2 hQ
    show vb_M_pieceEnd_52 _ _ _ _ _ _
    unfold vb_M_pieceEnd_52
    refine h.len ?_
    rw [if_pos (by simp (disch := omega) only [iI_lit, iI_add, iI_sub, iI_mul, iI_neg, iI_lt, iI_le, iI_eq] <;> omega)]
    rw [List.drop_of_length_le (by omega), show wd [] = 0 from rfl, Nat.add_zero] at hQ
    exact fin e (by omega) hk hk2 hQ
  | succ j ih =>
    intro e he hk hk2 hQ
    show vb_M_pieceEnd_52 _ _ _ _ _ _
    unfold vb_M_pieceEnd_52
    refine h.len ?_
    rw [if_neg (by simp (disch := omega) only [iI_lit, iI_add, iI_sub, iI_mul, iI_neg, iI_lt, iI_le, iI_eq] <;> omega)]
    rw [ls_drop (show e < T.length by omega)] at hQ
    unfold wd at hQ
    have hb := bt_at (T := T) (k := e) (by omega)
    refine sm_letterIs 91 h (by omega) (by decide) rfl (fun q => ?_) (fun q => ?_)
    · rw [if_pos (Or.inl (by omega)), Nat.add_zero] at hQ
      exact fin e (by omega) hk hk2 hQ
    · refine sm_letterIs 93 h (by omega) (by decide) rfl (fun q2 => ?_) (fun q2 => ?_)
      · rw [if_pos (Or.inr (by omega)), Nat.add_zero] at hQ
        exact fin e (by omega) hk hk2 hQ
      · rw [if_neg (show ¬ (T.getD e 0 = 91 ∨ T.getD e 0 = 93) by omega), show e + (wd (T.drop (e + 1)) + 1) = e + 1 + wd (T.drop (e + 1)) by omega] at hQ
        rw [show iI (e : Int) + 1 = iI ((e + 1 : Nat) : Int) from iI_add _ 1]
        exact ih (e + 1) (by omega) (by omega) hk2 hQ
theorem sm_pieceEnd {k : Nat} {Q : Int32 → RS → Prop} (h : Tx s m nm T) (hk : k < T.length) (hQ : Q (iI (if pe (T.drop k) = 0 then -1 else ((k + pe (T.drop k) : Nat) : Int))) s) : vp_M_pieceEnd (iI m) (iI k) s Q := by
  have h1 := h.1
  have h2 := h.2.1
  have hb := bt_at hk
  have hr := h.rg k
  unfold vp_M_pieceEnd
  refine sm_letterOf h (by omega) ?_
  rw [hb]
  rw [hb] at hr
  rw [ls_drop hk, pe_cons] at hQ
  generalize T.getD k 0 = c at *
  by_cases q1 : c = 42
  · rw [if_pos (by simp (disch := omega) only [iI_lit, iI_add, iI_sub, iI_mul, iI_neg, iI_lt, iI_le, iI_eq] <;> omega)]
    rw [if_pos (show (if c = 42 ∨ c = 63 ∨ c = 124 ∨ c = 93 then 0 else if c ≠ 91 then 1 else if 0 < wd (T.drop (k + 1)) ∧ bt (T.drop (k + 1)) (wd (T.drop (k + 1))) = 93 then wd (T.drop (k + 1)) + 2 else 0) = 0 from if_pos (by omega))] at hQ
    exact hQ
  rw [if_neg (by simp (disch := omega) only [iI_lit, iI_add, iI_sub, iI_mul, iI_neg, iI_lt, iI_le, iI_eq] <;> omega)]
  by_cases q2 : c = 63
  · rw [if_pos (by simp (disch := omega) only [iI_lit, iI_add, iI_sub, iI_mul, iI_neg, iI_lt, iI_le, iI_eq] <;> omega)]
    rw [if_pos (show (if c = 42 ∨ c = 63 ∨ c = 124 ∨ c = 93 then 0 else if c ≠ 91 then 1 else if 0 < wd (T.drop (k + 1)) ∧ bt (T.drop (k + 1)) (wd (T.drop (k + 1))) = 93 then wd (T.drop (k + 1)) + 2 else 0) = 0 from if_pos (by omega))] at hQ
    exact hQ
  rw [if_neg (by simp (disch := omega) only [iI_lit, iI_add, iI_sub, iI_mul, iI_neg, iI_lt, iI_le, iI_eq] <;> omega)]
  by_cases q3 : c = 124
  · rw [if_pos (by simp (disch := omega) only [iI_lit, iI_add, iI_sub, iI_mul, iI_neg, iI_lt, iI_le, iI_eq] <;> omega)]
    rw [if_pos (show (if c = 42 ∨ c = 63 ∨ c = 124 ∨ c = 93 then 0 else if c ≠ 91 then 1 else if 0 < wd (T.drop (k + 1)) ∧ bt (T.drop (k + 1)) (wd (T.drop (k + 1))) = 93 then wd (T.drop (k + 1)) + 2 else 0) = 0 from if_pos (by omega))] at hQ
    exact hQ
  rw [if_neg (by simp (disch := omega) only [iI_lit, iI_add, iI_sub, iI_mul, iI_neg, iI_lt, iI_le, iI_eq] <;> omega)]
  by_cases q4 : c = 93
  · rw [if_pos (by simp (disch := omega) only [iI_lit, iI_add, iI_sub, iI_mul, iI_neg, iI_lt, iI_le, iI_eq] <;> omega)]
    rw [if_pos (show (if c = 42 ∨ c = 63 ∨ c = 124 ∨ c = 93 then 0 else if c ≠ 91 then 1 else if 0 < wd (T.drop (k + 1)) ∧ bt (T.drop (k + 1)) (wd (T.drop (k + 1))) = 93 then wd (T.drop (k + 1)) + 2 else 0) = 0 from if_pos (by omega))] at hQ
    exact hQ
  rw [if_neg (by simp (disch := omega) only [iI_lit, iI_add, iI_sub, iI_mul, iI_neg, iI_lt, iI_le, iI_eq] <;> omega), if_pos (by simp (disch := omega) only [iI_lit, iI_add, iI_sub, iI_mul, iI_neg, iI_lt, iI_le, iI_eq] <;> omega)]
  rw [if_neg (show ¬ (c = 42 ∨ c = 63 ∨ c = 124 ∨ c = 93) by omega)] at hQ
  by_cases q5 : c = 91
  · rw [if_pos (by simp (disch := omega) only [iI_lit, iI_add, iI_sub, iI_mul, iI_neg, iI_lt, iI_le, iI_eq] <;> omega)]
    rw [if_neg (show ¬ c ≠ 91 by omega)] at hQ
    refine wL.i ?_
    rw [show iI (k : Int) + 1 = iI ((k + 1 : Nat) : Int) from iI_add _ 1]
    refine ⟨T.length - (k + 1) + 1, sl_pieceEnd h _ (k + 1) (by omega) (by omega) hk ?_⟩
    rw [bt_drop] at hQ
    by_cases z : 0 < wd (T.drop (k + 1)) ∧ bt T (k + 1 + wd (T.drop (k + 1))) = 93
    · rw [if_pos ⟨by omega, z.2⟩]
      rw [if_pos z, if_neg (by omega)] at hQ
      rw [show k + 1 + wd (T.drop (k + 1)) + 1 = k + (wd (T.drop (k + 1)) + 2) by omega]
      exact hQ
    · rw [if_neg (fun y => z ⟨by omega, y.2⟩)]
      rw [if_neg z, if_pos rfl] at hQ
      exact hQ
  · rw [if_neg (by simp (disch := omega) only [iI_lit, iI_add, iI_sub, iI_mul, iI_neg, iI_lt, iI_le, iI_eq] <;> omega), show iI (k : Int) + 1 = iI ((k + 1 : Nat) : Int) from iI_add _ 1]
    rw [if_pos q5, if_neg (by decide)] at hQ
    exact hQ
end PT
