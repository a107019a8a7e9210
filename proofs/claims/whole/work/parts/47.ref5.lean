/-! The reference's header lines: their values, their sizes -/
theorem Bf.kI {s : RS} {B : List Nat} {k : Nat} {v : Int32} (h : Bf s B) (h1 : k ≠ 27) (h2 : k ≠ 28) : Bf (sI s k v) B := by
  obtain ⟨bb, a1, a2, a3, a4⟩ := h
  exact ⟨bb, by simpa [sI, Ne.symm h1] using a1, by simpa [sI, Ne.symm h2] using a2, a3, a4⟩
theorem Bf.kR {s : RS} {B : List Nat} {k i : Nat} {v : Int32} (h : Bf s B) (h1 : k ≠ 0) : Bf (sR s k i v) B := by
  obtain ⟨bb, a1, a2, a3, a4⟩ := h
  exact ⟨bb, a1, a2, a3, fun j hj => by simpa [sR, Ne.symm h1] using a4 j hj⟩
theorem sI_sI (s : RS) (k : Nat) (x y : Int32) : sI (sI s k x) k y = sI s k y := by
  unfold sI
  congr 1
  funext j
  by_cases q : j = k <;> simp [q]
theorem sI_at {s : RS} {k : Nat} {x : Int32} : (sI s k x).1 k = x := if_pos rfl
theorem sI_ne {s : RS} {k j : Nat} {x : Int32} (h : j ≠ k) : (sI s k x).1 j = s.1 j := if_neg h
theorem sI_2 {s : RS} {k : Nat} {x : Int32} : (sI s k x).2 = s.2 := rfl
theorem sR_1 {s : RS} {k i : Nat} {x : Int32} : (sR s k i x).1 = s.1 := rfl
theorem sR_ne {s : RS} {k i j : Nat} {x : Int32} (h : j ≠ k) : (sR s k i x).2 j = s.2 j := if_neg h
theorem sR_at {s : RS} {k i : Nat} {x : Int32} : (sR s k i x).2 k = upd (s.2 k) i x := if_pos rfl
def rtr (Y : List Nat) : List Nat := (Y.reverse.dropWhile (· == 32)).reverse
theorem rtr_snoc (Y : List Nat) (b : Nat) : rtr (Y ++ [b]) = if b = 32 then rtr Y else Y ++ [b] := by
  unfold rtr
  rw [List.reverse_append, List.reverse_singleton, List.singleton_append, List.dropWhile_cons]
  by_cases q : b = 32
  · simp [q]
  · have : (b == 32) = false := by simpa using q
    simp [q, this]
theorem rtr_pre (Y : List Nat) : Y.take (rtr Y).length = rtr Y := by
  have h : rtr Y <+: Y := by
    unfold rtr
    have := List.dropWhile_suffix (l := Y.reverse) (· == 32)
    have h2 := List.reverse_prefix.mpr this
    rw [List.reverse_reverse] at h2
    exact h2
  exact (List.prefix_iff_eq_take.mp h).symm
theorem rtr_le (Y : List Nat) : (rtr Y).length ≤ Y.length := by
  have := congrArg List.length (rtr_pre Y)
  rw [List.length_take] at this
  omega
theorem trm_rtr (V : List Nat) : trm V = rtr (V.drop (spn V)) := by
  unfold trm rtr
  rw [← dw_spn V]
theorem sl_snoc {B : List Nat} {f t : Nat} (hft : f ≤ t) (ht : t < B.length) : sl B f (t + 1) = sl B f t ++ [B.getD t 0] := by
  rw [sl_app hft (Nat.le_succ t) ht, sl_cons (f := t) (by omega) (by omega), sl_nil (f := t + 1) (Nat.le_refl _)]
theorem sl_valueEnd {s : RS} {B : List Nat} {f t : Nat} {Q : Int32 → RS → Prop} (h : Bf s B) (hft : f ≤ t) (ht : t ≤ B.length) (hc : fi 58 (sl B f t) < t - f) : ∀ k, f + vat (sl B f t) + k ≤ t → Q (iI ((f + vat (sl B f t) + (rtr (sl B (f + vat (sl B f t)) (f + vat (sl B f t) + k))).length : Nat) : Int)) s → vq_M_valueEnd_2 (iI f) (iI t) Q (k + 1) (iI ((f + vat (sl B f t) + k : Nat) : Int)) s := by
  have hl := h.len
  intro k
  induction k with
  | zero =>
    intro hk hQ
    show vb_M_valueEnd_2 _ _ _ _ _ _
    unfold vb_M_valueEnd_2
    refine sm_valueAt h hft ht hc ?_
    rw [if_pos (by rw [iI_le (by omega) (by omega) (by omega) (by omega)]; omega)]
    rw [sl_nil (f := f + vat (sl B f t)) (t := f + vat (sl B f t) + 0) (by omega)] at hQ
    exact hQ
  | succ k ih =>
    intro hk hQ
    have hb := h.at (p := f + vat (sl B f t) + k) (by omega)
    have g := hb.2
    show vb_M_valueEnd_2 _ _ _ _ _ _
    unfold vb_M_valueEnd_2
    refine sm_valueAt h hft ht hc ?_
    rw [if_neg (by rw [iI_le (by omega) (by omega) (by omega) (by omega)]; omega)]
    rw [show iI ((f + vat (sl B f t) + (k + 1) : Nat) : Int) - 1 = iI ((f + vat (sl B f t) + k : Nat) : Int) from by rw [show (1 : Int32) = iI 1 from rfl, iI_sub]; congr 1; omega]
    refine sm_byteAt h (by omega) ?_
    rw [hb.1]
    rw [show f + vat (sl B f t) + (k + 1) = f + vat (sl B f t) + k + 1 by omega, sl_snoc (by omega) (by omega), rtr_snoc] at hQ
    by_cases q : B.getD (f + vat (sl B f t) + k) 0 = 32
    · rw [if_pos (by rw [q]; rfl)]
      rw [if_pos q] at hQ
      exact ih (by omega) hQ
    · rw [if_neg (by rw [show (32 : Int32) = iI 32 from rfl, iI_eq (by omega) (by omega) (by omega) (by omega)]; omega)]
      rw [if_neg q, List.length_append, sl_len (by omega) (by omega)] at hQ
      rw [show f + vat (sl B f t) + (k + 1) = f + vat (sl B f t) + (f + vat (sl B f t) + k - (f + vat (sl B f t)) + [B.getD (f + vat (sl B f t) + k) 0].length) by simp]
      exact hQ
theorem hvl_rtr {B : List Nat} {f t : Nat} : hvl (sl B f t) = rtr (sl B (f + vat (sl B f t)) t) := by
  unfold hvl
  rw [trm_rtr, sl_drop]
  have e : (sl B (f + (fi 58 (sl B f t) + 1)) t).drop (spn (sl B (f + (fi 58 (sl B f t) + 1)) t)) = sl B (f + vat (sl B f t)) t := by
    rw [sl_drop]
    unfold vat
    rw [sl_drop]
    congr 1
    omega
  rw [e]
theorem sm_valueEnd {s : RS} {B : List Nat} {f t : Nat} {Q : Int32 → RS → Prop} (h : Bf s B) (hft : f ≤ t) (ht : t ≤ B.length) (hc : fi 58 (sl B f t) < t - f) (hQ : Q (iI ((f + vat (sl B f t) + (hvl (sl B f t)).length : Nat) : Int)) s) : vp_M_valueEnd (iI f) (iI t) s Q := by
  have hv := vat_le (X := sl B f t) (by rw [sl_len hft ht]; exact hc)
  rw [sl_len hft ht] at hv
  refine ⟨t - (f + vat (sl B f t)) + 1, ?_⟩
  have := sl_valueEnd (Q := Q) h hft ht hc (t - (f + vat (sl B f t))) (by omega) (by rw [show f + vat (sl B f t) + (t - (f + vat (sl B f t))) = t by omega, ← hvl_rtr]; exact hQ)
  rw [show f + vat (sl B f t) + (t - (f + vat (sl B f t))) = t by omega] at this
  exact this
theorem hvl_sl {B : List Nat} {f t : Nat} (hft : f ≤ t) (ht : t ≤ B.length) (hc : fi 58 (sl B f t) < t - f) : f + vat (sl B f t) + (hvl (sl B f t)).length ≤ t ∧ sl B (f + vat (sl B f t)) (f + vat (sl B f t) + (hvl (sl B f t)).length) = hvl (sl B f t) := by
  have hv := vat_le (X := sl B f t) (by rw [sl_len hft ht]; exact hc)
  rw [sl_len hft ht] at hv
  have h1 := rtr_le (sl B (f + vat (sl B f t)) t)
  rw [← hvl_rtr, sl_len (by omega) ht] at h1
  refine ⟨by omega, ?_⟩
  rw [← sl_take (t := t) (by omega), hvl_rtr]
  exact rtr_pre _
/-! len -/
def anOK (W : List Nat) : Bool := decide (1 ≤ W.length ∧ W.length ≤ 3) && digAll W
theorem numv_snoc (W : List Nat) (c : Nat) : numv (W ++ [c]) = 10 * numv W + (c - 48) := by
  unfold numv
  rw [List.foldl_append]
  rfl
theorem digAll_snoc (W : List Nat) (c : Nat) : digAll (W ++ [c]) = (digAll W && decide (48 ≤ c ∧ c ≤ 57)) := by
  unfold digAll
  rw [List.all_append]
  simp
theorem numv_lt {W : List Nat} (h : digAll W = true) : numv W < 10 ^ W.length := by
  induction hn : W.length generalizing W with
  | zero =>
    have := List.length_eq_zero_iff.mp hn
    subst this
    decide
  | succ n ih =>
    obtain ⟨Y, c, rfl⟩ : ∃ Y c, W = Y ++ [c] := by
      have hne : W ≠ [] := fun q => by simp [q] at hn
      exact ⟨W.dropLast, W.getLast hne, (List.dropLast_concat_getLast hne).symm⟩
    rw [List.length_append] at hn
    rw [digAll_snoc, Bool.and_eq_true_iff] at h
    have := ih h.1 (by simpa using hn)
    have h2 := of_decide_eq_true h.2
    rw [numv_snoc]
    simp only [Nat.pow_succ]
    omega
theorem pw_1000 {n k : Nat} (h : n < 10 ^ k) (hk : k ≤ 3) : n < 1000 := by
  have h9 : 10 ^ k ≤ 10 ^ 3 := Nat.pow_le_pow_right (by decide) hk
  have e : (10 : Nat) ^ 3 = 1000 := by decide
  rw [e] at h9
  exact Nat.lt_of_lt_of_le h h9
theorem sl_announce0 {s : RS} {B : List Nat} {t : Nat} {p0 : Int32} {Q : Int32 → RS → Prop} (h : Bf s B) (ht : t ≤ B.length) (hQ : ∀ x, Q (iI 400) (sI s 35 x)) : ∀ k p x, p + k = t → vq_M_announce_28 p0 (iI t) Q (k + 1) (iI 0) (iI p) (sI s 35 x) := by
  have hl := h.len
  intro k
  induction k with
  | zero =>
    intro p x hk
    show vb_M_announce_28 _ _ _ _ _ _ _
    unfold vb_M_announce_28
    rw [if_pos (by rw [iI_le (by omega) (by omega) (by omega) (by omega)]; omega)]
    unfold vq_M_announce_101
    rw [if_pos (by decide)]
    exact hQ x
  | succ k ih =>
    intro p x hk
    show vb_M_announce_28 _ _ _ _ _ _ _
    unfold vb_M_announce_28
    rw [if_neg (by rw [iI_le (by omega) (by omega) (by omega) (by omega)]; omega), if_pos (by decide)]
    unfold vq_M_announce_64 vq_M_announce_65
    rw [if_pos (by decide)]
    unfold vq_M_announce_92 vP
    dsimp only
    rw [sI_sI, show iI (p : Int) + 1 = iI ((p + 1 : Nat) : Int) from iI_add p 1]
    exact ih (p + 1) _ (by omega)
theorem an_fin {s : RS} {n : Nat} {p0 p1 : Int32} {Q : Int32 → RS → Prop} (hn : n < 1000) (hq : Q (iI (if n ≤ 40 then 0 else 413)) (sI s 35 (iI n))) : vq_M_announce_101 p0 p1 Q (iI 1) (sI s 35 (iI n)) := by
  unfold vq_M_announce_101 wL
  rw [if_neg (by decide), sI_at]
  dsimp only
  by_cases q : n ≤ 40
  · rw [if_pos (by rw [show (40 : Int32) = iI 40 from rfl, iI_le (by omega) (by omega) (by omega) (by omega)]; omega)]
    rw [if_pos q] at hq
    exact hq
  · rw [if_neg (by rw [show (40 : Int32) = iI 40 from rfl, iI_le (by omega) (by omega) (by omega) (by omega)]; omega)]
    rw [if_neg q] at hq
    exact hq
theorem an_ar (n c : Nat) (hc : 48 ≤ c) : iI n * 10 + iI c - 48 = iI ((10 * n + (c - 48) : Nat) : Int) := by
  rw [show (10 : Int32) = iI 10 from rfl, show (48 : Int32) = iI 48 from rfl, iI_mul, iI_add, iI_sub]
  congr 1
  omega
theorem an_step {s : RS} {B : List Nat} {p n : Nat} {p0 p1 : Int32} {Q : Int32 → RS → Prop} {k28 : Int32 → Int32 → RS → Prop} (h : Bf s B) (hp : p < B.length) (h48 : 48 ≤ B.getD p 0) (hs : s.1 35 = iI n) (hk : k28 1 (iI ((p + 1 : Nat) : Int)) (sI s 35 (iI ((10 * n + (B.getD p 0 - 48) : Nat) : Int)))) : vq_M_announce_65 p0 p1 Q k28 (iI p) 1 s := by
  have hl := h.len
  have hb := h.at hp
  unfold vq_M_announce_65
  rw [if_neg (by decide)]
  refine wL.i (sm_byteAt h (by omega) ?_)
  rw [hb.1, hs, an_ar _ _ h48]
  unfold vq_M_announce_92
  refine vP.i ?_
  rw [show iI (p : Int) + 1 = iI ((p + 1 : Nat) : Int) from iI_add p 1]
  exact hk
theorem sl_announce1 {s : RS} {B : List Nat} {f t : Nat} {p0 : Int32} {Q : Int32 → RS → Prop} (h : Bf s B) (ht : t ≤ B.length) (hQ0 : digAll (sl B f t) = false → ∀ x, Q (iI 400) (sI s 35 x)) (hQ1 : digAll (sl B f t) = true → Q (iI (if numv (sl B f t) ≤ 40 then 0 else 413)) (sI s 35 (iI (numv (sl B f t))))) (h3 : t - f ≤ 3) : ∀ k p, f ≤ p → p + k = t → digAll (sl B f p) = true → vq_M_announce_28 p0 (iI t) Q (k + 1) (iI 1) (iI p) (sI s 35 (iI (numv (sl B f p)))) := by
  have hl := h.len
  intro k
  induction k with
  | zero =>
    intro p hfp hk hd
    show vb_M_announce_28 _ _ _ _ _ _ _
    unfold vb_M_announce_28
    rw [if_pos (by rw [iI_le (by omega) (by omega) (by omega) (by omega)]; omega)]
    have hpt : p = t := by omega
    subst hpt
    have hlt := numv_lt hd
    rw [sl_len hfp ht] at hlt
    exact an_fin (pw_1000 hlt h3) (hQ1 hd)
  | succ k ih =>
    intro p hfp hk hd
    have h' : Bf (sI s 35 (iI (numv (sl B f p)))) B := h.kI (by decide) (by decide)
    have hb := h'.at (p := p) (by omega)
    have g := hb.2
    have esn := sl_snoc (B := B) (f := f) (t := p) hfp (by omega)
    have bad : ¬ (48 ≤ B.getD p 0 ∧ B.getD p 0 ≤ 57) → digAll (sl B f t) = false := fun z => by
      rw [sl_app hfp (show p ≤ t by omega) ht, sl_cons (by omega) ht]
      unfold digAll
      rw [List.all_append, List.all_cons, decide_eq_false z]
      simp
    have toBad : ¬ (48 ≤ B.getD p 0 ∧ B.getD p 0 ≤ 57) → vq_M_announce_64 p0 (iI t) Q (vq_M_announce_28 p0 (iI t) Q (k + 1)) (iI p) (sI s 35 (iI (numv (sl B f p)))) := fun z => by
      unfold vq_M_announce_64 vq_M_announce_65
      rw [if_pos (by decide)]
      unfold vq_M_announce_92 vP
      dsimp only
      rw [sI_sI, show iI (p : Int) + 1 = iI ((p + 1 : Nat) : Int) from iI_add p 1]
      exact sl_announce0 h ht (hQ0 (bad z)) k (p + 1) _ (by omega)
    show vb_M_announce_28 _ _ _ _ _ _ _
    unfold vb_M_announce_28
    rw [if_neg (by rw [iI_le (by omega) (by omega) (by omega) (by omega)]; omega), if_neg (by decide)]
    refine sm_byteAt h' (by omega) ?_
    rw [hb.1]
    by_cases q1 : B.getD p 0 < 48
    · rw [if_pos (by rw [show (48 : Int32) = iI 48 from rfl, iI_lt (by omega) (by omega) (by omega) (by omega)]; omega)]
      exact toBad (by omega)
    · rw [if_neg (by rw [show (48 : Int32) = iI 48 from rfl, iI_lt (by omega) (by omega) (by omega) (by omega)]; omega)]
      refine sm_byteAt h' (by omega) ?_
      rw [hb.1]
      by_cases q2 : 57 < B.getD p 0
      · rw [if_pos (by rw [show (57 : Int32) = iI 57 from rfl, iI_lt (by omega) (by omega) (by omega) (by omega)]; omega)]
        exact toBad (by omega)
      · rw [if_neg (by rw [show (57 : Int32) = iI 57 from rfl, iI_lt (by omega) (by omega) (by omega) (by omega)]; omega)]
        refine an_step h' (by omega) (by omega) sI_at ?_
        rw [sI_sI, ← numv_snoc, ← esn]
        exact ih (p + 1) (by omega) (by omega) (by rw [esn, digAll_snoc, hd, decide_eq_true (show 48 ≤ B.getD p 0 ∧ B.getD p 0 ≤ 57 by omega)]; rfl)
theorem sm_announce {s : RS} {B : List Nat} {f t : Nat} {Q : Int32 → RS → Prop} (h : Bf s B) (hft : f ≤ t) (ht : t ≤ B.length) (hQ0 : anOK (sl B f t) = false → ∀ x, Q (iI 400) (sI s 35 x)) (hQ1 : anOK (sl B f t) = true → Q (iI (if numv (sl B f t) ≤ 40 then 0 else 413)) (sI s 35 (iI (numv (sl B f t))))) : vp_M_announce (iI f) (iI t) s Q := by
  have hl := h.len
  unfold anOK at hQ0 hQ1
  rw [sl_len hft ht] at hQ0 hQ1
  unfold vp_M_announce vP
  dsimp only
  rw [iI_sub]
  by_cases q : 1 ≤ t - f ∧ t - f ≤ 3
  · rw [decide_eq_true q, Bool.true_and] at hQ0 hQ1
    rw [if_neg (by rw [show (1 : Int32) = iI 1 from rfl, iI_lt (by omega) (by omega) (by omega) (by omega)]; omega), if_neg (by rw [show (3 : Int32) = iI 3 from rfl, iI_lt (by omega) (by omega) (by omega) (by omega)]; omega)]
    have := sl_announce1 (p0 := iI f) h ht hQ0 hQ1 q.2 (t - f) f (Nat.le_refl _) (by omega) (by rw [sl_nil (Nat.le_refl _)]; rfl)
    rw [sl_nil (Nat.le_refl _)] at this
    exact ⟨_, this⟩
  · rw [decide_eq_false q, Bool.false_and] at hQ0
    have z : vq_M_announce_23 (iI f) (iI t) Q (sI s 35 0) := ⟨_, sl_announce0 h ht (hQ0 rfl) (t - f) f 0 (by omega)⟩
    by_cases q1 : t - f < 1
    · rw [if_pos (by rw [show (1 : Int32) = iI 1 from rfl, iI_lt (by omega) (by omega) (by omega) (by omega)]; omega)]
      exact z
    · rw [if_neg (by rw [show (1 : Int32) = iI 1 from rfl, iI_lt (by omega) (by omega) (by omega) (by omega)]; omega), if_pos (by rw [show (3 : Int32) = iI 3 from rfl, iI_lt (by omega) (by omega) (by omega) (by omega)]; omega)]
      exact z
