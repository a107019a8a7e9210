/-! The reference answers, and keeps -/
def rsp (code : Nat) (M : List Nat) : List Nat := dc_l code ++ [32] ++ dc_l M.length ++ [10] ++ M
/-- an answer being written -/
def Wr (s0 s : RS) (c : Nat) (X : List Nat) : Prop := X.length ≤ 80 ∧ Ch [42] [3] s0 s ∧ (∀ j, j < X.length → X.getD j 0 < 256 ∧ s.2 3 (80 * c + j) = iI (X.getD j 0)) ∧ ∀ j, (j < 80 * c ∨ 80 * c + 80 ≤ j) → s.2 3 j = s0.2 3 j
theorem Wr.w {s0 s : RS} {c v : Nat} {X : List Nat} {y z : Int32} {K : RS → Prop} (h : Wr s0 s c X) (hc : c < 3) (hX : X.length < 80) (hy : y = iI ((80 * c + X.length : Nat) : Int)) (hz : z = iI v) (hv : v < 256) (hK : ∀ s', Wr s0 s' c (X ++ [v]) → s'.1 = s.1 → (∀ k, k ≠ 3 → s'.2 k = s.2 k) → K s') : vS s 3 y z K := by
  subst hy hz
  obtain ⟨h1, h2, h3, h4⟩ := h
  refine vS_i (by omega) (show ((80 * c + X.length : Nat) : Int) < (240 : Nat) by omega) (by decide) ?_
  rw [show ((80 * c + X.length : Nat) : Int).toNat = 80 * c + X.length from rfl]
  refine hK _ ⟨by rw [List.length_append]; simp; omega, h2.r (by decide), fun j hj => ?_, fun j hj => ?_⟩ rfl (fun k hk => sR_ne hk)
  · rw [List.length_append] at hj
    have hj : j < X.length + 1 := hj
    rw [sR_at]
    show _ ∧ upd (s.2 3) (80 * c + X.length) (iI v) (80 * c + j) = _
    by_cases q : j = X.length
    · subst q
      rw [ls_snoc_at, pk_us]
      exact ⟨hv, rfl⟩
    · rw [pk_un (show ¬ 80 * c + j = 80 * c + X.length by omega), ls_snoc_lt (by omega)]
      exact h3 j (by omega)
  · rw [sR_at]
    show upd (s.2 3) (80 * c + X.length) (iI v) j = _
    rw [pk_un (show ¬ j = 80 * c + X.length by omega)]
    exact h4 j hj
/-- an answer that stands -/
def Rp (s : RS) (c : Nat) (X : List Nat) : Prop := X.length ≤ 80 ∧ s.2 4 c = iI X.length ∧ ∀ j, j < X.length → X.getD j 0 < 256 ∧ s.2 3 (80 * c + j) = iI (X.getD j 0)
def RpF (s s' : RS) (c : Nat) : Prop := Ch [42] [3, 4] s s' ∧ (∀ j, (j < 80 * c ∨ 80 * c + 80 ≤ j) → s'.2 3 j = s.2 3 j) ∧ ∀ d, d ≠ c → s'.2 4 d = s.2 4 d
theorem Rp.keep {s s' : RS} {c d : Nat} {X : List Nat} (h : Rp s d X) (hf : RpF s s' c) (hd : d ≠ c) : Rp s' d X :=
  ⟨h.1, by rw [hf.2.2 d hd]; exact h.2.1, fun j hj => by have := h.1; rw [hf.2.1 _ (by omega)]; exact h.2.2 j hj⟩
section RE
variable {s0 : RS} {M : List Nat} {c : Nat} {Q : RS → Prop}
theorem sl_respond {X : List Nat} {p1 : Int32} {n p : Nat} (hc : c < 3) (hM : ∀ j, j < M.length → M.getD j 0 < 256 ∧ s0.2 41 j = iI (M.getD j 0)) (hM6 : M.length ≤ 60) (hX : X.length + M.length ≤ 80) (hp : p + 2 = 80 * c + X.length) (hQ : ∀ s', RpF s0 s' c → Rp s' c (X ++ M) → s'.1 42 = iI n → Q s') : ∀ (j k : Nat) (s : RS), k + j = M.length → Wr s0 s c (X ++ M.take k) → s.1 42 = iI n → vq_M_respond_133 (iI c) p1 Q (j + 1) (iI M.length) (iI ((80 * c : Nat) : Int)) (iI p) (iI k) s := by
  intro j
  induction j with
  | zero =>
    intro k s hk hW h42
    show vb_M_respond_133 _ _ _ _ _ _ _ _ _
    unfold vb_M_respond_133
    rw [if_pos (by simp (disch := omega) only [iI_lit, iI_add, iI_sub, iI_mul, iI_neg, iI_lt, iI_le, iI_eq] <;> omega)]
    unfold vq_M_respond_164
    rw [List.take_of_length_le (show M.length ≤ k by omega)] at hW
    refine vS_i (by omega) (show (c : Int) < (3 : Nat) by omega) (by decide) ?_
    rw [show (c : Int).toNat = c from rfl]
    obtain ⟨h1, h2, h3, h4⟩ := hW
    refine hQ _ ⟨(h2.mo (by decide) (by decide)).r (by decide), fun j hj => by rw [sR_ne (by decide)]; exact h4 j hj, fun d hd => ?_⟩ ⟨h1, ?_, fun j hj => by rw [sR_ne (by decide)]; exact h3 j hj⟩ h42
    · rw [sR_at]
      show upd (s.2 4) c _ d = _
      rw [pk_un hd, h2.2 4 (by decide)]
    · rw [sR_at]
      show upd (s.2 4) c _ c = _
      rw [pk_us, show (2 : Int32) = iI 2 from rfl, iI_add, iI_add, iI_sub, List.length_append]
      congr 1
      omega
  | succ j ih =>
    intro k s hk hW h42
    show vb_M_respond_133 _ _ _ _ _ _ _ _ _
    unfold vb_M_respond_133
    rw [if_neg (by simp (disch := omega) only [iI_lit, iI_add, iI_sub, iI_mul, iI_neg, iI_lt, iI_le, iI_eq] <;> omega)]
    have hm := hM k (by omega)
    refine vA_i (by omega) (show (k : Int) < (64 : Nat) by omega) (by decide) ?_
    rw [show (k : Int).toNat = k from rfl, hW.2.1.2 41 (by decide), hm.2]
    have hl : (X ++ M.take k).length = X.length + k := by
      rw [List.length_append, List.length_take]
      omega
    refine hW.w hc (by rw [hl]; omega) ?_ rfl hm.1 (fun s' a b d => ?_)
    · rw [show (2 : Int32) = iI 2 from rfl, iI_add, iI_add, hl]
      congr 1
      omega
    rw [show iI (k : Int) + 1 = iI ((k + 1 : Nat) : Int) from iI_add _ 1]
    refine ih (k + 1) s' (by omega) ?_ (by rw [b]; exact h42)
    have : M.take (k + 1) = M.take k ++ [M.getD k 0] := by
      rw [List.take_succ]
      simp [List.getD_eq_getElem?_getD, show k < M.length by omega]
    rw [this, ← List.append_assoc]
    exact a
theorem dcl_3 {n : Nat} (h1 : 100 ≤ n) (h2 : n < 1000) : dc_l n = [48 + n / 100, 48 + n / 10 % 10, 48 + n % 10] := by
  unfold dc_l
  rw [if_neg (show ¬ n < 10 by omega), if_neg (show ¬ n < 100 by omega), if_pos h2]
theorem sm_respond {code : Nat} (hc : c < 3) (hk : 100 ≤ code) (hk2 : code ≤ 599) (hM : Mk s0 M) (hQ : ∀ s', RpF s0 s' c → Rp s' c (rsp code M) → s'.1 42 = iI 0 → Q s') : vp_M_respond (iI c) (iI code) s0 Q := by
  obtain ⟨m1, m2, m3⟩ := hM
  unfold vp_M_respond
  refine wL.i ?_
  rw [m2]
  refine vP.i (wL.i ?_)
  rw [show (80 : Int32) * iI c = iI ((80 * c : Nat) : Int) from (iI_mul 80 _).trans (by congr 1)]
  have w0 : Wr s0 (sI s0 42 0) c [] := ⟨by simp, (Ch.rf _).i (by decide), fun j hj => absurd hj (by simp), fun j hj => rfl⟩
  have h42 : (sI s0 42 0).1 42 = iI 0 := sI_at
  generalize sI s0 42 0 = s1 at *
  rw [show (10 : Int32) = iI ((10 : Nat) : Int) from rfl, show (100 : Int32) = iI ((100 : Nat) : Int) from rfl, iI_mod (a := code) (b := 10) (by omega) (by omega), iI_div (a := code) (b := 100) (by omega) (by omega), iI_div (a := code) (b := 10) (by omega) (by omega), iI_mod (a := code / 10) (b := 10) (by omega) (by omega)]
  refine w0.w (v := 48 + code / 100) hc (by simp) (by simp) (iI_add 48 _) (by omega) (fun s2 w2 f2 g2 => ?_)
  refine w2.w (v := 48 + code / 10 % 10) hc (by simp) (iI_add _ 1) (iI_add 48 _) (by omega) (fun s3 w3 f3 g3 => ?_)
  refine w3.w (v := 48 + code % 10) hc (by simp) (iI_add _ 2) (iI_add 48 _) (by omega) (fun s4 w4 f4 g4 => ?_)
  refine w4.w (v := 32) hc (by simp) (iI_add _ 3) rfl (by omega) (fun s5 w5 f5 g5 => wL.i ?_)
  have h5 : s5.1 42 = iI 0 := by rw [f5, f4, f3, f2]; exact h42
  have e4 : ([] ++ [48 + code / 100] ++ [48 + code / 10 % 10] ++ [48 + code % 10] ++ [32] : List Nat) = dc_l code ++ [32] := by
    rw [dcl_3 hk (by omega)]
    rfl
  rw [e4] at w5
  have l4 : (dc_l code ++ [32]).length = 4 := by
    rw [dcl_3 hk (by omega)]
    rfl
  unfold rsp at hQ
  rw [show iI ((80 * c : Nat) : Int) + 4 = iI ((80 * c + 4 : Nat) : Int) from iI_add _ 4]
  have fin : ∀ (s6 : RS) (X : List Nat) (p : Nat), Wr s0 s6 c X → s6.1 42 = iI 0 → X.length ≤ 5 → p = 80 * c + X.length → X ++ [48 + M.length % 10] ++ [10] = dc_l code ++ [32] ++ dc_l M.length ++ [10] → vq_M_respond_105 (iI c) (iI code) Q (iI M.length) (iI ((80 * c : Nat) : Int)) (iI p) s6 := fun s6 X p w6 h6 hX hp he => by
    unfold vq_M_respond_105
    rw [show (10 : Int32) = iI ((10 : Nat) : Int) from rfl, iI_mod (a := M.length) (b := 10) (by omega) (by omega)]
    refine w6.w (v := 48 + M.length % 10) hc (by omega) (by rw [hp]) (iI_add 48 _) (by omega) (fun s7 w7 f7 g7 => ?_)
    refine w7.w (v := 10) hc (by simp; omega) (by rw [hp, List.length_append]; exact iI_add _ 1) rfl (by omega) (fun s8 w8 f8 g8 => ?_)
    rw [he] at w8
    have hl : (dc_l code ++ [32] ++ dc_l M.length ++ [10]).length = X.length + 2 := by
      rw [← he]
      simp
    refine ⟨_, sl_respond (X := dc_l code ++ [32] ++ dc_l M.length ++ [10]) (n := 0) hc m3 m1 (by omega) (by rw [hl, hp]; omega) hQ M.length 0 s8 (by omega) ?_ (by rw [f8, f7]; exact h6)⟩
    rw [List.take_zero, List.append_nil]
    exact w8
  by_cases q : M.length < 10
  · rw [if_pos (by simp (disch := omega) only [iI_lit, iI_add, iI_sub, iI_mul, iI_neg, iI_lt, iI_le, iI_eq] <;> omega)]
    refine fin s5 _ _ w5 h5 (by omega) (by rw [l4]) ?_
    unfold dc_l
    rw [if_pos q]
    rw [show M.length % 10 = M.length by omega]
  · rw [if_neg (by simp (disch := omega) only [iI_lit, iI_add, iI_sub, iI_mul, iI_neg, iI_lt, iI_le, iI_eq] <;> omega), iI_div (a := M.length) (b := 10) (by omega) (by omega)]
    refine w5.w (v := 48 + M.length / 10) hc (by omega) (by rw [l4]) (iI_add 48 _) (by omega) (fun s6 w6 f6 g6 => ?_)
    rw [show iI ((80 * c + 4 : Nat) : Int) + 1 = iI ((80 * c + 5 : Nat) : Int) from iI_add _ 1]
    refine fin s6 _ _ w6 (by rw [f6]; exact h5) (by rw [List.length_append, l4]; exact Nat.le_refl _) (by rw [List.length_append, l4]; rfl) ?_
    have : dc_l M.length = [48 + M.length / 10, 48 + M.length % 10] := by
      unfold dc_l
      rw [if_neg q, if_pos (by omega)]
    rw [this]
    simp
/-- what copying into a slot leaves -/
def CpF (s s' : RS) (t : Nat) : Prop := Ch [] [0, 1, 6] s s' ∧ (∀ j, (j < 520 * t ∨ 520 * t + 520 ≤ j) → s'.2 0 j = s.2 0 j) ∧ ∀ d, d ≠ t → s'.2 1 d = s.2 1 d ∧ s'.2 6 d = s.2 6 d
theorem Sl.keep {s s' : RS} {k t : Nat} {B : List Nat} (h : Sl s k B) (hf : CpF s s' t) (hk : k ≠ t) : Sl s' k B := by
  obtain ⟨h1, h2, h3, h4⟩ := h
  exact ⟨h1, h2, by rw [(hf.2.2 k hk).1]; exact h3, fun j hj => by rw [hf.2.1 _ (by omega)]; exact h4 j hj⟩
theorem Sl.ch {I R : List Nat} {s t : RS} {k : Nat} {B : List Nat} (h : Sl s k B) (hc : Ch I R s t) (h0 : 0 ∉ R) (h1 : 1 ∉ R) : Sl t k B := by
  obtain ⟨a, b, d, e⟩ := h
  exact ⟨a, b, by rw [hc.2 1 h1]; exact d, fun j hj => by rw [hc.2 0 h0]; exact e j hj⟩
theorem CpF.tr {s t u : RS} {k : Nat} (h : CpF s t k) (g : CpF t u k) : CpF s u k := ⟨h.1.tr g.1, fun j hj => by rw [g.2.1 j hj, h.2.1 j hj], fun d hd => by rw [(g.2.2 d hd).1, (g.2.2 d hd).2]; exact h.2.2 d hd⟩
theorem sl_copy {B : List Nat} {f t : Nat} (hS : Sl s0 f B) (ht : t < 8) (hft : f ≠ t) (hQ : ∀ s', CpF s0 s' t → Sl s' t B → s'.2 6 t = s0.2 6 f → Q s') : ∀ (j k : Nat) (s : RS), k + j = B.length → CpF s0 s t → (∀ i, i < k → s.2 0 (520 * t + i) = iI (B.getD i 0)) → vq_M_copy_2 (iI f) (iI t) Q (j + 1) (iI k) s := by
  have hl := hS.2.1
  have hf := hS.1
  intro j
  induction j with
  | zero =>
    intro k s hk hC hi
    have hS' := hS.keep hC hft
    show vb_M_copy_2 _ _ _ _ _ _
    unfold vb_M_copy_2
    refine row8 rfl hf hS'.2.2.1 ?_
    rw [if_pos (by simp (disch := omega) only [iI_lit, iI_add, iI_sub, iI_mul, iI_neg, iI_lt, iI_le, iI_eq] <;> omega)]
    unfold vq_M_copy_42
    refine row8 rfl hf hS'.2.2.1 ?_
    refine vS_i (by omega) (show (t : Int) < (8 : Nat) by omega) (by decide) ?_
    rw [show (t : Int).toNat = t from rfl]
    refine row8 rfl hf rfl ?_
    refine vS_i (by omega) (show (t : Int) < (8 : Nat) by omega) (by decide) ?_
    rw [show (t : Int).toNat = t from rfl, sR_ne (by decide)]
    have e1 : ∀ d, (sR (sR s 1 t (iI B.length)) 6 t (s.2 6 f)).2 1 d = upd (s.2 1) t (iI B.length) d := fun d => by
      rw [sR_ne (by decide), sR_at]
    have e6 : ∀ d, (sR (sR s 1 t (iI B.length)) 6 t (s.2 6 f)).2 6 d = upd (s.2 6) t (s.2 6 f) d := fun d => by
      rw [sR_at, sR_ne (by decide)]
    have e0 : (sR (sR s 1 t (iI B.length)) 6 t (s.2 6 f)).2 0 = s.2 0 := by
      rw [sR_ne (by decide), sR_ne (by decide)]
    refine hQ _ (hC.tr ⟨((Ch.rf s).r (by decide)).r (by decide), fun j _ => by rw [e0], fun d hd => ⟨?_, ?_⟩⟩) ⟨ht, hl, ?_, fun j hj => ⟨(hS.2.2.2 j hj).1, ?_⟩⟩ ?_
    · rw [e1, pk_un hd]
    · rw [e6, pk_un hd]
    · rw [e1, pk_us]
    · rw [e0]
      exact hi j (by omega)
    · rw [e6, pk_us]
      exact (hC.2.2 f hft).2
  | succ j ih =>
    intro k s hk hC hi
    have hS' := hS.keep hC hft
    show vb_M_copy_2 _ _ _ _ _ _
    unfold vb_M_copy_2
    refine row8 rfl hf hS'.2.2.1 ?_
    rw [if_neg (by simp (disch := omega) only [iI_lit, iI_add, iI_sub, iI_mul, iI_neg, iI_lt, iI_le, iI_eq] <;> omega)]
    rw [show (520 : Int32) * iI f + iI k = iI ((520 * f + k : Nat) : Int) from by rw [show (520 : Int32) = iI 520 from rfl, iI_mul, iI_add]; congr 1, show (520 : Int32) * iI t + iI k = iI ((520 * t + k : Nat) : Int) from by rw [show (520 : Int32) = iI 520 from rfl, iI_mul, iI_add]; congr 1]
    refine vA_i (by omega) (show ((520 * f + k : Nat) : Int) < (4160 : Nat) by omega) (by decide) ?_
    rw [show ((520 * f + k : Nat) : Int).toNat = 520 * f + k from rfl, (hS'.2.2.2 k (by omega)).2]
    refine vS_i (by omega) (show ((520 * t + k : Nat) : Int) < (4160 : Nat) by omega) (by decide) ?_
    rw [show ((520 * t + k : Nat) : Int).toNat = 520 * t + k from rfl, show iI (k : Int) + 1 = iI ((k + 1 : Nat) : Int) from iI_add _ 1]
    have e0 : ∀ d, (sR s 0 (520 * t + k) (iI (B.getD k 0 : Nat))).2 0 d = upd (s.2 0) (520 * t + k) (iI (B.getD k 0 : Nat)) d := fun d => by
      rw [sR_at]
    refine ih (k + 1) _ (by omega) (hC.tr ⟨(Ch.rf s).r (by decide), fun j hj => by rw [e0, pk_un (by omega)], fun d _ => ⟨by rw [sR_ne (by decide)], by rw [sR_ne (by decide)]⟩⟩) (fun i h => ?_)
    rw [e0]
    by_cases q : i = k
    · subst q
      rw [pk_us]
    · rw [pk_un (by omega)]
      exact hi i (by omega)
theorem sm_copy {B : List Nat} {f t : Nat} (hS : Sl s0 f B) (ht : t < 8) (hft : f ≠ t) (hQ : ∀ s', CpF s0 s' t → Sl s' t B → s'.2 6 t = s0.2 6 f → Q s') : vp_M_copy (iI f) (iI t) s0 Q :=
  ⟨_, sl_copy hS ht hft hQ B.length 0 s0 (by omega) ⟨Ch.rf _, fun _ _ => rfl, fun _ _ => ⟨rfl, rfl⟩⟩ (fun i hi => absurd hi (by omega))⟩
end RE
