/-! The reference seeks a part -/
def Ch (I R : List Nat) (s s' : RS) : Prop := (∀ k, k ∉ I → s'.1 k = s.1 k) ∧ ∀ k, k ∉ R → s'.2 k = s.2 k
theorem Ch.rf {I R : List Nat} (s : RS) : Ch I R s s := ⟨fun _ _ => rfl, fun _ _ => rfl⟩
theorem Ch.tr {I R : List Nat} {s t u : RS} (h : Ch I R s t) (g : Ch I R t u) : Ch I R s u := ⟨fun k hk => (g.1 k hk).trans (h.1 k hk), fun k hk => (g.2 k hk).trans (h.2 k hk)⟩
theorem Ch.mo {I R I' R' : List Nat} {s t : RS} (h : Ch I R s t) (hi : ∀ x ∈ I, x ∈ I') (hr : ∀ x ∈ R, x ∈ R') : Ch I' R' s t := ⟨fun k hk => h.1 k (fun z => hk (hi k z)), fun k hk => h.2 k (fun z => hk (hr k z))⟩
theorem Ch.i {I R : List Nat} {s t : RS} {k : Nat} {v : Int32} (h : Ch I R s t) (hk : k ∈ I) : Ch I R s (sI t k v) := ⟨fun j hj => by rw [sI_ne (fun z : j = k => hj (by rw [z]; exact hk))]; exact h.1 j hj, h.2⟩
theorem Ch.r {I R : List Nat} {s t : RS} {k i : Nat} {v : Int32} (h : Ch I R s t) (hk : k ∈ R) : Ch I R s (sR t k i v) := ⟨h.1, fun j hj => by rw [sR_ne (fun z : j = k => hj (by rw [z]; exact hk))]; exact h.2 j hj⟩
theorem Fr.ch {s t : RS} (h : Fr s t) : Ch [27, 28, 29, 32, 34, 35, 36] [30, 31, 33] s t := by
  refine ⟨fun k hk => ?_, fun k hk => ?_⟩
  · simp only [List.mem_cons, List.not_mem_nil, or_false, not_or] at hk
    exact h.1 k hk.1 hk.2.1 hk.2.2.1 hk.2.2.2.1 hk.2.2.2.2.1 hk.2.2.2.2.2.1 hk.2.2.2.2.2.2
  · simp only [List.mem_cons, List.not_mem_nil, or_false, not_or] at hk
    exact h.2 k hk.1 hk.2.1 hk.2.2
theorem Ch.bf {I R : List Nat} {s t : RS} {B : List Nat} (h : Ch I R s t) (hb : Bf s B) (h1 : 27 ∉ I) (h2 : 28 ∉ I) (h3 : 0 ∉ R) : Bf t B := by
  obtain ⟨bb, a1, a2, a3, a4⟩ := hb
  exact ⟨bb, by rw [h.1 27 h1]; exact a1, by rw [h.1 28 h2]; exact a2, a3, fun j hj => by rw [h.2 0 h3]; exact a4 j hj⟩
theorem Ch.jd {I R : List Nat} {s t : RS} {B : List Nat} {cl : Bool} {hs : List (Nat × Nat)} {bd : List Nat} (h : Ch I R s t) (hj : Jd s B cl hs bd) (h1 : ∀ k ∈ [27, 28, 29, 32, 34], k ∉ I) (h2 : ∀ k ∈ [0, 30, 31, 33], k ∉ R) : Jd t B cl hs bd := by
  obtain ⟨a, b, c, d, e⟩ := hj
  refine ⟨h.bf a (h1 27 (by decide)) (h1 28 (by decide)) (h2 0 (by decide)), by rw [h.1 29 (h1 29 (by decide))]; exact b, by rw [h.1 34 (h1 34 (by decide))]; exact c, fun i hi => by rw [h.2 30 (h2 30 (by decide)), h.2 31 (h2 31 (by decide))]; exact d i hi, by rw [h.1 32 (h1 32 (by decide))]; exact e.1, fun j hj => by rw [h.2 33 (h2 33 (by decide))]; exact e.2 j hj⟩
/-- what was found -/
def Fo (s : RS) (X : List Nat) : Prop := s.1 40 = iI X.length ∧ ∀ j, j < X.length → X.getD j 0 < 256 ∧ s.2 39 j = iI (X.getD j 0)
/-- what is sought -/
def So (s : RS) (N : List Nat) : Prop := s.1 38 = iI N.length ∧ ∀ j, j < N.length → N.getD j 0 < 256 ∧ s.2 37 j = iI (N.getD j 0)
theorem Ch.so {I R : List Nat} {s t : RS} {N : List Nat} (h : Ch I R s t) (hs : So s N) (h1 : 38 ∉ I) (h2 : 37 ∉ R) : So t N := ⟨by rw [h.1 38 h1]; exact hs.1, fun j hj => by rw [h.2 37 h2]; exact hs.2 j hj⟩
theorem ls_snoc_lt {X : List Nat} {c j : Nat} (h : j < X.length) : (X ++ [c]).getD j 0 = X.getD j 0 := by
  simp [List.getD_eq_getElem?_getD, List.getElem?_append_left h]
theorem ls_snoc_at {X : List Nat} {c : Nat} : (X ++ [c]).getD X.length 0 = c := by simp [List.getD_eq_getElem?_getD]
theorem sm_put {s : RS} {X : List Nat} {c : Nat} {Q : RS → Prop} (hF : Fo s X) (hl : X.length < 64) (hc : c < 256) (hQ : ∀ s', Ch [40] [39] s s' → Fo s' (X ++ [c]) → Q s') : vp_M_put (iI c) s Q := by
  unfold vp_M_put
  refine wL.i ?_
  rw [hF.1]
  refine vS_i (by omega) (show (X.length : Int) < (64 : Nat) by omega) (by decide) (wL.i (vP.i ?_))
  refine hQ _ (((Ch.rf s).r (by decide)).i (by decide)) ⟨?_, fun j hj => ?_⟩
  · rw [sI_at, sR_1, hF.1, List.length_append]
    exact iI_add _ 1
  · rw [List.length_append] at hj
    have hj : j < X.length + 1 := hj
    rw [sI_2, sR_at]
    show _ ∧ upd (s.2 39) X.length (iI c) j = _
    by_cases q : j = X.length
    · subst q
      rw [ls_snoc_at, pk_us]
      exact ⟨hc, rfl⟩
    · rw [pk_un q, ls_snoc_lt (by omega)]
      exact hF.2 j (by omega)
theorem sl_raw {s0 : RS} {B : List Nat} {f t : Nat} {p0 : Int32} {Q : RS → Prop} (h : Bf s0 B) (ht : t ≤ B.length) (hft : t ≤ f + 64) (hQ : ∀ s', Ch [40] [39] s0 s' → Fo s' (sl B f t) → Q s') : ∀ (k p : Nat) (s : RS), f ≤ p → p + k = t → Ch [40] [39] s0 s → Fo s (sl B f p) → vq_M_raw_7 p0 (iI t) Q (k + 1) (iI p) s := by
  have hl := h.len
  intro k
  induction k with
  | zero =>
    intro p s hfp hk hC hF
    show vb_M_raw_7 _ _ _ _ _ _
    unfold vb_M_raw_7
    rw [if_pos (by simp (disch := omega) only [iI_lit, iI_add, iI_sub, iI_mul, iI_neg, iI_lt, iI_le, iI_eq] <;> omega)]
    have : p = t := by omega
    subst this
    exact hQ s hC hF
  | succ k ih =>
    intro p s hfp hk hC hF
    have hB : Bf s B := hC.bf h (by decide) (by decide) (by decide)
    have hb := hB.at (p := p) (by omega)
    show vb_M_raw_7 _ _ _ _ _ _
    unfold vb_M_raw_7
    rw [if_neg (by simp (disch := omega) only [iI_lit, iI_add, iI_sub, iI_mul, iI_neg, iI_lt, iI_le, iI_eq] <;> omega)]
    refine sm_byteAt hB (by omega) ?_
    rw [hb.1]
    refine sm_put hF (by rw [sl_len hfp (by omega)]; omega) hb.2 (fun s' a b => ?_)
    rw [show iI (p : Int) + 1 = iI ((p + 1 : Nat) : Int) from iI_add _ 1]
    rw [← sl_snoc hfp (by omega)] at b
    exact ih (p + 1) s' (by omega) (by omega) (hC.tr a) b
theorem Fo.nil {s : RS} (h : s.1 40 = iI 0) : Fo s [] := ⟨h, fun j hj => absurd hj (by simp)⟩
theorem sm_raw {s : RS} {B : List Nat} {f t : Nat} {Q : RS → Prop} (h : Bf s B) (hft : f ≤ t) (ht : t ≤ B.length) (h64 : t ≤ f + 64) (hQ : ∀ s', Ch [40] [39] s s' → Fo s' (sl B f t) → Q s') : vp_M_raw (iI f) (iI t) s Q := by
  unfold vp_M_raw
  refine vP.i ⟨t - f + 1, ?_⟩
  exact sl_raw h ht h64 hQ (t - f) f _ (Nat.le_refl _) (by omega) ((Ch.rf s).i (by decide)) (by rw [sl_nil (Nat.le_refl _)]; exact Fo.nil sI_at)
/-- a coded text, decoded (so many are left out first) -/
def dec : Nat → List Nat → List Nat
  | _, [] => []
  | k + 1, _ :: Y => dec k Y
  | 0, c :: Y => if c = 37 then (16 * hxv (Y.getD 0 0 : Nat) + hxv (Y.getD 1 0 : Nat)).toNat :: dec 2 Y else c :: dec 0 Y
theorem dec_0 (c : Nat) (Y : List Nat) : dec 0 (c :: Y) = if c = 37 then (16 * hxv (Y.getD 0 0 : Nat) + hxv (Y.getD 1 0 : Nat)).toNat :: dec 2 Y else c :: dec 0 Y := rfl
theorem dec_nil (k : Nat) : dec k [] = [] := by cases k <;> rfl
theorem gcc_r {a b : Nat} (h : gcc a b = true) : 0 ≤ hxv (a : Int) ∧ 0 ≤ hxv (b : Int) ∧ 32 ≤ 16 * hxv (a : Int) + hxv (b : Int) ∧ 16 * hxv (a : Int) + hxv (b : Int) ≤ 126 := of_decide_eq_true h
theorem sl_decode {s0 : RS} {B : List Nat} {f t : Nat} {p0 : Int32} {Q : RS → Prop} (h : Bf s0 B) (ht : t ≤ B.length) (hQ : ∀ s', Ch [40] [39] s0 s' → Fo s' (dec 0 (sl B f t)) → Q s') : ∀ (k p : Nat) (s : RS) (X : List Nat), p ≤ t → t ≤ p + k → Ch [40] [39] s0 s → Fo s X → X ++ dec 0 (sl B p t) = dec 0 (sl B f t) → gc (sl B p t) = true → X.length + (t - p) ≤ 64 → vq_M_decode_7 p0 (iI t) Q (k + 1) (iI p) s := by
  have hl := h.len
  intro k
  induction k with
  | zero =>
    intro p s X hp hk hC hF hX hg h64
    show vb_M_decode_7 _ _ _ _ _ _
    unfold vb_M_decode_7
    rw [if_pos (by simp (disch := omega) only [iI_lit, iI_add, iI_sub, iI_mul, iI_neg, iI_lt, iI_le, iI_eq] <;> omega)]
    rw [sl_nil (by omega), dec_nil, List.append_nil] at hX
    exact hQ s hC (hX ▸ hF)
  | succ k ih =>
    intro p s X hp hk hC hF hX hg h64
    show vb_M_decode_7 _ _ _ _ _ _
    unfold vb_M_decode_7
    by_cases qe : t ≤ p
    · rw [if_pos (by simp (disch := omega) only [iI_lit, iI_add, iI_sub, iI_mul, iI_neg, iI_lt, iI_le, iI_eq] <;> omega)]
      rw [sl_nil (by omega), dec_nil, List.append_nil] at hX
      exact hQ s hC (hX ▸ hF)
    rw [if_neg (by simp (disch := omega) only [iI_lit, iI_add, iI_sub, iI_mul, iI_neg, iI_lt, iI_le, iI_eq] <;> omega)]
    have hB : Bf s B := hC.bf h (by decide) (by decide) (by decide)
    have hb := hB.at (p := p) (by omega)
    have hb2 := hb.2
    rw [sl_cons (show p < t by omega) ht] at hX hg
    rw [dec_0] at hX
    unfold gc at hg
    refine sm_byteIs 37 hB (by omega) (by decide) rfl (fun q => ?_) (fun q => ?_)
    · rw [if_pos q] at hX hg
      rw [okc_sl ht, Bool.and_eq_true, Bool.and_eq_true, decide_eq_true_eq] at hg
      obtain ⟨⟨g1, g2⟩, g3⟩ := hg
      have hb3 := hB.at (p := p + 1) (by omega)
      have hb4 := hB.at (p := p + 2) (by omega)
      have hb32 := hb3.2
      have hb42 := hb4.2
      rw [sl_cons (show p + 1 < t by omega) ht, sl_cons (show p + 1 + 1 < t by omega) ht] at hX g3
      have e3 : dec 2 (B.getD (p + 1) 0 :: B.getD (p + 1 + 1) 0 :: sl B (p + 1 + 1 + 1) t) = dec 0 (sl B (p + 3) t) := rfl
      rw [e3] at hX
      have e4 : (B.getD (p + 1) 0 :: B.getD (p + 1 + 1) 0 :: sl B (p + 1 + 1 + 1) t).getD 0 0 = B.getD (p + 1) 0 := rfl
      have e5 : (B.getD (p + 1) 0 :: B.getD (p + 1 + 1) 0 :: sl B (p + 1 + 1 + 1) t).getD 1 0 = B.getD (p + 2) 0 := rfl
      rw [e4, e5] at hX
      have g4 : gc (sl B (p + 3) t) = true := by
        unfold gc at g3
        rw [Bool.and_eq_true] at g3
        have g3 := g3.2
        unfold gc at g3
        rw [Bool.and_eq_true] at g3
        exact g3.2
      have r := gcc_r g2
      unfold vq_M_decode_27
      rw [if_neg (by decide), show iI (p : Int) + 1 = iI ((p + 1 : Nat) : Int) from iI_add _ 1]
      refine sm_byteAt hB (by omega) ?_
      rw [hb3.1]
      refine sm_hex (by omega) (by omega) ?_
      rw [show iI (p : Int) + 2 = iI ((p + 2 : Nat) : Int) from iI_add _ 2]
      refine sm_byteAt hB (by omega) ?_
      rw [hb4.1]
      refine sm_hex (by omega) (by omega) ?_
      unfold vq_M_decode_67
      generalize hv : 16 * hxv (B.getD (p + 1) 0 : Nat) + hxv (B.getD (p + 2) 0 : Nat) = v at *
      rw [show (16 : Int32) * iI (hxv (B.getD (p + 1) 0 : Nat)) + iI (hxv (B.getD (p + 2) 0 : Nat)) = iI (v.toNat : Nat) from by rw [show (16 : Int32) = iI 16 from rfl, iI_mul, iI_add, hv]; congr 1; omega]
      refine sm_put hF (by omega) (by omega) (fun s' a b => ?_)
      rw [if_neg (by decide)]
      refine wL.i ?_
      rw [show iI (p : Int) + 2 + 1 = iI ((p + 3 : Nat) : Int) from by rw [show (2 : Int32) = iI 2 from rfl, show (1 : Int32) = iI 1 from rfl, iI_add, iI_add]; congr 1]
      have hv : v = 16 * hxv (B.getD (p + 1) 0 : Nat) + hxv (B.getD (p + 1 + 1) 0 : Nat) := hv.symm
      refine ih (p + 3) s' (X ++ [v.toNat]) (by omega) (by omega) (hC.tr a) b (by rw [List.append_assoc]; exact hX) g4 (by rw [List.length_append]; simp; omega)
    · rw [if_neg q] at hX hg
      rw [Bool.true_and] at hg
      unfold vq_M_decode_27
      rw [if_pos rfl]
      refine sm_byteAt hB (by omega) ?_
      rw [hb.1]
      unfold vq_M_decode_67
      refine sm_put hF (by omega) hb.2 (fun s' a b => ?_)
      rw [if_pos rfl, show iI (p : Int) + 1 = iI ((p + 1 : Nat) : Int) from iI_add _ 1]
      exact ih (p + 1) s' (X ++ [B.getD p 0]) (by omega) (by omega) (hC.tr a) b (by rw [List.append_assoc]; exact hX) hg (by rw [List.length_append]; simp; omega)
theorem sm_decode {s : RS} {B : List Nat} {f t : Nat} {Q : RS → Prop} (h : Bf s B) (hft : f ≤ t) (ht : t ≤ B.length) (h64 : t ≤ f + 64) (hg : gc (sl B f t) = true) (hQ : ∀ s', Ch [40] [39] s s' → Fo s' (dec 0 (sl B f t)) → Q s') : vp_M_decode (iI f) (iI t) s Q := by
  unfold vp_M_decode
  refine vP.i ⟨t - f + 1, ?_⟩
  exact sl_decode h ht hQ (t - f) f _ [] hft (by omega) ((Ch.rf s).i (by decide)) (Fo.nil sI_at) rfl hg (by simp; omega)
def anyS (a : Bool) (c : Nat) : Nat := if a then lowc c else c
theorem sl_sought {s : RS} {X N : List Nat} {a : Bool} {Q : Int32 → RS → Prop} (hF : Fo s X) (hS : So s N) (hl : X.length = N.length) (h64 : X.length ≤ 40) : ∀ j k, k + j = X.length → Q (iI (bI (decide ((X.drop k).map (anyS a) = (N.drop k).map (anyS a))))) s → vq_M_isSought_19 (iI (bI a)) Q (j + 2) (iI 1) (iI k) s := by
  intro j
  induction j with
  | zero =>
    intro k hk hQ
    show vb_M_isSought_19 _ _ _ _ _ _
    unfold vb_M_isSought_19
    refine wL.i ?_
    rw [hF.1, if_pos (by simp (disch := omega) only [iI_lit, iI_add, iI_sub, iI_mul, iI_neg, iI_lt, iI_le, iI_eq] <;> omega)]
    rw [List.drop_of_length_le (by omega), List.drop_of_length_le (by omega)] at hQ
    exact ⟨Or.inr rfl, hQ⟩
  | succ j ih =>
    intro k hk hQ
    have hx := hF.2 k (by omega)
    have hn := hS.2 k (by omega)
    have hx1 := hx.1
    have hn1 := hn.1
    show vb_M_isSought_19 _ _ _ _ _ _
    unfold vb_M_isSought_19
    refine wL.i ?_
    rw [hF.1, if_neg (by simp (disch := omega) only [iI_lit, iI_add, iI_sub, iI_mul, iI_neg, iI_lt, iI_le, iI_eq] <;> omega), if_neg (by decide)]
    rw [ls_drop (show k < X.length by omega), ls_drop (show k < N.length by omega), List.map_cons, List.map_cons] at hQ
    have yes : anyS a (X.getD k 0) = anyS a (N.getD k 0) → vq_M_isSought_19 (iI (bI a)) Q (j + 2) 1 (iI k + 1) s := fun z => by
      rw [show iI (k : Int) + 1 = iI ((k + 1 : Nat) : Int) from iI_add _ 1]
      refine ih (k + 1) (by omega) ?_
      rw [z] at hQ
      simpa using hQ
    have no : ¬ anyS a (X.getD k 0) = anyS a (N.getD k 0) → vq_M_isSought_19 (iI (bI a)) Q (j + 2) 0 (iI k + 1) s := fun z => by
      rw [decide_eq_false (fun y => z (List.cons.inj y).1)] at hQ
      show vb_M_isSought_19 _ _ _ _ _ _
      unfold vb_M_isSought_19
      refine wL.i ?_
      by_cases w : s.1 40 ≤ iI k + 1
      · rw [if_pos w]
        exact ⟨Or.inl rfl, hQ⟩
      · rw [if_neg w, if_pos rfl]
        exact ⟨Or.inl rfl, hQ⟩
    cases a with
    | false =>
      rw [if_pos (by decide)]
      refine vA_i (by omega) (show (k : Int) < (64 : Nat) by omega) (by decide) ?_
      refine vA_i (by omega) (show (k : Int) < (40 : Nat) by omega) (by decide) ?_
      rw [show (k : Int).toNat = k from rfl, hx.2, hn.2]
      by_cases q : X.getD k 0 = N.getD k 0
      · rw [if_pos (by rw [q])]
        exact yes q
      · rw [if_neg (by simp (disch := omega) only [iI_lit, iI_add, iI_sub, iI_mul, iI_neg, iI_lt, iI_le, iI_eq] <;> omega)]
        exact no q
    | true =>
      rw [if_neg (by decide)]
      refine vA_i (by omega) (show (k : Int) < (64 : Nat) by omega) (by decide) ?_
      rw [show (k : Int).toNat = k from rfl, hx.2]
      refine sm_small (by omega) (by omega) ?_
      refine vA_i (by omega) (show (k : Int) < (40 : Nat) by omega) (by decide) ?_
      rw [show (k : Int).toNat = k from rfl, hn.2]
      refine sm_small (by omega) (by omega) ?_
      rw [smv_low, smv_low]
      have l1 := lowc_r hx1
      have l2 := lowc_r hn1
      by_cases q : lowc (X.getD k 0) = lowc (N.getD k 0)
      · rw [if_pos (by rw [q])]
        exact yes q
      · rw [if_neg (by simp (disch := omega) only [iI_lit, iI_add, iI_sub, iI_mul, iI_neg, iI_lt, iI_le, iI_eq] <;> omega)]
        exact no q
theorem sm_isSought {s : RS} {X N : List Nat} {a : Bool} {y : Int32} {Q : Int32 → RS → Prop} (hF : Fo s X) (hS : So s N) (hX : X.length ≤ 40) (hN : N.length ≤ 40) (hy : y = iI (bI a)) (hQ : Q (iI (bI (decide (X.map (anyS a) = N.map (anyS a))))) s) : vp_M_isSought y s Q := by
  subst hy
  unfold vp_M_isSought
  refine wL.i (wL.i ?_)
  rw [hF.1, hS.1]
  by_cases q : X.length = N.length
  · rw [if_pos (by simp (disch := omega) only [iI_lit, iI_add, iI_sub, iI_mul, iI_neg, iI_lt, iI_le, iI_eq] <;> omega)]
    exact ⟨X.length + 2, sl_sought hF hS q hX X.length 0 (by omega) hQ⟩
  · rw [if_neg (by simp (disch := omega) only [iI_lit, iI_add, iI_sub, iI_mul, iI_neg, iI_lt, iI_le, iI_eq] <;> omega)]
    refine ⟨1, ?_⟩
    rw [decide_eq_false (fun z => q (by have := congrArg List.length z; simpa using this))] at hQ
    show vb_M_isSought_19 _ _ _ _ _ _
    unfold vb_M_isSought_19
    refine wL.i ?_
    by_cases w : s.1 40 ≤ 0
    · rw [if_pos w]
      exact ⟨Or.inl rfl, hQ⟩
    · rw [if_neg w, if_pos rfl]
      exact ⟨Or.inl rfl, hQ⟩
