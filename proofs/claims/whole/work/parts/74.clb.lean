/-! The class: request lines, their parts -/
section RL
variable {A : ab_H} {p : Nat} {T : List Nat}
theorem cl_isMethod {Q : Int32 → ab_H → Prop} {e : Nat} (h : A p = some (oS T)) (hT : ∀ j, j < T.length → T.getD j 0 < 256) (he : e ≤ T.length) (he2 : e < 1000) : ∀ j k, k + j = e → Q (iI (bI (capAll (sl T k e)))) A → wq_Q_isMethod_15 (some p) (iI e) Q (j + 1) (iI k) A := by
  intro j
  induction j with
  | zero =>
    intro k hk hQ
    show wb_Q_isMethod_15 _ _ _ _ _ _
    unfold wb_Q_isMethod_15
    rw [if_pos (by simp (disch := omega) only [iI_lit, iI_add, iI_sub, iI_mul, iI_neg, iI_lt, iI_le, iI_eq] <;> omega)]
    rw [sl_nil (by omega)] at hQ
    exact hQ
  | succ j ih =>
    intro k hk hQ
    show wb_Q_isMethod_15 _ _ _ _ _ _
    unfold wb_Q_isMethod_15
    rw [if_neg (by simp (disch := omega) only [iI_lit, iI_add, iI_sub, iI_mul, iI_neg, iI_lt, iI_le, iI_eq] <;> omega)]
    refine st_at h rfl (j := k) (by omega) ?_
    have ht := hT k (by omega)
    rw [sl_cons (show k < e by omega) he] at hQ
    unfold capAll at hQ
    rw [List.all_cons] at hQ
    refine c_isCapital (by omega) (by omega) ?_
    by_cases q : 65 ≤ T.getD k 0 ∧ T.getD k 0 ≤ 90
    · rw [decide_eq_true (by omega), if_neg (by decide), show iI (k : Int) + 1 = iI ((k + 1 : Nat) : Int) from iI_add _ 1]
      rw [decide_eq_true q, Bool.true_and] at hQ
      exact ih (k + 1) (by omega) hQ
    · rw [decide_eq_false (by omega), if_pos (by decide)]
      rw [decide_eq_false q, Bool.false_and] at hQ
      exact hQ
theorem c_isMethod {Q : Int32 → ab_H → Prop} {e : Int} (h : A p = some (oS T)) (hT : ∀ j, j < T.length → T.getD j 0 < 256) (he : e ≤ T.length) (he0 : -1 ≤ e) (he2 : e < 1000) (hQ : Q (iI (bI (decide (1 ≤ e ∧ e ≤ 7) && capAll (T.take e.toNat)))) A) : wp_Q_isMethod (some p) (iI e) A Q := by
  unfold wp_Q_isMethod
  by_cases q1 : e < 1
  · rw [if_pos (by simp (disch := omega) only [iI_lit, iI_add, iI_sub, iI_mul, iI_neg, iI_lt, iI_le, iI_eq] <;> omega)]
    rw [decide_eq_false (by omega), Bool.false_and] at hQ
    exact hQ
  rw [if_neg (by simp (disch := omega) only [iI_lit, iI_add, iI_sub, iI_mul, iI_neg, iI_lt, iI_le, iI_eq] <;> omega)]
  by_cases q2 : e ≤ 7
  · rw [if_pos (by simp (disch := omega) only [iI_lit, iI_add, iI_sub, iI_mul, iI_neg, iI_lt, iI_le, iI_eq] <;> omega)]
    rw [decide_eq_true (by omega), Bool.true_and] at hQ
    obtain ⟨d, rfl⟩ : ∃ d : Nat, e = d := ⟨e.toNat, by omega⟩
    refine ⟨_, cl_isMethod h hT (by omega) (by omega) d 0 (by omega) ?_⟩
    rw [show sl T 0 d = T.take d from rfl]
    exact hQ
  · rw [if_neg (by simp (disch := omega) only [iI_lit, iI_add, iI_sub, iI_mul, iI_neg, iI_lt, iI_le, iI_eq] <;> omega)]
    rw [decide_eq_false (by omega), Bool.false_and] at hQ
    exact hQ
def cdv (T : List Nat) (i : Nat) : Int := if i + 2 < T.length ∧ 0 ≤ hxv (T.getD (i + 1) 0 : Nat) ∧ 0 ≤ hxv (T.getD (i + 2) 0 : Nat) then 16 * hxv (T.getD (i + 1) 0 : Nat) + hxv (T.getD (i + 2) 0 : Nat) else -1
theorem cdv_r (T : List Nat) (i : Nat) : -1 ≤ cdv T i ∧ cdv T i < 256 := by
  unfold cdv
  have h1 := hxv_r (T.getD (i + 1) 0 : Nat)
  have h2 := hxv_r (T.getD (i + 2) 0 : Nat)
  split <;> omega
theorem c_codeAt {Q : Int32 → ab_H → Prop} {i : Nat} (h : A p = some (oS T)) (hT : ∀ j, j < T.length → T.getD j 0 < 256) (hi : i < T.length) (hl : T.length < 1000) (hQ : Q (iI (cdv T i)) A) : wp_Q_codeAt (some p) (iI i) A Q := by
  unfold wp_Q_codeAt
  refine st_len h ?_
  unfold cdv at hQ
  by_cases q : i + 2 < T.length
  · rw [if_pos (by simp (disch := omega) only [iI_lit, iI_add, iI_sub, iI_mul, iI_neg, iI_lt, iI_le, iI_eq] <;> omega)]
    have t1 := hT (i + 1) (by omega)
    have t2 := hT (i + 2) (by omega)
    have h1 := hxv_r (T.getD (i + 1) 0 : Nat)
    have h2 := hxv_r (T.getD (i + 2) 0 : Nat)
    refine st_at h (j := i + 1) (iI_add _ 1) (by omega) ?_
    refine c_hex (by omega) (by omega) ?_
    refine st_at h (j := i + 2) (iI_add _ 2) q ?_
    refine c_hex (by omega) (by omega) ?_
    generalize hxv (T.getD (i + 1) 0 : Nat) = x at *
    generalize hxv (T.getD (i + 2) 0 : Nat) = y at *
    by_cases q1 : x < 0
    · rw [if_pos (by simp (disch := omega) only [iI_lit, iI_add, iI_sub, iI_mul, iI_neg, iI_lt, iI_le, iI_eq] <;> omega)]
      rw [if_neg (by omega)] at hQ
      exact hQ
    rw [if_neg (by simp (disch := omega) only [iI_lit, iI_add, iI_sub, iI_mul, iI_neg, iI_lt, iI_le, iI_eq] <;> omega)]
    by_cases q2 : 0 ≤ y
    · rw [if_pos (by simp (disch := omega) only [iI_lit, iI_add, iI_sub, iI_mul, iI_neg, iI_lt, iI_le, iI_eq] <;> omega)]
      rw [if_pos (by omega)] at hQ
      rw [show (16 : Int32) * iI x + iI y = iI (16 * x + y) from by rw [show (16 : Int32) = iI 16 from rfl, iI_mul, iI_add]]
      exact hQ
    · rw [if_neg (by simp (disch := omega) only [iI_lit, iI_add, iI_sub, iI_mul, iI_neg, iI_lt, iI_le, iI_eq] <;> omega)]
      rw [if_neg (by omega)] at hQ
      exact hQ
  · rw [if_neg (by simp (disch := omega) only [iI_lit, iI_add, iI_sub, iI_mul, iI_neg, iI_lt, iI_le, iI_eq] <;> omega)]
    rw [if_neg (fun z => q z.1)] at hQ
    exact hQ
theorem cdv_ok {i : Nat} (hi : i < T.length) : decide (32 ≤ cdv T i ∧ cdv T i ≤ 126) = okc (T.drop (i + 1)) := by
  unfold cdv
  by_cases q : i + 2 < T.length
  · rw [ls_drop (show i + 1 < T.length by omega), ls_drop (show i + 1 + 1 < T.length by omega)]
    show _ = gcc (T.getD (i + 1) 0) (T.getD (i + 2) 0)
    unfold gcc
    generalize hxv (T.getD (i + 1) 0 : Nat) = x
    generalize hxv (T.getD (i + 2) 0 : Nat) = y
    refine decide_eq_decide.mpr ?_
    by_cases z : 0 ≤ x ∧ 0 ≤ y
    · rw [if_pos ⟨q, z⟩]
      omega
    · rw [if_neg (fun w => z w.2)]
      omega
  · rw [if_neg (fun z => q z.1)]
    by_cases w : i + 1 < T.length
    · rw [ls_drop w, List.drop_of_length_le (by omega)]
      rfl
    · rw [List.drop_of_length_le (by omega)]
      rfl
theorem cl_good {Q : Int32 → ab_H → Prop} (h : A p = some (oS T)) (hT : ∀ j, j < T.length → T.getD j 0 < 256) (hl : T.length < 1000) : ∀ j k, k + j = T.length → Q (iI (bI (gc (T.drop k)))) A → wq_Q_hasGoodCodes_2 (some p) Q (j + 1) (iI k) A := by
  intro j
  induction j with
  | zero =>
    intro k hk hQ
    show wb_Q_hasGoodCodes_2 _ _ _ _ _
    unfold wb_Q_hasGoodCodes_2
    refine st_len h ?_
    rw [if_pos (by simp (disch := omega) only [iI_lit, iI_add, iI_sub, iI_mul, iI_neg, iI_lt, iI_le, iI_eq] <;> omega)]
    rw [List.drop_of_length_le (by omega)] at hQ
    exact hQ
  | succ j ih =>
    intro k hk hQ
    show wb_Q_hasGoodCodes_2 _ _ _ _ _
    unfold wb_Q_hasGoodCodes_2
    refine st_len h ?_
    rw [if_neg (by simp (disch := omega) only [iI_lit, iI_add, iI_sub, iI_mul, iI_neg, iI_lt, iI_le, iI_eq] <;> omega)]
    refine st_at h rfl (j := k) (by omega) ?_
    have ht := hT k (by omega)
    rw [show iI (k : Int) + 1 = iI ((k + 1 : Nat) : Int) from iI_add _ 1]
    rw [ls_drop (show k < T.length by omega)] at hQ
    unfold gc at hQ
    by_cases q : T.getD k 0 = 37
    · rw [if_pos (by simp (disch := omega) only [iI_lit, iI_add, iI_sub, iI_mul, iI_neg, iI_lt, iI_le, iI_eq] <;> omega)]
      rw [if_pos q, ← cdv_ok (show k < T.length by omega)] at hQ
      have hr := cdv_r T k
      refine c_codeAt h hT (by omega) hl ?_
      refine c_isPlain (by omega) (by omega) ?_
      by_cases z : 32 ≤ cdv T k ∧ cdv T k ≤ 126
      · rw [decide_eq_true z, if_neg (by decide)]
        rw [decide_eq_true z, Bool.true_and] at hQ
        exact ih (k + 1) (by omega) hQ
      · rw [decide_eq_false z, if_pos (by decide)]
        rw [decide_eq_false z, Bool.false_and] at hQ
        exact hQ
    · rw [if_neg (by simp (disch := omega) only [iI_lit, iI_add, iI_sub, iI_mul, iI_neg, iI_lt, iI_le, iI_eq] <;> omega)]
      rw [if_neg q, Bool.true_and] at hQ
      exact ih (k + 1) (by omega) hQ
theorem c_good {Q : Int32 → ab_H → Prop} (h : A p = some (oS T)) (hT : ∀ j, j < T.length → T.getD j 0 < 256) (hl : T.length < 1000) (hQ : Q (iI (bI (gc T))) A) : wp_Q_hasGoodCodes (some p) A Q := ⟨_, cl_good h hT hl T.length 0 (by omega) hQ⟩
theorem gc_drop {T : List Nat} (h : gc T = true) : ∀ k, gc (T.drop k) = true := by
  intro k
  induction k with
  | zero => exact h
  | succ k ih =>
    by_cases q : k < T.length
    · rw [ls_drop q] at ih
      unfold gc at ih
      rw [Bool.and_eq_true] at ih
      exact ih.2
    · rw [List.drop_of_length_le (by omega)]
      rfl
theorem wch_i {n : Int} (h0 : 0 ≤ n) (h1 : n < 65536) : wch (iI n) = iI n := by
  unfold wch
  apply Int32.toInt_inj.mp
  have e : (iI n).toInt = n := iI_toInt (by omega) (by omega)
  have hn : (iI n).toUInt32.toNat = n.toNat := by
    have := Int32.toNat_toBitVec (iI n)
    rw [show (iI n).toUInt32.toNat = (iI n).toBitVec.toNat from rfl]
    unfold iI
    rw [Int32.toBitVec_ofInt, BitVec.toNat_ofInt]
    omega
  have hm : (iI n).toUInt32 % 65536 = (iI n).toUInt32 := by
    apply UInt32.toNat_inj.mp
    rw [UInt32.toNat_mod, hn, show (65536 : UInt32).toNat = 65536 from rfl, Nat.mod_eq_of_lt (by omega)]
  rw [hm]
  rfl
theorem cl_decode {Q : Option Nat → ab_H → Prop} {q dc : Nat} (hT : ∀ j, j < T.length → T.getD j 0 < 256) (hl : T.length ≤ 40) (hg : gc T = true) (A0 : ab_H) (hpd : A0 p = some (oS T)) (hq0 : A0 q = some (oR (.inr (6, [va_rf (some dc)])))) (hpd2 : p ≠ dc) (hqd : q ≠ dc)
    (hQ : ∀ s A' cap', A0 s = none → A' s = some (oS (dec 0 T)) → Fw A0 A' [dc] → A' dc = some (oB (dec 0 T) cap') → cap' ≤ 200 → Q (some s) A') : ∀ (j k : Nat) (A : ab_H) (X : List Nat) (cap kc ks : Nat), k ≤ T.length → T.length ≤ k + j → A dc = some (oB X cap) → Fw A0 A [dc] → X ++ dec 0 (T.drop k) = dec 0 T → X.length + (T.length - k) ≤ 40 → cap ≤ 200 → (T.length - k) + 2 ≤ kc → 2 * (200 - cap) + 44 ≤ ks → wq_Q_decode_10 q (some p) Q (j + 1) (iI k) A kc ks := by
  have fin : ∀ (A : ab_H) (X : List Nat) (cap kc ks : Nat), A dc = some (oB X cap) → Fw A0 A [dc] → X = dec 0 T → X.length ≤ 40 → cap ≤ 200 → 2 ≤ kc → 44 ≤ ks → wq_Q_decode_65 q (some p) Q A kc ks := fun A X cap kc ks hd hF he hx hc h1 h2 => by
    unfold wq_Q_decode_65
    refine wgR.i (x := some dc) (hF.n hq0 hqd) rfl ?_
    refine sb_str2 hd h1 (by omega) (fun s A' hs hs' hF' => ?_)
    rw [he] at hs' hd
    have hs0 : A0 s = none := by
      cases hz : A0 s with
      | none => rfl
      | some o =>
        exfalso
        by_cases w : s = dc
        · rw [w, hd] at hs
          cases hs
        · rw [hF.n hz w] at hs
          cases hs
    exact hQ s A' cap hs0 hs' (hF.tr hF' (by simp)) (hF'.e hd) hc
  intro j
  induction j with
  | zero =>
    intro k A X cap kc ks hk hj hd hF he hx hc h1 h2
    show wb_Q_decode_10 _ _ _ _ _ _ _ _
    unfold wb_Q_decode_10
    refine st_len (hF.n hpd hpd2) ?_
    rw [if_pos (by simp (disch := omega) only [iI_lit, iI_add, iI_sub, iI_mul, iI_neg, iI_lt, iI_le, iI_eq] <;> omega)]
    rw [List.drop_of_length_le (by omega), dec_nil, List.append_nil] at he
    exact fin A X cap kc ks hd hF he (by omega) hc (by omega) (by omega)
  | succ j ih =>
    intro k A X cap kc ks hk hj hd hF he hx hc h1 h2
    show wb_Q_decode_10 _ _ _ _ _ _ _ _
    unfold wb_Q_decode_10
    have hp := hF.n hpd hpd2
    refine st_len hp ?_
    by_cases qe : T.length ≤ k
    · rw [if_pos (by simp (disch := omega) only [iI_lit, iI_add, iI_sub, iI_mul, iI_neg, iI_lt, iI_le, iI_eq] <;> omega)]
      rw [List.drop_of_length_le (by omega), dec_nil, List.append_nil] at he
      exact fin A X cap kc ks hd hF he (by omega) hc (by omega) (by omega)
    rw [if_neg (by simp (disch := omega) only [iI_lit, iI_add, iI_sub, iI_mul, iI_neg, iI_lt, iI_le, iI_eq] <;> omega)]
    refine st_at hp rfl (j := k) (by omega) ?_
    have ht := hT k (by omega)
    have hgk := gc_drop hg k
    rw [ls_drop (show k < T.length by omega)] at he hgk
    rw [dec_0] at he
    unfold gc at hgk
    by_cases z : T.getD k 0 = 37
    · rw [if_pos (by simp (disch := omega) only [iI_lit, iI_add, iI_sub, iI_mul, iI_neg, iI_lt, iI_le, iI_eq] <;> omega)]
      rw [if_pos z] at he hgk
      rw [Bool.and_eq_true, ← cdv_ok (show k < T.length by omega), decide_eq_true_eq] at hgk
      have hcd := hgk.1
      have hk2 : k + 2 < T.length := by
        rcases Nat.lt_or_ge (k + 2) T.length with w | w
        · exact w
        · unfold cdv at hcd
          rw [if_neg (by omega)] at hcd
          omega
      have hcv : cdv T k = 16 * hxv (T.getD (k + 1) 0 : Nat) + hxv (T.getD (k + 2) 0 : Nat) := by
        have h3 := hcd
        unfold cdv at h3 ⊢
        by_cases w : k + 2 < T.length ∧ 0 ≤ hxv (T.getD (k + 1) 0 : Nat) ∧ 0 ≤ hxv (T.getD (k + 2) 0 : Nat)
        · rw [if_pos w]
        · rw [if_neg w] at h3
          omega
      refine wgR.i (x := some dc) (hF.n hq0 hqd) rfl ?_
      refine c_codeAt hp hT (by omega) (by omega) ?_
      rw [wch_i (by omega) (by omega)]
      rw [ls_drop (show k + 1 < T.length by omega), ls_drop (show k + 1 + 1 < T.length by omega)] at he
      have e3 : dec 2 (T.getD (k + 1) 0 :: T.getD (k + 1 + 1) 0 :: T.drop (k + 1 + 1 + 1)) = dec 0 (T.drop (k + 3)) := rfl
      have e4 : (T.getD (k + 1) 0 :: T.getD (k + 1 + 1) 0 :: T.drop (k + 1 + 1 + 1)).getD 0 0 = T.getD (k + 1) 0 := rfl
      have e5 : (T.getD (k + 1) 0 :: T.getD (k + 1 + 1) 0 :: T.drop (k + 1 + 1 + 1)).getD 1 0 = T.getD (k + 2) 0 := rfl
      rw [e3, e4, e5, ← hcv] at he
      refine sb_chr hd (n := (cdv T k).toNat) (by congr 1; omega) (by omega) (by omega) hc (by omega) (by omega) (fun A' cap' ks' hA' hF' c1 c2 c3 => ?_)
      rw [show iI (k : Int) + 2 + 1 = iI ((k + 3 : Nat) : Int) from by rw [show (2 : Int32) = iI 2 from rfl, show (1 : Int32) = iI 1 from rfl, iI_add, iI_add]; congr 1]
      exact ih (k + 3) A' (X ++ [(cdv T k).toNat]) cap' (kc - 1) ks' (by omega) (by omega) hA' (hF.tr hF' (fun x hx => Or.inl hx)) (by rw [List.append_assoc]; exact he) (by rw [List.length_append]; simp; omega) c1 (by omega) (by omega)
    · rw [if_neg (by simp (disch := omega) only [iI_lit, iI_add, iI_sub, iI_mul, iI_neg, iI_lt, iI_le, iI_eq] <;> omega)]
      rw [if_neg z] at he
      refine wgR.i (x := some dc) (hF.n hq0 hqd) rfl ?_
      refine sb_chr hd (n := T.getD k 0) rfl ht (by omega) hc (by omega) (by omega) (fun A' cap' ks' hA' hF' c1 c2 c3 => ?_)
      rw [show iI (k : Int) + 1 = iI ((k + 1 : Nat) : Int) from iI_add _ 1]
      exact ih (k + 1) A' (X ++ [T.getD k 0]) cap' (kc - 1) ks' (by omega) (by omega) hA' (hF.tr hF' (fun x hx => Or.inl hx)) (by rw [List.append_assoc]; exact he) (by rw [List.length_append]; simp; omega) c1 (by omega) (by omega)
theorem c_decode {Q : Option Nat → ab_H → Prop} {q dc cap kc ks : Nat} {X : List Nat} (hp : A p = some (oS T)) (hT : ∀ j, j < T.length → T.getD j 0 < 256) (hl : T.length ≤ 40) (hg : gc T = true) (hq : A q = some (oR (.inr (6, [va_rf (some dc)])))) (hd : A dc = some (oB X cap)) (hc : cap ≤ 200) (h1 : T.length + 3 ≤ kc) (h2 : 2 * (200 - cap) + 44 ≤ ks)
    (hQ : ∀ s A' cap', A s = none → A' s = some (oS (dec 0 T)) → Fw A A' [dc] → A' dc = some (oB (dec 0 T) cap') → cap' ≤ 200 → Q (some s) A') : wp_Q_decode q (some p) A kc ks Q := by
  unfold wp_Q_decode
  refine wgR.i (x := some dc) hq rfl ?_
  refine sb_set hd (k := 0) rfl (Nat.zero_le _) (by omega) (by omega) (fun A' hA' hF' => ?_)
  exact ⟨_, cl_decode (p := p) hT hl hg A hp hq (ne_of hp hd (fun e => by cases e)) (ne_of hq hd (fun e => by cases e)) hQ T.length 0 A' [] cap _ _ (by omega) (by omega) hA' hF' rfl (by simp; omega) hc (by omega) (by omega)⟩
end RL
