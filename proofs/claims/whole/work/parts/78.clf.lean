/-! The class: small letters, no spaces at the ends, header lines -/
theorem nw_c (x : Int32) : narrow .char (.int x) = .int (wch x) := rfl
theorem wLen.i {A : ab_H} {a t n : Nat} {x : Nat → Int32} {K : Int32 → Prop} (h : A a = some (oR (.inl (t, n, .inl x)))) (ht : t < 16) (hK : K (iI n)) : wLen A (some a) K := ⟨a, t, n, .inl x, rfl, h, ht, hK⟩
theorem wAC.i {A : ab_H} {a n i : Nat} {f : Nat → Int32} {K : Int32 → Prop} (h : A a = some (oR (.inl (2, n, .inl f)))) (hi : i < n) (hn : n < 2147483648) (hK : K (f i)) : wAC A (some a) (iI i) K := ⟨a, 2, n, f, rfl, h, rfl, iI_in (by omega) (by omega) hn, by rw [iI_clamp (by omega) (by omega)]; exact hK⟩
theorem wAI.i {A : ab_H} {a n i t : Nat} {f : Nat → Int32} {K : Int32 → Prop} (h : A a = some (oR (.inl (t, n, .inl f)))) (ht : t = 0 ∨ t = 8) (hi : i < n) (hn : n < 2147483648) (hK : K (f i)) : wAI A (some a) (iI i) K := ⟨a, t, n, f, rfl, h, ht, iI_in (by omega) (by omega) hn, by rw [iI_clamp (by omega) (by omega)]; exact hK⟩
theorem wSI.i {A : ab_H} {a n i : Nat} {f : Nat → Int32} {x : Int32} {K : ab_H → Prop} (h : A a = some (oR (.inl (0, n, .inl f)))) (hi : i < n) (hn : n < 2147483648) (hK : ∀ A', A' a = some (oR (.inl (0, n, .inl (upd f i x)))) → Fw A A' [a] → K A') : wSI A (some a) (iI i) x K := ⟨a, n, f, rfl, h, iI_in (by omega) (by omega) hn, by rw [iI_clamp (by omega) (by omega)]; exact hK _ ab_us Fw.u⟩
section SMA
variable {A : ab_H} {s kc ks : Nat} {T : List Nat} {Q : Option Nat → ab_H → Prop}
theorem cl_small {p0 : Option Nat} {c : Nat} (hT : ∀ x ∈ T, x < 256) (hl : T.length ≤ 40) (A0 : ab_H) (h0 : A0 c = none) (hQ : ∀ t B, B t = some (oS (low T)) → Fw A0 B [] → Q (some t) B) : ∀ (j i : Nat) (A : ab_H) (g : Nat → Int32) (kc ks : Nat), i + j = T.length → A c = some (oR (.inl (2, T.length, .inl g))) → (∀ x, x < T.length → g x = iI (if x < i then (low T).getD x 0 else T.getD x 0)) → Fw A0 A [] → 2 ≤ kc → 44 ≤ ks → wq_X_small_7 p0 Q (j + 1) (some c) (iI i) A kc ks := by
  have hlow : ∀ x, x < T.length → (low T).getD x 0 = lowc (T.getD x 0) := fun x hx => by
    unfold low
    simp [List.getD_eq_getElem?_getD, hx]
  have hll : (low T).length = T.length := by
    unfold low
    rw [List.length_map]
  intro j
  induction j with
  | zero =>
    intro i A g kc ks hi hc hg hF h1 h2
    show wb_X_small_7 _ _ _ _ _ _ _ _
    unfold wb_X_small_7
    refine wLen.i hc (by decide) ?_
    rw [if_pos (by simp (disch := omega) only [iI_lit, iI_add, iI_sub, iI_mul, iI_neg, iI_lt, iI_le, iI_eq] <;> omega)]
    unfold wq_X_small_38
    refine wnw (by omega) (by omega) (fun b A1 hb n1 e1 f1 => ?_)
    have f01 : Fw A0 A1 [] := hF.tr f1 (by simp)
    refine ⟨b, c, g, low T, rfl, e1, hb, rfl, ?_, by rw [hll]; omega, fun x hx => ?_, by omega, by rw [hll]; omega, ?_⟩
    · rw [hll]
      exact f1.e hc
    · rw [hll] at hx
      have hb := bt_ls hT x hx
      rw [hg x hx, if_pos (by omega), hlow x hx]
      exact ⟨lowc_r hb, rfl⟩
    · have hb0 : A0 b = none := by
        cases hz : A0 b with
        | none => rfl
        | some o =>
          rw [hF.e hz] at n1
          cases n1
      exact hQ b _ ab_us (fun x o hx _ => by
        rw [ab_un (ne_no hx hb0)]
        exact f01.e hx)
  | succ j ih =>
    intro i A g kc ks hi hc hg hF h1 h2
    show wb_X_small_7 _ _ _ _ _ _ _ _
    unfold wb_X_small_7
    refine wLen.i hc (by decide) ?_
    rw [if_neg (by simp (disch := omega) only [iI_lit, iI_add, iI_sub, iI_mul, iI_neg, iI_lt, iI_le, iI_eq] <;> omega)]
    have hin : vp_in (iI i) T.length := iI_in (by omega) (by omega) (by omega)
    have hcl : (iI (i : Int)).toNatClampNeg = i := iI_clamp (by omega) (by omega)
    have hb := bt_ls hT i (by omega)
    have hgi : g i = iI (T.getD i 0) := by rw [hg i (by omega), if_neg (by omega)]
    refine wAC.i hc (by omega) (by omega) ?_
    rw [hgi]
    rw [show iI (i : Int) + 1 = iI ((i + 1 : Nat) : Int) from iI_add _ 1]
    refine c_isCapital (by omega) (by omega) ?_
    by_cases q : 65 ≤ T.getD i 0 ∧ T.getD i 0 ≤ 90
    · rw [decide_eq_true (by omega), if_neg (by decide)]
      refine wAC.i hc (by omega) (by omega) ?_
      rw [hgi, show iI (T.getD i 0 : Nat) + 32 = iI ((T.getD i 0 + 32 : Nat) : Int) from iI_add _ 32, wch_i (by omega) (by omega)]
      refine ⟨c, T.length, g, rfl, hc, hin, by rw [nw_c, wch_i (by omega) (by omega)], ?_⟩
      rw [hcl]
      refine ih (i + 1) _ _ kc ks (by omega) ab_us (fun x hx => ?_) (fun x o hx _ => ?_) h1 h2
      · by_cases z : x = i
        · subst z
          rw [pk_us, if_pos (by omega), hlow x hx]
          unfold lowc
          rw [if_pos q]
        · rw [pk_un z, hg x hx]
          by_cases w : x < i
          · rw [if_pos w, if_pos (by omega)]
          · rw [if_neg w, if_neg (by omega)]
      · rw [ab_un (ne_no hx h0)]
        exact hF.e hx
    · rw [decide_eq_false (by omega), if_pos (by decide)]
      refine ih (i + 1) A g kc ks (by omega) hc (fun x hx => ?_) hF h1 h2
      rw [hg x hx]
      by_cases z : x = i
      · subst z
        rw [if_neg (by omega), if_pos (by omega), hlow x hx]
        unfold lowc
        rw [if_neg q]
      · by_cases w : x < i
        · rw [if_pos w, if_pos (by omega)]
        · rw [if_neg w, if_neg (by omega)]
theorem c_small (h : A s = some (oS T)) (hT : ∀ x ∈ T, x < 256) (hl : T.length ≤ 40) (h1 : 3 ≤ kc) (h2 : 84 ≤ ks) (hQ : ∀ t B, B t = some (oS (low T)) → Fw A B [] → Q (some t) B) : wp_X_small (some s) A kc ks Q := by
  unfold wp_X_small
  refine ⟨s, T, rfl, h, by omega, by omega, fun c g hc hg => ⟨_, cl_small (c := c) hT hl A hc hQ T.length 0 _ g _ _ (by omega) ab_us (fun x hx => ?_) (Fw.w hc) (by omega) (by omega)⟩⟩
  rw [hg x hx, if_neg (by omega)]
  rfl
theorem cl_trim28 {p1 : Int32} {f : Nat} (h : A s = some (oS T)) (hT : ∀ x ∈ T, x < 256) (hl : T.length ≤ 40) (h1 : 2 ≤ kc) (h2 : 44 ≤ ks) (hQ : ∀ t B, B t = some (oS (rtr (T.drop f))) → Fw A B [] → Q (some t) B) : ∀ (j t : Nat), t = f + j → t ≤ T.length → rtr (sl T f t) = rtr (T.drop f) → wq_X_trimmed_28 (some s) p1 Q (j + 1) (iI f) (iI t) A kc ks := by
  have fin : ∀ t, f ≤ t → t ≤ T.length → sl T f t = rtr (T.drop f) → wq_X_trimmed_51 (some s) p1 Q (iI f) (iI t) A kc ks := fun t hft ht he => by
    unfold wq_X_trimmed_51
    exact st_sub2 h rfl rfl hft ht (by omega) (by omega) (fun u B g F => hQ u B (by rw [← he]; exact g) F)
  intro j
  induction j with
  | zero =>
    intro t ht htl he
    show wb_X_trimmed_28 _ _ _ _ _ _ _ _ _
    unfold wb_X_trimmed_28
    rw [if_pos (by simp (disch := omega) only [iI_lit, iI_add, iI_sub, iI_mul, iI_neg, iI_lt, iI_le, iI_eq] <;> omega)]
    refine fin t (by omega) htl ?_
    rw [sl_nil (by omega)] at he ⊢
    exact he
  | succ j ih =>
    intro t ht htl he
    show wb_X_trimmed_28 _ _ _ _ _ _ _ _ _
    unfold wb_X_trimmed_28
    rw [if_neg (by simp (disch := omega) only [iI_lit, iI_add, iI_sub, iI_mul, iI_neg, iI_lt, iI_le, iI_eq] <;> omega)]
    refine st_at h (j := t - 1) (by rw [show (1 : Int32) = iI 1 from rfl, iI_sub]; congr 1; omega) (by omega) ?_
    have hb := bt_ls hT (t - 1) (by omega)
    have hs := sl_snoc (B := T) (f := f) (t := t - 1) (by omega) (by omega)
    rw [show t - 1 + 1 = t by omega] at hs
    have hr := rtr_snoc (sl T f (t - 1)) (T.getD (t - 1) 0)
    rw [← hs] at hr
    by_cases q : T.getD (t - 1) 0 = 32
    · rw [if_pos (by simp (disch := omega) only [iI_lit, iI_add, iI_sub, iI_mul, iI_neg, iI_lt, iI_le, iI_eq] <;> omega), show iI (t : Int) - 1 = iI ((t - 1 : Nat) : Int) from (iI_sub _ 1).trans (by congr 1; omega)]
      rw [if_pos q] at hr
      exact ih (t - 1) (by omega) (by omega) (by rw [← hr]; exact he)
    · rw [if_neg (by simp (disch := omega) only [iI_lit, iI_add, iI_sub, iI_mul, iI_neg, iI_lt, iI_le, iI_eq] <;> omega)]
      rw [if_neg q] at hr
      refine fin t (by omega) htl ?_
      rw [← he, hr]
theorem cl_trim7 {p1 : Int32} {f0 : Nat} (h : A s = some (oS T)) (hT : ∀ x ∈ T, x < 256) (hl : T.length ≤ 40) (h1 : 2 ≤ kc) (h2 : 44 ≤ ks) (hQ : ∀ t B, B t = some (oS (trm (T.drop f0))) → Fw A B [] → Q (some t) B) : ∀ (j f : Nat), f + j = T.length → f + spn (T.drop f) = f0 + spn (T.drop f0) → wq_X_trimmed_7 (some s) p1 Q (j + 1) (iI f) (iI T.length) A kc ks := by
  have fin : ∀ f, f ≤ T.length → f = f0 + spn (T.drop f0) → ∃ n, wq_X_trimmed_28 (some s) p1 Q n (iI f) (iI T.length) A kc ks := fun f hf he => by
    refine ⟨_, cl_trim28 h hT hl h1 h2 (fun t B g F => hQ t B ?_ F) (T.length - f) T.length (by omega) (Nat.le_refl _) ?_⟩
    · rw [trm_rtr, List.drop_drop, ← he]
      exact g
    · rw [show sl T f T.length = T.drop f from by unfold sl; rw [List.take_of_length_le (by rw [List.length_drop]; omega)]]
  intro j
  induction j with
  | zero =>
    intro f hf he
    show wb_X_trimmed_7 _ _ _ _ _ _ _ _ _
    unfold wb_X_trimmed_7
    rw [if_pos (by simp (disch := omega) only [iI_lit, iI_add, iI_sub, iI_mul, iI_neg, iI_lt, iI_le, iI_eq] <;> omega)]
    rw [List.drop_of_length_le (show T.length ≤ f by omega), show spn [] = 0 from rfl] at he
    exact fin f (by omega) (by omega)
  | succ j ih =>
    intro f hf he
    show wb_X_trimmed_7 _ _ _ _ _ _ _ _ _
    unfold wb_X_trimmed_7
    rw [if_neg (by simp (disch := omega) only [iI_lit, iI_add, iI_sub, iI_mul, iI_neg, iI_lt, iI_le, iI_eq] <;> omega)]
    refine st_at h rfl (j := f) (by omega) ?_
    have hb := bt_ls hT f (by omega)
    rw [ls_drop (show f < T.length by omega), spn_cons] at he
    by_cases q : T.getD f 0 = 32
    · rw [if_pos (by simp (disch := omega) only [iI_lit, iI_add, iI_sub, iI_mul, iI_neg, iI_lt, iI_le, iI_eq] <;> omega), show iI (f : Int) + 1 = iI ((f + 1 : Nat) : Int) from iI_add _ 1]
      rw [if_pos q] at he
      exact ih (f + 1) (by omega) (by omega)
    · rw [if_neg (by simp (disch := omega) only [iI_lit, iI_add, iI_sub, iI_mul, iI_neg, iI_lt, iI_le, iI_eq] <;> omega)]
      rw [if_neg q] at he
      exact fin f (by omega) (by omega)
theorem c_trimmed {f : Nat} {y : Int32} (h : A s = some (oS T)) (hT : ∀ x ∈ T, x < 256) (hl : T.length ≤ 40) (hf : f ≤ T.length) (hy : y = iI f) (h1 : 2 ≤ kc) (h2 : 44 ≤ ks) (hQ : ∀ t B, B t = some (oS (trm (T.drop f))) → Fw A B [] → Q (some t) B) : wp_X_trimmed (some s) y A kc ks Q := by
  subst hy
  unfold wp_X_trimmed
  exact st_len h ⟨_, cl_trim7 h hT hl h1 h2 hQ (T.length - f) f (by omega) rfl⟩
theorem cl_headerOf (h : A s = some (oS T)) (hT : ∀ x ∈ T, x < 256) (hl : T.length ≤ 40) (hc : fi 58 T < T.length) (h1 : 10 ≤ kc) (h2 : 200 ≤ ks) (hQ0 : (T.take (fi 58 T)).all hchr = false → Q none A) (hQ1 : (T.take (fi 58 T)).all hchr = true → ∀ b B, A b = none → PtAt B b (hnm T, hvl T) → Fw A B [] → Q (some b) B) : ∀ (j i : Nat), i + j = fi 58 T → (sl T i (fi 58 T)).all hchr = (T.take (fi 58 T)).all hchr → wq_R_headerOf_16 (some s) Q (j + 1) (iI (fi 58 T)) (iI i) A kc ks := by
  intro j
  induction j with
  | zero =>
    intro i hi he
    show wb_R_headerOf_16 _ _ _ _ _ _ _ _
    unfold wb_R_headerOf_16
    rw [if_pos (by simp (disch := omega) only [iI_lit, iI_add, iI_sub, iI_mul, iI_neg, iI_lt, iI_le, iI_eq] <;> omega)]
    rw [sl_nil (by omega)] at he
    unfold wq_R_headerOf_55
    refine wnw (by omega) (by omega) (fun b A1 _ n1 e1 f1 => ?_)
    refine st_sub2 (f1.e h) rfl rfl (Nat.zero_le _) (Nat.le_of_lt hc) (by omega) (by omega) (fun s2 A2 g2 f2 => ?_)
    have g2 : A2 s2 = some (oS (T.take (fi 58 T))) := g2
    refine wX.i 3 84 (by omega) (by omega) (c_small g2 (fun x hx => hT x (List.mem_of_mem_take hx)) (by rw [List.length_take]; omega) (Nat.le_refl _) (Nat.le_refl _) (fun s3 A3 g3 f3 => ?_))
    refine wX.i 2 44 (by omega) (by omega) (c_trimmed (f := fi 58 T + 1) (f3.e (f2.e (f1.e h))) hT hl (by omega) (iI_add _ 1) (Nat.le_refl _) (Nat.le_refl _) (fun s4 A4 g4 f4 => wD.i ?_))
    have e4 : A4 b = some (oR (.inr (8, [.null, .null]))) := f4.e (f3.e (f2.e e1))
    refine c_Pinit (sn := s3) (sv := s4) e4 (fun A5 e5 f5 => hQ1 he.symm b A5 n1 ⟨s3, s4, e5, ?_, ?_⟩ ?_)
    · exact f5.k (f4.e g3) e4 (fun e => by cases e)
    · exact f5.k g4 e4 (fun e => by cases e)
    · exact ((f1.tr (f2.tr (f3.tr f4 (by simp)) (by simp)) (by simp)) : Fw A A4 []).tr f5 (fun x hx => Or.inr (by simp at hx; rw [hx]; exact n1))
  | succ j ih =>
    intro i hi he
    show wb_R_headerOf_16 _ _ _ _ _ _ _ _
    unfold wb_R_headerOf_16
    rw [if_neg (by simp (disch := omega) only [iI_lit, iI_add, iI_sub, iI_mul, iI_neg, iI_lt, iI_le, iI_eq] <;> omega)]
    refine st_at h rfl (j := i) (by omega) ?_
    have hb := bt_ls hT i (by omega)
    rw [show iI (i : Int) + 1 = iI ((i + 1 : Nat) : Int) from iI_add _ 1]
    rw [sl_cons (show i < fi 58 T by omega) (Nat.le_of_lt hc), List.all_cons] at he
    unfold hchr ltr at he
    have yes : (decide (97 ≤ (T.getD i 0 : Int) ∧ (T.getD i 0 : Int) ≤ 122) || decide (65 ≤ (T.getD i 0 : Int) ∧ (T.getD i 0 : Int) ≤ 90) || decide (T.getD i 0 = 45)) = true → wq_R_headerOf_16 (some s) Q (j + 1) (iI (fi 58 T)) (iI ((i + 1 : Nat) : Int)) A kc ks := fun z => by
      rw [z, Bool.true_and] at he
      exact ih (i + 1) (by omega) he
    by_cases q1 : T.getD i 0 = 45
    · rw [if_pos (by simp (disch := omega) only [iI_lit, iI_add, iI_sub, iI_mul, iI_neg, iI_lt, iI_le, iI_eq] <;> omega)]
      exact yes (by rw [decide_eq_true q1, Bool.or_true])
    rw [if_neg (by simp (disch := omega) only [iI_lit, iI_add, iI_sub, iI_mul, iI_neg, iI_lt, iI_le, iI_eq] <;> omega)]
    refine c_isCapital (by omega) (by omega) ?_
    by_cases q2 : 65 ≤ (T.getD i 0 : Int) ∧ (T.getD i 0 : Int) ≤ 90
    · rw [decide_eq_true q2, if_neg (by decide)]
      exact yes (by rw [decide_eq_true q2, Bool.or_true, Bool.true_or])
    rw [decide_eq_false q2, if_pos (by decide)]
    refine c_isSmall (by omega) (by omega) ?_
    by_cases q3 : 97 ≤ (T.getD i 0 : Int) ∧ (T.getD i 0 : Int) ≤ 122
    · rw [decide_eq_true q3, if_neg (by decide)]
      exact yes (by rw [decide_eq_true q3]; rfl)
    rw [decide_eq_false q3, if_pos (by decide)]
    rw [decide_eq_false q1, decide_eq_false q2, decide_eq_false q3] at he
    exact hQ0 he.symm
theorem c_headerOf (h : A s = some (oS T)) (hT : ∀ x ∈ T, x < 256) (hl : T.length ≤ 40) (h1 : 10 ≤ kc) (h2 : 200 ≤ ks) (hQ0 : hOK T = false → Q none A) (hQ1 : hOK T = true → ∀ b B, A b = none → PtAt B b (hnm T, hvl T) → Fw A B [] → Q (some b) B) : wp_R_headerOf (some s) A kc ks Q := by
  unfold wp_R_headerOf
  refine st_ix h (j := 58) rfl (by decide) ?_
  unfold hOK at hQ0 hQ1
  have hfl := fi_le 58 T
  by_cases q : fi 58 T < T.length
  · rw [if_pos q]
    by_cases q2 : 0 < fi 58 T
    · rw [if_pos (by simp (disch := omega) only [iI_lit, iI_add, iI_sub, iI_mul, iI_neg, iI_lt, iI_le, iI_eq] <;> omega)]
      rw [decide_eq_true ⟨q2, q⟩, Bool.true_and] at hQ0 hQ1
      exact ⟨_, cl_headerOf h hT hl q h1 h2 hQ0 hQ1 (fi 58 T) 0 (by omega) rfl⟩
    · rw [if_neg (by simp (disch := omega) only [iI_lit, iI_add, iI_sub, iI_mul, iI_neg, iI_lt, iI_le, iI_eq] <;> omega)]
      rw [decide_eq_false (by omega), Bool.false_and] at hQ0
      exact hQ0 rfl
  · rw [if_neg q, if_neg (by decide)]
    rw [decide_eq_false (by omega), Bool.false_and] at hQ0
    exact hQ0 rfl
end SMA
