/-! The reference makes an answer's text -/
theorem iI_div {a b : Nat} (ha : a < 2147483648) (hb : b < 2147483648) : iI a / iI b = iI ((a / b : Nat) : Int) := by
  apply Int32.toInt_inj.mp
  have h1 : a / b ≤ a := Nat.div_le_self a b
  rw [Int32.toInt_div, iI_toInt (by omega) (by omega), iI_toInt (by omega) (by omega)]
  rw [show ((a : Int).tdiv (b : Int)) = ((a / b : Nat) : Int) from by rw [Int.ofNat_tdiv]]
  generalize a / b = d at *
  rw [iI_toInt (by omega) (by omega)]
  exact Int.bmod_eq_of_le (by omega) (by omega)
theorem iI_mod {a b : Nat} (ha : a < 2147483648) (hb : b < 2147483648) : iI a - iI a / iI b * iI b = iI ((a % b : Nat) : Int) := by
  rw [iI_div ha hb, iI_mul, iI_sub]
  congr 1
  have := Nat.div_add_mod a b
  rw [Nat.mul_comm] at this
  have h2 : ((a / b : Nat) : Int) * (b : Int) = ((a / b * b : Nat) : Int) := by simp
  rw [h2]
  omega
theorem tk60 (A Y : List Nat) : ((A.take 60) ++ Y).take 60 = (A ++ Y).take 60 := by
  rw [List.take_append, List.take_append, List.take_take, List.length_take]
  simp only [Nat.min_self]
  congr 2
  omega
/-- what was made -/
def Mk (s : RS) (M : List Nat) : Prop := M.length ≤ 60 ∧ s.1 42 = iI M.length ∧ ∀ j, j < M.length → M.getD j 0 < 256 ∧ s.2 41 j = iI (M.getD j 0)
theorem Ch.mk' {I R : List Nat} {s t : RS} {M : List Nat} (h : Ch I R s t) (hm : Mk s M) (h1 : 42 ∉ I) (h2 : 41 ∉ R) : Mk t M := ⟨hm.1, by rw [h.1 42 h1]; exact hm.2.1, fun j hj => by rw [h.2 41 h2]; exact hm.2.2 j hj⟩
theorem sm_make {s : RS} {M : List Nat} {c : Nat} {Q : RS → Prop} (hM : Mk s M) (hc : c < 256) (hQ : ∀ s', Ch [42] [41] s s' → Mk s' ((M ++ [c]).take 60) → Q s') : vp_M_make (iI c) s Q := by
  obtain ⟨m1, m2, m3⟩ := hM
  unfold vp_M_make
  refine wL.i ?_
  rw [m2]
  by_cases q : 60 ≤ M.length
  · rw [if_pos (by simp (disch := omega) only [iI_lit, iI_add, iI_sub, iI_mul, iI_neg, iI_lt, iI_le, iI_eq] <;> omega)]
    refine hQ s (Ch.rf s) ?_
    rw [List.take_append_of_le_length q, List.take_of_length_le m1]
    exact ⟨m1, m2, m3⟩
  · rw [if_neg (by simp (disch := omega) only [iI_lit, iI_add, iI_sub, iI_mul, iI_neg, iI_lt, iI_le, iI_eq] <;> omega)]
    refine wL.i ?_
    refine vS_i (by omega) (show (M.length : Int) < (64 : Nat) by omega) (by decide) (wL.i (vP.i ?_))
    have el : (M ++ [c]).length = M.length + 1 := by simp
    rw [List.take_of_length_le (by rw [el]; omega)] at hQ
    refine hQ _ (((Ch.rf s).r (by decide)).i (by decide)) ⟨by rw [el]; omega, ?_, fun j hj => ?_⟩
    · rw [sI_at, sR_1, m2, el]
      exact iI_add _ 1
    · rw [el] at hj
      rw [sI_2, sR_at]
      show _ ∧ upd (s.2 41) M.length (iI c) j = _
      by_cases z : j = M.length
      · subst z
        rw [ls_snoc_at, pk_us]
        exact ⟨hc, rfl⟩
      · rw [pk_un z, ls_snoc_lt (by omega)]
        exact m3 j (by omega)
section MK
variable {s0 : RS} {M : List Nat}
theorem mn_dig {s : RS} {n t f : Nat} {Q : RS → Prop} (hM : Mk s M) (hn : n < 10000) (ht : 0 < t) (ht2 : t ≤ 1000) (hQ : ∀ s', Ch [42] [41] s s' → Mk s' ((M ++ [48 + n / t % 10]).take 60) → vq_M_makeNumber_20 (iI n) Q f (iI ((t / 10 : Nat) : Int)) s') : vq_M_makeNumber_20 (iI n) Q (f + 1) (iI t) s := by
  show vb_M_makeNumber_20 _ _ _ _ _
  unfold vb_M_makeNumber_20
  rw [if_neg (by simp (disch := omega) only [iI_lit, iI_add, iI_sub, iI_mul, iI_neg, iI_lt, iI_le, iI_eq] <;> omega)]
  refine ⟨(by simp (disch := omega) only [iI_lit, iI_add, iI_sub, iI_mul, iI_neg, iI_lt, iI_le, iI_eq] <;> omega), ?_⟩
  have h1 : n / t ≤ n := Nat.div_le_self n t
  rw [iI_div (a := n) (b := t) (by omega) (by omega), show (10 : Int32) = iI ((10 : Nat) : Int) from rfl, iI_mod (a := n / t) (b := 10) (by omega) (by omega), show (48 : Int32) + iI ((n / t % 10 : Nat) : Int) = iI ((48 + n / t % 10 : Nat) : Int) from iI_add 48 _]
  refine sm_make hM (by omega) (fun s' a b => wL.i ?_)
  rw [iI_div (a := t) (b := 10) (by omega) (by omega)]
  exact hQ s' a b
theorem mn_end {s : RS} {n f : Nat} {Q : RS → Prop} (hQ : Q s) : vq_M_makeNumber_20 (iI n) Q (f + 1) (iI ((0 : Nat) : Int)) s := by
  show vb_M_makeNumber_20 _ _ _ _ _
  unfold vb_M_makeNumber_20
  rw [if_pos (by decide)]
  exact hQ
theorem mn_up {s : RS} {n t f : Nat} {Q : RS → Prop} (hn : n < 10000) (ht : 0 < t) (ht2 : t ≤ 10000) (h0 : n / t < 10 → vq_M_makeNumber_18 (iI n) Q (iI t) s) (h1 : 10 ≤ n / t → vq_M_makeNumber_2 (iI n) Q f (iI ((10 * t : Nat) : Int)) s) : vq_M_makeNumber_2 (iI n) Q (f + 1) (iI t) s := by
  show vb_M_makeNumber_2 _ _ _ _ _
  unfold vb_M_makeNumber_2
  refine ⟨(by simp (disch := omega) only [iI_lit, iI_add, iI_sub, iI_mul, iI_neg, iI_lt, iI_le, iI_eq] <;> omega), ?_⟩
  have h2 : n / t ≤ n := Nat.div_le_self n t
  rw [iI_div (a := n) (b := t) (by omega) (by omega)]
  generalize n / t = d at *
  by_cases q : d < 10
  · rw [if_pos (by simp (disch := omega) only [iI_lit, iI_add, iI_sub, iI_mul, iI_neg, iI_lt, iI_le, iI_eq] <;> omega)]
    exact h0 q
  · rw [if_neg (by simp (disch := omega) only [iI_lit, iI_add, iI_sub, iI_mul, iI_neg, iI_lt, iI_le, iI_eq] <;> omega)]
    refine wL.i ?_
    rw [show iI (t : Int) * 10 = iI ((10 * t : Nat) : Int) from (iI_mul _ 10).trans (by congr 1; omega)]
    exact h1 (by omega)
theorem sm_makeNumber {n : Nat} {Q : RS → Prop} (hM : Mk s0 M) (hn : n < 10000) (hQ : ∀ s', Ch [42] [41] s0 s' → Mk s' ((M ++ dc_l n).take 60) → Q s') : vp_M_makeNumber (iI n) s0 Q := by
  unfold dc_l at hQ
  refine ⟨4, mn_up (t := 1) hn (by decide) (by decide) (fun q => ?_) (fun q => mn_up (t := 10) hn (by decide) (by decide) (fun q2 => ?_) (fun q2 => mn_up (t := 100) hn (by decide) (by decide) (fun q3 => ?_) (fun q3 => mn_up (t := 1000) hn (by decide) (by decide) (fun q4 => ?_) (fun q4 => ?_))))⟩
  · rw [if_pos (show n < 10 by omega)] at hQ
    refine ⟨2, mn_dig (t := 1) hM hn (by decide) (by decide) (fun s1 a1 b1 => mn_end (hQ s1 a1 ?_))⟩
    rw [show 48 + n / 1 % 10 = 48 + n by omega] at b1
    exact b1
  · rw [if_neg (show ¬ n < 10 by omega), if_pos (show n < 100 by omega)] at hQ
    refine ⟨3, mn_dig (t := 10) hM hn (by decide) (by decide) (fun s1 a1 b1 => mn_dig (t := 1) b1 hn (by decide) (by decide) (fun s2 a2 b2 => mn_end (hQ s2 (a1.tr a2) ?_)))⟩
    rw [tk60, List.append_assoc, show n / 10 % 10 = n / 10 by omega, show n / 1 % 10 = n % 10 by omega] at b2
    exact b2
  · rw [if_neg (show ¬ n < 10 by omega), if_neg (show ¬ n < 100 by omega), if_pos (show n < 1000 by omega)] at hQ
    refine ⟨4, mn_dig (t := 100) hM hn (by decide) (by decide) (fun s1 a1 b1 => mn_dig (t := 10) b1 hn (by decide) (by decide) (fun s2 a2 b2 => mn_dig (t := 1) b2 hn (by decide) (by decide) (fun s3 a3 b3 => mn_end (hQ s3 ((a1.tr a2).tr a3) ?_))))⟩
    rw [tk60, List.append_assoc, tk60, List.append_assoc, show n / 100 % 10 = n / 100 by omega, show n / 1 % 10 = n % 10 by omega] at b3
    exact b3
  · rw [if_neg (show ¬ n < 10 by omega), if_neg (show ¬ n < 100 by omega), if_neg (show ¬ n < 1000 by omega)] at hQ
    refine ⟨5, mn_dig (t := 1000) hM hn (by decide) (by decide) (fun s1 a1 b1 => mn_dig (t := 100) b1 hn (by decide) (by decide) (fun s2 a2 b2 => mn_dig (t := 10) b2 hn (by decide) (by decide) (fun s3 a3 b3 => mn_dig (t := 1) b3 hn (by decide) (by decide) (fun s4 a4 b4 => mn_end (hQ s4 (((a1.tr a2).tr a3).tr a4) ?_)))))⟩
    rw [tk60, List.append_assoc, tk60, List.append_assoc, tk60, List.append_assoc, show n / 1000 % 10 = n / 1000 by omega, show n / 1 % 10 = n % 10 by omega] at b4
    exact b4
  · omega
theorem sl_makePart {V : List Nat} {p0 : Int32} {Q : RS → Prop} (hF : Fo s0 V) (hV : V.length ≤ 40) (hQ : ∀ s', Ch [42] [41] s0 s' → Mk s' ((M ++ V).take 60) → Q s') : ∀ (j k : Nat) (s : RS), k + j = V.length → Ch [42] [41] s0 s → Mk s ((M ++ V.take k).take 60) → vq_M_makePart_8 p0 Q (j + 1) (iI 1) (iI k) s := by
  intro j
  induction j with
  | zero =>
    intro k s hk hC hM
    show vb_M_makePart_8 _ _ _ _ _ _
    unfold vb_M_makePart_8
    refine wL.i ?_
    rw [hC.1 40 (by decide), hF.1, if_pos (by simp (disch := omega) only [iI_lit, iI_add, iI_sub, iI_mul, iI_neg, iI_lt, iI_le, iI_eq] <;> omega)]
    rw [List.take_of_length_le (show V.length ≤ k by omega)] at hM
    exact hQ s hC hM
  | succ j ih =>
    intro k s hk hC hM
    have hF' : Fo s V := ⟨by rw [hC.1 40 (by decide)]; exact hF.1, fun i hi => by rw [hC.2 39 (by decide)]; exact hF.2 i hi⟩
    show vb_M_makePart_8 _ _ _ _ _ _
    unfold vb_M_makePart_8
    refine wL.i ?_
    rw [hC.1 40 (by decide), hF.1, if_neg (by simp (disch := omega) only [iI_lit, iI_add, iI_sub, iI_mul, iI_neg, iI_lt, iI_le, iI_eq] <;> omega), if_neg (by decide)]
    refine hF'.el (by omega) hV ?_
    refine sm_make hM (hF.2 k (by omega)).1 (fun s' a b => ?_)
    rw [show iI (k : Int) + 1 = iI ((k + 1 : Nat) : Int) from iI_add _ 1]
    refine ih (k + 1) s' (by omega) (hC.tr a) ?_
    rw [tk60, List.append_assoc] at b
    have : V.take (k + 1) = V.take k ++ [V.getD k 0] := by
      rw [List.take_succ]
      simp [List.getD_eq_getElem?_getD, show k < V.length by omega]
    rw [this]
    exact b
def prt (o : Option (List Nat)) : List Nat := o.getD []
theorem sm_makePart {B : List Nat} {cl : Bool} {hs : List (Nat × Nat)} {bd N : List Nat} {pt : Nat} {Q : RS → Prop} (h : Jd s0 B cl hs bd) (hG : Gd B hs bd) (hS : pt = 2 ∨ pt = 3 → So s0 N) (hN : N.length ≤ 40) (hpt : pt ≤ 4) (hM : Mk s0 M) (hQ : ∀ s', Ch [40, 42] [39, 41] s0 s' → Mk s' ((M ++ prt (rqf (rqOf B hs bd) pt N)).take 60) → Q s') : vp_M_makePart (iI pt) s0 Q := by
  unfold vp_M_makePart
  refine sm_seekPart h hG hS hN hpt (fun z s' a => ?_) (fun V z l s' a b => ?_)
  · refine ⟨1, ?_⟩
    rw [z] at hQ
    have hM' := a.mk' hM (by decide) (by decide)
    have := hQ s' (a.mo (by decide) (by decide)) (by rw [show prt none = [] from rfl, List.append_nil, List.take_of_length_le hM.1]; exact hM')
    show vb_M_makePart_8 _ _ _ _ _ _
    unfold vb_M_makePart_8
    refine wL.i ?_
    by_cases w : s'.1 40 ≤ 0
    · rw [if_pos w]
      exact this
    · rw [if_neg w, if_pos (by decide)]
      exact this
  · rw [z] at hQ
    have hM' := a.mk' hM (by decide) (by decide)
    refine ⟨_, sl_makePart (M := M) b l (fun s2 c d => hQ s2 ((a.mo (by decide) (by decide)).tr (c.mo (by decide) (by decide))) d) V.length 0 s' (by omega) (Ch.rf _) ?_⟩
    rw [List.take_zero, List.append_nil, List.take_of_length_le hM.1]
    exact hM'
end MK
