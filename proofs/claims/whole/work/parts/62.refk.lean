/-! Stubs: what misses, which is chosen -/
abbrev Sb : Type := Nat × Nat × Nat × List Mt × List Nat × Option (Nat × Nat × Nat)
def sbI (x : Sb) : Nat := x.1
def sbP (x : Sb) : Nat := x.2.1
def sbC (x : Sb) : Nat := x.2.2.1
def sbM (x : Sb) : List Mt := x.2.2.2.1
def sbT (x : Sb) : List Nat := x.2.2.2.2.1
def sbS (x : Sb) : Option (Nat × Nat × Nat) := x.2.2.2.2.2
def scn (st : Nat → Nat) (o : Option (Nat × Nat × Nat)) : Nat := match o with
  | none => 0
  | some y => if st y.1 = y.2.1 then 0 else 1
def mss (r : Rq) (L : List Mt) : Nat := L.countP (fun m => !hld r m)
def miss (r : Rq) (st : Nat → Nat) (x : Sb) : Nat := scn st (sbS x) + mss r (sbM x)
/-- the scenarios -/
def Sc (s : RS) (st : Nat → Nat) : Prop := ∀ k, k < 3 → st k ≤ 3 ∧ s.2 8 k = iI (st k)
def Sn (s : RS) (k : Nat) (o : Option (Nat × Nat × Nat)) : Prop := match o with
  | none => s.2 24 k = iI (-1)
  | some y => y.1 < 3 ∧ y.2.1 ≤ 3 ∧ y.2.2 ≤ 3 ∧ s.2 24 k = iI y.1 ∧ s.2 25 k = iI y.2.1 ∧ s.2 26 k = iI y.2.2
/-- a stub in its place -/
def Sp (s : RS) (k : Nat) (x : Sb) : Prop := k < 8 ∧ (sbI x < 100000 ∧ s.2 18 k = iI (sbI x)) ∧ (sbP x ≤ 9 ∧ s.2 19 k = iI (sbP x)) ∧ (100 ≤ sbC x ∧ sbC x ≤ 599 ∧ s.2 20 k = iI (sbC x)) ∧ ((sbM x).length ≤ 4 ∧ s.2 21 k = iI (sbM x).length) ∧ (∀ (i : Nat) (m : Mt), (sbM x)[i]? = some m → Mr s (4 * k + 4 + i) m) ∧ Tp s k (sbT x) ∧ Sn s k (sbS x)
theorem Ch.sn {I R : List Nat} {s t : RS} {k : Nat} {o : Option (Nat × Nat × Nat)} (h : Ch I R s t) (hs : Sn s k o) (h1 : ∀ k ∈ [24, 25, 26], k ∉ R) : Sn t k o := by
  unfold Sn at hs ⊢
  cases o with
  | none =>
    rw [h.2 24 (h1 24 (by decide))]
    exact hs
  | some y =>
    rw [h.2 24 (h1 24 (by decide)), h.2 25 (h1 25 (by decide)), h.2 26 (h1 26 (by decide))]
    exact hs
theorem Ch.sp {I R : List Nat} {s t : RS} {k : Nat} {x : Sb} (h : Ch I R s t) (hs : Sp s k x) (h1 : ∀ k ∈ [11, 12, 13, 14, 15, 18, 19, 20, 21, 22, 23, 24, 25, 26], k ∉ R) : Sp t k x := by
  obtain ⟨a, b, c, d, e, f, g, i⟩ := hs
  refine ⟨a, ?_, ?_, ?_, ?_, fun i m hm => h.mr (f i m hm) (fun k hk => h1 k (by simp at hk ⊢; omega)), h.tp g (fun k hk => h1 k (by simp at hk ⊢; omega)), h.sn i (fun k hk => h1 k (by simp at hk ⊢; omega))⟩
  · rw [h.2 18 (h1 18 (by decide))]; exact b
  · rw [h.2 19 (h1 19 (by decide))]; exact c
  · rw [h.2 20 (h1 20 (by decide))]; exact d
  · rw [h.2 21 (h1 21 (by decide))]; exact e
theorem Ch.sc {I R : List Nat} {s t : RS} {st : Nat → Nat} (h : Ch I R s t) (hs : Sc s st) (h1 : 8 ∉ R) : Sc t st := fun k hk => by rw [h.2 8 h1]; exact hs k hk
section FA
variable {s0 : RS} {B : List Nat} {cl : Bool} {hs : List (Nat × Nat)} {bd : List Nat} {st : Nat → Nat} {Q : Int32 → RS → Prop}
theorem row8 {s : RS} {f k : Nat} {v : Int32} {K : Int32 → Prop} (hf : md_len f = 8) (hk : k < 8) (hv : s.2 f k = v) (hK : K v) : vA s f (iI k) K := by
  refine vA_i (by omega) (by rw [hf]; omega) (by rw [hf]; decide) ?_
  rw [show (k : Int).toNat = k from rfl, hv]
  exact hK
theorem sm_inScene {s : RS} {k : Nat} {x : Sb} (hP : Sp s k x) (hC : Sc s st) (hQ : Q (iI (bI (decide (scn st (sbS x) = 0)))) s) : vp_M_inScene (iI k) s Q := by
  have hk := hP.1
  have hn := hP.2.2.2.2.2.2.2
  unfold vp_M_inScene
  unfold scn at hQ
  unfold Sn at hn
  generalize sbS x = o at *
  cases o with
  | none =>
    dsimp only at hn hQ
    refine row8 rfl hk hn ?_
    rw [if_pos (by decide)]
    rw [decide_eq_true rfl] at hQ
    exact hQ
  | some y =>
    dsimp only at hn hQ
    obtain ⟨n1, n2, n3, n4, n5, n6⟩ := hn
    have h8 := hC y.1 n1
    have h81 := h8.1
    refine row8 rfl hk n4 ?_
    rw [if_neg (by simp (disch := omega) only [iI_lit, iI_add, iI_sub, iI_mul, iI_neg, iI_lt, iI_le, iI_eq] <;> omega)]
    refine row8 rfl hk n4 ?_
    refine vA_i (by omega) (show (y.1 : Int) < (3 : Nat) by omega) (by decide) ?_
    rw [show (y.1 : Int).toNat = y.1 from rfl, h8.2]
    refine row8 rfl hk n5 ?_
    by_cases q : st y.1 = y.2.1
    · rw [if_pos (by simp (disch := omega) only [iI_lit, iI_add, iI_sub, iI_mul, iI_neg, iI_lt, iI_le, iI_eq] <;> omega)]
      simp only [q, if_true, decide_true] at hQ
      exact hQ
    · rw [if_neg (by simp (disch := omega) only [iI_lit, iI_add, iI_sub, iI_mul, iI_neg, iI_lt, iI_le, iI_eq] <;> omega)]
      simp only [q, if_false, show ¬ (1 : Nat) = 0 by decide, decide_false] at hQ
      exact hQ
theorem sl_failing {k : Nat} {x : Sb} (hJ : Jd s0 B cl hs bd) (hG : Gd B hs bd) (hP : Sp s0 k x) (hQ : ∀ s', Ch [38, 40] [37, 39] s0 s' → Q (iI (miss (rqOf B hs bd) st x)) s') : ∀ (j i n : Nat) (s : RS), i + j = (sbM x).length → Ch [38, 40] [37, 39] s0 s → n = scn st (sbS x) + mss (rqOf B hs bd) ((sbM x).take i) → n ≤ 10 → vq_M_failing_16 (iI k) Q (j + 1) (iI n) (iI i) s := by
  have hk := hP.1
  have h4 := hP.2.2.2.2.1.1
  intro j
  induction j with
  | zero =>
    intro i n s hi hC hn h10
    have hP' := hC.sp hP (by decide)
    show vb_M_failing_16 _ _ _ _ _ _
    unfold vb_M_failing_16
    refine row8 rfl hk hP'.2.2.2.2.1.2 ?_
    rw [if_pos (by simp (disch := omega) only [iI_lit, iI_add, iI_sub, iI_mul, iI_neg, iI_lt, iI_le, iI_eq] <;> omega)]
    rw [List.take_of_length_le (by omega)] at hn
    rw [hn]
    exact hQ s hC
  | succ j ih =>
    intro i n s hi hC hn h10
    have hP' := hC.sp hP (by decide)
    show vb_M_failing_16 _ _ _ _ _ _
    unfold vb_M_failing_16
    refine row8 rfl hk hP'.2.2.2.2.1.2 ?_
    rw [if_neg (by simp (disch := omega) only [iI_lit, iI_add, iI_sub, iI_mul, iI_neg, iI_lt, iI_le, iI_eq] <;> omega)]
    obtain ⟨m, hm⟩ : ∃ m, (sbM x)[i]? = some m := ⟨_, List.getElem?_eq_getElem (show i < (sbM x).length by omega)⟩
    have hM := hP'.2.2.2.2.2.1 i m hm
    rw [show (4 : Int32) * iI k + 4 + iI i = iI ((4 * k + 4 + i : Nat) : Int) from by rw [show (4 : Int32) = iI 4 from rfl, iI_mul, iI_add, iI_add]; congr 1]
    refine sm_holds (hC.jd hJ (by decide) (by decide)) hG hM (fun s' a => ?_)
    have ht : (sbM x).take (i + 1) = (sbM x).take i ++ [m] := by
      rw [List.take_succ, hm]
      rfl
    have hc : mss (rqOf B hs bd) ((sbM x).take (i + 1)) = mss (rqOf B hs bd) ((sbM x).take i) + (if hld (rqOf B hs bd) m = true then 0 else 1) := by
      rw [ht]
      unfold mss
      rw [List.countP_append, List.countP_singleton]
      cases hld (rqOf B hs bd) m <;> rfl
    have hle : mss (rqOf B hs bd) ((sbM x).take (i + 1)) ≤ 4 := by
      unfold mss
      refine Nat.le_trans List.countP_le_length ?_
      rw [List.length_take]
      omega
    have hs1 : scn st (sbS x) ≤ 1 := by
      unfold scn
      (repeat' split) <;> omega
    rw [show iI (i : Int) + 1 = iI ((i + 1 : Nat) : Int) from iI_add _ 1]
    cases hd : hld (rqOf B hs bd) m with
    | false =>
      rw [if_pos (by decide)]
      rw [hd, if_neg (by decide)] at hc
      refine wL.i ?_
      rw [show iI (n : Int) + 1 = iI ((n + 1 : Nat) : Int) from iI_add _ 1]
      exact ih (i + 1) (n + 1) s' (by omega) (hC.tr a) (by omega) (by omega)
    | true =>
      rw [if_neg (by decide)]
      rw [hd, if_pos rfl] at hc
      refine wL.i ?_
      rw [show iI (n : Int) + 0 = iI (n : Int) from (iI_add _ 0).trans (by congr 1)]
      exact ih (i + 1) n s' (by omega) (hC.tr a) (by omega) (by omega)
theorem sm_failing {k : Nat} {x : Sb} (hJ : Jd s0 B cl hs bd) (hG : Gd B hs bd) (hP : Sp s0 k x) (hC : Sc s0 st) (hQ : ∀ s', Ch [38, 40] [37, 39] s0 s' → Q (iI (miss (rqOf B hs bd) st x)) s') : vp_M_failing (iI k) s0 Q := by
  unfold vp_M_failing
  refine sm_inScene hP hC ?_
  have hs1 : scn st (sbS x) = 0 ∨ scn st (sbS x) = 1 := by
    unfold scn
    (repeat' split) <;> omega
  rcases hs1 with z | z
  · rw [decide_eq_true z, if_neg (by decide)]
    exact ⟨_, sl_failing (st := st) hJ hG hP hQ (sbM x).length 0 0 s0 (by omega) (Ch.rf _) (by rw [z]; rfl) (by omega)⟩
  · rw [decide_eq_false (by omega), if_pos (by decide)]
    exact ⟨_, sl_failing (st := st) hJ hG hP hQ (sbM x).length 0 1 s0 (by omega) (Ch.rf _) (by rw [z]; rfl) (by omega)⟩
/-- of two stubs that miss as much, the one that goes before -/
def bfr (x y : Sb) : Prop := sbP x < sbP y ∨ (sbP x = sbP y ∧ sbI y < sbI x)
theorem sm_before {s : RS} {k l : Nat} {x y : Sb} {F : RS → Prop} {G : RS → Prop} (hx : Sp s k x) (hy : Sp s l y) (h1 : bfr x y → F s) (h0 : ¬ bfr x y → G s) : vp_M_before (iI k) (iI l) s (fun z s => if z = 0 then G s else F s) := by
  obtain ⟨a1, ⟨a2, a3⟩, ⟨a4, a5⟩, -⟩ := hx
  obtain ⟨b1, ⟨b2, b3⟩, ⟨b4, b5⟩, -⟩ := hy
  unfold bfr at h1 h0
  have r1 : F s → (fun (z : Int32) (s : RS) => if z = 0 then G s else F s) 1 s := fun h => by
    show (if (1 : Int32) = 0 then G s else F s)
    rw [if_neg (by decide)]
    exact h
  have r0 : G s → (fun (z : Int32) (s : RS) => if z = 0 then G s else F s) 0 s := fun h => by
    show (if (0 : Int32) = 0 then G s else F s)
    rw [if_pos rfl]
    exact h
  unfold vp_M_before
  rw [if_neg (by simp (disch := omega) only [iI_lit, iI_add, iI_sub, iI_mul, iI_neg, iI_lt, iI_le, iI_eq] <;> omega)]
  refine row8 rfl a1 a5 (row8 rfl b1 b5 ?_)
  by_cases q : sbP x < sbP y
  · rw [if_pos (by simp (disch := omega) only [iI_lit, iI_add, iI_sub, iI_mul, iI_neg, iI_lt, iI_le, iI_eq] <;> omega)]
    exact r1 (h1 (Or.inl q))
  · rw [if_neg (by simp (disch := omega) only [iI_lit, iI_add, iI_sub, iI_mul, iI_neg, iI_lt, iI_le, iI_eq] <;> omega)]
    refine row8 rfl a1 a5 (row8 rfl b1 b5 ?_)
    by_cases q2 : sbP x = sbP y
    · rw [if_pos (by simp (disch := omega) only [iI_lit, iI_add, iI_sub, iI_mul, iI_neg, iI_lt, iI_le, iI_eq] <;> omega)]
      refine row8 rfl a1 a3 (row8 rfl b1 b3 ?_)
      by_cases q3 : sbI y < sbI x
      · rw [if_neg (by simp (disch := omega) only [iI_lit, iI_add, iI_sub, iI_mul, iI_neg, iI_lt, iI_le, iI_eq] <;> omega)]
        exact r1 (h1 (Or.inr ⟨q2, q3⟩))
      · rw [if_pos (by simp (disch := omega) only [iI_lit, iI_add, iI_sub, iI_mul, iI_neg, iI_lt, iI_le, iI_eq] <;> omega)]
        exact r0 (h0 (by omega))
    · rw [if_neg (by simp (disch := omega) only [iI_lit, iI_add, iI_sub, iI_mul, iI_neg, iI_lt, iI_le, iI_eq] <;> omega)]
      exact r0 (h0 (by omega))
theorem sm_before1 {s : RS} {y p : Int32} {F : RS → Prop} {G : RS → Prop} (hy : y = iI (-1)) (h1 : F s) : vp_M_before p y s (fun z s => if z = 0 then G s else F s) := by
  subst hy
  unfold vp_M_before
  rw [if_pos (by decide)]
  show (if (1 : Int32) = 0 then G s else F s)
  rw [if_neg (by decide)]
  exact h1
end FA
