/-! The reference judges -/
abbrev JR : Type := Int × Bool × List (Nat × Nat) × List Nat
def jfin (B : List Nat) (p : Nat) (an : Int) (ic cl : Bool) (hs : List (Nat × Nat)) : JR := if ic = true then ((ckf 100 (B.drop p) 0 []).1, cl, hs, (ckf 100 (B.drop p) 0 []).2) else if p + an.toNat ≤ B.length then (1, cl, hs, sl B p (p + an.toNat)) else (0, cl, hs, [])
def lef3 (B : List Nat) (p : Nat) : Int := lef 32 431 (B.drop p) 0 false
def jhl (B : List Nat) : Nat → Nat → Int → Bool → Bool → List (Nat × Nat) → JR
  | 0, p, an, ic, cl, hs => jfin B p an ic cl hs
  | k + 1, p, an, ic, cl, hs =>
    if lef3 B p ≤ 0 then (-(lef3 B p), cl, hs, [])
    else if lef3 B p ≤ 2 then jfin B (p + (lef3 B p).toNat) an ic cl hs
    else if hs.length = 4 then (431, cl, hs, [])
    else if hcode (sl B p (p + (lef3 B p).toNat - 2)) an ic ≠ 0 then (hcode (sl B p (p + (lef3 B p).toNat - 2)) an ic, cl, hs, [])
    else jhl B k (p + (lef3 B p).toNat) (hAn (sl B p (p + (lef3 B p).toNat - 2)) an) (hIc (sl B p (p + (lef3 B p).toNat - 2)) ic) (hCl (sl B p (p + (lef3 B p).toNat - 2)) cl) (hs ++ [(p, p + (lef3 B p).toNat - 2)])
def lef1 (B : List Nat) : Int := lef 40 414 B 0 false
def jd (B : List Nat) : JR := if lef1 B ≤ 0 then (-(lef1 B), false, [], []) else if rlB (sl B 0 ((lef1 B).toNat - 2)) = false then (400, false, [], []) else jhl B 6 (lef1 B).toNat (-1) false false []
/-- the cells of one slot -/
def Sl (s : RS) (k : Nat) (B : List Nat) : Prop := k < 8 ∧ B.length ≤ 520 ∧ s.2 1 k = iI B.length ∧ ∀ j, j < B.length → B.getD j 0 < 256 ∧ s.2 0 (520 * k + j) = iI (B.getD j 0)
/-- a whole request has been judged -/
def Jd (s : RS) (B : List Nat) (cl : Bool) (hs : List (Nat × Nat)) (bd : List Nat) : Prop := Bf s B ∧ s.1 29 = iI hs.length ∧ s.1 34 = iI (bI cl) ∧ (∀ i, i < hs.length → s.2 30 i = iI ((hs.getD i (0, 0)).1 : Nat) ∧ s.2 31 i = iI ((hs.getD i (0, 0)).2 : Nat)) ∧ Bd s bd
theorem lef_r {most over : Nat} (ho : over < 1000) : ∀ (X : List Nat) (i : Nat) (b : Bool), lef most over X i b ≤ (i : Int) + X.length ∧ -1000 ≤ lef most over X i b ∧ (0 < lef most over X i b → (i : Int) + (1 - bI b) + 1 ≤ lef most over X i b) ∧ (lef most over X i b ≤ 0 → lef most over X i b = 0 ∨ lef most over X i b = -400 ∨ lef most over X i b = -over) := by
  intro X
  induction X with
  | nil =>
    intro i b
    simp [lef]
  | cons a X ih =>
    intro i b
    have hx : ((a :: X).length : Int) = X.length + 1 := by simp
    rw [hx]
    have b1 : bI true = 1 := rfl
    have b0 : bI false = 0 := rfl
    cases b with
    | true =>
      rw [b1]
      unfold lef
      by_cases q : a = 10
      · rw [if_pos q]
        omega
      · rw [if_neg q]
        omega
    | false =>
      rw [b0]
      unfold lef
      have h1 := ih (i + 1) true
      have h2 := ih (i + 1) false
      rw [b1] at h1
      rw [b0] at h2
      by_cases q : a = 13
      · rw [if_pos q]
        omega
      · rw [if_neg q]
        by_cases r : a < 32 ∨ 126 < a
        · rw [if_pos r]
          omega
        · rw [if_neg r]
          by_cases t : most ≤ i
          · rw [if_pos t]
            omega
          · rw [if_neg t]
            omega
theorem lef3_r {B : List Nat} {p : Nat} (hp : p ≤ B.length) : lef3 B p ≤ (B.length : Int) - p ∧ -1000 ≤ lef3 B p ∧ (0 < lef3 B p → 2 ≤ lef3 B p) ∧ lef3 B p ≠ -1 := by
  have := lef_r (most := 32) (over := 431) (by decide) (B.drop p) 0 false
  rw [List.length_drop, show bI false = 0 from rfl] at this
  unfold lef3
  omega
theorem lef1_r (B : List Nat) : lef1 B ≤ (B.length : Int) ∧ -1000 ≤ lef1 B ∧ (0 < lef1 B → 2 ≤ lef1 B) ∧ lef1 B ≠ -1 := by
  have := lef_r (most := 40) (over := 414) (by decide) B 0 false
  rw [show bI false = 0 from rfl] at this
  unfold lef1
  omega
theorem hcode_r (X : List Nat) (an : Int) (ic : Bool) : hcode X an ic = 0 ∨ hcode X an ic = 400 ∨ hcode X an ic = 413 := by
  unfold hcode
  (repeat' split) <;> simp
theorem hAn_r {X : List Nat} {an : Int} {ic : Bool} (h : hcode X an ic = 0) (han : -1 ≤ an ∧ an ≤ 40) : -1 ≤ hAn X an ∧ hAn X an ≤ 40 := by
  unfold hAn
  by_cases q : hnm X = w_len
  · rw [if_pos q]
    unfold hcode at h
    rw [if_neg (show ¬ hnm X = w_chk by rw [q]; decide), if_pos q] at h
    revert h
    (repeat' split) <;> intro h <;> first | omega | (exact absurd h (by decide))
  · rw [if_neg q]
    exact han
section JU
variable {s0 : RS} {B : List Nat} {p0 : Int32} {Q : Int32 → RS → Prop}
theorem sm_183 {s : RS} {p : Nat} {an : Int} {ic cl : Bool} {hs : List (Nat × Nat)} (H : Jh s0 s B an ic cl hs) (hp : p ≤ B.length) (han : -1 ≤ an ∧ an ≤ 40) (h0 : (jfin B p an ic cl hs).1 ≠ 1 → ∀ s', Fr s0 s' → Q (iI (jfin B p an ic cl hs).1) s') (h1 : (jfin B p an ic cl hs).1 = 1 → ∀ s', Fr s0 s' → Jd s' B (jfin B p an ic cl hs).2.1 (jfin B p an ic cl hs).2.2.1 (jfin B p an ic cl hs).2.2.2 → Q (iI 1) s') : vq_M_judge_183 p0 Q (iI p) s := by
  obtain ⟨hF, h, hb, hh, ha, hi, hc, hr⟩ := H
  unfold vq_M_judge_183
  refine wL.i ?_
  rw [hi]
  unfold jfin at h0 h1
  cases ic with
  | true =>
    rw [if_neg (by decide)]
    rw [if_pos rfl] at h0 h1
    refine sm_chunks h hp hb (fun s' a b => ?_)
    by_cases q : (ckf 100 (B.drop p) 0 []).1 = 1
    · rw [q]
      exact h1 q s' (a.fr hF) ⟨a.bf h, by rw [a.1 29 (by decide)]; exact hh, by rw [a.1 34 (by decide)]; exact hc, fun i hi => by rw [a.2 30 (by decide), a.2 31 (by decide)]; exact hr i hi, b⟩
    · exact h0 q s' (a.fr hF)
  | false =>
    rw [if_pos (by decide)]
    rw [if_neg (by decide)] at h0 h1
    refine sm_plain h hb hp hF ha han (fun z s' a => ?_) (fun z s' a b c d e => ?_)
    · rw [if_neg (show ¬ p + an.toNat ≤ B.length by omega)] at h0
      exact h0 (show ¬ (0 : Int) = 1 by decide) s' a
    · rw [if_pos z] at h1
      exact h1 rfl s' c ⟨a, by rw [d 29 (by decide)]; exact hh, by rw [d 34 (by decide)]; exact hc, fun i hi => by rw [e 30 (by decide), e 31 (by decide)]; exact hr i hi, b⟩
theorem sl_judge : ∀ (j : Nat) (s : RS) (p k : Nat) (an : Int) (ic cl : Bool) (hs : List (Nat × Nat)), k + j = 6 → Jh s0 s B an ic cl hs → p ≤ B.length → (-1 ≤ an ∧ an ≤ 40) → hs.length ≤ 4 →
    ((jhl B j p an ic cl hs).1 ≠ 1 → ∀ s', Fr s0 s' → Q (iI (jhl B j p an ic cl hs).1) s') → ((jhl B j p an ic cl hs).1 = 1 → ∀ s', Fr s0 s' → Jd s' B (jhl B j p an ic cl hs).2.1 (jhl B j p an ic cl hs).2.2.1 (jhl B j p an ic cl hs).2.2.2 → Q (iI 1) s') → vq_M_judge_81 p0 Q (j + 1) (iI p) (iI 1) (iI k) s := by
  intro j
  induction j with
  | zero =>
    intro s p k an ic cl hs hk H hp han hhs h0 h1
    show vb_M_judge_81 _ _ _ _ _ _ _
    unfold vb_M_judge_81
    rw [if_pos (by rw [show (6 : Int32) = iI 6 from rfl, iI_le (by omega) (by omega) (by omega) (by omega)]; omega)]
    exact sm_183 H hp han h0 h1
  | succ j ih =>
    intro s p k an ic cl hs hk H hp han hhs h0 h1
    have h := H.2.1
    have hl := h.len
    have hr := lef3_r hp
    show vb_M_judge_81 _ _ _ _ _ _ _
    unfold vb_M_judge_81
    rw [if_neg (by rw [show (6 : Int32) = iI 6 from rfl, iI_le (by omega) (by omega) (by omega) (by omega)]; omega), if_neg (by decide)]
    refine sm_lineEnd (most := 32) (over := 431) h (by decide) (by decide) hp ?_
    have ee : lef 32 431 (B.drop p) 0 false = lef3 B p := rfl
    rw [ee]
    unfold jhl at h0 h1
    by_cases q0 : lef3 B p ≤ 0
    · rw [if_neg (show ¬ 0 < lef3 B p by omega), if_neg (by rw [show (0 : Int32) = iI 0 from rfl, iI_lt (by omega) (by omega) (by omega) (by omega)]; omega), iI_neg]
      rw [if_pos q0] at h0
      exact h0 (show ¬ -(lef3 B p) = 1 by omega) s H.1
    · rw [if_pos (show 0 < lef3 B p by omega), if_pos (by rw [show (0 : Int32) = iI 0 from rfl, iI_lt (by omega) (by omega) (by omega) (by omega)]; omega)]
      rw [if_neg q0] at h0 h1
      generalize hE : (lef3 B p).toNat = E at *
      have eE : lef3 B p = (E : Int) := by omega
      rw [eE, show (p : Int) + (E : Int) = ((p + E : Nat) : Int) by omega, show iI ((p + E : Nat) : Int) - 2 = iI ((p + E - 2 : Nat) : Int) from by rw [show (2 : Int32) = iI 2 from rfl, iI_sub]; congr 1; omega]
      rw [eE] at h0 h1
      have more0 : ((E : Int) ≤ 2) → vq_M_judge_81 p0 Q (j + 1) (iI ((p + E : Nat) : Int)) (iI 0) (iI k + 1) s := fun z => by
        show vb_M_judge_81 _ _ _ _ _ _ _
        unfold vb_M_judge_81
        rw [if_pos z] at h0 h1
        have := sm_183 (p0 := p0) (p := p + E) H (by omega) han h0 h1
        by_cases w : (6 : Int32) ≤ iI k + 1
        · rw [if_pos w]
          exact this
        · rw [if_neg w, if_pos (by decide)]
          exact this
      by_cases q2 : (E : Int) ≤ 2
      · rw [if_pos (by rw [iI_le (by omega) (by omega) (by omega) (by omega)]; omega)]
        unfold vq_M_judge_126
        rw [if_pos (by decide)]
        exact more0 q2
      · rw [if_neg (by rw [iI_le (by omega) (by omega) (by omega) (by omega)]; omega)]
        rw [if_neg q2] at h0 h1
        unfold vq_M_judge_126
        rw [if_neg (by decide)]
        refine wL.i (vP.i (wL.i ?_))
        rw [sI_at, H.2.2.2.1, show iI (hs.length : Int) + 1 = iI ((hs.length + 1 : Nat) : Int) from iI_add _ 1]
        by_cases q4 : hs.length = 4
        · rw [if_pos (by rw [q4]; rfl)]
          rw [if_pos q4] at h0
          unfold vq_M_judge_164
          rw [if_neg (by decide)]
          exact h0 (show ¬ (431 : Int) = 1 by decide) _ (H.1.i (by decide))
        · rw [if_neg (by rw [show (5 : Int32) = iI 5 from rfl, iI_eq (by omega) (by omega) (by omega) (by omega)]; omega)]
          rw [if_neg q4] at h0 h1
          rw [show iI ((p + E : Nat) : Int) - 2 = iI ((p + E - 2 : Nat) : Int) from by rw [show (2 : Int32) = iI 2 from rfl, iI_sub]; congr 1; omega]
          refine sm_hdr H (by omega) (by omega) (by omega) han (fun z s' a => ?_) (fun z s' a => ?_)
          · rw [if_pos z] at h0
            unfold vq_M_judge_164
            have hc := hcode_r (sl B p (p + E - 2)) an ic
            rw [if_neg (by rw [show (0 : Int32) = iI 0 from rfl, iI_le (by omega) (by omega) (by omega) (by omega)]; omega)]
            exact h0 (show ¬ hcode (sl B p (p + E - 2)) an ic = 1 by omega) s' a
          · rw [if_neg (show ¬ hcode (sl B p (p + E - 2)) an ic ≠ 0 from fun y => y z)] at h0 h1
            unfold vq_M_judge_164
            rw [if_pos (by decide), show iI (k : Int) + 1 = iI ((k + 1 : Nat) : Int) from iI_add _ 1]
            exact ih s' (p + E) (k + 1) _ _ _ _ (by omega) a (by omega) (hAn_r z han) (by rw [List.length_append]; simp; omega) h0 h1
theorem sm_judge {k : Nat} (hS : Sl s0 k B) (h0 : (jd B).1 ≠ 1 → ∀ s', Fr s0 s' → Q (iI (jd B).1) s') (h1 : (jd B).1 = 1 → ∀ s', Fr s0 s' → Jd s' B (jd B).2.1 (jd B).2.2.1 (jd B).2.2.2 → Q (iI 1) s') : vp_M_judge (iI k) s0 Q := by
  obtain ⟨hk, hl, e1, e0⟩ := hS
  unfold vp_M_judge
  refine vP.i ?_
  refine vA_i (by omega) (show (k : Int) < (8 : Nat) by omega) (by decide) ?_
  refine vP.i (vP.i (vP.i (vP.i (vP.i (vP.i ?_)))))
  have ek : (sI s0 27 (520 * iI k)).2 1 (k : Int).toNat = iI B.length := e1
  rw [ek]
  have H : Jh s0 (sI (sI (sI (sI (sI (sI (sI s0 27 (520 * iI k)) 28 (iI B.length)) 29 0) 32 0) 34 0) 35 (-1)) 36 0) B (-1) false false [] := by
    refine ⟨((((((((Fr.rf s0).i (by decide)).i (by decide)).i (by decide)).i (by decide)).i (by decide)).i (by decide)).i (by decide)), ⟨520 * k, ?_, ?_, by omega, e0⟩, ⟨?_, fun j hj => absurd hj (by simp)⟩, ?_, ?_, ?_, ?_, fun j hj => absurd hj (by simp)⟩
    · rw [sI_ne (by decide), sI_ne (by decide), sI_ne (by decide), sI_ne (by decide), sI_ne (by decide), sI_ne (by decide), sI_at, show (520 : Int32) = iI 520 from rfl, iI_mul]
      congr 1
    · rw [sI_ne (by decide), sI_ne (by decide), sI_ne (by decide), sI_ne (by decide), sI_ne (by decide), sI_at]
    · rw [sI_ne (by decide), sI_ne (by decide), sI_ne (by decide), sI_at]
      rfl
    · rw [sI_ne (by decide), sI_ne (by decide), sI_ne (by decide), sI_ne (by decide), sI_at]
      rfl
    · rw [sI_ne (by decide), sI_at]
      rfl
    · rw [sI_at]
      rfl
    · rw [sI_ne (by decide), sI_ne (by decide), sI_at]
      rfl
  generalize sI (sI (sI (sI (sI (sI (sI s0 27 (520 * iI k)) 28 (iI B.length)) 29 0) 32 0) 34 0) 35 (-1)) 36 0 = s at *
  have hr := lef1_r B
  refine sm_lineEnd (f := 0) (most := 40) (over := 414) H.2.1 (by decide) (by decide) (by omega) ?_
  have ee : lef 40 414 (B.drop 0) 0 false = lef1 B := rfl
  rw [ee]
  unfold jd at h0 h1
  by_cases q0 : lef1 B ≤ 0
  · rw [if_neg (show ¬ 0 < lef1 B by omega), if_neg (by rw [show (0 : Int32) = iI 0 from rfl, iI_lt (by omega) (by omega) (by omega) (by omega)]; omega), iI_neg]
    rw [if_pos q0] at h0
    exact h0 (show ¬ -(lef1 B) = 1 by omega) s H.1
  · rw [if_pos (show 0 < lef1 B by omega), if_pos (by rw [show (0 : Int32) = iI 0 from rfl, iI_lt (by omega) (by omega) (by omega) (by omega)]; omega)]
    rw [if_neg q0] at h0 h1
    generalize hE : (lef1 B).toNat = E at *
    have eE : lef1 B = (E : Int) := by omega
    rw [eE, show ((0 : Nat) : Int) + (E : Int) = (E : Int) by omega, show iI (E : Int) - 2 = iI ((E - 2 : Nat) : Int) from by rw [show (2 : Int32) = iI 2 from rfl, iI_sub]; congr 1; omega]
    refine sm_requestLine H.2.1 (by omega) ?_
    cases hg : rlB (sl B 0 (E - 2)) with
    | false =>
      rw [hg, if_pos rfl] at h0
      rw [if_pos (by decide)]
      exact h0 (show ¬ (400 : Int) = 1 by decide) s H.1
    | true =>
      rw [hg, if_neg (by decide)] at h0 h1
      rw [if_neg (by decide)]
      exact ⟨7, sl_judge 6 s E 0 (-1) false false [] rfl H (by omega) (by decide) (by decide) h0 h1⟩
end JU
