/-! Places and slices -/
def fi (c : Nat) (X : List Nat) : Nat := X.findIdx (· == c)
def sl (B : List Nat) (f t : Nat) : List Nat := (B.drop f).take (t - f)
theorem fi_nil (c : Nat) : fi c [] = 0 := rfl
theorem fi_cons (c b : Nat) (X : List Nat) : fi c (b :: X) = if b = c then 0 else fi c X + 1 := by
  unfold fi
  rw [List.findIdx_cons]
  by_cases h : b = c
  · simp [h]
  · have : (b == c) = false := by simpa using h
    simp [h, this]
theorem fi_le (c : Nat) (X : List Nat) : fi c X ≤ X.length := List.findIdx_le_length
theorem sk_sl {B : List Nat} {c : Nat} : ∀ k f, f + k ≤ B.length → sk B c k f = f + fi c ((B.drop f).take k) := by
  intro k
  induction k with
  | zero => intro f h; simp [sk, fi_nil]
  | succ k ih =>
    intro f h
    rw [ls_drop (show f < B.length by omega), List.take_succ_cons, fi_cons]
    unfold sk bt
    rw [if_pos (show f < B.length by omega)]
    by_cases q : B.getD f 0 = c
    · rw [if_pos (by rw [q]), if_pos q]
      omega
    · rw [if_neg (by omega), if_neg q, ih (f + 1) (by omega)]
      omega
theorem sm_seekL {s : RS} {B : List Nat} {c f t : Nat} {Q : Int32 → RS → Prop} (h : Bf s B) (hc : c < 256) (hft : f ≤ t) (ht : t ≤ B.length) (hQ : Q (iI ((f + fi c (sl B f t) : Nat) : Int)) s) : vp_M_seek (iI c) (iI f) (iI t) s Q := by
  have hl := h.len
  refine sm_seek h hc (by omega) hft ?_
  rw [sk_sl _ _ (by omega)]
  exact hQ
theorem sm_seekE {s : RS} {c f t : Nat} {Q : Int32 → RS → Prop} (hf : f < 1000000) (hft : t ≤ f) (hQ : Q (iI t) s) : vp_M_seek (iI c) (iI f) (iI t) s Q := by
  refine ⟨1, ?_⟩
  show vb_M_seek_3 _ _ _ _ _ _ _
  unfold vb_M_seek_3
  rw [if_pos (by rw [iI_le (by omega) (by omega) (by omega) (by omega)]; omega)]
  exact hQ
theorem sl_len {B : List Nat} {f t : Nat} (hft : f ≤ t) (ht : t ≤ B.length) : (sl B f t).length = t - f := by
  unfold sl
  rw [List.length_take, List.length_drop]
  omega
theorem sl_cons {B : List Nat} {f t : Nat} (hft : f < t) (ht : t ≤ B.length) : sl B f t = B.getD f 0 :: sl B (f + 1) t := by
  unfold sl
  rw [ls_drop (show f < B.length by omega), show t - f = (t - (f + 1)) + 1 by omega, List.take_succ_cons]
theorem sl_nil {B : List Nat} {f t : Nat} (hft : t ≤ f) : sl B f t = [] := by
  unfold sl
  rw [show t - f = 0 by omega, List.take_zero]
/-! codes -/
def gcc (a b : Nat) : Bool := decide (0 ≤ hxv a ∧ 0 ≤ hxv b ∧ 32 ≤ 16 * hxv a + hxv b ∧ 16 * hxv a + hxv b ≤ 126)
def okc : List Nat → Bool
  | a :: b :: _ => gcc a b
  | _ => false
def gc : List Nat → Bool
  | [] => true
  | c :: Y => (if c = 37 then okc Y else true) && gc Y
theorem okc_sl {B : List Nat} {f t : Nat} (ht : t ≤ B.length) : okc (sl B f t) = (decide (f + 1 < t) && gcc (B.getD f 0) (B.getD (f + 1) 0)) := by
  by_cases h1 : f < t
  · rw [sl_cons h1 ht]
    by_cases h2 : f + 1 < t
    · rw [sl_cons h2 ht]
      simp [okc, h2]
    · rw [sl_nil (by omega)]
      simp [okc, h2]
  · rw [sl_nil (by omega)]
    simp [okc, show ¬ f + 1 < t by omega]
theorem sl_coded {s : RS} {B : List Nat} {t : Nat} {p0 : Int32} {Q : Int32 → RS → Prop} (h : Bf s B) (ht : t ≤ B.length) : ∀ k p (g : Bool), p + k = t → Q (iI (bI (g && gc (sl B p t)))) s → vq_M_coded_5 p0 (iI t) Q (k + 1) (iI (bI g)) (iI p) s := by
  have hl := h.len
  intro k
  induction k with
  | zero =>
    intro p g hk hQ
    show vb_M_coded_5 _ _ _ _ _ _ _
    unfold vb_M_coded_5
    rw [sl_nil (by omega)] at hQ
    simp only [gc, Bool.and_true] at hQ
    simp (disch := omega) only [iI_le]
    rw [if_pos (by omega)]
    exact ⟨bI_b g, hQ⟩
  | succ k ih =>
    intro p g hk hQ
    have hb := h.at (p := p) (by omega)
    show vb_M_coded_5 _ _ _ _ _ _ _
    unfold vb_M_coded_5
    simp (disch := omega) only [iI_le]
    rw [if_neg (by omega)]
    refine sm_byteAt h (by omega) ?_
    rw [hb.1]
    rw [sl_cons (show p < t by omega) ht] at hQ
    have hb2 := hb.2
    simp (disch := omega) only [iI_lit, iI_eq, iI_add]
    simp only [gc] at hQ
    have nxt : ∀ g2 : Bool, Q (iI (bI (g2 && gc (sl B (p + 1) t)))) s → vq_M_coded_5 p0 (iI t) Q (k + 1) (iI (bI g2)) (iI ((p : Int) + 1)) s := fun g2 hq => by
      have := ih (p + 1) g2 (by omega) hq
      simpa using this
    by_cases q : B.getD p 0 = 37
    · rw [if_pos (by omega)]
      rw [if_pos q, okc_sl ht] at hQ
      by_cases q2 : p + 2 < t
      · have hb3 := h.at (p := p + 1) (by omega)
        have hb4 := h.at (p := p + 2) (by omega)
        simp only [show p + 1 + 1 = p + 2 from rfl, q2, decide_true, Bool.true_and] at hQ
        simp (disch := omega) only [iI_le]
        rw [if_neg (by omega)]
        rw [show ((p : Int) + 1) = ((p + 1 : Nat) : Int) by omega]
        refine sm_byteAt h (by omega) ?_
        rw [hb3.1]
        refine sm_hex (by omega) (by omega) ?_
        have r1 := hxv_r (B.getD (p + 1) 0 : Nat)
        have r2 := hxv_r (B.getD (p + 2) 0 : Nat)
        simp (disch := omega) only [vq_M_coded_45, iI_lit, iI_add, iI_le]
        rw [if_neg (by omega)]
        rw [show ((p : Int) + 2) = ((p + 2 : Nat) : Int) by omega]
        refine sm_byteAt h (by omega) ?_
        rw [hb4.1]
        refine sm_hex (by omega) (by omega) ?_
        have eg : gcc (B.getD (p + 1) 0) (B.getD (p + 2) 0) = decide (0 ≤ hxv (B.getD (p + 1) 0 : Nat) ∧ 0 ≤ hxv (B.getD (p + 2) 0 : Nat) ∧ 32 ≤ 16 * hxv (B.getD (p + 1) 0 : Nat) + hxv (B.getD (p + 2) 0 : Nat) ∧ 16 * hxv (B.getD (p + 1) 0 : Nat) + hxv (B.getD (p + 2) 0 : Nat) ≤ 126) := rfl
        rw [eg] at hQ
        generalize hxv (B.getD (p + 1) 0 : Nat) = x at *
        generalize hxv (B.getD (p + 2) 0 : Nat) = y at *
        simp (disch := omega) only [vq_M_coded_70, vq_M_coded_82, vq_M_coded_94, iI_lit, iI_add, iI_mul, iI_le, iI_lt, iI_neg, iI_b0]
        have n0 : Q (iI 0) s → vq_M_coded_5 p0 (iI t) Q (k + 1) (iI 0) (iI ((p : Int) + 1)) s := fun z => nxt false z
        have n1 : Q (iI (bI (gc (sl B (p + 1) t)))) s → vq_M_coded_5 p0 (iI t) Q (k + 1) (iI 1) (iI ((p : Int) + 1)) s := fun z => nxt true z
        by_cases qq : g = true ∧ 0 ≤ x ∧ 0 ≤ y ∧ 32 ≤ 16 * x + y ∧ 16 * x + y ≤ 126
        · obtain ⟨rfl, qq⟩ := qq
          rw [decide_eq_true qq, Bool.true_and, Bool.true_and] at hQ
          rw [if_neg (by omega), if_pos (by omega), if_neg (by decide), if_neg (by omega), if_neg (by omega)]
          exact n1 hQ
        · have hq0 : Q (iI 0) s := by
            cases g with
            | false => exact hQ
            | true =>
              rw [decide_eq_false (fun z => qq ⟨rfl, z⟩)] at hQ
              exact hQ
          cases g with
          | false =>
            simp only [if_true, ite_self]
            exact n0 hq0
          | true =>
            have qq : ¬ (0 ≤ x ∧ 0 ≤ y ∧ 32 ≤ 16 * x + y ∧ 16 * x + y ≤ 126) := fun z => qq ⟨rfl, z⟩
            (repeat' split) <;> first | contradiction | (exfalso; omega) | exact n0 hq0
      · have hq0 : Q (iI 0) s := by
          simp only [show p + 1 + 1 = p + 2 from rfl, q2, decide_false, Bool.false_and, Bool.and_false] at hQ
          exact hQ
        have n0 : Q (iI 0) s → vq_M_coded_5 p0 (iI t) Q (k + 1) (iI 0) (iI ((p : Int) + 1)) s := fun z => nxt false z
        rw [if_pos (by rw [iI_le (by omega) (by omega) (by omega) (by omega)]; omega)]
        unfold vq_M_coded_45
        rw [if_pos (by rw [show (2 : Int32) = iI 2 from rfl, iI_add, iI_le (by omega) (by omega) (by omega) (by omega)]; omega)]
        unfold vq_M_coded_70
        rw [if_pos (by decide)]
        unfold vq_M_coded_82 vq_M_coded_94
        rw [show iI (p : Int) + 1 = iI ((p : Int) + 1) from iI_add p 1]
        cases g with
        | false =>
          rw [if_pos (by decide)]
          exact n0 hq0
        | true =>
          rw [if_neg (by decide), if_pos (by decide)]
          exact n0 hq0
    · rw [if_neg (by omega)]
      rw [if_neg q, Bool.true_and] at hQ
      exact nxt g hQ
theorem sm_coded {s : RS} {B : List Nat} {f t : Nat} {Q : Int32 → RS → Prop} (h : Bf s B) (hft : f ≤ t) (ht : t ≤ B.length) (hQ : Q (iI (bI (gc (sl B f t)))) s) : vp_M_coded (iI f) (iI t) s Q :=
  ⟨t - f + 1, sl_coded h ht (t - f) f true (by omega) hQ⟩
theorem sm_codedE {s : RS} {B : List Nat} {f t : Nat} {Q : Int32 → RS → Prop} (h : Bf s B) (hf : f < 1000000) (hft : t ≤ f) (hQ : Q (iI 1) s) : vp_M_coded (iI f) (iI t) s Q := by
  refine ⟨1, ?_⟩
  show vb_M_coded_5 _ _ _ _ _ _ _
  unfold vb_M_coded_5
  simp (disch := omega) only [iI_le]
  rw [if_pos (by omega)]
  exact ⟨Or.inr rfl, hQ⟩
