/-! The reference's header lines -/
def lowc (c : Nat) : Nat := if 65 ≤ c ∧ c ≤ 90 then c + 32 else c
def low (X : List Nat) : List Nat := X.map lowc
theorem smv_low (c : Nat) : smv (c : Int) = (lowc c : Int) := by
  unfold smv lowc
  split
  · rw [if_pos (by omega)]
    omega
  · rw [if_neg (by omega)]
theorem lowc_r {c : Nat} (h : c < 256) : lowc c < 256 := by
  unfold lowc
  split <;> omega
def trm (V : List Nat) : List Nat := ((V.dropWhile (· == 32)).reverse.dropWhile (· == 32)).reverse
def numv (W : List Nat) : Nat := W.foldl (fun n c => 10 * n + (c - 48)) 0
def digAll (W : List Nat) : Bool := W.all (fun c => decide (48 ≤ c ∧ c ≤ 57))
def hchr (c : Nat) : Bool := ltr (c : Int) || decide (c = 45)
def hOK (X : List Nat) : Bool := decide (0 < fi 58 X ∧ fi 58 X < X.length) && (X.take (fi 58 X)).all hchr
def hnm (X : List Nat) : List Nat := low (X.take (fi 58 X))
def hvl (X : List Nat) : List Nat := trm (X.drop (fi 58 X + 1))
def w_len : List Nat := [108, 101, 110]
def w_chk : List Nat := [99, 104, 117, 110, 107, 101, 100]
def w_yes : List Nat := [121, 101, 115]
def w_con : List Nat := [99, 111, 110, 110]
def w_clo : List Nat := [99, 108, 111, 115, 101]
theorem sm_isNamed {s : RS} {B : List Nat} {f t a b c : Nat} {Q : Int32 → RS → Prop} (h : Bf s B) (hft : f ≤ t) (ht : t ≤ B.length) (ha : a < 256) (hb : b < 256) (hc : c < 256) (hQ : Q (iI (bI (decide (f + 3 ≤ t) && (decide (lowc (B.getD f 0) = a) && (decide (lowc (B.getD (f + 1) 0) = b) && decide (lowc (B.getD (f + 2) 0) = c)))))) s) : vp_M_isNamed (iI f) (iI t) (iI a) (iI b) (iI c) s Q := by
  have hl := h.len
  unfold vp_M_isNamed
  rw [iI_sub, show iI (f : Int) + 1 = iI ((f + 1 : Nat) : Int) from iI_add f 1, show iI (f : Int) + 2 = iI ((f + 2 : Nat) : Int) from iI_add f 2]
  by_cases q : f + 3 ≤ t
  · rw [if_neg (by rw [show (3 : Int32) = iI 3 from rfl, iI_lt (by omega) (by omega) (by omega) (by omega)]; omega)]
    rw [decide_eq_true q, Bool.true_and] at hQ
    have h0 := h.at (p := f) (by omega)
    have h1 := h.at (p := f + 1) (by omega)
    have h2 := h.at (p := f + 2) (by omega)
    have r0 := lowc_r h0.2
    have r1 := lowc_r h1.2
    have r2 := lowc_r h2.2
    have g0 := h0.2
    have g1 := h1.2
    have g2 := h2.2
    refine sm_byteAt h (by omega) ?_
    rw [h0.1]
    refine sm_small (by omega) (by omega) ?_
    rw [smv_low]
    by_cases q0 : lowc (B.getD f 0) = a
    · rw [if_pos (by rw [q0])]
      rw [decide_eq_true q0, Bool.true_and] at hQ
      refine sm_byteAt h (by omega) ?_
      rw [h1.1]
      refine sm_small (by omega) (by omega) ?_
      rw [smv_low]
      by_cases q1 : lowc (B.getD (f + 1) 0) = b
      · rw [if_pos (by rw [q1])]
        rw [decide_eq_true q1, Bool.true_and] at hQ
        refine sm_byteAt h (by omega) ?_
        rw [h2.1]
        refine sm_small (by omega) (by omega) ?_
        rw [smv_low]
        by_cases q2 : lowc (B.getD (f + 2) 0) = c
        · rw [if_pos (by rw [q2])]
          rw [decide_eq_true q2] at hQ
          exact hQ
        · rw [if_neg (by rw [iI_eq (by omega) (by omega) (by omega) (by omega)]; omega)]
          rw [decide_eq_false q2] at hQ
          exact hQ
      · rw [if_neg (by rw [iI_eq (by omega) (by omega) (by omega) (by omega)]; omega)]
        rw [decide_eq_false q1] at hQ
        exact hQ
    · rw [if_neg (by rw [iI_eq (by omega) (by omega) (by omega) (by omega)]; omega)]
      rw [decide_eq_false q0] at hQ
      exact hQ
  · rw [if_pos (by rw [show (3 : Int32) = iI 3 from rfl, iI_lt (by omega) (by omega) (by omega) (by omega)]; omega)]
    rw [decide_eq_false q] at hQ
    exact hQ
theorem low_sl {B : List Nat} {f t : Nat} (hft : f < t) (ht : t ≤ B.length) : low (sl B f t) = lowc (B.getD f 0) :: low (sl B (f + 1) t) := by
  rw [sl_cons hft ht]
  rfl
theorem low_nil {B : List Nat} {f t : Nat} (hft : t ≤ f) : low (sl B f t) = [] := by
  rw [sl_nil hft]
  rfl
theorem low_len {B : List Nat} {f t : Nat} (hft : f ≤ t) (ht : t ≤ B.length) : (low (sl B f t)).length = t - f := by
  unfold low
  rw [List.length_map, sl_len hft ht]
theorem low_3 {B : List Nat} {f t a b c : Nat} (hft : f ≤ t) (ht : t ≤ B.length) : decide (low (sl B f t) = [a, b, c]) = (decide (t - f = 3) && (decide (lowc (B.getD f 0) = a) && (decide (lowc (B.getD (f + 1) 0) = b) && decide (lowc (B.getD (f + 2) 0) = c)))) := by
  by_cases q : t - f = 3
  · rw [low_sl (by omega) ht, low_sl (by omega) ht, low_sl (by omega) ht, low_nil (by omega)]
    simp [q]
  · have : low (sl B f t) ≠ [a, b, c] := fun z => by
      have e := low_len (B := B) hft ht
      rw [z] at e
      exact q e.symm
    simp [q, this]
theorem low_4 {B : List Nat} {f t a b c d : Nat} (hft : f ≤ t) (ht : t ≤ B.length) : decide (low (sl B f t) = [a, b, c, d]) = (decide (t - f = 4) && (decide (lowc (B.getD f 0) = a) && (decide (lowc (B.getD (f + 1) 0) = b) && (decide (lowc (B.getD (f + 2) 0) = c) && decide (lowc (B.getD (f + 3) 0) = d))))) := by
  by_cases q : t - f = 4
  · rw [low_sl (by omega) ht, low_sl (by omega) ht, low_sl (by omega) ht, low_sl (by omega) ht, low_nil (by omega)]
    simp [q]
  · have : low (sl B f t) ≠ [a, b, c, d] := fun z => by
      have e := low_len (B := B) hft ht
      rw [z] at e
      exact q e.symm
    simp [q, this]
theorem low_7 {B : List Nat} {f t : Nat} (hft : f ≤ t) (ht : t ≤ B.length) : decide (low (sl B f t) = w_chk) = (decide (t - f = 7) && ((decide (lowc (B.getD f 0) = 99) && (decide (lowc (B.getD (f + 1) 0) = 104) && decide (lowc (B.getD (f + 2) 0) = 117))) && ((decide (lowc (B.getD (f + 3) 0) = 110) && (decide (lowc (B.getD (f + 4) 0) = 107) && decide (lowc (B.getD (f + 5) 0) = 101))) && decide (lowc (B.getD (f + 6) 0) = 100)))) := by
  by_cases q : t - f = 7
  · rw [low_sl (by omega) ht, low_sl (by omega) ht, low_sl (by omega) ht, low_sl (by omega) ht, low_sl (by omega) ht, low_sl (by omega) ht, low_sl (by omega) ht, low_nil (by omega)]
    simp [q, w_chk, Bool.and_assoc]
  · have : low (sl B f t) ≠ w_chk := fun z => by
      have e := low_len (B := B) hft ht
      rw [z] at e
      exact q e.symm
    simp [q, this]
theorem sm_isChunked {s : RS} {B : List Nat} {f t : Nat} {Q : Int32 → RS → Prop} (h : Bf s B) (hft : f ≤ t) (ht : t ≤ B.length) (hQ : Q (iI (bI (decide (low (sl B f t) = w_chk)))) s) : vp_M_isChunked (iI f) (iI t) s Q := by
  have hl := h.len
  rw [low_7 hft ht] at hQ
  unfold vp_M_isChunked
  rw [iI_sub, show iI (f : Int) + 3 = iI ((f + 3 : Nat) : Int) from iI_add f 3, show iI (f : Int) + 6 = iI ((f + 6 : Nat) : Int) from iI_add f 6]
  by_cases q : t - f = 7
  · rw [if_pos (by rw [show (7 : Int32) = iI 7 from rfl, iI_eq (by omega) (by omega) (by omega) (by omega)]; omega)]
    rw [decide_eq_true q, Bool.true_and] at hQ
    refine sm_isNamed (a := 99) (b := 104) (c := 117) h hft ht (by decide) (by decide) (by decide) ?_
    rw [decide_eq_true (show f + 3 ≤ t by omega), Bool.true_and]
    cases h1 : (decide (lowc (B.getD f 0) = 99) && (decide (lowc (B.getD (f + 1) 0) = 104) && decide (lowc (B.getD (f + 2) 0) = 117))) with
    | false =>
      rw [if_pos (by decide)]
      rw [h1] at hQ
      exact hQ
    | true =>
      rw [if_neg (by decide)]
      rw [h1, Bool.true_and] at hQ
      refine sm_isNamed (a := 110) (b := 107) (c := 101) h (by omega) ht (by decide) (by decide) (by decide) ?_
      rw [decide_eq_true (show f + 3 + 3 ≤ t by omega), Bool.true_and]
      cases h2 : (decide (lowc (B.getD (f + 3) 0) = 110) && (decide (lowc (B.getD (f + 4) 0) = 107) && decide (lowc (B.getD (f + 5) 0) = 101))) with
      | false =>
        rw [if_pos (by decide)]
        rw [h2] at hQ
        exact hQ
      | true =>
        rw [if_neg (by decide)]
        rw [h2, Bool.true_and] at hQ
        have h6 := h.at (p := f + 6) (by omega)
        have g6 := h6.2
        have r6 := lowc_r g6
        refine sm_byteAt h (by omega) ?_
        rw [h6.1]
        refine sm_small (by omega) (by omega) ?_
        rw [smv_low]
        by_cases q2 : lowc (B.getD (f + 6) 0) = 100
        · rw [if_pos (by rw [q2]; rfl)]
          rw [decide_eq_true q2] at hQ
          exact hQ
        · rw [if_neg (by rw [show (100 : Int32) = iI 100 from rfl, iI_eq (by omega) (by omega) (by omega) (by omega)]; omega)]
          rw [decide_eq_false q2] at hQ
          exact hQ
  · rw [if_neg (by rw [show (7 : Int32) = iI 7 from rfl, iI_eq (by omega) (by omega) (by omega) (by omega)]; omega)]
    rw [decide_eq_false q] at hQ
    exact hQ
/-! the value of a header line -/
def spn (V : List Nat) : Nat := (V.takeWhile (· == 32)).length
theorem spn_cons (b : Nat) (V : List Nat) : spn (b :: V) = if b = 32 then spn V + 1 else 0 := by
  unfold spn
  rw [List.takeWhile_cons]
  by_cases q : b = 32
  · simp [q]
  · have : (b == 32) = false := by simpa using q
    simp [q, this]
theorem spn_le (V : List Nat) : spn V ≤ V.length := by
  unfold spn
  exact (List.takeWhile_prefix _).length_le
theorem dw_spn : ∀ V : List Nat, V.dropWhile (· == 32) = V.drop (spn V)
  | [] => rfl
  | b :: V => by
    rw [spn_cons, List.dropWhile_cons]
    by_cases q : b = 32
    · simp [q, dw_spn V]
    · have : (b == 32) = false := by simpa using q
      simp [q, this]
theorem sl_valueAt {s : RS} {B : List Nat} {t : Nat} {p0 : Int32} {Q : Int32 → RS → Prop} (h : Bf s B) (ht : t ≤ B.length) : ∀ k p, p + k = t → Q (iI ((p + spn (sl B p t) : Nat) : Int)) s → vq_M_valueAt_11 p0 (iI t) Q (k + 1) (iI p) s := by
  have hl := h.len
  intro k
  induction k with
  | zero =>
    intro p hk hQ
    show vb_M_valueAt_11 _ _ _ _ _ _
    unfold vb_M_valueAt_11
    rw [if_pos (by rw [iI_le (by omega) (by omega) (by omega) (by omega)]; omega)]
    rw [sl_nil (by omega)] at hQ
    exact hQ
  | succ k ih =>
    intro p hk hQ
    have hb := h.at (p := p) (by omega)
    have g := hb.2
    show vb_M_valueAt_11 _ _ _ _ _ _
    unfold vb_M_valueAt_11
    rw [if_neg (by rw [iI_le (by omega) (by omega) (by omega) (by omega)]; omega)]
    refine sm_byteAt h (by omega) ?_
    rw [hb.1]
    rw [sl_cons (by omega) ht, spn_cons] at hQ
    by_cases q : B.getD p 0 = 32
    · rw [if_pos (by rw [q]; rfl)]
      rw [if_pos q] at hQ
      rw [show iI (p : Int) + 1 = iI ((p + 1 : Nat) : Int) from iI_add p 1]
      exact ih (p + 1) (by omega) (by rw [show p + 1 + spn (sl B (p + 1) t) = p + (spn (sl B (p + 1) t) + 1) by omega]; exact hQ)
    · rw [if_neg (by rw [show (32 : Int32) = iI 32 from rfl, iI_eq (by omega) (by omega) (by omega) (by omega)]; omega)]
      rw [if_neg q] at hQ
      exact hQ
/-- where the value begins, from the line's begin -/
def vat (X : List Nat) : Nat := fi 58 X + 1 + spn (X.drop (fi 58 X + 1))
theorem vat_le {X : List Nat} (h : fi 58 X < X.length) : vat X ≤ X.length := by
  have := spn_le (X.drop (fi 58 X + 1))
  rw [List.length_drop] at this
  unfold vat
  omega
theorem sm_valueAt {s : RS} {B : List Nat} {f t : Nat} {Q : Int32 → RS → Prop} (h : Bf s B) (hft : f ≤ t) (ht : t ≤ B.length) (hc : fi 58 (sl B f t) < t - f) (hQ : Q (iI ((f + vat (sl B f t) : Nat) : Int)) s) : vp_M_valueAt (iI f) (iI t) s Q := by
  unfold vp_M_valueAt wL
  refine sm_seekL h (by decide) hft ht ?_
  unfold vat at hQ
  rw [sl_drop] at hQ
  generalize fi 58 (sl B f t) = c at *
  rw [show iI ((f + c : Nat) : Int) + 1 = iI ((f + (c + 1) : Nat) : Int) from iI_add _ 1]
  exact ⟨_, sl_valueAt h ht (t - (f + (c + 1))) (f + (c + 1)) (by omega) (by rw [show f + (c + 1) + spn (sl B (f + (c + 1)) t) = f + (c + 1 + spn (sl B (f + (c + 1)) t)) by omega]; exact hQ)⟩
