/-! The reference's request line -/
theorem sl_take {B : List Nat} {f t i : Nat} (h : f + i ≤ t) : (sl B f t).take i = sl B f (f + i) := by
  unfold sl
  rw [List.take_take, show f + i - f = i by omega, show min i (t - f) = i by omega]
theorem sl_drop {B : List Nat} {f t i : Nat} : (sl B f t).drop i = sl B (f + i) t := by
  unfold sl
  rw [List.drop_take, List.drop_drop, show t - f - i = t - (f + i) by omega]
def capAll (X : List Nat) : Bool := X.all (fun c => decide (65 ≤ c ∧ c ≤ 90))
def pok (g : List Nat) : Bool := decide (0 < fi 61 g) && gc (g.take (fi 61 g)) && (decide (fi 61 g = g.length) || gc (g.drop (fi 61 g + 1)))
def pgo : Nat → List Nat → Bool × Nat
  | 0, _ => (true, 0)
  | n + 1, Z => if Z = [] then (true, 0) else (pok (Z.take (fi 38 Z)) && decide (fi 38 Z + 1 ≠ Z.length) && (pgo n (Z.drop (fi 38 Z + 1))).1, (pgo n (Z.drop (fi 38 Z + 1))).2 + 1)
def rlT (T : List Nat) : Bool := gc (T.take (fi 63 T)) && decide (fi 63 T + 1 ≠ T.length) && (pgo (T.length + 1 - fi 63 T) (T.drop (fi 63 T + 1))).1 && decide ((pgo (T.length + 1 - fi 63 T) (T.drop (fi 63 T + 1))).2 ≤ 4)
def rlB (X : List Nat) : Bool := decide (1 ≤ fi 32 X ∧ fi 32 X ≤ 7 ∧ fi 32 X < X.length) && capAll (X.take (fi 32 X)) && decide ((X.drop (fi 32 X + 1)).getD 0 0 = 47) && decide (fi 32 X + 1 + fi 32 (X.drop (fi 32 X + 1)) + 3 = X.length)
  && decide ((X.drop (fi 32 X + 1)).getD (fi 32 (X.drop (fi 32 X + 1)) + 1) 0 = 72) && decide ((X.drop (fi 32 X + 1)).getD (fi 32 (X.drop (fi 32 X + 1)) + 2) 0 = 49) && rlT ((X.drop (fi 32 X + 1)).take (fi 32 (X.drop (fi 32 X + 1))))
theorem sl_params {s : RS} {B : List Nat} {t : Nat} {p0 : Int32} {Q : Int32 → RS → Prop} (h : Bf s B) (ht : t ≤ B.length) : ∀ k p m (g : Bool), t + 1 ≤ p + k → p ≤ t + 1 → m ≤ p → Q (iI (bI (g && (pgo k (sl B p t)).1 && decide (m + (pgo k (sl B p t)).2 ≤ 4)))) s → vq_M_requestLine_194 p0 Q (k + 1) (iI (bI g)) (iI t) (iI m) (iI p) s := by
  have hl := h.len
  have fin : ∀ p m (g : Bool), t ≤ p → p ≤ t + 1 → m ≤ p → Q (iI (bI (g && decide (m ≤ 4)))) s → vq_M_requestLine_312 p0 Q (iI (bI g)) (iI m) s := fun p m g h1 h2 h3 hQ => by
    simp (disch := omega) only [vq_M_requestLine_312, iI_lit, iI_lt, iI_b0]
    cases g with
    | false =>
      rw [if_pos rfl]
      exact hQ
    | true =>
      rw [if_neg (by decide)]
      by_cases q : m ≤ 4
      · rw [if_neg (by omega)]
        rw [decide_eq_true q] at hQ
        exact hQ
      · rw [if_pos (by omega)]
        rw [decide_eq_false q] at hQ
        exact hQ
  intro k
  induction k with
  | zero =>
    intro p m g hk hp hm hQ
    show vb_M_requestLine_194 _ _ _ _ _ _ _ _
    unfold vb_M_requestLine_194
    rw [if_pos (by rw [iI_le (by omega) (by omega) (by omega) (by omega)]; omega)]
    have hQ' : Q (iI (bI (g && true && decide (m ≤ 4)))) s := hQ
    rw [Bool.and_true] at hQ'
    exact fin p m g (by omega) hp hm hQ'
  | succ k ih =>
    intro p m g hk hp hm hQ
    show vb_M_requestLine_194 _ _ _ _ _ _ _ _
    unfold vb_M_requestLine_194
    by_cases qp : t ≤ p
    · rw [if_pos (by rw [iI_le (by omega) (by omega) (by omega) (by omega)]; omega)]
      rw [sl_nil qp] at hQ
      exact fin p m g qp hp hm (by simpa [pgo] using hQ)
    · rw [if_neg (by rw [iI_le (by omega) (by omega) (by omega) (by omega)]; omega)]
      have hne : sl B p t ≠ [] := fun q => by
        have := sl_len (B := B) (f := p) (t := t) (by omega) ht
        rw [q] at this
        simp at this
        omega
      have hi := fi_le 38 (sl B p t)
      rw [sl_len (by omega) ht] at hi
      refine sm_seekL h (by decide) (by omega) ht ?_
      simp only [pgo, if_neg hne] at hQ
      rw [sl_take (by omega), sl_drop, sl_len (by omega) ht] at hQ
      have hse : ∀ {K : Int32 → RS → Prop}, K (iI ((p + fi 38 (sl B p t) : Nat) : Int)) s → vp_M_seek (38 : Int32) (iI p) (iI t) s K := fun hK => sm_seekL h (by decide) (by omega) ht hK
      generalize hii : fi 38 (sl B p t) = i at *
      have hj := fi_le 61 (sl B p (p + i))
      rw [sl_len (by omega) (by omega)] at hj
      refine sm_seekL h (by decide) (by omega) (by omega) ?_
      simp only [pok] at hQ
      rw [sl_take (by omega), sl_drop, sl_len (by omega) (by omega)] at hQ
      generalize hjj : fi 61 (sl B p (p + i)) = j at *
      have nx : ∀ g2 : Bool, Q (iI (bI (g2 && (pgo k (sl B (p + (i + 1)) t)).1 && decide (m + ((pgo k (sl B (p + (i + 1)) t)).2 + 1) ≤ 4)))) s → vq_M_requestLine_294 p0 Q (vq_M_requestLine_194 p0 Q (k + 1)) (iI t) (iI m + 1) (iI p) (iI (bI g2)) s := fun g2 hq => by
        unfold vq_M_requestLine_294 wL
        refine hse ?_
        have := ih (p + (i + 1)) (m + 1) g2 (by omega) (by omega) (by omega) (by rw [show m + 1 + (pgo k (sl B (p + (i + 1)) t)).2 = m + ((pgo k (sl B (p + (i + 1)) t)).2 + 1) by omega]; exact hq)
        rw [show iI (m : Int) + 1 = iI ((m + 1 : Nat) : Int) from iI_add m 1, show iI ((p + i : Nat) : Int) + 1 = iI ((p + (i + 1) : Nat) : Int) from iI_add _ 1]
        exact this
      have bad : Q (iI 0) s → vq_M_requestLine_274 p0 Q (vq_M_requestLine_194 p0 Q (k + 1)) (iI t) (iI m + 1) (iI p) (iI ((p + i : Nat) : Int)) s := fun hq => by
        unfold vq_M_requestLine_274 vq_M_requestLine_275
        rw [if_pos (by decide)]
        exact nx false hq
      have good : Q (iI (bI (decide (i + 1 ≠ t - p) && (pgo k (sl B (p + (i + 1)) t)).1 && decide (m + ((pgo k (sl B (p + (i + 1)) t)).2 + 1) ≤ 4)))) s → vq_M_requestLine_270 p0 Q (vq_M_requestLine_194 p0 Q (k + 1)) (iI t) (iI m + 1) (iI p) (iI ((p + i : Nat) : Int)) s := fun hq => by
        unfold vq_M_requestLine_270 vq_M_requestLine_275 vq_M_requestLine_293
        rw [if_neg (by decide)]
        by_cases q : i + 1 = t - p
        · rw [if_pos (by rw [show iI (t : Int) - 1 = iI ((t : Int) - 1) from iI_sub t 1, iI_eq (by omega) (by omega) (by omega) (by omega)]; omega)]
          rw [decide_eq_false (by omega)] at hq
          exact nx false hq
        · rw [if_neg (by rw [show iI (t : Int) - 1 = iI ((t : Int) - 1) from iI_sub t 1, iI_eq (by omega) (by omega) (by omega) (by omega)]; omega)]
          rw [decide_eq_true (by omega), Bool.true_and] at hq
          exact nx true hq
      cases g with
      | false =>
        rw [if_pos (by decide)]
        exact bad hQ
      | true =>
        rw [if_neg (by decide)]
        by_cases q0 : 0 < j
        · rw [if_neg (by rw [iI_le (by omega) (by omega) (by omega) (by omega)]; omega)]
          refine sm_coded h (by omega) (by omega) ?_
          rw [decide_eq_true q0, Bool.true_and, Bool.true_and] at hQ
          cases hg1 : gc (sl B p (p + j)) with
          | false =>
            rw [if_pos (by decide)]
            rw [hg1] at hQ
            exact bad hQ
          | true =>
            rw [if_neg (by decide)]
            rw [hg1, Bool.true_and] at hQ
            by_cases qj : j = i
            · rw [if_pos (by rw [qj])]
              rw [decide_eq_true (by omega), Bool.true_or, Bool.true_and] at hQ
              exact good hQ
            · rw [if_neg (by rw [iI_eq (by omega) (by omega) (by omega) (by omega)]; omega)]
              rw [decide_eq_false (by omega), Bool.false_or] at hQ
              rw [show iI ((p + j : Nat) : Int) + 1 = iI ((p + (j + 1) : Nat) : Int) from iI_add _ 1]
              refine sm_coded h (by omega) (by omega) ?_
              cases hg2 : gc (sl B (p + (j + 1)) (p + i)) with
              | false =>
                rw [if_pos (by decide)]
                rw [hg2] at hQ
                exact bad hQ
              | true =>
                rw [if_neg (by decide)]
                rw [hg2, Bool.true_and] at hQ
                exact good hQ
        · rw [if_pos (by rw [iI_le (by omega) (by omega) (by omega) (by omega)]; omega)]
          rw [decide_eq_false q0] at hQ
          exact bad hQ
theorem fi_app {c : Nat} {X Y : List Nat} (h : fi c X < X.length) : fi c (X ++ Y) = fi c X := by
  unfold fi at h ⊢
  rw [List.findIdx_append, if_pos h]
theorem sl_app {B : List Nat} {f t u : Nat} (h1 : f ≤ t) (h2 : t ≤ u) (h3 : u ≤ B.length) : sl B f u = sl B f t ++ sl B t u := by
  have e1 := sl_take (B := B) (f := f) (t := u) (i := t - f) (by omega)
  have e2 := sl_drop (B := B) (f := f) (t := u) (i := t - f)
  rw [show f + (t - f) = t by omega] at e1 e2
  rw [← e1, ← e2, List.take_append_drop]
theorem fi_sl {B : List Nat} {c f t u : Nat} (h1 : f ≤ t) (h2 : t ≤ u) (h3 : u ≤ B.length) (h : fi c (sl B f t) < t - f) : fi c (sl B f u) = fi c (sl B f t) := by
  rw [sl_app h1 h2 h3]
  refine fi_app ?_
  rw [sl_len h1 (by omega)]
  exact h
theorem sl_caps {s : RS} {B : List Nat} {m : Nat} {p0 : Int32} {Q : Int32 → RS → Prop} (h : Bf s B) (hm : m ≤ B.length) : ∀ k p (g : Bool), p + k = m → vq_M_requestLine_78 p0 Q (iI m) (iI (bI (g && capAll (sl B p m)))) s → vq_M_requestLine_34 p0 Q (k + 1) (iI m) (iI (bI g)) (iI p) s := by
  have hl := h.len
  intro k
  induction k with
  | zero =>
    intro p g hk hQ
    show vb_M_requestLine_34 _ _ _ _ _ _ _
    unfold vb_M_requestLine_34
    rw [if_pos (by rw [iI_le (by omega) (by omega) (by omega) (by omega)]; omega)]
    rw [sl_nil (by omega)] at hQ
    simpa [capAll] using hQ
  | succ k ih =>
    intro p g hk hQ
    have hb := h.at (p := p) (by omega)
    show vb_M_requestLine_34 _ _ _ _ _ _ _
    unfold vb_M_requestLine_34
    rw [if_neg (by rw [iI_le (by omega) (by omega) (by omega) (by omega)]; omega)]
    rw [sl_cons (by omega) hm] at hQ
    rw [show iI (p : Int) + 1 = iI ((p + 1 : Nat) : Int) from iI_add p 1]
    have hb2 := hb.2
    have e : capAll (B.getD p 0 :: sl B (p + 1) m) = (decide (65 ≤ B.getD p 0 ∧ B.getD p 0 ≤ 90) && capAll (sl B (p + 1) m)) := rfl
    rw [e] at hQ
    cases g with
    | false =>
      rw [if_pos (by decide)]
      exact ih (p + 1) false (by omega) hQ
    | true =>
      rw [if_neg (by decide)]
      refine sm_byteAt h (by omega) ?_
      rw [hb.1]
      by_cases q1 : B.getD p 0 < 65
      · rw [if_pos (by rw [show (65 : Int32) = iI 65 from rfl, iI_lt (by omega) (by omega) (by omega) (by omega)]; omega)]
        rw [decide_eq_false (by omega)] at hQ
        exact ih (p + 1) false (by omega) hQ
      · rw [if_neg (by rw [show (65 : Int32) = iI 65 from rfl, iI_lt (by omega) (by omega) (by omega) (by omega)]; omega)]
        refine sm_byteAt h (by omega) ?_
        rw [hb.1]
        by_cases q2 : 90 < B.getD p 0
        · rw [if_pos (by rw [show (90 : Int32) = iI 90 from rfl, iI_lt (by omega) (by omega) (by omega) (by omega)]; omega)]
          rw [decide_eq_false (by omega)] at hQ
          exact ih (p + 1) false (by omega) hQ
        · rw [if_neg (by rw [show (90 : Int32) = iI 90 from rfl, iI_lt (by omega) (by omega) (by omega) (by omega)]; omega)]
          rw [decide_eq_true (by omega)] at hQ
          exact ih (p + 1) true (by omega) hQ
theorem sl_getD {B : List Nat} {f t i : Nat} (h : f + i < t) (ht : t ≤ B.length) : (sl B f t).getD i 0 = B.getD (f + i) 0 := by
  unfold sl
  simp only [List.getD_eq_getElem?_getD]
  rw [List.getElem?_take_of_lt (by omega), List.getElem?_drop]
theorem sm_pathAt {s : RS} {B : List Nat} {Q : Int32 → RS → Prop} (h : Bf s B) (hQ : Q (iI ((fi 32 B + 1 : Nat) : Int)) s) : vp_M_pathAt s Q := by
  unfold vp_M_pathAt wL
  rw [h.size]
  refine sm_seekL (f := 0) h (by decide) (by omega) (Nat.le_refl _) ?_
  rw [show sl B 0 B.length = B by simp [sl], Nat.zero_add, show iI ((fi 32 B : Nat) : Int) + 1 = iI ((fi 32 B + 1 : Nat) : Int) from iI_add _ 1]
  exact hQ
theorem sm_targetEnd {s : RS} {B : List Nat} {Q : Int32 → RS → Prop} (h : Bf s B) (hf : fi 32 B < B.length) (hQ : Q (iI ((fi 32 B + 1 + fi 32 (sl B (fi 32 B + 1) B.length) : Nat) : Int)) s) : vp_M_targetEnd s Q := by
  unfold vp_M_targetEnd
  refine sm_pathAt h ?_
  unfold wL
  rw [h.size]
  exact sm_seekL h (by decide) (by omega) (Nat.le_refl _) hQ
theorem sm_pathEnd {s : RS} {B : List Nat} {Q : Int32 → RS → Prop} (h : Bf s B) (hf : fi 32 B < B.length) (hQ : Q (iI ((fi 32 B + 1 + fi 63 (sl B (fi 32 B + 1) (fi 32 B + 1 + fi 32 (sl B (fi 32 B + 1) B.length))) : Nat) : Int)) s) : vp_M_pathEnd s Q := by
  unfold vp_M_pathEnd
  refine sm_pathAt h ?_
  refine sm_targetEnd h hf ?_
  have := fi_le 32 (sl B (fi 32 B + 1) B.length)
  rw [sl_len (by omega) (Nat.le_refl _)] at this
  exact sm_seekL h (by decide) (by omega) (by omega) hQ
theorem sm_requestLine {s : RS} {B : List Nat} {e : Nat} {Q : Int32 → RS → Prop} (h : Bf s B) (he : e + 2 ≤ B.length) (hQ : Q (iI (bI (rlB (sl B 0 e)))) s) : vp_M_requestLine (iI e) s Q := by
  have hl := h.len
  unfold vp_M_requestLine
  refine sm_seekL (f := 0) (t := e) h (by decide) (by omega) (by omega) ?_
  rw [Nat.zero_add]
  have hm := fi_le 32 (sl B 0 e)
  rw [sl_len (by omega) (by omega), Nat.sub_zero] at hm
  unfold rlB at hQ
  rw [sl_drop, sl_take (by omega), sl_len (by omega) (by omega), Nat.zero_add, Nat.zero_add, Nat.sub_zero] at hQ
  generalize hmm : fi 32 (sl B 0 e) = m at *
  have step : ∀ g : Bool, (g = true ↔ 1 ≤ m ∧ m ≤ 7 ∧ m < e) → vq_M_requestLine_30 (iI e) Q (iI m) (iI (bI g)) s := fun g hg => by
    unfold vq_M_requestLine_30
    refine ⟨m + 1, sl_caps h (by omega) m 0 g (by omega) ?_⟩
    unfold vq_M_requestLine_78
    rw [show iI (m : Int) + 1 = iI ((m + 1 : Nat) : Int) from iI_add m 1]
    have fail : Q (iI 0) s → ∀ x, vq_M_requestLine_144 (iI e) Q (iI m) x s := fun hq x => by
      unfold vq_M_requestLine_144 vq_M_requestLine_145
      rw [if_pos (by decide)]
      exact hq
    by_cases qg : (g && capAll (sl B 0 m)) = true
    · rw [qg]
      have qg' := Bool.and_eq_true_iff.mp qg
      have hm3 := hg.mp qg'.1
      rw [decide_eq_true hm3, qg'.2, Bool.true_and, Bool.true_and] at hQ
      refine sm_seekL h (by decide) (by omega) (by omega) ?_
      have ht := fi_le 32 (sl B (m + 1) e)
      rw [sl_len (by omega) (by omega)] at ht
      rw [sl_take (by omega)] at hQ
      generalize htt : fi 32 (sl B (m + 1) e) = t at *
      rw [if_neg (by decide)]
      refine sm_byteAt h (by omega) ?_
      have hb1 := h.at (p := m + 1) (by omega)
      rw [hb1.1]
      have hb12 := hb1.2
      by_cases q1 : B.getD (m + 1) 0 = 47
      · rw [if_pos (by rw [q1]; rfl)]
        by_cases q2 : m + 1 + t + 3 = e
        · rw [if_pos (by rw [show iI (e : Int) - 3 = iI ((e : Int) - 3) from iI_sub e 3, iI_eq (by omega) (by omega) (by omega) (by omega)]; omega)]
          rw [sl_getD (by omega) (by omega), sl_getD (by omega) (by omega), sl_getD (by omega) (by omega), Nat.add_zero, decide_eq_true q1, decide_eq_true q2, Bool.true_and, Bool.true_and] at hQ
          rw [show iI ((m + 1 + t : Nat) : Int) + 1 = iI ((m + 1 + (t + 1) : Nat) : Int) from iI_add _ 1, show iI ((m + 1 + t : Nat) : Int) + 2 = iI ((m + 1 + (t + 2) : Nat) : Int) from iI_add _ 2]
          refine sm_byteAt h (by omega) ?_
          have hb2 := h.at (p := m + 1 + (t + 1)) (by omega)
          have hb3 := h.at (p := m + 1 + (t + 2)) (by omega)
          have hb22 := hb2.2
          have hb32 := hb3.2
          rw [hb2.1]
          by_cases q3 : B.getD (m + 1 + (t + 1)) 0 = 72
          · rw [if_pos (by rw [q3]; rfl)]
            refine sm_byteAt h (by omega) ?_
            rw [hb3.1]
            by_cases q4 : B.getD (m + 1 + (t + 2)) 0 = 49
            · rw [if_pos (by rw [q4]; rfl)]
              rw [decide_eq_true q3, decide_eq_true q4, Bool.true_and, Bool.true_and] at hQ
              unfold vq_M_requestLine_145
              rw [if_neg (by decide)]
              have eB : fi 32 B = m := by
                have := fi_sl (B := B) (c := 32) (f := 0) (t := e) (u := B.length) (by omega) (by omega) (Nat.le_refl _) (by omega)
                rw [show sl B 0 B.length = B by simp [sl]] at this
                omega
              have eT : fi 32 (sl B (m + 1) B.length) = t := by
                rw [fi_sl (t := e) (by omega) (by omega) (Nat.le_refl _) (by omega)]
                exact htt
              refine sm_pathEnd h (by omega) ?_
              rw [eB, eT]
              have hq := fi_le 63 (sl B (m + 1) (m + 1 + t))
              rw [sl_len (by omega) (by omega)] at hq
              unfold rlT at hQ
              rw [sl_take (by omega), sl_drop, sl_len (by omega) (by omega)] at hQ
              generalize hqq : fi 63 (sl B (m + 1) (m + 1 + t)) = q at *
              rw [show iI (m : Int) + 1 = iI ((m + 1 : Nat) : Int) from iI_add m 1]
              refine sm_coded h (by omega) (by omega) ?_
              have fin : ∀ g2 : Bool, Q (iI (bI (g2 && (pgo (m + 1 + t - (m + 1) + 1 - q) (sl B (m + 1 + (q + 1)) (m + 1 + t))).1 && decide ((pgo (m + 1 + t - (m + 1) + 1 - q) (sl B (m + 1 + (q + 1)) (m + 1 + t))).2 ≤ 4)))) s → vq_M_requestLine_184 (iI e) Q (iI ((m + 1 + t : Nat) : Int)) (iI ((m + 1 + q : Nat) : Int)) (iI (bI g2)) s := fun g2 hq2 => by
                unfold vq_M_requestLine_184 wL
                rw [show iI ((m + 1 + q : Nat) : Int) + 1 = iI ((m + 1 + (q + 1) : Nat) : Int) from iI_add _ 1]
                exact ⟨_, sl_params h (by omega) (m + 1 + t - (m + 1) + 1 - q) (m + 1 + (q + 1)) 0 g2 (by omega) (by omega) (by omega) (by rw [Nat.zero_add]; exact hq2)⟩
              cases hg1 : gc (sl B (m + 1) (m + 1 + q)) with
              | false =>
                rw [if_pos (by decide)]
                rw [hg1] at hQ
                exact fin false hQ
              | true =>
                rw [if_neg (by decide)]
                rw [hg1, Bool.true_and] at hQ
                by_cases qz : q + 1 = m + 1 + t - (m + 1)
                · rw [if_pos (by rw [show iI ((m + 1 + q : Nat) : Int) + 1 = iI ((m + 1 + q + 1 : Nat) : Int) from iI_add _ 1, iI_eq (by omega) (by omega) (by omega) (by omega)]; omega)]
                  rw [decide_eq_false (by omega)] at hQ
                  exact fin false hQ
                · rw [if_neg (by rw [show iI ((m + 1 + q : Nat) : Int) + 1 = iI ((m + 1 + q + 1 : Nat) : Int) from iI_add _ 1, iI_eq (by omega) (by omega) (by omega) (by omega)]; omega)]
                  rw [decide_eq_true (by omega), Bool.true_and] at hQ
                  exact fin true hQ
            · rw [if_neg (by rw [show (49 : Int32) = iI 49 from rfl, iI_eq (by omega) (by omega) (by omega) (by omega)]; omega)]
              rw [decide_eq_false q4, Bool.and_false] at hQ
              exact fail hQ _
          · rw [if_neg (by rw [show (72 : Int32) = iI 72 from rfl, iI_eq (by omega) (by omega) (by omega) (by omega)]; omega)]
            rw [decide_eq_false q3] at hQ
            exact fail hQ _
        · rw [if_neg (by rw [show iI (e : Int) - 3 = iI ((e : Int) - 3) from iI_sub e 3, iI_eq (by omega) (by omega) (by omega) (by omega)]; omega)]
          rw [decide_eq_false q2, Bool.and_false] at hQ
          exact fail hQ _
      · rw [if_neg (by rw [show (47 : Int32) = iI 47 from rfl, iI_eq (by omega) (by omega) (by omega) (by omega)]; omega)]
        have q1' : ¬ (sl B (m + 1) e).getD 0 0 = 47 := by
          by_cases z : m + 1 < e
          · rw [sl_getD (by omega) (by omega)]
            exact q1
          · rw [sl_nil (by omega)]
            decide
        rw [decide_eq_false q1'] at hQ
        exact fail hQ _
    · have qg0 : (g && capAll (sl B 0 m)) = false := by simpa using qg
      rw [qg0]
      have hq0 : Q (iI 0) s := by
        have : (decide (1 ≤ m ∧ m ≤ 7 ∧ m < e) && capAll (sl B 0 m)) = false := by
          rw [← qg0]
          congr 1
          rw [Bool.eq_iff_iff, decide_eq_true_iff]
          exact hg.symm
        rw [this] at hQ
        simp only [Bool.false_and] at hQ
        exact hQ
      by_cases z : m + 1 ≤ e
      · refine sm_seekL h (by decide) (by omega) (by omega) ?_
        rw [if_pos (by decide)]
        exact fail hq0 _
      · refine sm_seekE (by omega) (by omega) ?_
        rw [if_pos (by decide)]
        exact fail hq0 _
  have s0 : ¬ (1 ≤ m ∧ m ≤ 7 ∧ m < e) → vq_M_requestLine_29 (iI e) Q (iI m) s := fun z => step false ⟨fun q => (by cases q), fun q => absurd q z⟩
  have s1 : (1 ≤ m ∧ m ≤ 7 ∧ m < e) → vq_M_requestLine_30 (iI e) Q (iI m) 1 s := fun z => step true ⟨fun _ => z, fun _ => rfl⟩
  simp (disch := omega) only [iI_lit, iI_lt, iI_le]
  by_cases z1 : m < 1
  · rw [if_pos (by omega)]
    exact s0 (by omega)
  · rw [if_neg (by omega)]
    by_cases z2 : 7 < m
    · rw [if_pos (by omega)]
      exact s0 (by omega)
    · rw [if_neg (by omega)]
      by_cases z3 : e ≤ m
      · rw [if_pos (by omega)]
        exact s0 (by omega)
      · rw [if_neg (by omega)]
        exact s1 (by omega)
