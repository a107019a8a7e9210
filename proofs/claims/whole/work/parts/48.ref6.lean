/-! The reference's header lines: one line -/
def hdP (X : List Nat) (f t n : Nat) (an : Int) (ic cl : Bool) (s : RS) (Q : Int32 → RS → Prop) : Prop :=
  if hOK X = true then
    (if (hnm X = w_len ∨ hnm X = w_chk) ∧ (0 ≤ an ∨ ic = true) then Q (iI 400) (sR (sR s 30 n (iI f)) 31 n (iI t))
     else if hnm X = w_chk then Q (iI (if hvl X = w_yes then 0 else 400)) (sI (sR (sR s 30 n (iI f)) 31 n (iI t)) 36 1)
     else if hnm X = w_len then
       (if anOK (hvl X) = true then Q (iI (if numv (hvl X) ≤ 40 then 0 else 413)) (sI (sI (sR (sR s 30 n (iI f)) 31 n (iI t)) 34 (iI (bI (cl || (decide (hvl X = w_clo) && decide (hnm X = w_con)))))) 35 (iI (numv (hvl X))))
        else ∀ x, Q (iI 400) (sI (sI (sR (sR s 30 n (iI f)) 31 n (iI t)) 34 (iI (bI (cl || (decide (hvl X = w_clo) && decide (hnm X = w_con)))))) 35 x))
     else Q (iI 0) (sI (sR (sR s 30 n (iI f)) 31 n (iI t)) 34 (iI (bI (cl || (decide (hvl X = w_clo) && decide (hnm X = w_con)))))))
  else Q (iI 400) s
theorem sl_hchr {s : RS} {B : List Nat} {f c : Nat} {p1 : Int32} {Q : Int32 → RS → Prop} (h : Bf s B) (hc : c ≤ B.length) : ∀ k p (g : Bool), p + k = c → vq_M_header_76 (iI f) p1 Q (iI c) (iI (bI (g && (sl B p c).all hchr))) s → vq_M_header_29 (iI f) p1 Q (k + 1) (iI c) (iI (bI g)) (iI p) s := by
  have hl := h.len
  intro k
  induction k with
  | zero =>
    intro p g hk hQ
    show vb_M_header_29 _ _ _ _ _ _ _ _
    unfold vb_M_header_29
    rw [if_pos (by rw [iI_le (by omega) (by omega) (by omega) (by omega)]; omega)]
    rw [sl_nil (by omega)] at hQ
    simpa using hQ
  | succ k ih =>
    intro p g hk hQ
    have hb := h.at (p := p) (by omega)
    have hb2 := hb.2
    show vb_M_header_29 _ _ _ _ _ _ _ _
    unfold vb_M_header_29
    rw [if_neg (by rw [iI_le (by omega) (by omega) (by omega) (by omega)]; omega)]
    rw [sl_cons (by omega) hc, List.all_cons] at hQ
    rw [show iI (p : Int) + 1 = iI ((p + 1 : Nat) : Int) from iI_add p 1]
    cases g with
    | false =>
      rw [if_pos (by decide)]
      exact ih (p + 1) false (by omega) hQ
    | true =>
      rw [if_neg (by decide)]
      refine sm_byteAt h (by omega) ?_
      rw [hb.1]
      refine sm_letter (by omega) (by omega) ?_
      unfold hchr at hQ
      cases hlt : ltr (B.getD p 0 : Nat) with
      | false =>
        rw [if_pos (by decide)]
        rw [hlt, Bool.false_or] at hQ
        refine sm_byteAt h (by omega) ?_
        rw [hb.1]
        by_cases q : B.getD p 0 = 45
        · rw [if_pos (by rw [q]; rfl)]
          rw [decide_eq_true q] at hQ
          exact ih (p + 1) true (by omega) hQ
        · rw [if_neg (by rw [show (45 : Int32) = iI 45 from rfl, iI_eq (by omega) (by omega) (by omega) (by omega)]; omega)]
          rw [decide_eq_false q] at hQ
          exact ih (p + 1) false (by omega) hQ
      | true =>
        rw [if_neg (by decide)]
        rw [hlt, Bool.true_or] at hQ
        exact ih (p + 1) true (by omega) hQ
theorem low_hnm {B : List Nat} {f t : Nat} (hft : f ≤ t) (ht : t ≤ B.length) : hnm (sl B f t) = low (sl B f (f + fi 58 (sl B f t))) := by
  unfold hnm
  have := fi_le 58 (sl B f t)
  rw [sl_len hft ht] at this
  rw [sl_take (by omega)]
theorem sl_3 {B : List Nat} {f t a b c : Nat} (hft : f ≤ t) (ht : t ≤ B.length) : (sl B f t = [a, b, c]) ↔ (t - f = 3 ∧ B.getD f 0 = a ∧ B.getD (f + 1) 0 = b ∧ B.getD (f + 2) 0 = c) := by
  by_cases q : t - f = 3
  · rw [sl_cons (by omega) ht, sl_cons (by omega) ht, sl_cons (by omega) ht, sl_nil (by omega)]
    simp [q]
  · refine ⟨fun z => ?_, fun z => absurd z.1 q⟩
    have e := sl_len hft ht
    rw [z] at e
    exact absurd e.symm q
theorem sl_5 {B : List Nat} {f t a b c d e : Nat} (hft : f ≤ t) (ht : t ≤ B.length) : (sl B f t = [a, b, c, d, e]) ↔ (t - f = 5 ∧ B.getD f 0 = a ∧ B.getD (f + 1) 0 = b ∧ B.getD (f + 2) 0 = c ∧ B.getD (f + 3) 0 = d ∧ B.getD (f + 4) 0 = e) := by
  by_cases q : t - f = 5
  · rw [sl_cons (by omega) ht, sl_cons (by omega) ht, sl_cons (by omega) ht, sl_cons (by omega) ht, sl_cons (by omega) ht, sl_nil (by omega)]
    simp [q]
  · refine ⟨fun z => ?_, fun z => absurd z.1 q⟩
    have e := sl_len hft ht
    rw [z] at e
    exact absurd e.symm q
/-- one byte against a number -/
theorem sm_byteIs {s : RS} {B : List Nat} {p : Nat} (x : Nat) {y : Int32} {T F : RS → Prop} (h : Bf s B) (hp : p < B.length) (hx : x < 256) (hy : y = iI x) (ht : B.getD p 0 = x → T s) (hf : ¬ B.getD p 0 = x → F s) : vp_M_byteAt (iI p) s (fun z s => if z = y then T s else F s) := by
  have hl := h.len
  have hb := h.at hp
  have hb2 := hb.2
  refine sm_byteAt h (by omega) ?_
  rw [hb.1, hy]
  by_cases q : B.getD p 0 = x
  · rw [if_pos (by rw [q])]
    exact ht q
  · rw [if_neg (by rw [iI_eq (by omega) (by omega) (by omega) (by omega)]; omega)]
    exact hf q
set_option maxHeartbeats 1000000 in
theorem sm_header {s : RS} {B : List Nat} {f t n : Nat} {an : Int} {ic cl : Bool} {Q : Int32 → RS → Prop} (h : Bf s B) (hft : f ≤ t) (ht : t + 2 ≤ B.length) (hn : s.1 29 = iI ((n + 1 : Nat) : Int)) (hn5 : n < 4) (han : s.1 35 = iI an) (han2 : -1 ≤ an ∧ an < 1000) (hic : s.1 36 = iI (bI ic)) (hcl : s.1 34 = iI (bI cl)) (hQ : hdP (sl B f t) f t n an ic cl s Q) : vp_M_header (iI f) (iI t) s Q := by
  have hl := h.len
  have hci := fi_le 58 (sl B f t)
  rw [sl_len hft (by omega)] at hci
  unfold vp_M_header
  refine sm_seekL (c := 58) h (by decide) hft (by omega) ?_
  have key : ∀ g : Bool, (g = true ↔ 0 < fi 58 (sl B f t) ∧ fi 58 (sl B f t) < t - f) → vq_M_header_24 (iI f) (iI t) Q (iI ((f + fi 58 (sl B f t) : Nat) : Int)) (iI (bI g)) s := fun g hg => by
    unfold vq_M_header_24
    refine ⟨_, sl_hchr h (by omega) (fi 58 (sl B f t)) f g (by omega) ?_⟩
    have eOK : hOK (sl B f t) = (g && (sl B f (f + fi 58 (sl B f t))).all hchr) := by
      unfold hOK
      rw [sl_take (by omega), sl_len hft (by omega)]
      congr 1
      rw [Bool.eq_iff_iff, decide_eq_true_iff]
      exact hg.symm
    rw [← eOK]
    unfold vq_M_header_76
    unfold hdP at hQ
    cases hok : hOK (sl B f t) with
    | false =>
      rw [if_pos (by decide)]
      rw [hok, if_neg (by decide)] at hQ
      exact hQ
    | true =>
      rw [if_neg (by decide)]
      rw [hok, if_pos rfl] at hQ
      have hcc : 0 < fi 58 (sl B f t) ∧ fi 58 (sl B f t) < t - f := by
        rw [hok] at eOK
        exact hg.mp (Bool.and_eq_true_iff.mp eOK.symm).1
      have ex : iI ((n + 1 : Nat) : Int) - 1 = iI (n : Int) := by
        rw [show (1 : Int32) = iI 1 from rfl, iI_sub]
        congr 1
        omega
      simp only [wL, hn, ex]
      refine vS_i (by omega) (by show ((n : Int) < (5 : Nat)); omega) (by decide) ?_
      simp only [sR_1, hn, ex]
      refine vS_i (by omega) (by show ((n : Int) < (5 : Nat)); omega) (by decide) ?_
      rw [show ((n : Int)).toNat = n by omega]
      have h1 : Bf (sR (sR s 30 n (iI f)) 31 n (iI t)) B := (h.kR (by decide)).kR (by decide)
      have a1 : (sR (sR s 30 n (iI f)) 31 n (iI t)).1 = s.1 := rfl
      generalize sR (sR s 30 n (iI f)) 31 n (iI t) = s1 at *
      refine sm_valueAt h1 hft (by omega) hcc.2 ?_
      refine sm_valueEnd h1 hft (by omega) hcc.2 ?_
      have hv := hvl_sl (B := B) hft (by omega) hcc.2
      have eN := low_hnm (B := B) hft (show t ≤ B.length by omega)
      refine sm_isChunked h1 (by omega) (by omega) ?_
      rw [← eN]
      generalize hvl (sl B f t) = W at *
      generalize vat (sl B f t) = v at *
      generalize hnm (sl B f t) = N at *
      generalize fi 58 (sl B f t) = c at *
      have eW3 := sl_3 (B := B) (f := f + v) (t := f + v + W.length) (a := 121) (b := 101) (c := 115) (by omega) (by omega)
      have eW5 := sl_5 (B := B) (f := f + v) (t := f + v + W.length) (a := 99) (b := 108) (c := 111) (d := 115) (e := 101) (by omega) (by omega)
      rw [hv.2, show f + v + W.length - (f + v) = W.length by omega] at eW3 eW5
      have i1 : ∀ (x y : Nat), iI (x : Int) + iI (y : Int) = iI ((x + y : Nat) : Int) := fun x y => by rw [iI_add]; congr 1
      have dif : iI ((f + v + W.length : Nat) : Int) - iI ((f + v : Nat) : Int) = iI (W.length : Int) := by rw [iI_sub]; congr 1; omega
      have dif2 : iI ((f + c : Nat) : Int) - iI (f : Int) = iI (c : Int) := by rw [iI_sub]; congr 1; omega
      have eC : decide (N = w_con) = (decide (c = 4) && (decide (lowc (B.getD f 0) = 99) && (decide (lowc (B.getD (f + 1) 0) = 111) && (decide (lowc (B.getD (f + 2) 0) = 110) && decide (lowc (B.getD (f + 3) 0) = 110))))) := by
        rw [eN, show w_con = [99, 111, 110, 110] from rfl, low_4 (by omega) (by omega), show f + c - f = c by omega]
      have h190 : ¬ ((N = w_len ∨ N = w_chk) ∧ (0 ≤ an ∨ ic = true)) → vq_M_header_190 (iI f) (iI t) Q (iI ((f + c : Nat) : Int)) (iI ((f + v : Nat) : Int)) (iI ((f + v + W.length : Nat) : Int)) (iI (bI (decide (N = w_chk)))) (iI (bI (decide (N = w_len)))) s1 := fun z => by
        rw [if_neg z] at hQ
        unfold vq_M_header_190
        by_cases qc : N = w_chk
        · rw [decide_eq_true qc, if_neg (by decide)]
          rw [if_pos qc] at hQ
          refine vP.i ?_
          have h2 : Bf (sI s1 36 1) B := h1.kI (by decide) (by decide)
          rw [dif]
          by_cases q3 : W.length = 3
          · rw [if_pos (by rw [q3]; rfl)]
            rw [show iI ((f + v : Nat) : Int) + 1 = iI ((f + v + 1 : Nat) : Int) from i1 _ 1, show iI ((f + v : Nat) : Int) + 2 = iI ((f + v + 2 : Nat) : Int) from i1 _ 2]
            refine sm_byteIs 121 h2 (by omega) (by decide) rfl (fun b1 => ?_) (fun b1 => ?_)
            · refine sm_byteIs 101 h2 (by omega) (by decide) rfl (fun b2 => ?_) (fun b2 => ?_)
              · refine sm_byteIs 115 h2 (by omega) (by decide) rfl (fun b3 => ?_) (fun b3 => ?_)
                · rw [if_pos (show W = w_yes from eW3.mpr ⟨q3, b1, b2, b3⟩)] at hQ
                  exact hQ
                · rw [if_neg (show ¬ W = w_yes from fun z => b3 (eW3.mp z).2.2.2)] at hQ
                  exact hQ
              · rw [if_neg (show ¬ W = w_yes from fun z => b2 (eW3.mp z).2.2.1)] at hQ
                exact hQ
            · rw [if_neg (show ¬ W = w_yes from fun z => b1 (eW3.mp z).2.1)] at hQ
              exact hQ
          · rw [if_neg (by rw [show (3 : Int32) = iI 3 from rfl, iI_eq (by omega) (by omega) (by omega) (by omega)]; omega)]
            rw [if_neg (show ¬ W = w_yes from fun z => q3 (eW3.mp z).1)] at hQ
            exact hQ
        · rw [decide_eq_false qc, if_pos (by decide)]
          rw [if_neg qc] at hQ
          have h388 : vq_M_header_388 (iI f) (iI t) Q (iI ((f + v : Nat) : Int)) (iI ((f + v + W.length : Nat) : Int)) (iI (bI (decide (N = w_len)))) (iI (bI (cl || (decide (W = w_clo) && decide (N = w_con))))) s1 := by
            unfold vq_M_header_388
            refine ⟨bI_b _, vP.i ?_⟩
            have h2 : Bf (sI s1 34 (iI (bI (cl || (decide (W = w_clo) && decide (N = w_con)))))) B := h1.kI (by decide) (by decide)
            by_cases ql : N = w_len
            · rw [decide_eq_true ql, if_neg (by decide)]
              rw [if_pos ql] at hQ
              refine sm_announce h2 (by omega) (by omega) (fun z => ?_) (fun z => ?_)
              · rw [hv.2] at z
                rw [z, if_neg (by decide)] at hQ
                exact hQ
              · rw [hv.2] at z ⊢
                rw [z, if_pos rfl] at hQ
                exact hQ
            · rw [decide_eq_false ql, if_pos (by decide)]
              rw [if_neg ql] at hQ
              exact hQ
          have h331 : ∀ b : Bool, b = decide (W = w_clo) → vq_M_header_331 (iI f) (iI t) Q (iI ((f + c : Nat) : Int)) (iI ((f + v : Nat) : Int)) (iI ((f + v + W.length : Nat) : Int)) (iI (bI (decide (N = w_len)))) (iI (bI b)) s1 := fun b hb => by
            rw [← hb] at h388
            unfold vq_M_header_331
            refine wL.i ?_
            rw [show s1.1 34 = iI (bI cl) from (by rw [a1]; exact hcl), dif2]
            cases cl with
            | true =>
              rw [if_neg (by decide)]
              exact h388
            | false =>
              rw [if_pos (by decide)]
              rw [Bool.false_or] at h388
              cases b with
              | false =>
                rw [if_pos (by decide)]
                exact h388
              | true =>
                rw [if_neg (by decide)]
                rw [Bool.true_and, eC] at h388
                by_cases q4 : c = 4
                · rw [if_pos (by rw [q4]; rfl)]
                  rw [decide_eq_true q4, Bool.true_and] at h388
                  refine sm_isNamed (a := 99) (b := 111) (c := 110) h1 (by omega) (by omega) (by decide) (by decide) (by decide) ?_
                  rw [decide_eq_true (show f + 3 ≤ f + c by omega), Bool.true_and]
                  have h6 := h1.at (p := f + 3) (by omega)
                  have g6 := h6.2
                  have r6 := lowc_r g6
                  cases hx : (decide (lowc (B.getD f 0) = 99) && (decide (lowc (B.getD (f + 1) 0) = 111) && decide (lowc (B.getD (f + 2) 0) = 110))) with
                  | false =>
                    rw [if_pos (by decide)]
                    rw [← Bool.and_assoc, ← Bool.and_assoc, Bool.and_assoc (decide (lowc (B.getD f 0) = 99)), hx] at h388
                    exact h388
                  | true =>
                    rw [if_neg (by decide)]
                    rw [← Bool.and_assoc, ← Bool.and_assoc, Bool.and_assoc (decide (lowc (B.getD f 0) = 99)), hx, Bool.true_and] at h388
                    rw [show iI (f : Int) + 3 = iI ((f + 3 : Nat) : Int) from i1 _ 3]
                    refine sm_byteAt h1 (by omega) ?_
                    rw [h6.1]
                    refine sm_small (by omega) (by omega) ?_
                    rw [smv_low]
                    by_cases q7 : lowc (B.getD (f + 3) 0) = 110
                    · rw [if_pos (by rw [q7]; rfl)]
                      rw [decide_eq_true q7] at h388
                      exact h388
                    · rw [if_neg (by rw [show (110 : Int32) = iI 110 from rfl, iI_eq (by omega) (by omega) (by omega) (by omega)]; omega)]
                      rw [decide_eq_false q7] at h388
                      exact h388
                · rw [if_neg (by rw [show (4 : Int32) = iI 4 from rfl, iI_eq (by omega) (by omega) (by omega) (by omega)]; omega)]
                  rw [decide_eq_false q4, Bool.false_and] at h388
                  exact h388
          have f0 : ¬ W = w_clo → vq_M_header_330 (iI f) (iI t) Q (iI ((f + c : Nat) : Int)) (iI ((f + v : Nat) : Int)) (iI ((f + v + W.length : Nat) : Int)) (iI (bI (decide (N = w_len)))) s1 := fun z => h331 false (decide_eq_false z).symm
          have f1 : W = w_clo → vq_M_header_331 (iI f) (iI t) Q (iI ((f + c : Nat) : Int)) (iI ((f + v : Nat) : Int)) (iI ((f + v + W.length : Nat) : Int)) (iI (bI (decide (N = w_len)))) 1 s1 := fun z => h331 true (decide_eq_true z).symm
          rw [dif]
          by_cases q5 : W.length = 5
          · rw [if_pos (by rw [q5]; rfl)]
            rw [show iI ((f + v : Nat) : Int) + 1 = iI ((f + v + 1 : Nat) : Int) from i1 _ 1, show iI ((f + v : Nat) : Int) + 2 = iI ((f + v + 2 : Nat) : Int) from i1 _ 2, show iI ((f + v : Nat) : Int) + 3 = iI ((f + v + 3 : Nat) : Int) from i1 _ 3, show iI ((f + v : Nat) : Int) + 4 = iI ((f + v + 4 : Nat) : Int) from i1 _ 4]
            refine sm_byteIs 99 h1 (by omega) (by decide) rfl (fun b1 => ?_) (fun b1 => f0 (fun z => b1 (eW5.mp z).2.1))
            refine sm_byteIs 108 h1 (by omega) (by decide) rfl (fun b2 => ?_) (fun b2 => f0 (fun z => b2 (eW5.mp z).2.2.1))
            refine sm_byteIs 111 h1 (by omega) (by decide) rfl (fun b3 => ?_) (fun b3 => f0 (fun z => b3 (eW5.mp z).2.2.2.1))
            refine sm_byteIs 115 h1 (by omega) (by decide) rfl (fun b4 => ?_) (fun b4 => f0 (fun z => b4 (eW5.mp z).2.2.2.2.1))
            exact sm_byteIs 101 h1 (by omega) (by decide) rfl (fun b5 => f1 (eW5.mpr ⟨q5, b1, b2, b3, b4, b5⟩)) (fun b5 => f0 (fun z => b5 (eW5.mp z).2.2.2.2.2))
          · rw [if_neg (by rw [show (5 : Int32) = iI 5 from rfl, iI_eq (by omega) (by omega) (by omega) (by omega)]; omega)]
            exact f0 (fun z => q5 (eW5.mp z).1)
      have h172 : (N = w_len ∨ N = w_chk) → vq_M_header_172 (iI f) (iI t) Q (iI ((f + c : Nat) : Int)) (iI ((f + v : Nat) : Int)) (iI ((f + v + W.length : Nat) : Int)) (iI (bI (decide (N = w_chk)))) (iI (bI (decide (N = w_len)))) s1 := fun z => by
        unfold vq_M_header_172
        refine wL.i ?_
        rw [show s1.1 35 = iI an from (by rw [a1]; exact han)]
        by_cases q1 : 0 ≤ an
        · rw [if_pos (by rw [show (0 : Int32) = iI 0 from rfl, iI_le (by omega) (by omega) (by omega) (by omega)]; omega)]
          rw [if_pos ⟨z, Or.inl q1⟩] at hQ
          exact hQ
        · rw [if_neg (by rw [show (0 : Int32) = iI 0 from rfl, iI_le (by omega) (by omega) (by omega) (by omega)]; omega)]
          refine wL.i ?_
          rw [show s1.1 36 = iI (bI ic) from (by rw [a1]; exact hic)]
          cases ic with
          | true =>
            rw [if_neg (by decide)]
            rw [if_pos ⟨z, Or.inr rfl⟩] at hQ
            exact hQ
          | false =>
            rw [if_pos (by decide)]
            exact h190 (fun y => y.2.elim q1 (fun y => by cases y))
      have h160 : ∀ b : Bool, b = decide (N = w_len) → vq_M_header_160 (iI f) (iI t) Q (iI ((f + c : Nat) : Int)) (iI ((f + v : Nat) : Int)) (iI ((f + v + W.length : Nat) : Int)) (iI (bI (decide (N = w_chk)))) (iI (bI b)) s1 := fun b hb => by
        unfold vq_M_header_160
        cases b with
        | true =>
          rw [if_neg (by decide)]
          have := h172 (Or.inl (of_decide_eq_true hb.symm))
          rw [← hb] at this
          exact this
        | false =>
          rw [if_pos (by decide)]
          have hnl : ¬ N = w_len := of_decide_eq_false hb.symm
          by_cases qc : N = w_chk
          · rw [decide_eq_true qc, if_neg (by decide)]
            have := h172 (Or.inr qc)
            rw [← hb, decide_eq_true qc] at this
            exact this
          · rw [decide_eq_false qc, if_pos (by decide)]
            have := h190 (fun y => y.1.elim hnl qc)
            rw [← hb, decide_eq_false qc] at this
            exact this
      have h159 : false = decide (N = w_len) → vq_M_header_159 (iI f) (iI t) Q (iI ((f + c : Nat) : Int)) (iI ((f + v : Nat) : Int)) (iI ((f + v + W.length : Nat) : Int)) (iI (bI (decide (N = w_chk)))) s1 := fun z => h160 false z
      have eL : decide (N = w_len) = (decide (c = 3) && (decide (lowc (B.getD f 0) = 108) && (decide (lowc (B.getD (f + 1) 0) = 101) && decide (lowc (B.getD (f + 2) 0) = 110)))) := by
        rw [eN, show w_len = [108, 101, 110] from rfl, low_3 (by omega) (by omega), show f + c - f = c by omega]
      rw [dif2]
      by_cases q3 : c = 3
      · rw [if_pos (by rw [q3]; rfl)]
        rw [decide_eq_true q3, Bool.true_and] at eL
        refine sm_isNamed (a := 108) (b := 101) (c := 110) h1 (by omega) (by omega) (by decide) (by decide) (by decide) ?_
        rw [decide_eq_true (show f + 3 ≤ f + c by omega), Bool.true_and, ← eL]
        cases hx : decide (N = w_len) with
        | false =>
          rw [if_pos (by decide)]
          exact h159 hx.symm
        | true =>
          rw [if_neg (by decide)]
          exact h160 true hx.symm
      · rw [if_neg (by rw [show (3 : Int32) = iI 3 from rfl, iI_eq (by omega) (by omega) (by omega) (by omega)]; omega)]
        rw [decide_eq_false q3, Bool.false_and] at eL
        exact h159 eL.symm
  have s0 : ¬ (0 < fi 58 (sl B f t) ∧ fi 58 (sl B f t) < t - f) → vq_M_header_23 (iI f) (iI t) Q (iI ((f + fi 58 (sl B f t) : Nat) : Int)) s := fun z => key false ⟨fun q => (by cases q), fun q => absurd q z⟩
  have s1 : (0 < fi 58 (sl B f t) ∧ fi 58 (sl B f t) < t - f) → vq_M_header_24 (iI f) (iI t) Q (iI ((f + fi 58 (sl B f t) : Nat) : Int)) 1 s := fun z => key true ⟨fun _ => z, fun _ => rfl⟩
  by_cases z1 : 0 < fi 58 (sl B f t)
  · rw [if_neg (by rw [iI_le (by omega) (by omega) (by omega) (by omega)]; omega)]
    by_cases z2 : fi 58 (sl B f t) < t - f
    · rw [if_neg (by rw [iI_le (by omega) (by omega) (by omega) (by omega)]; omega)]
      exact s1 ⟨z1, z2⟩
    · rw [if_pos (by rw [iI_le (by omega) (by omega) (by omega) (by omega)]; omega)]
      exact s0 (by omega)
  · rw [if_pos (by rw [iI_le (by omega) (by omega) (by omega) (by omega)]; omega)]
    exact s0 (by omega)
