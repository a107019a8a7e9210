/-! The reference's chunks, all of them; judging -/
theorem crlf_drop {X : List Nat} (h : crlf X = 1) : 2 ≤ X.length := by
  match X with
  | [] => cases h
  | [a] =>
    by_cases q : a = 13
    · simp [crlf, q] at h
    · simp [crlf, q] at h
  | a :: b :: Y => simp
theorem sl_chunks {B : List Nat} {p0 : Int32} {Q : Int32 → RS → Prop} : ∀ (n : Nat) (s : RS) (p tot : Nat) (bd : List Nat) (k : Nat), k + n = 100 → Bf s B → p ≤ B.length → Bd s bd → bd.length = tot → tot ≤ 40 →
    (∀ s', Sm s s' → Bd s' (ckf n (B.drop p) tot bd).2 → Q (iI (ckf n (B.drop p) tot bd).1) s') → vq_M_chunks_7 p0 Q (n + 1) (iI p) (iI tot) (iI k) s := by
  intro n
  induction n with
  | zero =>
    intro s p tot bd k hk h hp hb hbl ht hQ
    show vb_M_chunks_7 _ _ _ _ _ _ _
    unfold vb_M_chunks_7
    rw [if_pos (by rw [show (100 : Int32) = iI 100 from rfl, iI_le (by omega) (by omega) (by omega) (by omega)]; omega)]
    exact hQ s (Sm.rf s) hb
  | succ n ih =>
    intro s p tot bd k hk h hp hb hbl ht hQ
    have hl := h.len
    show vb_M_chunks_7 _ _ _ _ _ _ _
    unfold vb_M_chunks_7
    rw [if_neg (by rw [show (100 : Int32) = iI 100 from rfl, iI_le (by omega) (by omega) (by omega) (by omega)]; omega)]
    refine ⟨3, ck_digs h hp ?_⟩
    have hd := dg_r (B.drop p)
    rw [List.length_drop] at hd
    unfold ckf at hQ
    rw [List.drop_drop, List.drop_drop, List.drop_drop, List.drop_drop] at hQ
    generalize hdd : (dg (B.drop p)).1 = d at *
    generalize hmm : (dg (B.drop p)).2 = m at *
    have hne : B.drop p ≠ [] ↔ p < B.length := by
      rw [Ne, List.drop_eq_nil_iff]
      omega
    have h103 : ¬ (d = 0 ∧ B.drop p ≠ []) → vq_M_chunks_103 p0 Q (vq_M_chunks_7 p0 Q (n + 1)) (iI ((p + d : Nat) : Int)) (iI tot) (iI k) (iI m) s := fun z => by
      rw [if_neg z] at hQ
      unfold vq_M_chunks_103
      refine sm_crlf (K := fun x s => vq_M_chunks_133 p0 Q (vq_M_chunks_7 p0 Q (n + 1)) (iI ((p + d : Nat) : Int)) (iI tot) (iI k) (iI m) x s) h (by omega) ?_
      unfold vq_M_chunks_133
      have hcr := crlf_r (B.drop (p + d))
      by_cases q1 : crlf (B.drop (p + d)) = 1
      · have hc2 := crlf_drop q1
        rw [List.length_drop] at hc2
        rw [if_pos (by rw [q1]; rfl)]
        rw [if_neg (show ¬ crlf (B.drop (p + d)) ≠ 1 from fun y => y q1)] at hQ
        refine wL.i ?_
        rw [iI_add, show ((tot : Int) + (m : Int)) = ((tot + m : Nat) : Int) by omega]
        by_cases q2 : tot + m ≤ 40
        · rw [if_pos (by rw [show (40 : Int32) = iI 40 from rfl, iI_le (by omega) (by omega) (by omega) (by omega)]; omega)]
          rw [if_neg (show ¬ 40 < tot + m by omega), List.length_drop] at hQ
          rw [show iI ((p + d : Nat) : Int) + 2 = iI ((p + d + 2 : Nat) : Int) from iI_add _ 2]
          refine ⟨m + 1, ck_data (tot := tot) (bd := bd) (by omega) m 0 (p + d + 2) s (by omega) h (by omega) (by rw [sl_nil (by omega), List.append_nil]; exact hb) (by omega) (fun z s' a b => ?_) (fun z s' a b => ?_)⟩
          · rw [Nat.sub_zero] at z b
            rw [if_pos (show B.length - (p + (d + 2)) < m by omega), show p + (d + 2) = p + d + 2 by omega] at hQ
            exact hQ s' a b
          · rw [Nat.sub_zero] at z b ⊢
            rw [if_neg (show ¬ B.length - (p + (d + 2)) < m by omega)] at hQ
            have ets : (B.drop (p + (d + 2))).take m = sl B (p + d + 2) (p + d + 2 + m) := by
              unfold sl
              rw [show p + (d + 2) = p + d + 2 by omega, show p + d + 2 + m - (p + d + 2) = m by omega]
            rw [ets, show p + (d + 2 + m) = p + d + 2 + m by omega] at hQ
            have h' := a.bf h
            unfold vq_M_chunks_215
            refine sm_crlf (K := fun x s => vq_M_chunks_245 p0 Q (vq_M_chunks_7 p0 Q (n + 1)) (iI ((p + d + 2 + m : Nat) : Int)) (iI ((tot + m : Nat) : Int)) (iI k) (iI m) x s) h' (by omega) ?_
            unfold vq_M_chunks_245
            have hcr2 := crlf_r (B.drop (p + d + 2 + m))
            by_cases q3 : crlf (B.drop (p + d + 2 + m)) = 1
            · have hc3 := crlf_drop q3
              rw [List.length_drop] at hc3
              rw [if_pos (by rw [q3]; rfl)]
              by_cases q4 : m = 0
              · rw [if_pos (by rw [q4]; rfl)]
                rw [if_pos (Or.inr q4)] at hQ
                exact hQ s' a b
              · rw [if_neg (by rw [show (0 : Int32) = iI 0 from rfl, iI_eq (by omega) (by omega) (by omega) (by omega)]; omega)]
                rw [if_neg (show ¬ (crlf (B.drop (p + d + 2 + m)) ≠ 1 ∨ m = 0) from fun y => y.elim (fun y => y q3) q4)] at hQ
                rw [show iI ((p + d + 2 + m : Nat) : Int) + 2 = iI ((p + d + 2 + m + 2 : Nat) : Int) from iI_add _ 2, show iI (k : Int) + 1 = iI ((k + 1 : Nat) : Int) from iI_add _ 1]
                refine ih s' (p + d + 2 + m + 2) (tot + m) (bd ++ sl B (p + d + 2) (p + d + 2 + m)) (k + 1) (by omega) h' (by omega) b (by rw [List.length_append, sl_len (by omega) (by omega)]; omega) q2 (fun s2 a2 b2 => ?_)
                rw [show p + (d + 2 + m + 2) = p + d + 2 + m + 2 by omega] at hQ
                exact hQ s2 (a.tr a2) b2
            · rw [if_neg (by rw [show (1 : Int32) = iI 1 from rfl, iI_eq (by omega) (by omega) (by omega) (by omega)]; exact q3)]
              rw [if_pos (Or.inl q3)] at hQ
              exact hQ s' a b
        · rw [if_neg (by rw [show (40 : Int32) = iI 40 from rfl, iI_le (by omega) (by omega) (by omega) (by omega)]; omega)]
          rw [if_pos (show 40 < tot + m by omega)] at hQ
          exact hQ s (Sm.rf s) hb
      · rw [if_neg (by rw [show (1 : Int32) = iI 1 from rfl, iI_eq (by omega) (by omega) (by omega) (by omega)]; exact q1)]
        rw [if_pos q1] at hQ
        exact hQ s (Sm.rf s) hb
    unfold vq_M_chunks_86
    refine wL.i ?_
    rw [h.size]
    by_cases q : p + d < B.length
    · rw [if_neg (by rw [iI_le (by omega) (by omega) (by omega) (by omega)]; omega)]
      by_cases q0 : d = 0
      · rw [if_pos (by rw [q0]; rfl)]
        rw [if_pos ⟨q0, hne.mpr (by omega)⟩] at hQ
        exact hQ s (Sm.rf s) hb
      · rw [if_neg (by rw [show (0 : Int32) = iI 0 from rfl, iI_eq (by omega) (by omega) (by omega) (by omega)]; omega)]
        exact h103 (fun y => q0 y.1)
    · rw [if_pos (by rw [iI_le (by omega) (by omega) (by omega) (by omega)]; omega)]
      refine h103 (fun y => ?_)
      have := hne.mp y.2
      omega
theorem sm_chunks {s : RS} {B : List Nat} {p : Nat} {Q : Int32 → RS → Prop} (h : Bf s B) (hp : p ≤ B.length) (hb : Bd s []) (hQ : ∀ s', Sm s s' → Bd s' (ckf 100 (B.drop p) 0 []).2 → Q (iI (ckf 100 (B.drop p) 0 []).1) s') : vp_M_chunks (iI p) s Q :=
  ⟨101, sl_chunks 100 s p 0 [] 0 (by omega) h hp hb rfl (by omega) hQ⟩
/-! the header lines, all of them -/
def hcode (X : List Nat) (an : Int) (ic : Bool) : Int :=
  if hOK X = true then
    (if (hnm X = w_len ∨ hnm X = w_chk) ∧ (0 ≤ an ∨ ic = true) then 400
     else if hnm X = w_chk then (if hvl X = w_yes then 0 else 400)
     else if hnm X = w_len then (if anOK (hvl X) = true then (if numv (hvl X) ≤ 40 then 0 else 413) else 400)
     else 0)
  else 400
def hAn (X : List Nat) (an : Int) : Int := if hnm X = w_len then (numv (hvl X) : Int) else an
def hIc (X : List Nat) (ic : Bool) : Bool := if hnm X = w_chk then true else ic
def hCl (X : List Nat) (cl : Bool) : Bool := cl || (decide (hvl X = w_clo) && decide (hnm X = w_con))
/-- what judging has found so far -/
def Jh (s0 s : RS) (B : List Nat) (an : Int) (ic cl : Bool) (hs : List (Nat × Nat)) : Prop :=
  Fr s0 s ∧ Bf s B ∧ Bd s [] ∧ s.1 29 = iI hs.length ∧ s.1 35 = iI an ∧ s.1 36 = iI (bI ic) ∧ s.1 34 = iI (bI cl) ∧ ∀ i, i < hs.length → s.2 30 i = iI ((hs.getD i (0, 0)).1 : Nat) ∧ s.2 31 i = iI ((hs.getD i (0, 0)).2 : Nat)
theorem Bd.nil {s s' : RS} (h : Bd s []) (e : s'.1 32 = s.1 32) : Bd s' [] := ⟨by rw [e]; exact h.1, fun j hj => absurd hj (by simp)⟩
theorem sm_hdr {s0 s : RS} {B : List Nat} {f t : Nat} {an : Int} {ic cl : Bool} {hs : List (Nat × Nat)} {Q : Int32 → RS → Prop} (H : Jh s0 s B an ic cl hs) (hn : hs.length < 4) (hft : f ≤ t) (ht : t + 2 ≤ B.length) (han : -1 ≤ an ∧ an ≤ 40) (h0 : hcode (sl B f t) an ic ≠ 0 → ∀ s', Fr s0 s' → Q (iI (hcode (sl B f t) an ic)) s')
    (h1 : hcode (sl B f t) an ic = 0 → ∀ s', Jh s0 s' B (hAn (sl B f t) an) (hIc (sl B f t) ic) (hCl (sl B f t) cl) (hs ++ [(f, t)]) → Q (iI 0) s') : vp_M_header (iI f) (iI t) (sI s 29 (iI ((hs.length + 1 : Nat) : Int))) Q := by
  obtain ⟨hF, h, hb, hh, ha, hi, hc, hr⟩ := H
  have hB : Bf (sI s 29 (iI ((hs.length + 1 : Nat) : Int))) B := h.kI (by decide) (by decide)
  refine sm_header (n := hs.length) (an := an) (ic := ic) (cl := cl) hB hft ht sI_at hn (by rw [sI_ne (by decide)]; exact ha) (by omega) (by rw [sI_ne (by decide)]; exact hi) (by rw [sI_ne (by decide)]; exact hc) ?_
  have hF1 : Fr s0 (sI s 29 (iI ((hs.length + 1 : Nat) : Int))) := hF.i (by decide)
  have hF2 : Fr s0 (sR (sR (sI s 29 (iI ((hs.length + 1 : Nat) : Int))) 30 hs.length (iI f)) 31 hs.length (iI t)) := (hF1.r (by decide)).r (by decide)
  have hB2 : Bf (sR (sR (sI s 29 (iI ((hs.length + 1 : Nat) : Int))) 30 hs.length (iI f)) 31 hs.length (iI t)) B := (hB.kR (by decide)).kR (by decide)
  have e1 : ∀ i, i ≠ 29 → (sR (sR (sI s 29 (iI ((hs.length + 1 : Nat) : Int))) 30 hs.length (iI f)) 31 hs.length (iI t)).1 i = s.1 i := fun i hi => sI_ne hi
  have e29 : (sR (sR (sI s 29 (iI ((hs.length + 1 : Nat) : Int))) 30 hs.length (iI f)) 31 hs.length (iI t)).1 29 = iI ((hs.length + 1 : Nat) : Int) := sI_at (s := s) (k := 29)
  have e30 : (sR (sR (sI s 29 (iI ((hs.length + 1 : Nat) : Int))) 30 hs.length (iI f)) 31 hs.length (iI t)).2 30 = upd (s.2 30) hs.length (iI f) := by
    rw [sR_ne (by decide), sR_at]
    rfl
  have e31 : (sR (sR (sI s 29 (iI ((hs.length + 1 : Nat) : Int))) 30 hs.length (iI f)) 31 hs.length (iI t)).2 31 = upd (s.2 31) hs.length (iI t) := by
    rw [sR_at, sR_ne (by decide)]
    rfl
  unfold hdP
  generalize sR (sR (sI s 29 (iI ((hs.length + 1 : Nat) : Int))) 30 hs.length (iI f)) 31 hs.length (iI t) = s2 at *
  have rows : ∀ i, i < (hs ++ [(f, t)]).length → s2.2 30 i = iI (((hs ++ [(f, t)]).getD i (0, 0)).1 : Nat) ∧ s2.2 31 i = iI (((hs ++ [(f, t)]).getD i (0, 0)).2 : Nat) := fun i hi => by
    rw [List.length_append] at hi
    have hi : i < hs.length + 1 := hi
    rw [e30, e31]
    by_cases q : i = hs.length
    · subst q
      rw [pk_us, pk_us]
      simp [List.getD_eq_getElem?_getD]
    · rw [pk_un q, pk_un q]
      have := hr i (by omega)
      simpa [List.getD_eq_getElem?_getD, List.getElem?_append_left (show i < hs.length by omega)] using this
  have elen : (hs ++ [(f, t)]).length = hs.length + 1 := by simp
  unfold hcode at h0 h1
  unfold hAn hIc hCl at h1
  generalize sl B f t = X at *
  by_cases q1 : hOK X = true
  · rw [if_pos q1] at h0 h1 ⊢
    by_cases q2 : (hnm X = w_len ∨ hnm X = w_chk) ∧ (0 ≤ an ∨ ic = true)
    · rw [if_pos q2] at h0 ⊢
      exact h0 (by decide) s2 hF2
    · rw [if_neg q2] at h0 h1 ⊢
      by_cases q3 : hnm X = w_chk
      · rw [if_pos q3] at h0 h1 ⊢
        by_cases q4 : hvl X = w_yes
        · rw [if_pos q4] at h0 h1 ⊢
          refine h1 rfl _ ⟨hF2.i (by decide), hB2.kI (by decide) (by decide), hb.nil (by rw [sI_ne (by decide)]; exact e1 32 (by decide)), by rw [sI_ne (by decide), e29, elen], ?_, ?_, ?_, rows⟩
          · rw [sI_ne (by decide), e1 35 (by decide), ha, if_neg (by rw [q3]; decide)]
          · rw [if_pos q3]
            exact sI_at
          · rw [sI_ne (by decide), e1 34 (by decide), hc, decide_eq_false (show ¬ hnm X = w_con by rw [q3]; decide), Bool.and_false, Bool.or_false]
        · rw [if_neg q4] at h0 ⊢
          exact h0 (by decide) _ (hF2.i (by decide))
      · rw [if_neg q3] at h0 h1 ⊢
        by_cases q5 : hnm X = w_len
        · rw [if_pos q5] at h0 h1 ⊢
          by_cases q6 : anOK (hvl X) = true
          · rw [if_pos q6] at h0 h1 ⊢
            by_cases q7 : numv (hvl X) ≤ 40
            · rw [if_pos q7] at h0 h1 ⊢
              refine h1 rfl _ ⟨(hF2.i (by decide)).i (by decide), (hB2.kI (by decide) (by decide)).kI (by decide) (by decide), hb.nil (by rw [sI_ne (by decide), sI_ne (by decide)]; exact e1 32 (by decide)), by rw [sI_ne (by decide), sI_ne (by decide), e29, elen], ?_, ?_, ?_, rows⟩
              · rw [if_pos q5]
                exact sI_at
              · rw [if_neg q3, sI_ne (by decide), sI_ne (by decide), e1 36 (by decide)]
                exact hi
              · rw [sI_ne (by decide)]
                exact sI_at
            · rw [if_neg q7] at h0 ⊢
              exact h0 (by decide) _ ((hF2.i (by decide)).i (by decide))
          · rw [if_neg q6] at h0 ⊢
            exact fun x => h0 (by decide) _ ((hF2.i (by decide)).i (by decide))
        · rw [if_neg q5] at h0 h1 ⊢
          refine h1 rfl _ ⟨hF2.i (by decide), hB2.kI (by decide) (by decide), hb.nil (by rw [sI_ne (by decide)]; exact e1 32 (by decide)), by rw [sI_ne (by decide), e29, elen], ?_, ?_, ?_, rows⟩
          · rw [sI_ne (by decide), e1 35 (by decide), ha, if_neg q5]
          · rw [if_neg q3, sI_ne (by decide), e1 36 (by decide)]
            exact hi
          · exact sI_at
  · rw [if_neg q1] at h0 ⊢
    exact h0 (by decide) _ hF1
