/-! The reference's chunks -/
def Sm (s s' : RS) : Prop := (∀ i, i ≠ 32 → s'.1 i = s.1 i) ∧ ∀ i, i ≠ 33 → s'.2 i = s.2 i
theorem Sm.rf (s : RS) : Sm s s := ⟨fun _ _ => rfl, fun _ _ => rfl⟩
theorem Sm.tr {s t u : RS} (h : Sm s t) (g : Sm t u) : Sm s u := ⟨fun i hi => by rw [g.1 i hi, h.1 i hi], fun i hi => by rw [g.2 i hi, h.2 i hi]⟩
theorem Sm.bd (s : RS) (bd : List Nat) (b : Nat) : Sm s (bdS s bd b) := ⟨fun _ hi => bdS_n hi, fun _ hi => bdS_r hi⟩
theorem Sm.bf {s s' : RS} {B : List Nat} (h : Sm s s') (hb : Bf s B) : Bf s' B := by
  obtain ⟨bb, a1, a2, a3, a4⟩ := hb
  exact ⟨bb, by rw [h.1 27 (by decide)]; exact a1, by rw [h.1 28 (by decide)]; exact a2, a3, fun j hj => by rw [h.2 0 (by decide)]; exact a4 j hj⟩
theorem Sm.fr {s0 s s' : RS} (h : Sm s s') (hF : Fr s0 s) : Fr s0 s' :=
  ⟨fun k h1 h2 h3 h4 h5 h6 h7 => by rw [h.1 k h4]; exact hF.1 k h1 h2 h3 h4 h5 h6 h7, fun k h1 h2 h3 => by rw [h.2 k h3]; exact hF.2 k h1 h2 h3⟩
def lhx (c : Nat) : Bool := decide ((48 ≤ c ∧ c ≤ 57) ∨ (97 ≤ c ∧ c ≤ 102))
def lhv (c : Nat) : Nat := if c ≤ 57 then c - 48 else c - 87
def dg (X : List Nat) : Nat × Nat := match X with
  | [] => (0, 0)
  | a :: Y => if lhx a then (match Y with
    | [] => (1, lhv a)
    | b :: _ => if lhx b then (2, 16 * lhv a + lhv b) else (1, lhv a)) else (0, 0)
def ckf : Nat → List Nat → Nat → List Nat → Int × List Nat
  | 0, _, _, bd => (400, bd)
  | n + 1, X, tot, bd =>
    if (dg X).1 = 0 ∧ X ≠ [] then (400, bd)
    else if crlf (X.drop (dg X).1) ≠ 1 then (crlf (X.drop (dg X).1), bd)
    else if 40 < tot + (dg X).2 then (413, bd)
    else if (X.drop ((dg X).1 + 2)).length < (dg X).2 then (0, bd ++ X.drop ((dg X).1 + 2))
    else if crlf (X.drop ((dg X).1 + 2 + (dg X).2)) ≠ 1 ∨ (dg X).2 = 0 then (crlf (X.drop ((dg X).1 + 2 + (dg X).2)), bd ++ (X.drop ((dg X).1 + 2)).take (dg X).2)
    else ckf n (X.drop ((dg X).1 + 2 + (dg X).2 + 2)) (tot + (dg X).2) (bd ++ (X.drop ((dg X).1 + 2)).take (dg X).2)
theorem lhx_i {c : Nat} : (lhx c = true → hxv (c : Int) = (lhv c : Int) ∧ smv (c : Int) = c ∧ lhv c < 16) ∧ (lhx c = false → ¬ (0 ≤ hxv (c : Int) ∧ smv (c : Int) = c)) := by
  unfold lhx lhv hxv smv
  refine ⟨fun h => ?_, fun h => ?_⟩
  · have h := of_decide_eq_true h
    by_cases q : c ≤ 57
    · simp only [q, if_true]
      rw [if_pos (by omega), if_neg (by omega)]
      omega
    · simp only [q, if_false]
      rw [if_neg (by omega), if_pos (by omega), if_neg (by omega)]
      omega
  · have h := of_decide_eq_false h
    rw [if_neg (by omega), if_neg (by omega)]
    intro z
    by_cases q : 65 ≤ (c : Int) ∧ (c : Int) ≤ 70
    · rw [if_pos (by omega)] at z
      omega
    · rw [if_neg q] at z
      omega
section CK
variable {s : RS} {B : List Nat} {p0 T N : Int32} {Q : Int32 → RS → Prop} {k7 : Int32 → Int32 → Int32 → RS → Prop}
theorem ck_dig {p j m fu : Nat} (h : Bf s B) (hj : j < 2) (hp : p < 10000) (h1 : p < B.length → lhx (B.getD p 0) = true → vq_M_chunks_20 p0 Q k7 fu (iI ((p + 1 : Nat) : Int)) T N (iI ((j + 1 : Nat) : Int)) (iI ((16 * m + lhv (B.getD p 0) : Nat) : Int)) s)
    (h0 : ¬ (p < B.length ∧ lhx (B.getD p 0) = true) → vq_M_chunks_86 p0 Q k7 (iI p) T N (iI j) (iI m) s) : vq_M_chunks_20 p0 Q k7 (fu + 1) (iI p) T N (iI j) (iI m) s := by
  have hl := h.len
  show vb_M_chunks_20 _ _ _ _ _ _ _ _ _ _
  unfold vb_M_chunks_20
  rw [if_neg (by rw [show (2 : Int32) = iI 2 from rfl, iI_le (by omega) (by omega) (by omega) (by omega)]; omega)]
  refine wL.i ?_
  rw [h.size]
  by_cases q : p < B.length
  · rw [if_neg (by rw [iI_le (by omega) (by omega) (by omega) (by omega)]; omega)]
    have hq := h.at q
    have hq2 := hq.2
    have hh := hxv_r (B.getD p 0 : Nat)
    have hs := smv_r (c := (B.getD p 0 : Nat)) (by omega) (by omega)
    have hx := lhx_i (c := B.getD p 0)
    refine sm_byteAt h (by omega) ?_
    rw [hq.1]
    refine sm_hex (by omega) (by omega) ?_
    by_cases z0 : hxv (B.getD p 0 : Nat) < 0
    · rw [if_pos (by rw [show (0 : Int32) = iI 0 from rfl, iI_lt (by omega) (by omega) (by omega) (by omega)]; omega)]
      refine h0 (fun y => ?_)
      have := (hx.1 y.2).1
      omega
    · rw [if_neg (by rw [show (0 : Int32) = iI 0 from rfl, iI_lt (by omega) (by omega) (by omega) (by omega)]; omega)]
      refine sm_byteAt h (by omega) (sm_byteAt h (by omega) ?_)
      rw [hq.1]
      refine sm_small (by omega) (by omega) ?_
      by_cases z1 : smv (B.getD p 0 : Nat) = (B.getD p 0 : Nat)
      · rw [if_pos (by rw [z1])]
        refine sm_byteAt h (by omega) ?_
        rw [hq.1]
        refine sm_hex (by omega) (by omega) ?_
        refine wL.i ?_
        have hb : lhx (B.getD p 0) = true := by
          cases hz : lhx (B.getD p 0) with
          | true => rfl
          | false => exact absurd ⟨by omega, z1⟩ (hx.2 hz)
        have he := (hx.1 hb).1
        rw [show iI (p : Int) + 1 = iI ((p + 1 : Nat) : Int) from iI_add _ 1, show iI (j : Int) + 1 = iI ((j + 1 : Nat) : Int) from iI_add _ 1, he, show (16 : Int32) = iI 16 from rfl, iI_mul, iI_add, show (16 * (m : Int) + (lhv (B.getD p 0) : Nat)) = ((16 * m + lhv (B.getD p 0) : Nat) : Int) by omega]
        exact h1 q hb
      · rw [if_neg (by rw [iI_eq (by omega) (by omega) (by omega) (by omega)]; omega)]
        exact h0 (fun y => z1 (hx.1 y.2).2.1)
  · rw [if_pos (by rw [iI_le (by omega) (by omega) (by omega) (by omega)]; omega)]
    exact h0 (fun y => q y.1)
theorem ck_dig2 {p m fu : Nat} (h0 : vq_M_chunks_86 p0 Q k7 (iI p) T N (iI 2) (iI m) s) : vq_M_chunks_20 p0 Q k7 (fu + 1) (iI p) T N (iI 2) (iI m) s := by
  show vb_M_chunks_20 _ _ _ _ _ _ _ _ _ _
  unfold vb_M_chunks_20
  rw [if_pos (by decide)]
  exact h0
theorem ck_digs {p : Nat} (h : Bf s B) (hp : p ≤ B.length) (h0 : vq_M_chunks_86 p0 Q k7 (iI ((p + (dg (B.drop p)).1 : Nat) : Int)) T N (iI ((dg (B.drop p)).1 : Nat)) (iI ((dg (B.drop p)).2 : Nat)) s) : vq_M_chunks_20 p0 Q k7 3 (iI p) T N (iI 0) (iI 0) s := by
  have hl := h.len
  refine ck_dig (j := 0) (m := 0) h (by decide) (by omega) (fun a1 a2 => ?_) (fun a => ?_)
  · rw [ls_drop a1] at h0
    refine ck_dig (j := 1) h (by decide) (by omega) (fun b1 b2 => ?_) (fun b => ?_)
    · rw [ls_drop b1] at h0
      simp only [dg, a2, b2, if_true] at h0
      refine ck_dig2 ?_
      rw [show 16 * (16 * 0 + lhv (B.getD p 0)) + lhv (B.getD (p + 1) 0) = 16 * lhv (B.getD p 0) + lhv (B.getD (p + 1) 0) by omega]
      exact h0
    · rw [show 16 * 0 + lhv (B.getD p 0) = lhv (B.getD p 0) by omega]
      by_cases b1 : p + 1 < B.length
      · have b2 : lhx (B.getD (p + 1) 0) = false := by
          cases hz : lhx (B.getD (p + 1) 0) with
          | false => rfl
          | true => exact absurd ⟨b1, hz⟩ b
        rw [ls_drop b1] at h0
        simp only [dg, a2, b2, if_true] at h0
        exact h0
      · rw [List.drop_eq_nil_of_le (by omega)] at h0
        simp only [dg, a2, if_true] at h0
        exact h0
  · by_cases a1 : p < B.length
    · have a2 : lhx (B.getD p 0) = false := by
        cases hz : lhx (B.getD p 0) with
        | false => rfl
        | true => exact absurd ⟨a1, hz⟩ a
      rw [ls_drop a1] at h0
      simp only [dg, a2] at h0
      exact h0
    · rw [List.drop_eq_nil_of_le (by omega)] at h0
      exact h0
theorem ck_data {tot m : Nat} {bd : List Nat} (hm : bd.length + m ≤ 60) : ∀ j k p s, k + j = m → Bf s B → p ≤ B.length → Bd s (bd ++ sl B (p - k) p) → k ≤ p →
    (B.length < p - k + m → ∀ s', Sm s s' → Bd s' (bd ++ B.drop (p - k)) → Q (iI 0) s') →
    (p - k + m ≤ B.length → ∀ s', Sm s s' → Bd s' (bd ++ sl B (p - k) (p - k + m)) → vq_M_chunks_215 p0 Q k7 (iI ((p - k + m : Nat) : Int)) T N (iI m) s') → vq_M_chunks_165 p0 Q k7 (j + 1) (iI p) T N (iI m) (iI k) s := by
  intro j
  induction j with
  | zero =>
    intro k p s hk h hp hb hkp h0 h1
    have hl := h.len
    have hkm : k = m := by omega
    subst hkm
    show vb_M_chunks_165 _ _ _ _ _ _ _ _ _ _
    unfold vb_M_chunks_165
    rw [if_pos (by rw [iI_le (by omega) (by omega) (by omega) (by omega)]; omega)]
    have := h1 (by omega) s (Sm.rf s) (by rw [show p - k + k = p by omega]; exact hb)
    rw [show p - k + k = p by omega] at this
    exact this
  | succ j ih =>
    intro k p s hk h hp hb hkp h0 h1
    have hl := h.len
    show vb_M_chunks_165 _ _ _ _ _ _ _ _ _ _
    unfold vb_M_chunks_165
    rw [if_neg (by rw [iI_le (by omega) (by omega) (by omega) (by omega)]; omega)]
    refine wL.i ?_
    rw [h.size]
    by_cases q : p < B.length
    · rw [if_pos (by rw [iI_lt (by omega) (by omega) (by omega) (by omega)]; omega)]
      refine sm_take h hb q (by rw [List.length_append, sl_len (by omega) hp]; omega) ?_
      rw [show iI (k : Int) + 1 = iI ((k + 1 : Nat) : Int) from iI_add _ 1, show iI (p : Int) + 1 = iI ((p + 1 : Nat) : Int) from iI_add _ 1]
      have hb2 := hb.add (b := B.getD p 0)
      have hsm := Sm.bd s (bd ++ sl B (p - k) p) (B.getD p 0)
      rw [List.append_assoc, ← sl_snoc (by omega) q] at hb2
      refine ih (k + 1) (p + 1) _ (by omega) h.bd (by omega) (by rw [show p + 1 - (k + 1) = p - k by omega]; exact hb2) (by omega) (fun z s' a b => ?_) (fun z s' a b => ?_)
      · rw [show p + 1 - (k + 1) = p - k by omega] at z b
        exact h0 z s' (hsm.tr a) b
      · rw [show p + 1 - (k + 1) = p - k by omega] at z b ⊢
        exact h1 z s' (hsm.tr a) b
    · rw [if_neg (by rw [iI_lt (by omega) (by omega) (by omega) (by omega)]; omega)]
      have hpe : p = B.length := by omega
      refine h0 (by omega) s (Sm.rf s) ?_
      have e : sl B (p - k) p = B.drop (p - k) := by
        unfold sl
        rw [List.take_of_length_le (by rw [List.length_drop]; omega)]
      rw [← e]
      exact hb
theorem dg_r (X : List Nat) : (dg X).1 ≤ X.length ∧ (dg X).2 < 256 ∧ (dg X).1 ≤ 2 := by
  match X with
  | [] => simp [dg]
  | [a] =>
    cases ha : lhx a with
    | false => simp [dg, ha]
    | true =>
      have := (lhx_i.1 ha).2.2
      simp [dg, ha]
      omega
  | a :: b :: Y =>
    cases ha : lhx a with
    | false => simp [dg, ha]
    | true =>
      have h1 := (lhx_i.1 ha).2.2
      cases hb : lhx b with
      | false =>
        simp [dg, ha, hb]
        omega
      | true =>
        have h2 := (lhx_i.1 hb).2.2
        simp [dg, ha, hb]
        omega
end CK
