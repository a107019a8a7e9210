/-! Parameters, headers, parts -/
abbrev Rq : Type := List Nat × List Nat × List (List Nat × List Nat) × List (List Nat × List Nat) × List Nat
def pf : List (List Nat × List Nat) → List Nat → Option (List Nat)
  | [], _ => none
  | x :: L, N => if x.1 = N then some x.2 else pf L N
def prm : Nat → List Nat → List (List Nat × List Nat)
  | 0, _ => []
  | n + 1, Z => if Z = [] then [] else (dec 0 ((Z.take (fi 38 Z)).take (fi 61 (Z.take (fi 38 Z)))), dec 0 ((Z.take (fi 38 Z)).drop (fi 61 (Z.take (fi 38 Z)) + 1))) :: prm n (Z.drop (fi 38 Z + 1))
def rlM (X : List Nat) : List Nat := X.take (fi 32 X)
def rlG (X : List Nat) : List Nat := (X.drop (fi 32 X + 1)).take (fi 32 (X.drop (fi 32 X + 1)))
def rlP (X : List Nat) : List Nat := dec 0 ((rlG X).take (fi 63 (rlG X)))
def rlQ (X : List Nat) : List (List Nat × List Nat) := prm ((rlG X).length + 1 - fi 63 (rlG X)) ((rlG X).drop (fi 63 (rlG X) + 1))
def rqH (B : List Nat) (hs : List (Nat × Nat)) : List (List Nat × List Nat) := hs.map (fun x => (hnm (sl B x.1 x.2), hvl (sl B x.1 x.2)))
def rqL (B : List Nat) : List Nat := sl B 0 ((lef1 B).toNat - 2)
def rqOf (B : List Nat) (hs : List (Nat × Nat)) (bd : List Nat) : Rq := (rlM (rqL B), rlP (rqL B), rlQ (rqL B), rqH B hs, bd)
def rqf (r : Rq) (pt : Nat) (N : List Nat) : Option (List Nat) := if pt = 2 then pf r.2.2.1 N else if pt = 3 then pf r.2.2.2.1 (low N) else if pt = 0 then some r.1 else if pt = 1 then some r.2.1 else some r.2.2.2.2
theorem sl_all (B : List Nat) : sl B 0 B.length = B := by simp [sl]
theorem rl_facts {B : List Nat} {e : Nat} (he : e + 2 ≤ B.length) (hg : rlB (sl B 0 e) = true) : ∃ m u : Nat, 1 ≤ m ∧ m ≤ 7 ∧ fi 32 B = m ∧ fi 32 (sl B (m + 1) B.length) = u ∧ m + 1 + u + 3 = e ∧ rlT (sl B (m + 1) (m + 1 + u)) = true ∧ rlM (sl B 0 e) = sl B 0 m ∧ rlG (sl B 0 e) = sl B (m + 1) (m + 1 + u) ∧ capAll (sl B 0 m) = true := by
  unfold rlB at hg
  simp only [Bool.and_eq_true, decide_eq_true_eq] at hg
  obtain ⟨⟨⟨⟨⟨⟨⟨h1, h2, h3⟩, h4⟩, h5⟩, h6⟩, h7⟩, h8⟩, h9⟩ := hg
  rw [sl_len (by omega) (by omega)] at h3 h6
  have hm := fi_sl (c := 32) (f := 0) (t := e) (u := B.length) (by omega) (by omega) (Nat.le_refl _) (by omega)
  rw [sl_all] at hm
  have em : (sl B 0 e).drop (fi 32 (sl B 0 e) + 1) = sl B (fi 32 (sl B 0 e) + 1) e := by rw [sl_drop, Nat.zero_add]
  have et : (sl B 0 e).take (fi 32 (sl B 0 e)) = sl B 0 (fi 32 (sl B 0 e)) := by rw [sl_take (by omega), Nat.zero_add]
  rw [em] at h6 h9
  rw [et] at h4
  have hu := fi_sl (c := 32) (B := B) (f := fi 32 (sl B 0 e) + 1) (t := e) (u := B.length) (by omega) (by omega) (Nat.le_refl _) (by omega)
  have eg : (sl B (fi 32 (sl B 0 e) + 1) e).take (fi 32 (sl B (fi 32 (sl B 0 e) + 1) e)) = sl B (fi 32 (sl B 0 e) + 1) (fi 32 (sl B 0 e) + 1 + fi 32 (sl B (fi 32 (sl B 0 e) + 1) e)) := sl_take (by omega)
  rw [eg] at h9
  refine ⟨fi 32 (sl B 0 e), fi 32 (sl B (fi 32 (sl B 0 e) + 1) e), h1, h2, hm, hu, by omega, h9, ?_, ?_, h4⟩
  · unfold rlM
    exact et
  · unfold rlG
    rw [em, eg]
theorem dec_len : ∀ (X : List Nat) (k : Nat), (dec k X).length ≤ X.length := by
  intro X
  induction X with
  | nil => intro k; rw [dec_nil]; simp
  | cons c Y ih =>
    intro k
    match k with
    | 0 =>
      unfold dec
      by_cases q : c = 37
      · rw [if_pos q, List.length_cons, List.length_cons]
        have := ih 2
        omega
      · rw [if_neg q, List.length_cons, List.length_cons]
        have := ih 0
        omega
    | k + 1 =>
      unfold dec
      rw [List.length_cons]
      have := ih k
      omega
theorem anyS_f (X : List Nat) : X.map (anyS false) = X := by
  have : anyS false = id := rfl
  rw [this, List.map_id]
theorem anyS_t (X : List Nat) : X.map (anyS true) = low X := rfl
section PA
variable {s0 : RS} {B N : List Nat} {Q : Int32 → RS → Prop}
theorem sl_parameter {t : Nat} (h : Bf s0 B) (hS : So s0 N) (hN : N.length ≤ 40) (ht : t ≤ B.length) (t42 : t ≤ 40) : ∀ (k p : Nat) (s : RS), t + 1 ≤ p + k → p ≤ t + 1 → (pgo k (sl B p t)).1 = true → Ch [40] [39] s0 s →
    (pf (prm k (sl B p t)) N = none → ∀ s', Ch [40] [39] s0 s' → Q (iI 0) s') → (∀ V, pf (prm k (sl B p t)) N = some V → V.length ≤ 40 → ∀ s', Ch [40] [39] s0 s' → Fo s' V → Q (iI 1) s') → vq_M_parameter_12 Q (k + 1) (iI t) (iI p) s := by
  have hl := h.len
  intro k
  induction k with
  | zero =>
    intro p s hk hp hg hC h0 h1
    show vb_M_parameter_12 _ _ _ _ _
    unfold vb_M_parameter_12
    rw [if_pos (by simp (disch := omega) only [iI_lit, iI_add, iI_sub, iI_mul, iI_neg, iI_lt, iI_le, iI_eq] <;> omega)]
    exact h0 rfl s hC
  | succ k ih =>
    intro p s hk hp hg hC h0 h1
    show vb_M_parameter_12 _ _ _ _ _
    unfold vb_M_parameter_12
    by_cases qp : t ≤ p
    · rw [if_pos (by simp (disch := omega) only [iI_lit, iI_add, iI_sub, iI_mul, iI_neg, iI_lt, iI_le, iI_eq] <;> omega)]
      rw [sl_nil qp] at h0
      exact h0 rfl s hC
    rw [if_neg (by simp (disch := omega) only [iI_lit, iI_add, iI_sub, iI_mul, iI_neg, iI_lt, iI_le, iI_eq] <;> omega)]
    have hB : Bf s B := hC.bf h (by decide) (by decide) (by decide)
    have hne : sl B p t ≠ [] := fun q => by
      have := sl_len (B := B) (f := p) (t := t) (by omega) ht
      rw [q] at this
      simp at this
      omega
    have hi := fi_le 38 (sl B p t)
    rw [sl_len (by omega) ht] at hi
    refine sm_seekL (c := 38) hB (by decide) (by omega) ht ?_
    unfold pgo at hg
    unfold prm at h0 h1
    rw [if_neg hne] at h0 h1 hg
    rw [sl_take (by omega), sl_drop] at h0 h1 hg
    have hse : ∀ {s : RS} {K : Int32 → RS → Prop}, Bf s B → K (iI ((p + fi 38 (sl B p t) : Nat) : Int)) s → vp_M_seek (38 : Int32) (iI p) (iI t) s K := fun hb hK => sm_seekL (c := 38) hb (by decide) (by omega) ht hK
    generalize hii : fi 38 (sl B p t) = i at *
    have hj := fi_le 61 (sl B p (p + i))
    rw [sl_len (by omega) (by omega)] at hj
    refine sm_seekL (c := 61) hB (by decide) (by omega) (by omega) ?_
    unfold pok at hg
    rw [sl_take (by omega), sl_drop, sl_len (by omega) (by omega)] at hg
    rw [sl_take (by omega), sl_drop] at h0 h1
    generalize hjj : fi 61 (sl B p (p + i)) = j at *
    simp only [Bool.and_eq_true, Bool.or_eq_true, decide_eq_true_eq] at hg
    obtain ⟨⟨⟨⟨g1, g2⟩, g3⟩, g4⟩, g5⟩ := hg
    have hd1 := dec_len (sl B p (p + j)) 0
    rw [sl_len (by omega) (by omega)] at hd1
    refine sm_decode hB (by omega) (by omega) (by omega) g2 (fun s2 c2 f2 => ?_)
    have hB2 : Bf s2 B := c2.bf hB (by decide) (by decide) (by decide)
    refine sm_isSought (a := false) f2 ((hC.tr c2).so hS (by decide) (by decide)) (by omega) hN rfl ?_
    rw [anyS_f, anyS_f]
    unfold pf at h0 h1
    by_cases q : dec 0 (sl B p (p + j)) = N
    · rw [decide_eq_true q, if_neg (by decide)]
      dsimp only at h0 h1
      rw [if_pos q] at h0 h1
      unfold vq_M_parameter_51
      by_cases z : j = i
      · rw [if_pos (by simp (disch := omega) only [iI_lit, iI_add, iI_sub, iI_mul, iI_neg, iI_lt, iI_le, iI_eq] <;> omega)]
        subst z
        rw [sl_nil (by omega)] at h1
        unfold vq_M_parameter_66
        refine sm_decode hB2 (Nat.le_refl _) (by omega) (by omega) (by rw [sl_nil (Nat.le_refl _)]; rfl) (fun s3 c3 f3 => ?_)
        rw [sl_nil (Nat.le_refl _)] at f3
        exact h1 _ rfl (by rw [dec_nil]; simp) s3 ((hC.tr c2).tr c3) f3
      · rw [if_neg (by simp (disch := omega) only [iI_lit, iI_add, iI_sub, iI_mul, iI_neg, iI_lt, iI_le, iI_eq] <;> omega), show iI ((p + j : Nat) : Int) + 1 = iI ((p + (j + 1) : Nat) : Int) from iI_add _ 1]
        unfold vq_M_parameter_66
        refine sm_decode hB2 (by omega) (by omega) (by omega) ?_ (fun s3 c3 f3 => ?_)
        · rcases g3 with y | y
          · omega
          · exact y
        · have hd2 := dec_len (sl B (p + (j + 1)) (p + i)) 0
          rw [sl_len (by omega) (by omega)] at hd2
          exact h1 _ rfl (by omega) s3 ((hC.tr c2).tr c3) f3
    · rw [decide_eq_false q, if_pos (by decide)]
      dsimp only at h0 h1
      rw [if_neg q] at h0 h1
      refine hse hB2 (wL.i ?_)
      rw [show iI ((p + i : Nat) : Int) + 1 = iI ((p + (i + 1) : Nat) : Int) from iI_add _ 1]
      exact ih (p + (i + 1)) s2 (by omega) (by omega) g5 (hC.tr c2) h0 h1
theorem sm_parameter {e : Nat} (h : Bf s0 B) (hS : So s0 N) (hN : N.length ≤ 40) (he : e + 2 ≤ B.length) (he4 : e ≤ 40) (hg : rlB (sl B 0 e) = true)
    (h0 : pf (rlQ (sl B 0 e)) N = none → ∀ s', Ch [40] [39] s0 s' → Q (iI 0) s') (h1 : ∀ V, pf (rlQ (sl B 0 e)) N = some V → V.length ≤ 40 → ∀ s', Ch [40] [39] s0 s' → Fo s' V → Q (iI 1) s') : vp_M_parameter s0 Q := by
  obtain ⟨m, u, f1, f2, f3, f4, f5, f6, f7, f8, f9⟩ := rl_facts he hg
  unfold rlQ at h0 h1
  rw [f8] at h0 h1
  have hq := fi_le 63 (sl B (m + 1) (m + 1 + u))
  rw [sl_len (by omega) (by omega)] at hq
  rw [sl_len (by omega) (by omega), sl_drop] at h0 h1
  unfold rlT at f6
  rw [sl_len (by omega) (by omega), sl_drop] at f6
  simp only [Bool.and_eq_true, decide_eq_true_eq] at f6
  unfold vp_M_parameter
  refine sm_targetEnd h (by omega) ?_
  rw [f3, f4]
  refine sm_pathEnd h (by omega) ?_
  rw [f3, f4]
  refine wL.i ?_
  generalize fi 63 (sl B (m + 1) (m + 1 + u)) = q at *
  rw [show iI ((m + 1 + q : Nat) : Int) + 1 = iI ((m + 1 + (q + 1) : Nat) : Int) from iI_add _ 1]
  rw [show m + 1 + u - (m + 1) = u by omega] at h0 h1 f6 hq
  exact ⟨_, sl_parameter (t := m + 1 + u) h hS hN (by omega) (by omega) (u + 1 - q) (m + 1 + (q + 1)) s0 (by omega) (by omega) f6.1.2 (Ch.rf _) h0 h1⟩
theorem ls_dropP {hs : List (Nat × Nat)} {k : Nat} (hk : k < hs.length) : hs.drop k = hs.getD k (0, 0) :: hs.drop (k + 1) := by
  rw [List.drop_eq_getElem_cons hk]
  simp [List.getD_eq_getElem?_getD, hk]
theorem sl_headerOf {cl : Bool} {hs : List (Nat × Nat)} {bd : List Nat} (h : Jd s0 B cl hs bd) (hG : hsG B hs) (hS : So s0 N) (hN : N.length ≤ 40) : ∀ (j k : Nat) (s : RS), k + j = hs.length → Ch [40] [39] s0 s →
    (pf (rqH B (hs.drop k)) (low N) = none → ∀ s', Ch [40] [39] s0 s' → Q (iI 0) s') → (∀ V, pf (rqH B (hs.drop k)) (low N) = some V → V.length ≤ 40 → ∀ s', Ch [40] [39] s0 s' → Fo s' V → Q (iI 1) s') → vq_M_headerOf_2 Q (j + 1) (iI k) s := by
  have hl := h.1.len
  have h4 := hG.1
  intro j
  induction j with
  | zero =>
    intro k s hk hC h0 h1
    have hJ : Jd s B cl hs bd := hC.jd h (by decide) (by decide)
    show vb_M_headerOf_2 _ _ _ _
    unfold vb_M_headerOf_2
    refine wL.i ?_
    rw [hJ.2.1, if_pos (by simp (disch := omega) only [iI_lit, iI_add, iI_sub, iI_mul, iI_neg, iI_lt, iI_le, iI_eq] <;> omega)]
    rw [List.drop_of_length_le (by omega)] at h0
    exact h0 rfl s hC
  | succ j ih =>
    intro k s hk hC h0 h1
    have hJ : Jd s B cl hs bd := hC.jd h (by decide) (by decide)
    have hB := hJ.1
    have hr := hJ.2.2.2.1 k (by omega)
    have hm : hs.getD k (0, 0) ∈ hs := by
      have : k < hs.length := by omega
      simp [List.getD_eq_getElem?_getD, this]
    have hg := hG.2 _ hm
    rw [ls_dropP (show k < hs.length by omega)] at h0 h1
    unfold rqH at h0 h1
    rw [List.map_cons] at h0 h1
    unfold pf at h0 h1
    dsimp only at h0 h1
    generalize hx : hs.getD k (0, 0) = x at *
    obtain ⟨f, t⟩ := x
    dsimp only at hr hg h0 h1
    obtain ⟨g1, g2, g3, g4⟩ := hg
    unfold hOK at g4
    rw [Bool.and_eq_true, decide_eq_true_eq] at g4
    have g5 := g4.1
    rw [sl_len g1 (by omega)] at g5
    rw [low_hnm g1 (by omega)] at h0 h1
    show vb_M_headerOf_2 _ _ _ _
    unfold vb_M_headerOf_2
    refine wL.i ?_
    rw [hJ.2.1, if_neg (by simp (disch := omega) only [iI_lit, iI_add, iI_sub, iI_mul, iI_neg, iI_lt, iI_le, iI_eq] <;> omega)]
    have v30 : ∀ {s : RS} {K : Int32 → Prop}, s.2 30 k = iI f → K (iI f) → vA s 30 (iI k) K := fun a b => vA_i (by omega) (show (k : Int) < (5 : Nat) by omega) (by decide) (by rw [show (k : Int).toNat = k from rfl, a]; exact b)
    have v31 : ∀ {s : RS} {K : Int32 → Prop}, s.2 31 k = iI t → K (iI t) → vA s 31 (iI k) K := fun a b => vA_i (by omega) (show (k : Int) < (5 : Nat) by omega) (by decide) (by rw [show (k : Int).toNat = k from rfl, a]; exact b)
    refine v30 hr.1 (v30 hr.1 (v31 hr.2 ?_))
    refine sm_seekL (c := 58) hB (by decide) g1 (by omega) ?_
    refine sm_raw hB (by omega) (by omega) (by omega) (fun s2 c2 f2 => ?_)
    have hB2 : Bf s2 B := c2.bf hB (by decide) (by decide) (by decide)
    refine sm_isSought (a := true) f2 ((hC.tr c2).so hS (by decide) (by decide)) (by rw [sl_len (by omega) (by omega)]; omega) hN rfl ?_
    rw [anyS_t, anyS_t]
    by_cases q : low (sl B f (f + fi 58 (sl B f t))) = low N
    · rw [decide_eq_true q, if_neg (by decide)]
      rw [if_pos q] at h1
      unfold vq_M_headerOf_46
      have r30 : s2.2 30 k = iI f := by rw [c2.2 30 (by decide)]; exact hr.1
      have r31 : s2.2 31 k = iI t := by rw [c2.2 31 (by decide)]; exact hr.2
      refine v30 r30 (v31 r31 ?_)
      refine sm_valueAt hB2 g1 (by omega) (by omega) ?_
      refine v30 r30 (v31 r31 ?_)
      refine sm_valueEnd hB2 g1 (by omega) (by omega) ?_
      have hv := hvl_sl (B := B) (f := f) (t := t) g1 (by omega) (by omega)
      refine sm_raw hB2 (by omega) (by omega) (by omega) (fun s3 c3 f3 => ?_)
      rw [hv.2] at f3
      exact h1 _ rfl (by omega) s3 ((hC.tr c2).tr c3) f3
    · rw [decide_eq_false q, if_pos (by decide)]
      rw [if_neg q] at h0 h1
      rw [show iI (k : Int) + 1 = iI ((k + 1 : Nat) : Int) from iI_add _ 1]
      exact ih (k + 1) s2 (by omega) (hC.tr c2) h0 h1
theorem sl_body {cl : Bool} {hs : List (Nat × Nat)} {bd : List Nat} (h : Jd s0 B cl hs bd) (hb : bd.length ≤ 40) (hb2 : ∀ x ∈ bd, x < 256) (hQ : ∀ s', Ch [40] [39] s0 s' → Fo s' bd → Q (iI 1) s') : ∀ (j k : Nat) (s : RS), k + j = bd.length → Ch [40] [39] s0 s → (∀ i, i < k → s.2 39 i = iI (bd.getD i 0)) → vq_M_seekPart_59 (iI 4) Q (j + 1) (iI k) s := by
  intro j
  induction j with
  | zero =>
    intro k s hk hC hF
    have hJ : Jd s B cl hs bd := hC.jd h (by decide) (by decide)
    show vb_M_seekPart_59 _ _ _ _ _
    unfold vb_M_seekPart_59
    refine wL.i ?_
    rw [hJ.2.2.2.2.1, if_pos (by simp (disch := omega) only [iI_lit, iI_add, iI_sub, iI_mul, iI_neg, iI_lt, iI_le, iI_eq] <;> omega)]
    unfold vq_M_seekPart_90
    rw [if_pos (by decide)]
    refine wL.i ?_
    unfold vq_M_seekPart_107
    refine vP.i (hQ _ (hC.i (by decide)) ⟨?_, fun i hi => ⟨?_, hF i (by omega)⟩⟩)
    · rw [sI_at]
      exact hJ.2.2.2.2.1
    · refine hb2 _ ?_
      simp [List.getD_eq_getElem?_getD, hi]
  | succ j ih =>
    intro k s hk hC hF
    have hJ : Jd s B cl hs bd := hC.jd h (by decide) (by decide)
    show vb_M_seekPart_59 _ _ _ _ _
    unfold vb_M_seekPart_59
    refine wL.i ?_
    rw [hJ.2.2.2.2.1, if_neg (by simp (disch := omega) only [iI_lit, iI_add, iI_sub, iI_mul, iI_neg, iI_lt, iI_le, iI_eq] <;> omega), if_pos (by decide)]
    refine vA_i (by omega) (show (k : Int) < (64 : Nat) by omega) (by decide) ?_
    rw [show (k : Int).toNat = k from rfl, hJ.2.2.2.2.2 k (by omega)]
    refine vS_i (by omega) (show (k : Int) < (64 : Nat) by omega) (by decide) ?_
    rw [show (k : Int).toNat = k from rfl, show iI (k : Int) + 1 = iI ((k + 1 : Nat) : Int) from iI_add _ 1]
    refine ih (k + 1) _ (by omega) (hC.r (by decide)) (fun i hi => ?_)
    rw [sR_at]
    show upd (s.2 39) k _ i = _
    by_cases q : i = k
    · subst q
      rw [pk_us]
    · rw [pk_un q]
      exact hF i (by omega)
theorem sm_seekPart {cl : Bool} {hs : List (Nat × Nat)} {bd : List Nat} {pt : Nat} (h : Jd s0 B cl hs bd) (hG : Gd B hs bd) (hS : pt = 2 ∨ pt = 3 → So s0 N) (hN : N.length ≤ 40) (hpt : pt ≤ 4)
    (h0 : rqf (rqOf B hs bd) pt N = none → ∀ s', Ch [40] [39] s0 s' → Q (iI 0) s') (h1 : ∀ V, rqf (rqOf B hs bd) pt N = some V → V.length ≤ 40 → ∀ s', Ch [40] [39] s0 s' → Fo s' V → Q (iI 1) s') : vp_M_seekPart (iI pt) s0 Q := by
  obtain ⟨⟨E, e1, e2, e3, e4, e5⟩, g2, g3, g4⟩ := hG
  have hB := h.1
  have hl := hB.len
  unfold rqf rqOf rqL at h0 h1
  rw [e4, show ((E : Int).toNat) = E from rfl] at h0 h1
  dsimp only at h0 h1
  have wb : ∀ {b : Bool} {s : RS}, Q (iI (bI b)) s → wB (iI (bI b)) (Q (iI (bI b)) s) := fun {b} {s} hq => ⟨bI_b b, hq⟩
  unfold vp_M_seekPart
  by_cases q2 : pt = 2
  · subst q2
    rw [if_pos (by decide)]
    rw [if_pos rfl] at h0 h1
    exact sm_parameter hB (hS (Or.inl rfl)) hN (e := E - 2) (by omega) (by omega) e5 (fun a s' b => ⟨Or.inl rfl, h0 a s' b⟩) (fun V a b s' c d => ⟨Or.inr rfl, h1 V a b s' c d⟩)
  rw [if_neg (by simp (disch := omega) only [iI_lit, iI_add, iI_sub, iI_mul, iI_neg, iI_lt, iI_le, iI_eq] <;> omega)]
  rw [if_neg q2] at h0 h1
  by_cases q3 : pt = 3
  · subst q3
    rw [if_pos (by decide)]
    rw [if_pos rfl] at h0 h1
    exact ⟨_, sl_headerOf h g2 (hS (Or.inr rfl)) hN hs.length 0 s0 (by omega) (Ch.rf _) (fun a s' b => ⟨Or.inl rfl, h0 a s' b⟩) (fun V a b s' c d => ⟨Or.inr rfl, h1 V a b s' c d⟩)⟩
  rw [if_neg (by simp (disch := omega) only [iI_lit, iI_add, iI_sub, iI_mul, iI_neg, iI_lt, iI_le, iI_eq] <;> omega)]
  rw [if_neg q3] at h0 h1
  obtain ⟨m, u, f1, f2, f3, f4, f5, f6, f7, f8, f9⟩ := rl_facts (B := B) (e := E - 2) (by omega) e5
  have fin : ∀ (s' : RS) (V : List Nat), pt ≠ 4 → Ch [40] [39] s0 s' → Fo s' V → (∀ s', Ch [40] [39] s0 s' → Fo s' V → Q (iI 1) s') → vq_M_seekPart_57 (iI pt) Q s' := fun s' V hp hC hF hq => by
    refine ⟨1, ?_⟩
    show vb_M_seekPart_59 _ _ _ _ _
    unfold vb_M_seekPart_59
    refine wL.i ?_
    have hf : vq_M_seekPart_90 (iI pt) Q s' := by
      unfold vq_M_seekPart_90
      rw [if_neg (by simp (disch := omega) only [iI_lit, iI_add, iI_sub, iI_mul, iI_neg, iI_lt, iI_le, iI_eq] <;> omega)]
      refine wL.i (vP.i (hq _ (hC.i (by decide)) ⟨?_, hF.2⟩))
      rw [sI_at]
      exact hF.1
    by_cases w : s'.1 32 ≤ 0
    · rw [if_pos w]
      exact hf
    · rw [if_neg w, if_neg (by simp (disch := omega) only [iI_lit, iI_add, iI_sub, iI_mul, iI_neg, iI_lt, iI_le, iI_eq] <;> omega)]
      exact hf
  by_cases q0 : pt = 0
  · subst q0
    rw [if_pos (by decide)]
    rw [if_pos rfl] at h0 h1
    refine wL.i ?_
    rw [hB.size]
    refine sm_seekL (c := 32) (f := 0) hB (by decide) (by omega) (Nat.le_refl _) ?_
    rw [sl_all, f3, Nat.zero_add]
    refine sm_raw (f := 0) hB (by omega) (by omega) (by omega) (fun s2 c2 d2 => ?_)
    unfold vq_M_seekPart_40
    rw [if_neg (by simp (disch := omega) only [iI_lit, iI_add, iI_sub, iI_mul, iI_neg, iI_lt, iI_le, iI_eq] <;> omega)]
    rw [f7] at h1
    exact fin s2 _ (by omega) c2 d2 (fun s' a b => h1 _ rfl (by rw [sl_len (by omega) (by omega)]; omega) s' a b)
  rw [if_neg (by simp (disch := omega) only [iI_lit, iI_add, iI_sub, iI_mul, iI_neg, iI_lt, iI_le, iI_eq] <;> omega)]
  rw [if_neg q0] at h0 h1
  unfold vq_M_seekPart_40
  by_cases q1 : pt = 1
  · subst q1
    rw [if_pos (by decide)]
    rw [if_pos rfl] at h0 h1
    refine sm_pathAt hB ?_
    refine sm_pathEnd hB (by omega) ?_
    rw [f3, f4]
    unfold rlP at h1
    rw [f8] at h1
    have hq := fi_le 63 (sl B (m + 1) (m + 1 + u))
    rw [sl_len (by omega) (by omega)] at hq
    rw [sl_take (by omega)] at h1
    unfold rlT at f6
    simp only [Bool.and_eq_true, decide_eq_true_eq] at f6
    have f6 := f6.1.1.1
    rw [sl_take (by omega)] at f6
    refine sm_decode hB (by omega) (by omega) (by omega) f6 (fun s2 c2 d2 => ?_)
    have hd := dec_len (sl B (m + 1) (m + 1 + fi 63 (sl B (m + 1) (m + 1 + u)))) 0
    rw [sl_len (by omega) (by omega)] at hd
    exact fin s2 _ (by omega) c2 d2 (fun s' a b => h1 _ rfl (by omega) s' a b)
  rw [if_neg (by simp (disch := omega) only [iI_lit, iI_add, iI_sub, iI_mul, iI_neg, iI_lt, iI_le, iI_eq] <;> omega)]
  rw [if_neg q1] at h0 h1
  have q4 : pt = 4 := by omega
  subst q4
  refine ⟨bd.length + 1, sl_body h g3 (fun x hx => ?_) (fun s' a b => h1 _ rfl g3 s' a b) bd.length 0 s0 (by omega) (Ch.rf _) (fun i hi => absurd hi (by omega))⟩
  obtain ⟨i, hi, hx2⟩ := List.mem_iff_getElem.mp (g4 x hx)
  have := (hB.at hi).2
  rw [← hx2]
  simpa [List.getD_eq_getElem?_getD, hi] using this
end PA
