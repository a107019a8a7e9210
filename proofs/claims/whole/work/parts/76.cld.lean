/-! The class reads parameters -/
theorem ls_take_nil {g : List Nat} {j : Nat} (hj : j ≤ g.length) : g.take j = [] ↔ j = 0 := by
  refine ⟨fun h => ?_, fun h => by rw [h]; rfl⟩
  have := congrArg List.length h
  rw [List.length_take] at this
  have h2 : min j g.length = 0 := this
  omega
theorem ls_bt {T : List Nat} {f t : Nat} (h : ∀ x ∈ T, x < 256) : ∀ x ∈ sl T f t, x < 256 := fun x hx => h x (sl_mem hx)
theorem bt_ls {T : List Nat} (h : ∀ x ∈ T, x < 256) : ∀ j, j < T.length → T.getD j 0 < 256 := fun j hj => h _ (by simp [List.getD_eq_getElem?_getD, hj])
theorem fi_at {c : Nat} : ∀ (X : List Nat) (i : Nat), i ≤ fi c X → i < X.length → (fi c X = i ↔ X.getD i 0 = c)
  | [], i, _, h => absurd h (by simp)
  | b :: X, i, h1, h2 => by
    rw [fi_cons] at h1 ⊢
    by_cases q : b = c
    · rw [if_pos q] at h1 ⊢
      have : i = 0 := by omega
      subst this
      exact ⟨fun _ => q, fun _ => rfl⟩
    · rw [if_neg q] at h1 ⊢
      match i with
      | 0 => exact ⟨fun h => by omega, fun h => absurd h q⟩
      | i + 1 =>
        rw [List.length_cons] at h2
        have := fi_at (c := c) X i (by omega) (by omega)
        show _ ↔ X.getD i 0 = c
        rw [← this]
        omega
section RP
variable {A0 : ab_H} {q dc pl p : Nat} {Z : List Nat}
/-- the cells that reading parameters uses -/
def Rpa (A0 A : ab_H) (q dc pl p : Nat) (Z : List Nat) (L : List (List Nat × List Nat)) : Prop := A p = some (oS Z) ∧ A 1 = some (oS []) ∧ A q = some (oR (.inr (6, [va_rf (some dc)]))) ∧ (∃ X cap, A dc = some (oB X cap) ∧ cap ≤ 200) ∧ (∃ ys cp, A pl = some (oL ys cp) ∧ PtsAt A ys L) ∧ Fw A0 A [dc, pl]
theorem Rpa.ex {A B : ab_H} {L : List (List Nat × List Nat)} (h : Rpa A0 A q dc pl p Z L) (hF : Fw A B []) : Rpa A0 B q dc pl p Z L := by
  obtain ⟨h1, h2, h3, ⟨X, cap, h4, h5⟩, ⟨ys, cp, h6, h7⟩, h8⟩ := h
  exact ⟨hF.e h1, hF.e h2, hF.e h3, ⟨X, cap, hF.e h4, h5⟩, ⟨ys, cp, hF.e h6, h7.fw hF (Mu.nil A)⟩, h8.tr hF (by simp)⟩
theorem Rpa.dec {A : ab_H} {L : List (List Nat × List Nat)} {s kc ks : Nat} {T : List Nat} {Q : Option Nat → ab_H → Prop} (h : Rpa A0 A q dc pl p Z L) (hs : A s = some (oS T)) (hT : ∀ x ∈ T, x < 256) (hl : T.length ≤ 40) (hg : gc T = true) (h1 : 43 ≤ kc) (h2 : 444 ≤ ks) (hQ : ∀ t B, B t = some (oS (dec 0 T)) → Rpa A0 B q dc pl p Z L → Fw A B [dc] → Mu A [dc] → Q (some t) B) : wp_Q_decode q (some s) A kc ks Q := by
  obtain ⟨a1, a2, a3, ⟨X, cap, a4, a5⟩, ⟨ys, cp, a6, a7⟩, a8⟩ := h
  refine c_decode hs (bt_ls hT) hl hg a3 a4 a5 (by omega) (by omega) (fun t B cap' b0 b1 b2 b3 b4 => ?_)
  have hM : Mu A [dc] := Mu.c a4 rfl (Mu.nil A)
  exact hQ t B b1 ⟨b2.im a1 rfl hM, b2.im a2 rfl hM, b2.im a3 rfl hM, ⟨_, cap', b3, b4⟩, ⟨ys, cp, b2.k a6 a4 (fun e => by cases e), a7.fw b2 hM⟩, a8.tr b2 (fun x hx => Or.inl (by simp at hx ⊢; exact Or.inl hx))⟩ b2 hM
theorem PtAt.nb {A B : ab_H} {y b : Nat} {x : List Nat × List Nat} (h : PtAt A y x) (hb : A b = some (oR (.inr (8, [.null, .null])))) (hF : Fw A B [b]) : PtAt B y x := by
  obtain ⟨sn, sv, h1, h2, h3⟩ := h
  exact ⟨sn, sv, hF.k h1 hb (fun e => by cases e), hF.k h2 hb (fun e => by cases e), hF.k h3 hb (fun e => by cases e)⟩
theorem Rpa.fresh {A : ab_H} {L : List (List Nat × List Nat)} {b : Nat} (h : Rpa A0 A q dc pl p Z L) (hb : A b = none) : A0 b = none := by
  obtain ⟨h1, h2, h3, ⟨X, cap, h4, h5⟩, ⟨ys, cp, h6, h7⟩, h8⟩ := h
  cases hz : A0 b with
  | none => rfl
  | some o =>
    exfalso
    by_cases w : b ∈ [dc, pl]
    · simp only [List.mem_cons, List.not_mem_nil, or_false] at w
      rcases w with w | w
      · rw [w, h4] at hb
        cases hb
      · rw [w, h6] at hb
        cases hb
    · rw [h8 b o hz w] at hb
      cases hb
theorem Rpa.nb {A B : ab_H} {L : List (List Nat × List Nat)} {b : Nat} (h : Rpa A0 A q dc pl p Z L) (hb : A b = some (oR (.inr (8, [.null, .null])))) (hF : Fw A B [b]) (h0 : A0 b = none) : Rpa A0 B q dc pl p Z L := by
  obtain ⟨h1, h2, h3, ⟨X, cap, h4, h5⟩, ⟨ys, cp, h6, h7⟩, h8⟩ := h
  exact ⟨hF.k h1 hb (fun e => by cases e), hF.k h2 hb (fun e => by cases e), hF.k h3 hb (fun e => by cases e), ⟨X, cap, hF.k h4 hb (fun e => by cases e), h5⟩, ⟨ys, cp, hF.k h6 hb (fun e => by cases e), h7.1, fun j y x a1 a2 => (h7.2 j y x a1 a2).nb hb hF⟩, h8.tr hF (fun x hx => Or.inr (by simp at hx; rw [hx]; exact h0))⟩
theorem Rpa.add {A : ab_H} {L : List (List Nat × List Nat)} {b kc ks : Nat} {x : List Nat × List Nat} {K : Int32 → ab_H → Nat → Nat → Prop} (h : Rpa A0 A q dc pl p Z L) (hb : PtAt A b x) (hL : L.length < 10) (h1 : 1 ≤ kc) (h2 : 10 ≤ ks) (hK : ∀ B ks', Rpa A0 B q dc pl p Z (L ++ [x]) → ks - 10 ≤ ks' → K 1 B (kc - 1) ks') : wj_AL_add_O A kc ks (some pl) (some b) K := by
  obtain ⟨a1, a2, a3, ⟨X, cap, a4, a5⟩, ⟨ys, cp, a6, a7⟩, a8⟩ := h
  have hbb := hb
  obtain ⟨sn, sv, c1, c2, c3⟩ := hb
  have hM : Mu A [pl] := Mu.c a6 rfl (Mu.nil A)
  refine al_add a6 c1 (Or.inr (Or.inl rfl)) (by rw [a7.1]; exact hL) h1 h2 (fun B ks' d1 d2 d3 => hK B ks' ?_ d3)
  exact ⟨d2.im a1 rfl hM, d2.im a2 rfl hM, d2.im a3 rfl hM, ⟨X, cap, d2.k a4 a6 (fun e => by cases e), a5⟩, ⟨ys ++ [b], 10, d1, (a7.fw d2 hM).snoc (hbb.fw d2 hM)⟩, a8.tr d2 (fun x hx => Or.inl (by simp at hx ⊢; exact Or.inr hx))⟩
set_option maxRecDepth 8000 in
theorem c_piece {A : ab_H} {L : List (List Nat × List Nat)} {f k kc ks : Nat} {Q : Int32 → ab_H → Prop} {K5 : Int32 → Int32 → ab_H → Nat → Nat → Prop} (h : Rpa A0 A q dc pl p Z L) (hZ : ∀ x ∈ Z, x < 256) (hl : Z.length ≤ 40) (hfk : f ≤ k) (hk : k ≤ Z.length) (hg : gc (sl Z f k) = true) (hL4 : L.length ≤ 4) (h1 : 94 ≤ kc) (h2 : 1032 ≤ ks)
    (hQ0 : fi 61 (sl Z f k) = 0 ∨ 4 ≤ L.length → ∀ B L', Rpa A0 B q dc pl p Z L' → Q 0 B) (hQ1 : ¬ (fi 61 (sl Z f k) = 0 ∨ 4 ≤ L.length) → ∀ B kc' ks', Rpa A0 B q dc pl p Z (L ++ [(dec 0 ((sl Z f k).take (fi 61 (sl Z f k))), dec 0 ((sl Z f k).drop (fi 61 (sl Z f k) + 1)))]) → kc - 94 ≤ kc' → ks - 1032 ≤ ks' → K5 (iI ((k + 1 : Nat) : Int)) (iI ((k + 1 : Nat) : Int)) B kc' ks') : wq_Q_readParameters_37 q (some p) (some pl) Q K5 (iI f) (iI k) A kc ks := by
  unfold wq_Q_readParameters_37
  have hgl := sl_len hfk hk
  have hG := ls_bt (f := f) (t := k) hZ
  refine st_sub2 h.1 rfl rfl hfk hk (by omega) (by omega) (fun s9 A1 g1 f1 => ?_)
  have r1 := h.ex f1
  refine st_ix g1 (j := 61) rfl (by decide) ?_
  generalize hgg : sl Z f k = g at *
  have hfi := fi_le 61 g
  have hg6 := hg
  rw [gc_eq61, Bool.and_eq_true] at hg6
  have hnl : (g.take (fi 61 g)).length ≤ 40 := by
    rw [List.length_take]
    omega
  have hvl : (g.drop (fi 61 g + 1)).length ≤ 40 := by
    rw [List.length_drop]
    omega
  have n94 : ∀ (sn sv : Nat) (A : ab_H) (kc' ks' : Nat), Rpa A0 A q dc pl p Z L → A sn = some (oS (g.take (fi 61 g))) → A sv = some (oS (g.drop (fi 61 g + 1))) → kc - 6 ≤ kc' → ks - 132 ≤ ks' → wq_Q_readParameters_94 q (some p) (some pl) Q K5 (iI k) (some sn) (some sv) A kc' ks' := fun sn sv A kc' ks' r hn hv k1 k2 => by
    unfold wq_Q_readParameters_94
    refine st_emp hn ?_
    by_cases q1 : fi 61 g = 0
    · rw [decide_eq_true ((ls_take_nil hfi).mpr q1), if_neg (by decide)]
      exact hQ0 (Or.inl q1) A L r
    rw [decide_eq_false (fun z => q1 ((ls_take_nil hfi).mp z)), if_pos (by decide)]
    obtain ⟨ys, cp, y1, y2⟩ := r.2.2.2.2.1
    refine al_size y1 ?_
    have hyl := y2.1
    by_cases q2 : 4 ≤ L.length
    · rw [if_neg (by simp (disch := omega) only [iI_lit, iI_add, iI_sub, iI_mul, iI_neg, iI_lt, iI_le, iI_eq] <;> omega)]
      exact hQ0 (Or.inr q2) A L r
    rw [if_pos (by simp (disch := omega) only [iI_lit, iI_add, iI_sub, iI_mul, iI_neg, iI_lt, iI_le, iI_eq] <;> omega)]
    refine wnw (by omega) (by omega) (fun b3 B1 b1 b2 b3' b4 => ?_)
    have r2 := r.ex b4
    refine wC.i r2.2.2.1 (wX.i 43 444 (by omega) (by omega) ?_)
    refine r2.dec (b4.e hn) (fun x hx => hG x (List.mem_of_mem_take hx)) hnl hg6.1 (Nat.le_refl _) (Nat.le_refl _) (fun t4 B2 c1 c2 c3 c4 => ?_)
    refine wC.i c2.2.2.1 (wX.i 43 444 (by omega) (by omega) ?_)
    have hgv : gc (g.drop (fi 61 g + 1)) = true := by
      rcases Bool.or_eq_true _ _ ▸ hg6.2 with z | z
      · rw [List.drop_of_length_le (by have := of_decide_eq_true z; omega)]
        rfl
      · exact z
    refine c2.dec (c3.im (b4.e hv) rfl c4) (fun x hx => hG x (List.mem_of_mem_drop hx)) hvl hgv (Nat.le_refl _) (Nat.le_refl _) (fun t5 B3 d1 d2 d3 d4 => ?_)
    refine wD.i ?_
    have e3 : B3 b3 = some (oR (.inr (8, [.null, .null]))) := d3.im (c3.im b3' rfl c4) rfl d4
    refine c_Pinit (sn := t4) (sv := t5) e3 (fun B4 e4 e5 => ?_)
    have f3 := r.fresh b2
    have r4 := d2.nb e3 e5 f3
    have p4 : PtAt B4 b3 (dec 0 (g.take (fi 61 g)), dec 0 (g.drop (fi 61 g + 1))) := ⟨t4, t5, e4, e5.k (d3.im c1 rfl d4) e3 (fun e => by cases e), e5.k d1 e3 (fun e => by cases e)⟩
    refine r4.add p4 (by omega) (by omega) (by omega) (fun B5 ks5 r5 k5 => wL.i ?_)
    rw [show iI (k : Int) + 1 = iI ((k + 1 : Nat) : Int) from iI_add _ 1]
    exact hQ1 (fun z => by rcases z with z | z; exact q1 z; exact q2 z) B5 _ _ r5 (by omega) (by omega)
  by_cases qf : fi 61 g < g.length
  · rw [if_pos qf, if_pos (by simp (disch := omega) only [iI_lit, iI_add, iI_sub, iI_mul, iI_neg, iI_lt, iI_le, iI_eq] <;> omega)]
    refine st_sub2 g1 rfl rfl (Nat.zero_le _) (Nat.le_of_lt qf) (by omega) (by omega) (fun s11 A2 g2 f2 => ?_)
    have r2 := r1.ex f2
    unfold wq_Q_readParameters_73
    rw [if_pos (by simp (disch := omega) only [iI_lit, iI_add, iI_sub, iI_mul, iI_neg, iI_lt, iI_le, iI_eq] <;> omega)]
    refine st_sub1 (i := fi 61 g + 1) (f2.e g1) (iI_add _ 1) (by omega) (by omega) (by omega) (fun s8 A3 g3 f3 => ?_)
    have g2' : A3 s11 = some (oS (g.take (fi 61 g))) := f3.e g2
    exact n94 s11 s8 A3 _ _ (r2.ex f3) g2' g3 (by omega) (by omega)
  · rw [if_neg qf, if_neg (by decide)]
    have hfa := fi_all qf
    unfold wq_Q_readParameters_73
    rw [if_neg (by decide)]
    refine n94 s9 1 A1 _ _ r1 ?_ ?_ (by omega) (by omega)
    · rw [hfa, List.take_length]
      exact g1
    · rw [List.drop_of_length_le (by omega)]
      exact r1.2.1
set_option maxRecDepth 8000 in
theorem cl_params {Q : Int32 → ab_H → Prop} (hZ : ∀ x ∈ Z, x < 256) (hl : Z.length ≤ 40) (L0 : List (List Nat × List Nat)) (hQ0 : cps (Z.length + 1) Z L0.length = false → ∀ B L', Rpa A0 B q dc pl p Z L' → Q 0 B) (hQ1 : cps (Z.length + 1) Z L0.length = true → ∀ B, Rpa A0 B q dc pl p Z (L0 ++ cpl (Z.length + 1) Z) → Q 1 B) : ∀ (j k f n : Nat) (L : List (List Nat × List Nat)) (A : ab_H) (kc ks : Nat), k + j = Z.length + 1 → Z.length + 1 ≤ f + n → f ≤ k → L.length ≤ 4 → (f ≤ Z.length → k ≤ f + fi 38 (Z.drop f) ∧ cps n (Z.drop f) L.length = cps (Z.length + 1) Z L0.length ∧ L ++ cpl n (Z.drop f) = L0 ++ cpl (Z.length + 1) Z ∧ gc (Z.drop f) = true) → (Z.length < f → cps (Z.length + 1) Z L0.length = true ∧ L = L0 ++ cpl (Z.length + 1) Z) → Rpa A0 A q dc pl p Z L → (5 - L.length) * 94 ≤ kc → (5 - L.length) * 1032 ≤ ks → wq_Q_readParameters_5 q (some p) (some pl) Q (j + 1) (iI f) (iI k) A kc ks := by
  intro j
  induction j with
  | zero =>
    intro k f n L A kc ks hk hn hf hL h1 h2 hR c1 c2
    show wb_Q_readParameters_5 _ _ _ _ _ _ _ _ _ _
    unfold wb_Q_readParameters_5
    refine st_len hR.1 ?_
    rw [if_pos (by simp (disch := omega) only [iI_lit, iI_add, iI_sub, iI_mul, iI_neg, iI_lt, iI_le, iI_eq] <;> omega)]
    have hfl : Z.length < f := by
      rcases Nat.lt_or_ge Z.length f with z | z
      · exact z
      · have h3 := (h1 z).1
        have h4 := fi_le 38 (Z.drop f)
        rw [List.length_drop] at h4
        omega
    obtain ⟨e1, e2⟩ := h2 hfl
    exact hQ1 e1 A (e2 ▸ hR)
  | succ j ih =>
    intro k f n L A kc ks hk hn hf hL h1 h2 hR c1 c2
    show wb_Q_readParameters_5 _ _ _ _ _ _ _ _ _ _
    unfold wb_Q_readParameters_5
    refine st_len hR.1 ?_
    rw [if_neg (by simp (disch := omega) only [iI_lit, iI_add, iI_sub, iI_mul, iI_neg, iI_lt, iI_le, iI_eq] <;> omega)]
    refine st_len hR.1 ?_
    obtain ⟨e1, e2, e3, e4⟩ := h1 (by omega)
    have hfl := fi_le 38 (Z.drop f)
    rw [List.length_drop] at hfl
    have piece : k = f + fi 38 (Z.drop f) → wq_Q_readParameters_37 q (some p) (some pl) Q (wq_Q_readParameters_5 q (some p) (some pl) Q (j + 1)) (iI f) (iI k) A kc ks := fun hke => by
      obtain ⟨m, rfl⟩ : ∃ m, n = m + 1 := ⟨n - 1, by omega⟩
      have hsl : sl Z f k = (Z.drop f).take (fi 38 (Z.drop f)) := by
        unfold sl
        congr 1
        omega
      unfold cps at e2
      unfold cpl at e3
      rw [← hsl] at e2 e3
      have hgp : gc (sl Z f k) = true := by
        rw [hsl]
        by_cases y : fi 38 (Z.drop f) < (Z.drop f).length
        · rw [fi_split y, gc_app (by decide) (by decide), Bool.and_eq_true] at e4
          exact e4.1
        · rw [fi_all y, List.take_length]
          exact e4
      refine c_piece hR hZ hl hf (by omega) hgp hL ?_ ?_ (fun z B L' hB => ?_) (fun z B kc' ks' hB k1 k2 => ?_)
      · have : 1 ≤ 5 - L.length := by omega
        exact Nat.le_trans (by omega) c1
      · have : 1 ≤ 5 - L.length := by omega
        exact Nat.le_trans (by omega) c2
      · rw [if_pos z] at e2
        exact hQ0 e2.symm B L' hB
      · rw [if_neg z] at e2
        have hl5 : (L ++ [(dec 0 ((sl Z f k).take (fi 61 (sl Z f k))), dec 0 ((sl Z f k).drop (fi 61 (sl Z f k) + 1)))]).length = L.length + 1 := by simp
        refine ih (k + 1) (k + 1) m _ B kc' ks' (by omega) (by omega) (Nat.le_refl _) (by rw [hl5]; omega) (fun y => ?_) (fun y => ?_) hB ?_ ?_
        · have hlt : fi 38 (Z.drop f) < (Z.drop f).length := by
            rw [List.length_drop]
            omega
          rw [if_pos hlt, List.drop_drop] at e2 e3
          rw [hl5, show k + 1 = f + (fi 38 (Z.drop f) + 1) by omega]
          refine ⟨by omega, e2, ?_, ?_⟩
          · rw [List.append_assoc]
            exact e3
          · rw [fi_split hlt, gc_app (by decide) (by decide), Bool.and_eq_true, List.drop_drop] at e4
            exact e4.2
        · have hlt : ¬ fi 38 (Z.drop f) < (Z.drop f).length := by
            rw [List.length_drop]
            omega
          rw [if_neg hlt] at e2 e3
          exact ⟨e2.symm, e3⟩
        · rw [hl5]
          omega
        · rw [hl5]
          omega
    by_cases q1 : Z.length ≤ k
    · rw [if_pos (by simp (disch := omega) only [iI_lit, iI_add, iI_sub, iI_mul, iI_neg, iI_lt, iI_le, iI_eq] <;> omega)]
      exact piece (by omega)
    rw [if_neg (by simp (disch := omega) only [iI_lit, iI_add, iI_sub, iI_mul, iI_neg, iI_lt, iI_le, iI_eq] <;> omega)]
    refine st_at hR.1 rfl (j := k) (by omega) ?_
    have hzk := bt_ls hZ k (by omega)
    have hck : f + fi 38 (Z.drop f) = k ↔ Z.getD k 0 = 38 := by
      have h5 : fi 38 (Z.drop f) = k - f ↔ Z.getD k 0 = 38 := by
        rw [fi_at (Z.drop f) (k - f) (by omega) (by rw [List.length_drop]; omega)]
        rw [show (Z.drop f).getD (k - f) 0 = Z.getD k 0 from by simp [List.getD_eq_getElem?_getD, List.getElem?_drop, show f + (k - f) = k by omega]]
      omega
    by_cases q2 : Z.getD k 0 = 38
    · rw [if_pos (by simp (disch := omega) only [iI_lit, iI_add, iI_sub, iI_mul, iI_neg, iI_lt, iI_le, iI_eq] <;> omega)]
      exact piece (hck.mpr q2).symm
    · rw [if_neg (by simp (disch := omega) only [iI_lit, iI_add, iI_sub, iI_mul, iI_neg, iI_lt, iI_le, iI_eq] <;> omega), show iI (k : Int) + 1 = iI ((k + 1 : Nat) : Int) from iI_add _ 1]
      refine ih (k + 1) f n L A kc ks (by omega) hn (by omega) hL (fun y => ⟨?_, e2, e3, e4⟩) (fun y => by omega) hR c1 c2
      have : ¬ f + fi 38 (Z.drop f) = k := fun z => q2 (hck.mp z)
      omega
end RP
