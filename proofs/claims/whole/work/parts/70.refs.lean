/-! The reference: stub -/
theorem nd_len : ∀ (l m : List Nat), l.Nodup → (∀ x ∈ l, x ∈ m) → l.length ≤ m.length := by
  intro l
  induction l with
  | nil => intro m _ _; simp
  | cons a l ih =>
    intro m hn hs
    rw [List.nodup_cons] at hn
    have ha := hs a (by simp)
    have := ih (m.erase a) hn.2 (fun x hx => (List.mem_erase_of_ne (fun e : x = a => hn.1 (by rw [← e]; exact hx))).mpr (hs x (by simp [hx])))
    rw [List.length_erase_of_mem ha] at this
    have hp : 0 < m.length := List.length_pos_of_mem ha
    rw [List.length_cons]
    omega
theorem Mr.eq {s t : RS} {k : Nat} {x : Mt} (h : Mr s k x) (e1 : t.2 11 k = s.2 11 k ∧ t.2 12 k = s.2 12 k ∧ t.2 13 k = s.2 13 k ∧ t.2 14 k = s.2 14 k) (e2 : ∀ j, j < 40 → t.2 15 (40 * k + j) = s.2 15 (40 * k + j)) : Mr t k x := by
  obtain ⟨⟨a1, a2, a3, a4, a5, a6⟩, b, c, d⟩ := h
  exact ⟨⟨a1, a2, a3, by rw [e1.2.2.1]; exact a4, by rw [e1.2.2.2]; exact a5, fun j hj => by rw [e2 j (by omega)]; exact a6 j hj⟩, by rw [e1.1]; exact b, by rw [e1.2.1]; exact c, d⟩
theorem Sp.eq {s t : RS} {k : Nat} {x : Sb} (h : Sp s k x) (e1 : ∀ r ∈ [18, 19, 20, 21, 23, 24, 25, 26], t.2 r k = s.2 r k) (e2 : ∀ j, j < 40 → t.2 22 (40 * k + j) = s.2 22 (40 * k + j)) (e3 : ∀ i m, i < 4 → Mr s (4 * k + 4 + i) m → Mr t (4 * k + 4 + i) m) : Sp t k x := by
  obtain ⟨a, b, c, d, e, f, g, i⟩ := h
  refine ⟨a, ?_, ?_, ?_, ?_, fun i m hm => e3 i m ?_ (f i m hm), ⟨g.1, g.2.1, ?_, fun j hj => ?_⟩, ?_⟩
  · rw [e1 18 (by decide)]; exact b
  · rw [e1 19 (by decide)]; exact c
  · rw [e1 20 (by decide)]; exact d
  · rw [e1 21 (by decide)]; exact e
  · have e4 := e.1
    rcases Nat.lt_or_ge i (sbM x).length with z | z
    · omega
    · rw [List.getElem?_eq_none z] at hm
      cases hm
  · rw [e1 23 (by decide)]; exact g.2.2.1
  · have := g.2.1
    rw [e2 j (by omega)]; exact g.2.2.2 j hj
  · unfold Sn at i ⊢
    generalize sbS x = o at *
    cases o with
    | none =>
      dsimp only at i ⊢
      rw [e1 24 (by decide)]
      exact i
    | some y =>
      dsimp only at i ⊢
      rw [e1 24 (by decide), e1 25 (by decide), e1 26 (by decide)]
      exact i
def a_sok (p w : Int) (S : St) : Prop := 0 ≤ p ∧ p ≤ 9 ∧ 100 ≤ w ∧ w ≤ 599 ∧ S.2.2.2.2.2.2.1.length < 8
def a_sS (p w : Int) (S : St) : St := (S.1, S.2.1, S.2.2.1, S.2.2.2.1, [], [], S.2.2.2.2.2.2.1 ++ [(S.2.2.2.2.2.2.2, p.toNat, w.toNat, S.2.2.2.2.2.1, S.2.2.2.2.1, none)], S.2.2.2.2.2.2.2 + 1)
section ST
variable {s0 : RS} {S : St} {Q : Int32 → RS → Prop} {p0 p1 : Int32}
def frI (o : Option Nat) : Int := match o with
  | none => -1
  | some f => f
theorem sl_stub5 {PL : List (Nat × Sb)} (hP : Sbs s0 PL) (hQ : ∀ o : Option Nat, (match o with
    | none => ∀ i, i < 8 → ∃ z ∈ PL, z.1 = i
    | some f => f < 8 ∧ ∀ z ∈ PL, z.1 ≠ f) → vq_M_stub_35 p0 p1 Q (iI (frI o)) s0) : ∀ (j k : Nat) (o : Option Nat), k + j = 8 → (match o with
    | none => ∀ i, i < k → ∃ z ∈ PL, z.1 = i
    | some f => f < k ∧ ∀ z ∈ PL, z.1 ≠ f) → vq_M_stub_5 p0 p1 Q (j + 1) (iI (frI o)) (iI k) s0 := by
  intro j
  induction j with
  | zero =>
    intro k o hk ho
    show vb_M_stub_5 _ _ _ _ _ _ _
    unfold vb_M_stub_5
    rw [if_pos (by simp (disch := omega) only [iI_lit, iI_add, iI_sub, iI_mul, iI_neg, iI_lt, iI_le, iI_eq] <;> omega)]
    have : k = 8 := by omega
    subst this
    exact hQ o ho
  | succ j ih =>
    intro k o hk ho
    show vb_M_stub_5 _ _ _ _ _ _ _
    unfold vb_M_stub_5
    rw [if_neg (by simp (disch := omega) only [iI_lit, iI_add, iI_sub, iI_mul, iI_neg, iI_lt, iI_le, iI_eq] <;> omega), show iI (k : Int) + 1 = iI ((k + 1 : Nat) : Int) from iI_add _ 1]
    by_cases q : ∃ z ∈ PL, z.1 = k
    · obtain ⟨z, hz, hzk⟩ := q
      have hz' := hP.1 z hz
      rw [hzk] at hz'
      have hi := hz'.2.1.1
      refine row8 rfl hz'.1 hz'.2.1.2 ?_
      rw [if_pos (by simp (disch := omega) only [iI_lit, iI_add, iI_sub, iI_mul, iI_neg, iI_lt, iI_le, iI_eq] <;> omega)]
      refine ih (k + 1) o (by omega) ?_
      cases o with
      | none =>
        intro i hi
        by_cases w : i = k
        · exact ⟨z, hz, by omega⟩
        · exact ho i (by omega)
      | some f => exact ⟨by have := ho.1; omega, ho.2⟩
    · refine row8 rfl (by omega) (hP.2.2.2.2.1 k (by omega) (fun z hz h => q ⟨z, hz, h⟩)) ?_
      rw [if_neg (by decide)]
      exact ih (k + 1) (some k) (by omega) ⟨by omega, fun z hz h => q ⟨z, hz, h⟩⟩
theorem sl_stub145 {k m : Nat} {u3 : Int32} {k67 : Int32 → Int32 → RS → Prop} (hk : k < 4) (hm : 4 ≤ m) (hm2 : m < 36) (hQ : ∀ s', Ch [] [15] s0 s' → Mc s0 s' m → (∀ i, i < 40 → s'.2 15 (40 * m + i) = s0.2 15 (40 * k + i)) → k67 u3 (iI ((k + 1 : Nat) : Int)) s') : ∀ (j i : Nat) (s : RS), i + j = 40 → Ch [] [15] s0 s → Mc s0 s m → (∀ l, l < i → s.2 15 (40 * m + l) = s0.2 15 (40 * k + l)) → vq_M_stub_145 p0 p1 Q k67 (j + 1) u3 (iI k) (iI m) (iI i) s := by
  intro j
  induction j with
  | zero =>
    intro i s hi hC hM hl
    show vb_M_stub_145 _ _ _ _ _ _ _ _ _ _
    unfold vb_M_stub_145
    rw [if_pos (by simp (disch := omega) only [iI_lit, iI_add, iI_sub, iI_mul, iI_neg, iI_lt, iI_le, iI_eq] <;> omega), show iI (k : Int) + 1 = iI ((k + 1 : Nat) : Int) from iI_add _ 1]
    exact hQ s hC hM (fun l h => hl l (by omega))
  | succ j ih =>
    intro i s hi hC hM hl
    show vb_M_stub_145 _ _ _ _ _ _ _ _ _ _
    unfold vb_M_stub_145
    rw [if_neg (by simp (disch := omega) only [iI_lit, iI_add, iI_sub, iI_mul, iI_neg, iI_lt, iI_le, iI_eq] <;> omega), ix_40, ix_40]
    refine vA_i (by omega) (show ((40 * k + i : Nat) : Int) < (1440 : Nat) by omega) (by decide) ?_
    refine vS_i (by omega) (show ((40 * m + i : Nat) : Int) < (1440 : Nat) by omega) (by decide) ?_
    rw [show ((40 * k + i : Nat) : Int).toNat = 40 * k + i from rfl, show ((40 * m + i : Nat) : Int).toNat = 40 * m + i from rfl, show iI (i : Int) + 1 = iI ((i + 1 : Nat) : Int) from iI_add _ 1, hM.2 (40 * k + i) (by omega)]
    refine ih (i + 1) _ (by omega) (hC.r (by decide)) (hM.r15 (by omega)) (fun l h => ?_)
    rw [sR_at]
    show upd (s.2 15) (40 * m + i) _ (40 * m + l) = _
    by_cases q : l = i
    · subst q
      rw [pk_us]
    · rw [pk_un (by omega)]
      exact hl l (by omega)
theorem row36 {s : RS} {f k : Nat} {v : Int32} {K : Int32 → Prop} (hf : md_len f = 36) (hk : k < 36) (hv : s.2 f k = v) (hK : K v) : vA s f (iI k) K := by
  refine vA_i (by omega) (by rw [hf]; omega) (by rw [hf]; decide) ?_
  rw [show (k : Int).toNat = k from rfl, hv]
  exact hK
theorem wr36 {s : RS} {f k : Nat} {v : Int32} {K : RS → Prop} (hf : md_len f = 36) (hk : k < 36) (hK : K (sR s f k v)) : vS s f (iI k) v K := by
  refine vS_i (by omega) (by rw [hf]; omega) (by rw [hf]; decide) ?_
  exact hK
theorem wr8 {s : RS} {f k : Nat} {v : Int32} {K : RS → Prop} (hf : md_len f = 8) (hk : k < 8) (hK : K (sR s f k v)) : vS s f (iI k) v K := by
  refine vS_i (by omega) (by rw [hf]; omega) (by rw [hf]; decide) ?_
  exact hK
/-- what copying the draft changes -/
def Mb (s s' : RS) (f : Nat) : Prop := ∀ m x, (m < 4 * f + 4 ∨ 4 * f + 8 ≤ m) → Mr s m x → Mr s' m x
theorem sl_stub67 {f : Nat} {dr : List Mt} (hf : f < 8) (hd : RD s0 dr) (hQ : ∀ s', Ch [] [11, 12, 13, 14, 15] s0 s' → Mb s0 s' f → (∀ i x, dr[i]? = some x → Mr s' (4 * f + 4 + i) x) → vq_M_stub_190 p0 p1 Q (iI f) s') : ∀ (j k : Nat) (s : RS), k + j = dr.length → Ch [] [11, 12, 13, 14, 15] s0 s → Mb s0 s f → (∀ i x, i < k → dr[i]? = some x → Mr s (4 * f + 4 + i) x) → vq_M_stub_67 p0 p1 Q (j + 1) (iI f) (iI k) s := by
  have h4 := hd.1
  have lt : ∀ {i : Nat} {x : Mt}, dr[i]? = some x → i < dr.length := fun {i x} hx => by
    rcases Nat.lt_or_ge i dr.length with z | z
    · exact z
    · rw [List.getElem?_eq_none z] at hx
      cases hx
  intro j
  induction j with
  | zero =>
    intro k s hk hC hM hi
    show vb_M_stub_67 _ _ _ _ _ _ _
    unfold vb_M_stub_67
    refine wL.i ?_
    rw [hC.1 16 (by decide), hd.2.1, if_pos (by simp (disch := omega) only [iI_lit, iI_add, iI_sub, iI_mul, iI_neg, iI_lt, iI_le, iI_eq] <;> omega)]
    exact hQ s hC hM (fun i x hx => hi i x (by have := lt hx; omega) hx)
  | succ j ih =>
    intro k s hk hC hM hi
    obtain ⟨x, hx⟩ : ∃ x, dr[k]? = some x := ⟨_, List.getElem?_eq_getElem (show k < dr.length by omega)⟩
    have hk0 := hd.2.2 k x hx
    have hks := hM k x (by omega) hk0
    show vb_M_stub_67 _ _ _ _ _ _ _
    unfold vb_M_stub_67
    refine wL.i ?_
    rw [hC.1 16 (by decide), hd.2.1, if_neg (by simp (disch := omega) only [iI_lit, iI_add, iI_sub, iI_mul, iI_neg, iI_lt, iI_le, iI_eq] <;> omega)]
    refine wL.i ?_
    rw [show (4 : Int32) * iI f + 4 + iI k = iI ((4 * f + 4 + k : Nat) : Int) from by rw [show (4 : Int32) = iI 4 from rfl, iI_mul, iI_add, iI_add]; congr 1]
    have hm : 4 * f + 4 + k < 36 := by omega
    have hm4 : 4 ≤ 4 * f + 4 + k := by omega
    have hmk : ¬ k = 4 * f + 4 + k := by omega
    have hmr : ¬ (4 * f + 4 + k < 4 * f + 4 ∨ 4 * f + 8 ≤ 4 * f + 4 + k) := by omega
    have hmi : ∀ i, i < k → 4 * f + 4 + i ≠ 4 * f + 4 + k := fun i h => by omega
    generalize hmm : 4 * f + 4 + k = m at *
    obtain ⟨⟨a1, a2, a3, a4, a5, a6⟩, b, c, d⟩ := hks
    refine row36 rfl (by omega) b (wr36 rfl hm ?_)
    refine row36 (v := iI x.2.1) rfl (by omega) (by rw [sR_ne (by decide)]; exact c) (wr36 rfl hm ?_)
    refine row36 (v := iI x.2.2.1) rfl (by omega) (by rw [sR_ne (by decide), sR_ne (by decide)]; exact a4) (wr36 rfl hm ?_)
    refine row36 (v := iI x.2.2.2.length) rfl (by omega) (by rw [sR_ne (by decide), sR_ne (by decide), sR_ne (by decide)]; exact a5) (wr36 rfl hm ?_)
    have e11 : (sR (sR (sR (sR s 11 m (iI x.1)) 12 m (iI x.2.1)) 13 m (iI x.2.2.1)) 14 m (iI x.2.2.2.length)).2 11 m = iI x.1 := by rw [sR_ne (by decide), sR_ne (by decide), sR_ne (by decide), sR_at]; exact pk_us
    have e12 : (sR (sR (sR (sR s 11 m (iI x.1)) 12 m (iI x.2.1)) 13 m (iI x.2.2.1)) 14 m (iI x.2.2.2.length)).2 12 m = iI x.2.1 := by rw [sR_ne (by decide), sR_ne (by decide), sR_at]; exact pk_us
    have e13 : (sR (sR (sR (sR s 11 m (iI x.1)) 12 m (iI x.2.1)) 13 m (iI x.2.2.1)) 14 m (iI x.2.2.2.length)).2 13 m = iI x.2.2.1 := by rw [sR_ne (by decide), sR_at]; exact pk_us
    have e14 : (sR (sR (sR (sR s 11 m (iI x.1)) 12 m (iI x.2.1)) 13 m (iI x.2.2.1)) 14 m (iI x.2.2.2.length)).2 14 m = iI x.2.2.2.length := by rw [sR_at]; exact pk_us
    have e15 : (sR (sR (sR (sR s 11 m (iI x.1)) 12 m (iI x.2.1)) 13 m (iI x.2.2.1)) 14 m (iI x.2.2.2.length)).2 15 = s.2 15 := by rw [sR_ne (by decide), sR_ne (by decide), sR_ne (by decide), sR_ne (by decide)]
    have hC2 : Ch [] [11, 12, 13, 14, 15] s (sR (sR (sR (sR s 11 m (iI x.1)) 12 m (iI x.2.1)) 13 m (iI x.2.2.1)) 14 m (iI x.2.2.2.length)) := ((((Ch.rf s).r (by decide)).r (by decide)).r (by decide)).r (by decide)
    have hM2 : Mc s (sR (sR (sR (sR s 11 m (iI x.1)) 12 m (iI x.2.1)) 13 m (iI x.2.2.1)) 14 m (iI x.2.2.2.length)) m := ((((Mc.rf s m).r (by decide)).r (by decide)).r (by decide)).r (by decide)
    generalize sR (sR (sR (sR s 11 m (iI x.1)) 12 m (iI x.2.1)) 13 m (iI x.2.2.1)) 14 m (iI x.2.2.2.length) = t at *
    refine ⟨_, sl_stub145 (s0 := t) (k := k) (m := m) (by omega) hm4 hm (fun s' c' m' g' => ?_) 40 0 t (by omega) (Ch.rf _) (Mc.rf _ _) (fun l h => absurd h (by omega))⟩
    have kp : ∀ y z, y ≠ m → Mr s y z → Mr s' y z := fun y z hy hz => (hz.mc hM2 hy).mc m' hy
    refine ih (k + 1) s' (by omega) ((hC.tr hC2).tr (c'.mo (by decide) (by decide))) (fun y z hy hz => kp y z (fun e => hmr (e ▸ hy)) (hM y z hy hz)) (fun i z hik hz => ?_)
    by_cases q : i = k
    · subst q
      rw [hx] at hz
      cases hz
      rw [hmm]
      refine ⟨⟨hm, a2, a3, by rw [c'.2 13 (by decide)]; exact e13, by rw [c'.2 14 (by decide)]; exact e14, fun l hl => ⟨(a6 l hl).1, ?_⟩⟩, by rw [c'.2 11 (by decide)]; exact e11, by rw [c'.2 12 (by decide)]; exact e12, d⟩
      rw [g' l (by omega), e15]
      exact (a6 l hl).2
    · exact kp _ z (hmi i (by omega)) (hi i z (by omega) hz)
theorem sl_stub193 {f : Nat} {ty : List Nat} (hf : f < 8) (ht : RT s0 ty) (hQ : ∀ s', Ch [] [22] s0 s' → (∀ j, (j < 40 * f ∨ 40 * f + 40 ≤ j) → s'.2 22 j = s0.2 22 j) → (∀ i, i < ty.length → s'.2 22 (40 * f + i) = iI (ty.getD i 0)) → vq_M_stub_227 p0 p1 Q (iI f) s') : ∀ (j k : Nat) (s : RS), k + j = ty.length → Ch [] [22] s0 s → (∀ j, (j < 40 * f ∨ 40 * f + 40 ≤ j) → s.2 22 j = s0.2 22 j) → (∀ i, i < k → s.2 22 (40 * f + i) = iI (ty.getD i 0)) → vq_M_stub_193 p0 p1 Q (j + 1) (iI f) (iI k) s := by
  have hl := ht.1
  intro j
  induction j with
  | zero =>
    intro k s hk hC hM hi
    show vb_M_stub_193 _ _ _ _ _ _ _
    unfold vb_M_stub_193
    refine wL.i ?_
    rw [hC.1 10 (by decide), ht.2.1, if_pos (by simp (disch := omega) only [iI_lit, iI_add, iI_sub, iI_mul, iI_neg, iI_lt, iI_le, iI_eq] <;> omega)]
    exact hQ s hC hM (fun i h => hi i (by omega))
  | succ j ih =>
    intro k s hk hC hM hi
    show vb_M_stub_193 _ _ _ _ _ _ _
    unfold vb_M_stub_193
    refine wL.i ?_
    rw [hC.1 10 (by decide), ht.2.1, if_neg (by simp (disch := omega) only [iI_lit, iI_add, iI_sub, iI_mul, iI_neg, iI_lt, iI_le, iI_eq] <;> omega)]
    refine vA_i (by omega) (show (k : Int) < (40 : Nat) by omega) (by decide) ?_
    rw [show (k : Int).toNat = k from rfl, hC.2 9 (by decide), (ht.2.2 k (by omega)).2, ix_40]
    refine vS_i (by omega) (show ((40 * f + k : Nat) : Int) < (320 : Nat) by omega) (by decide) ?_
    rw [show ((40 * f + k : Nat) : Int).toNat = 40 * f + k from rfl, show iI (k : Int) + 1 = iI ((k + 1 : Nat) : Int) from iI_add _ 1]
    refine ih (k + 1) _ (by omega) (hC.r (by decide)) (fun j hj => ?_) (fun i h => ?_)
    · rw [sR_at]
      show upd (s.2 22) (40 * f + k) _ j = _
      rw [pk_un (by omega)]
      exact hM j hj
    · rw [sR_at]
      show upd (s.2 22) (40 * f + k) _ (40 * f + i) = _
      by_cases q : i = k
      · subst q
        rw [pk_us]
      · rw [pk_un (by omega)]
        exact hi i (by omega)
end ST
