/-! The reference: match -/
/-- the rows of one matcher alone change -/
def Mc (s s' : RS) (m : Nat) : Prop := (∀ d, d ≠ m → s'.2 11 d = s.2 11 d ∧ s'.2 12 d = s.2 12 d ∧ s'.2 13 d = s.2 13 d ∧ s'.2 14 d = s.2 14 d) ∧ ∀ j, (j < 40 * m ∨ 40 * m + 40 ≤ j) → s'.2 15 j = s.2 15 j
theorem Mc.rf (s : RS) (m : Nat) : Mc s s m := ⟨fun _ _ => ⟨rfl, rfl, rfl, rfl⟩, fun _ _ => rfl⟩
theorem Mc.i {s t : RS} {m k : Nat} {v : Int32} (h : Mc s t m) : Mc s (sI t k v) m := h
theorem Mc.r {s t : RS} {m k : Nat} {v : Int32} (h : Mc s t m) (hk : k = 11 ∨ k = 12 ∨ k = 13 ∨ k = 14) : Mc s (sR t k m v) m := by
  have e : ∀ f d, d ≠ m → (sR t k m v).2 f d = t.2 f d := fun f d hd => by
    by_cases q : f = k
    · subst q
      rw [sR_at]
      exact pk_un hd
    · rw [sR_ne q]
  refine ⟨fun d hd => ?_, fun j hj => ?_⟩
  · rw [e 11 d hd, e 12 d hd, e 13 d hd, e 14 d hd]
    exact h.1 d hd
  · rw [sR_ne (by omega)]
    exact h.2 j hj
theorem Mc.r15 {s t : RS} {m i : Nat} {v : Int32} (h : Mc s t m) (hi : i < 40) : Mc s (sR t 15 (40 * m + i) v) m := by
  refine ⟨fun d hd => ?_, fun j hj => ?_⟩
  · rw [sR_ne (by decide), sR_ne (by decide), sR_ne (by decide), sR_ne (by decide)]
    exact h.1 d hd
  · rw [sR_at]
    show upd (t.2 15) (40 * m + i) v j = _
    rw [pk_un (by omega)]
    exact h.2 j hj
theorem Mr.mc {s t : RS} {m k : Nat} {x : Mt} (h : Mr s k x) (hm : Mc s t m) (hk : k ≠ m) : Mr t k x := by
  obtain ⟨⟨a1, a2, a3, a4, a5, a6⟩, b, c, d⟩ := h
  obtain ⟨e1, e2, e3, e4⟩ := hm.1 k hk
  exact ⟨⟨a1, a2, a3, by rw [e3]; exact a4, by rw [e4]; exact a5, fun j hj => by rw [hm.2 _ (by omega)]; exact a6 j hj⟩, by rw [e1]; exact b, by rw [e2]; exact c, d⟩
theorem Sp.mc {I R : List Nat} {s t : RS} {m k : Nat} {x : Sb} (h : Sp s k x) (hm : Mc s t m) (hk : m < 4 * k + 4 ∨ 4 * k + 8 ≤ m) (hc : Ch I R s t) (h1 : ∀ k ∈ [18, 19, 20, 21, 22, 23, 24, 25, 26], k ∉ R) : Sp t k x := by
  obtain ⟨a, b, c, d, e, f, g, i⟩ := h
  have e4 := e.1
  refine ⟨a, ?_, ?_, ?_, ?_, fun i m' hm' => (f i m' hm').mc hm ?_, hc.tp g (fun k hk => h1 k (by simp at hk ⊢; omega)), hc.sn i (fun k hk => h1 k (by simp at hk ⊢; omega))⟩
  · rw [hc.2 18 (h1 18 (by decide))]; exact b
  · rw [hc.2 19 (h1 19 (by decide))]; exact c
  · rw [hc.2 20 (h1 20 (by decide))]; exact d
  · rw [hc.2 21 (h1 21 (by decide))]; exact e
  · have : i < (sbM x).length := by
      rcases Nat.lt_or_ge i (sbM x).length with z | z
      · exact z
      · rw [List.getElem?_eq_none z] at hm'
        cases hm'
    omega
def a_mok (p w : Int) (S : St) : Prop := 0 ≤ p ∧ p ≤ 4 ∧ 0 ≤ w ∧ w ≤ (if p = 2 ∨ p = 3 then 4 else 2) ∧ S.2.2.2.2.2.1.length ≠ 4 ∧ ((p = 2 ∨ p = 3) → fi 32 S.2.2.2.2.1 ≠ 0 ∧ (3 ≤ w ↔ fi 32 S.2.2.2.2.1 = S.2.2.2.2.1.length))
def a_mnm (p : Int) (S : St) : Int := if p = 2 ∨ p = 3 then (fi 32 S.2.2.2.2.1 : Int) else -1
def a_mW (p : Int) (S : St) : List Nat := S.2.2.2.2.1.drop (a_mnm p S + 1).toNat
def a_mP (p w : Int) (S : St) : Prop := w = 2 → (tks (a_mW p S).length (a_mW p S)).isSome = true
def a_mS (p w : Int) (S : St) : St := (S.1, S.2.1, S.2.2.1, S.2.2.2.1, [], S.2.2.2.2.2.1 ++ [(p.toNat, w.toNat, a_mnm p S, S.2.2.2.2.1)], S.2.2.2.2.2.2)
section MA
variable {s0 : RS} {S : St} {Q : Int32 → RS → Prop} {p w : Int}
theorem Rl.mc {s t : RS} {m : Nat} (h : Rl s S) (hC : Ch [] [13, 14, 15] s t) (hm : Mc s t m) (hm4 : m < 4) (hd : S.2.2.2.2.2.1.length ≤ m) : Rl t S := by
  obtain ⟨h1, h2, h3, h4, h5⟩ := h
  obtain ⟨a, b, ⟨PL, p1, p2⟩, d, e⟩ := h5
  refine ⟨fun c hc => hC.rc (h1 c hc) (by decide), ⟨hC.jo h2.1 (by decide) (by decide) (by decide) (by decide), h2.2⟩, by rw [hC.1 7 (by decide)]; exact h3, hC.sc h4 (by decide), ⟨a.1, by rw [hC.1 10 (by decide)]; exact a.2.1, fun j hj => by rw [hC.2 9 (by decide)]; exact a.2.2 j hj⟩, ⟨b.1, by rw [hC.1 16 (by decide)]; exact b.2.1, fun k x hx => (b.2.2 k x hx).mc hm ?_⟩, ⟨PL, p1, ?_⟩, by rw [hC.1 17 (by decide)]; exact d, e⟩
  · have : k < S.2.2.2.2.2.1.length := by
      rcases Nat.lt_or_ge k S.2.2.2.2.2.1.length with z | z
      · exact z
      · rw [List.getElem?_eq_none z] at hx
        cases hx
    omega
  · obtain ⟨q1, q2, q3, q4, q5, q6⟩ := p2
    exact ⟨fun z hz => (q1 z hz).mc hm (by omega) hC (by decide), q2, q3, q4, fun k hk hz => by rw [hC.2 18 (by decide)]; exact q5 k hk hz, q6⟩
theorem sm_match212 {s : RS} {m : Nat} {pt wy : Nat} {nm : Int} (h : Rl s S) (hm : m = S.2.2.2.2.2.1.length) (hm4 : m < 4) (hT : Tx s m nm S.2.2.2.2.1) (hw : mwf (pt, wy, nm, S.2.2.2.2.1)) (hQ : ∀ s', Rl s' (S.1, S.2.1, S.2.2.1, S.2.2.2.1, [], S.2.2.2.2.2.1 ++ [(pt, wy, nm, S.2.2.2.2.1)], S.2.2.2.2.2.2) → Q 1 s') : vq_M_match_212 (iI pt) (iI wy) Q (iI m) s := by
  obtain ⟨h1, h2, h3, h4, h5⟩ := h
  obtain ⟨a, b, ⟨PL, p1, p2⟩, d, e⟩ := h5
  unfold vq_M_match_212
  refine vS_i (by omega) (show (m : Int) < (36 : Nat) by omega) (by decide) ?_
  refine vS_i (by omega) (show (m : Int) < (36 : Nat) by omega) (by decide) (wL.i (vP.i (vP.i ?_)))
  rw [show (m : Int).toNat = m from rfl, sR_1, sR_1, b.2.1, ← hm, show iI (m : Int) + 1 = iI ((m + 1 : Nat) : Int) from iI_add _ 1]
  have hC : Ch [10, 16] [11, 12] s (sI (sI (sR (sR s 11 m (iI pt)) 12 m (iI wy)) 16 (iI ((m + 1 : Nat) : Int))) 10 0) := ((((Ch.rf s).r (by decide)).r (by decide)).i (by decide)).i (by decide)
  have hM : Mc s (sI (sI (sR (sR s 11 m (iI pt)) 12 m (iI wy)) 16 (iI ((m + 1 : Nat) : Int))) 10 0) m := (((Mc.rf s m).r (k := 11) (v := iI pt) (by decide)).r (k := 12) (v := iI wy) (by decide))
  have e11 : (sI (sI (sR (sR s 11 m (iI pt)) 12 m (iI wy)) 16 (iI ((m + 1 : Nat) : Int))) 10 0).2 11 m = iI pt := by
    rw [sI_2, sI_2, sR_ne (by decide), sR_at]
    exact pk_us
  have e12 : (sI (sI (sR (sR s 11 m (iI pt)) 12 m (iI wy)) 16 (iI ((m + 1 : Nat) : Int))) 10 0).2 12 m = iI wy := by
    rw [sI_2, sI_2, sR_at]
    exact pk_us
  have e16 : (sI (sI (sR (sR s 11 m (iI pt)) 12 m (iI wy)) 16 (iI ((m + 1 : Nat) : Int))) 10 0).1 16 = iI ((m + 1 : Nat) : Int) := by
    rw [sI_ne (by decide), sI_at]
  have e10 : (sI (sI (sR (sR s 11 m (iI pt)) 12 m (iI wy)) 16 (iI ((m + 1 : Nat) : Int))) 10 0).1 10 = 0 := sI_at
  generalize sI (sI (sR (sR s 11 m (iI pt)) 12 m (iI wy)) 16 (iI ((m + 1 : Nat) : Int))) 10 0 = t at *
  refine hQ t ⟨fun c hc => hC.rc (h1 c hc) (by decide), ⟨hC.jo h2.1 (by decide) (by decide) (by decide) (by decide), h2.2⟩, by rw [hC.1 7 (by decide)]; exact h3, hC.sc h4 (by decide), ⟨by simp, e10, fun j hj => absurd hj (by simp)⟩, ⟨by rw [List.length_append]; simp; omega, by rw [e16, List.length_append, ← hm]; rfl, fun k x hx => ?_⟩, ⟨PL, p1, ?_⟩, by rw [hC.1 17 (by decide)]; exact d, e⟩
  · by_cases z : k < S.2.2.2.2.2.1.length
    · dsimp only at hx
      rw [List.getElem?_append_left z] at hx
      exact (b.2.2 k x hx).mc hM (by omega)
    · dsimp only at hx
      rw [List.getElem?_append_right (by omega)] at hx
      have hk : k = m := by
        by_cases w : k - S.2.2.2.2.2.1.length = 0
        · omega
        · obtain ⟨v, hv⟩ : ∃ v, k - S.2.2.2.2.2.1.length = v + 1 := ⟨k - S.2.2.2.2.2.1.length - 1, by omega⟩
          rw [hv] at hx
          cases hx
      rw [hk, ← hm, Nat.sub_self] at hx
      cases hx
      rw [hk]
      exact ⟨hC.tx hT (by decide), e11, e12, hw⟩
  · obtain ⟨q1, q2, q3, q4, q5, q6⟩ := p2
    exact ⟨fun z hz => (q1 z hz).mc hM (by omega) hC (by decide), q2, q3, q4, fun k hk hz => by rw [hC.2 18 (by decide)]; exact q5 k hk hz, q6⟩
theorem sl_match161 {m : Nat} {nm : Int} {p0 p1 : Int32} (h : Rl s0 S) (hm4 : m < 4) (hn : -1 ≤ nm ∧ nm ≤ S.2.2.2.2.1.length) (hQ : ∀ s', Ch [] [13, 14, 15] s0 s' → Mc s0 s' m → Tx s' m nm S.2.2.2.2.1 → vq_M_match_196 p0 p1 Q (iI m) s') : ∀ (j k : Nat) (s : RS), k + j = S.2.2.2.2.1.length → Ch [] [13, 14, 15] s0 s → Mc s0 s m → s.2 13 m = iI nm → s.2 14 m = iI S.2.2.2.2.1.length → (∀ i, i < k → s.2 15 (40 * m + i) = iI (S.2.2.2.2.1.getD i 0)) → vq_M_match_161 p0 p1 Q (j + 1) (iI m) (iI k) s := by
  have hT := h.2.2.2.2.1
  have hl := hT.1
  intro j
  induction j with
  | zero =>
    intro k s hk hC hM h13 h14 hi
    show vb_M_match_161 _ _ _ _ _ _ _
    unfold vb_M_match_161
    refine wL.i ?_
    rw [hC.1 10 (by decide), hT.2.1, if_pos (by simp (disch := omega) only [iI_lit, iI_add, iI_sub, iI_mul, iI_neg, iI_lt, iI_le, iI_eq] <;> omega)]
    exact hQ s hC hM ⟨by omega, hl, hn, h13, h14, fun i h => ⟨by have := (hT.2.2 i h).1; omega, hi i (by omega)⟩⟩
  | succ j ih =>
    intro k s hk hC hM h13 h14 hi
    show vb_M_match_161 _ _ _ _ _ _ _
    unfold vb_M_match_161
    refine wL.i ?_
    rw [hC.1 10 (by decide), hT.2.1, if_neg (by simp (disch := omega) only [iI_lit, iI_add, iI_sub, iI_mul, iI_neg, iI_lt, iI_le, iI_eq] <;> omega)]
    refine vA_i (by omega) (show (k : Int) < (40 : Nat) by omega) (by decide) ?_
    rw [show (k : Int).toNat = k from rfl, hC.2 9 (by decide), (hT.2.2 k (by omega)).2, ix_40]
    refine vS_i (by omega) (show ((40 * m + k : Nat) : Int) < (1440 : Nat) by omega) (by decide) ?_
    rw [show ((40 * m + k : Nat) : Int).toNat = 40 * m + k from rfl, show iI (k : Int) + 1 = iI ((k + 1 : Nat) : Int) from iI_add _ 1]
    refine ih (k + 1) _ (by omega) (hC.r (by decide)) (hM.r15 (by omega)) (by rw [sR_ne (by decide)]; exact h13) (by rw [sR_ne (by decide)]; exact h14) (fun i h => ?_)
    rw [sR_at]
    show upd (s.2 15) (40 * m + k) _ (40 * m + i) = _
    by_cases q : i = k
    · subst q
      rw [pk_us]
    · rw [pk_un (by omega)]
      exact hi i (by omega)
theorem sl_match55 {p0 p1 u3 : Int32} {ty : List Nat} (h : RT s0 ty) (hQ : vq_M_match_82 p0 p1 Q u3 (iI (fi 32 ty)) s0) : ∀ (j e : Nat), e + j = ty.length → e + fi 32 (ty.drop e) = fi 32 ty → vq_M_match_55 p0 p1 Q (j + 1) u3 (iI e) s0 := by
  have hl := h.1
  intro j
  induction j with
  | zero =>
    intro e he hf
    show vb_M_match_55 _ _ _ _ _ _ _
    unfold vb_M_match_55
    refine wL.i ?_
    rw [h.2.1, if_pos (by simp (disch := omega) only [iI_lit, iI_add, iI_sub, iI_mul, iI_neg, iI_lt, iI_le, iI_eq] <;> omega)]
    rw [List.drop_of_length_le (by omega), fi_nil, Nat.add_zero] at hf
    rw [hf]
    exact hQ
  | succ j ih =>
    intro e he hf
    show vb_M_match_55 _ _ _ _ _ _ _
    unfold vb_M_match_55
    refine wL.i ?_
    rw [h.2.1, if_neg (by simp (disch := omega) only [iI_lit, iI_add, iI_sub, iI_mul, iI_neg, iI_lt, iI_le, iI_eq] <;> omega)]
    refine vA_i (by omega) (show (e : Int) < (40 : Nat) by omega) (by decide) ?_
    have ht := h.2.2 e (by omega)
    have ht1 := ht.1
    rw [show (e : Int).toNat = e from rfl, ht.2]
    rw [ls_drop (show e < ty.length by omega), fi_cons] at hf
    by_cases q : ty.getD e 0 = 32
    · rw [if_pos (by simp (disch := omega) only [iI_lit, iI_add, iI_sub, iI_mul, iI_neg, iI_lt, iI_le, iI_eq] <;> omega)]
      rw [if_pos q, Nat.add_zero] at hf
      rw [hf]
      exact hQ
    · rw [if_neg (by simp (disch := omega) only [iI_lit, iI_add, iI_sub, iI_mul, iI_neg, iI_lt, iI_le, iI_eq] <;> omega), show iI (e : Int) + 1 = iI ((e + 1 : Nat) : Int) from iI_add _ 1]
      rw [if_neg q] at hf
      exact ih (e + 1) (by omega) (by omega)
theorem sm_match (hp : rng p) (hw : rng w) (h : Rl s0 S) (h0 : ¬ (a_mok p w S ∧ a_mP p w S) → ∀ s', Rl s' S → Q (iI 0) s') (h1 : a_mok p w S → a_mP p w S → ∀ s', Rl s' (a_mS p w S) → Q (iI 1) s') : vp_M_match (iI p) (iI w) s0 Q := by
  obtain ⟨p1, p2⟩ := hp
  obtain ⟨w1, w2⟩ := hw
  have hT := h.2.2.2.2.1
  have hl := hT.1
  have hD := h.2.2.2.2.2.1
  have hd4 := hD.1
  have hf := fi_le 32 S.2.2.2.2.1
  have main : ∀ g : Bool, (g = true ↔ (p = 2 ∨ p = 3)) → vq_M_match_15 (iI p) (iI w) Q (iI (bI g)) s0 := fun g hg => by
    unfold vq_M_match_15
    by_cases q1 : p < 0
    · rw [if_pos (by simp (disch := omega) only [iI_lit, iI_add, iI_sub, iI_mul, iI_neg, iI_lt, iI_le, iI_eq] <;> omega)]
      exact h0 (fun z => by have := z.1.1; omega) s0 h
    rw [if_neg (by simp (disch := omega) only [iI_lit, iI_add, iI_sub, iI_mul, iI_neg, iI_lt, iI_le, iI_eq] <;> omega)]
    by_cases q2 : 4 < p
    · rw [if_pos (by simp (disch := omega) only [iI_lit, iI_add, iI_sub, iI_mul, iI_neg, iI_lt, iI_le, iI_eq] <;> omega)]
      exact h0 (fun z => by have := z.1.2.1; omega) s0 h
    rw [if_neg (by simp (disch := omega) only [iI_lit, iI_add, iI_sub, iI_mul, iI_neg, iI_lt, iI_le, iI_eq] <;> omega)]
    by_cases q3 : w < 0
    · rw [if_pos (by simp (disch := omega) only [iI_lit, iI_add, iI_sub, iI_mul, iI_neg, iI_lt, iI_le, iI_eq] <;> omega)]
      exact h0 (fun z => by have := z.1.2.2.1; omega) s0 h
    rw [if_neg (by simp (disch := omega) only [iI_lit, iI_add, iI_sub, iI_mul, iI_neg, iI_lt, iI_le, iI_eq] <;> omega)]
    obtain ⟨pt, rfl⟩ : ∃ pt : Nat, p = pt := ⟨p.toNat, by omega⟩
    obtain ⟨wy, rfl⟩ : ∃ wy : Nat, w = wy := ⟨w.toNat, by omega⟩
    have n124 : a_mok pt wy S → vq_M_match_124 (iI pt) (iI wy) Q (iI (bI g)) (iI (fi 32 S.2.2.2.2.1)) s0 := fun hok => by
      have hok' := hok
      obtain ⟨k1, k2, k3, k4, k5, k6⟩ := hok
      unfold vq_M_match_124
      refine wL.i ?_
      rw [hD.2.1]
      have go : ∀ nm : Int, nm = a_mnm pt S → vq_M_match_146 (iI pt) (iI wy) Q (iI S.2.2.2.2.2.1.length) (iI S.2.2.2.2.2.1.length) (iI nm) s0 := fun nm hnm => by
        have hnr : -1 ≤ nm ∧ nm ≤ S.2.2.2.2.1.length := by
          rw [hnm]
          unfold a_mnm
          split <;> omega
        unfold vq_M_match_146
        refine vS_i (by omega) (show (S.2.2.2.2.2.1.length : Int) < (36 : Nat) by omega) (by decide) (wL.i ?_)
        refine vS_i (by omega) (show (S.2.2.2.2.2.1.length : Int) < (36 : Nat) by omega) (by decide) ?_
        rw [show (S.2.2.2.2.2.1.length : Int).toNat = S.2.2.2.2.2.1.length from rfl, sR_1, hT.2.1]
        refine ⟨_, sl_match161 (m := S.2.2.2.2.2.1.length) (nm := nm) h (by omega) hnr (fun s2 c2 m2 t2 => ?_) S.2.2.2.2.1.length 0 _ (by omega) (((Ch.rf s0).r (by decide)).r (by decide)) (((Mc.rf s0 _).r (by decide)).r (by decide)) ?_ ?_ (fun i hi => absurd hi (by omega))⟩
        · have hR2 := h.mc c2 m2 (by omega) (Nat.le_refl _)
          have hWl : (S.2.2.2.2.1.drop (nm + 1).toNat).length = S.2.2.2.2.1.length - (nm + 1).toNat := List.length_drop
          have hmw : a_mP pt wy S → mwf (pt, wy, nm, S.2.2.2.2.1) := fun hPP => by
            refine ⟨by dsimp only; omega, ?_, fun z => ?_, fun z => ?_⟩
            · dsimp only
              split at k4 <;> omega
            · dsimp only at z ⊢
              rw [hnm]
              unfold a_mnm
              by_cases y : (pt : Int) = 2 ∨ (pt : Int) = 3
              · rw [if_pos y]
                have := (k6 y).2
                omega
              · rw [if_neg y]
                omega
            · dsimp only at z ⊢
              have := hPP (by omega)
              unfold a_mW at this
              rw [← hnm] at this
              exact this
          have fin : a_mP pt wy S → vq_M_match_212 (iI pt) (iI wy) Q (iI S.2.2.2.2.2.1.length) s2 := fun hPP => by
            refine sm_match212 hR2 rfl (by omega) t2 (hmw hPP) (fun s' hs' => h1 hok' hPP s' ?_)
            unfold a_mS
            rw [← hnm]
            exact hs'
          unfold vq_M_match_196
          by_cases y : wy = 2
          · rw [if_pos (by simp (disch := omega) only [iI_lit, iI_add, iI_sub, iI_mul, iI_neg, iI_lt, iI_le, iI_eq] <;> omega)]
            refine sm_isPattern t2 ?_
            cases hd : (tks (S.2.2.2.2.1.length - (nm + 1).toNat) (S.2.2.2.2.1.drop (nm + 1).toNat)).isSome with
            | false =>
              rw [if_pos (by decide)]
              refine h0 (fun z => ?_) s2 hR2
              have := z.2 (by omega)
              unfold a_mW at this
              rw [← hnm, hWl, hd] at this
              cases this
            | true =>
              rw [if_neg (by decide)]
              refine fin (fun _ => ?_)
              unfold a_mW
              rw [← hnm, hWl]
              exact hd
          · rw [if_neg (by simp (disch := omega) only [iI_lit, iI_add, iI_sub, iI_mul, iI_neg, iI_lt, iI_le, iI_eq] <;> omega)]
            exact fin (fun z => by omega)
        · rw [sR_ne (by decide), sR_at]
          exact pk_us
        · rw [sR_at]
          exact pk_us
      by_cases y : (pt : Int) = 2 ∨ (pt : Int) = 3
      · rw [hg.mpr y, if_neg (by decide)]
        exact go _ (by unfold a_mnm; rw [if_pos y])
      · rw [show g = false from by cases g; rfl; exact absurd (hg.mp rfl) y, if_pos (by decide)]
        exact go (-1) (by unfold a_mnm; rw [if_neg y])
    have n39 : ∀ top : Nat, top = (if (pt : Int) = 2 ∨ (pt : Int) = 3 then 4 else 2) → vq_M_match_39 (iI pt) (iI wy) Q (iI (bI g)) (iI wy) (iI top) s0 := fun top ht => by
      unfold vq_M_match_39
      have htr : top ≤ 4 := by
        rw [ht]
        split <;> omega
      by_cases q4 : top < wy
      · rw [if_pos (by simp (disch := omega) only [iI_lit, iI_add, iI_sub, iI_mul, iI_neg, iI_lt, iI_le, iI_eq] <;> omega)]
        refine h0 (fun z => ?_) s0 h
        have := z.1.2.2.2.1
        split at this <;> (rename_i y; first | rw [if_pos y] at ht | rw [if_neg y] at ht) <;> omega
      rw [if_neg (by simp (disch := omega) only [iI_lit, iI_add, iI_sub, iI_mul, iI_neg, iI_lt, iI_le, iI_eq] <;> omega)]
      have hwt : (wy : Int) ≤ (if (pt : Int) = 2 ∨ (pt : Int) = 3 then 4 else 2) := by
        split <;> (rename_i y; first | rw [if_pos y] at ht | rw [if_neg y] at ht) <;> omega
      refine wL.i ?_
      rw [hD.2.1]
      by_cases q5 : S.2.2.2.2.2.1.length = 4
      · rw [if_pos (by simp (disch := omega) only [iI_lit, iI_add, iI_sub, iI_mul, iI_neg, iI_lt, iI_le, iI_eq] <;> omega)]
        exact h0 (fun z => z.1.2.2.2.2.1 q5) s0 h
      rw [if_neg (by simp (disch := omega) only [iI_lit, iI_add, iI_sub, iI_mul, iI_neg, iI_lt, iI_le, iI_eq] <;> omega)]
      refine ⟨_, sl_match55 hT ?_ S.2.2.2.2.1.length 0 (by omega) (by rw [List.drop_zero, Nat.zero_add])⟩
      have n92 : ∀ lone : Bool, (lone = true ↔ 3 ≤ wy) → vq_M_match_92 (iI pt) (iI wy) Q (iI (bI g)) (iI (fi 32 S.2.2.2.2.1)) (iI (bI lone)) s0 := fun lone hlo => by
        unfold vq_M_match_92
        by_cases y : (pt : Int) = 2 ∨ (pt : Int) = 3
        · rw [hg.mpr y, if_neg (by decide)]
          rw [hg.mpr y] at n124
          by_cases q6 : fi 32 S.2.2.2.2.1 = 0
          · rw [if_pos (by simp (disch := omega) only [iI_lit, iI_add, iI_sub, iI_mul, iI_neg, iI_lt, iI_le, iI_eq] <;> omega)]
            exact h0 (fun z => (z.1.2.2.2.2.2 y).1 q6) s0 h
          rw [if_neg (by simp (disch := omega) only [iI_lit, iI_add, iI_sub, iI_mul, iI_neg, iI_lt, iI_le, iI_eq] <;> omega)]
          refine wL.i ?_
          rw [hT.2.1]
          have n119 : ∀ full : Bool, (full = true ↔ fi 32 S.2.2.2.2.1 = S.2.2.2.2.1.length) → vq_M_match_119 (iI pt) (iI wy) Q (iI (bI true)) (iI (fi 32 S.2.2.2.2.1)) (iI (bI lone)) (iI (bI full)) s0 := fun full hfu => by
            unfold vq_M_match_119
            by_cases q7 : lone = full
            · rw [if_pos (by rw [q7])]
              refine n124 ⟨by omega, by omega, by omega, hwt, q5, fun _ => ⟨q6, ?_⟩⟩
              rw [← hfu, ← q7, hlo]
              omega
            · rw [if_neg (fun z => q7 (by cases lone <;> cases full <;> first | rfl | (exact absurd z (by decide))))]
              refine h0 (fun z => q7 ?_) s0 h
              have := (z.1.2.2.2.2.2 y).2
              rw [← hfu] at this
              have h3 : lone = true ↔ full = true := by
                rw [hlo, ← this]
                omega
              cases lone <;> cases full <;> simp_all
          by_cases q8 : fi 32 S.2.2.2.2.1 = S.2.2.2.2.1.length
          · rw [if_pos (by simp (disch := omega) only [iI_lit, iI_add, iI_sub, iI_mul, iI_neg, iI_lt, iI_le, iI_eq] <;> omega)]
            exact n119 true ⟨fun _ => q8, fun _ => rfl⟩
          · rw [if_neg (by simp (disch := omega) only [iI_lit, iI_add, iI_sub, iI_mul, iI_neg, iI_lt, iI_le, iI_eq] <;> omega)]
            exact n119 false ⟨(fun z => by cases z), fun z => absurd z q8⟩
        · have hgf : g = false := by cases g; rfl; exact absurd (hg.mp rfl) y
          rw [hgf, if_pos (by decide)]
          rw [hgf] at n124
          exact n124 ⟨by omega, by omega, by omega, hwt, q5, fun z => absurd z y⟩
      unfold vq_M_match_82
      by_cases q6 : wy < 3
      · rw [if_pos (by simp (disch := omega) only [iI_lit, iI_add, iI_sub, iI_mul, iI_neg, iI_lt, iI_le, iI_eq] <;> omega)]
        exact n92 false ⟨(fun z => by cases z), fun z => by omega⟩
      · rw [if_neg (by simp (disch := omega) only [iI_lit, iI_add, iI_sub, iI_mul, iI_neg, iI_lt, iI_le, iI_eq] <;> omega)]
        exact n92 true ⟨fun _ => by omega, fun _ => rfl⟩
    by_cases y : (pt : Int) = 2 ∨ (pt : Int) = 3
    · rw [hg.mpr y, if_neg (by decide)]
      rw [hg.mpr y] at n39
      exact n39 4 (by rw [if_pos y])
    · have hgf : g = false := by cases g; rfl; exact absurd (hg.mp rfl) y
      rw [hgf, if_pos (by decide)]
      rw [hgf] at n39
      exact n39 2 (by rw [if_neg y])
  unfold vp_M_match
  by_cases q1 : p = 2
  · rw [if_pos (by simp (disch := omega) only [iI_lit, iI_add, iI_sub, iI_mul, iI_neg, iI_lt, iI_le, iI_eq] <;> omega)]
    exact main true ⟨fun _ => Or.inl q1, fun _ => rfl⟩
  rw [if_neg (by simp (disch := omega) only [iI_lit, iI_add, iI_sub, iI_mul, iI_neg, iI_lt, iI_le, iI_eq] <;> omega)]
  by_cases q2 : p = 3
  · rw [if_pos (by simp (disch := omega) only [iI_lit, iI_add, iI_sub, iI_mul, iI_neg, iI_lt, iI_le, iI_eq] <;> omega)]
    exact main true ⟨fun _ => Or.inr q2, fun _ => rfl⟩
  rw [if_neg (by simp (disch := omega) only [iI_lit, iI_add, iI_sub, iI_mul, iI_neg, iI_lt, iI_le, iI_eq] <;> omega)]
  exact main false ⟨(fun z => by cases z), fun z => by omega⟩
end MA
