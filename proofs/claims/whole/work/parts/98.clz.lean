/-! The class: what is asked -/
section ASK
variable {G A : ab_H} {T : Nat → Nat} {sv : Nat} {S : St} {Q : Int32 → ab_H → Prop}
theorem wAO.i {a n i : Nat} {f : Nat → Option Nat} {K : Option Nat → Prop} (h : A a = some (oR (.inl (5, n, .inr (.inr (.inr (.inr f))))))) (hi : i < n) (hn : n < 2147483648) (hK : K (f i)) : wAO A (some a) (iI i) K := ⟨a, n, f, rfl, h, iI_in (by omega) (by omega) hn, by rw [iI_clamp (by omega) (by omega)]; exact hK⟩
theorem c_isCon {c : Int} (hc : rng c) (h0 : ¬ (0 ≤ c ∧ c ≤ 2) → Q (iI 0) A) (h1 : ∀ k : Nat, c = k → k < 3 → Q (iI 1) A) : wp_S_isConnection (iI c) A Q := by
  obtain ⟨c1, c2⟩ := hc
  unfold wp_S_isConnection
  by_cases q1 : c < 0
  · rw [if_pos (by simp (disch := omega) only [iI_lit, iI_add, iI_sub, iI_mul, iI_neg, iI_lt, iI_le, iI_eq] <;> omega)]
    exact h0 (by omega)
  rw [if_neg (by simp (disch := omega) only [iI_lit, iI_add, iI_sub, iI_mul, iI_neg, iI_lt, iI_le, iI_eq] <;> omega)]
  by_cases q2 : 3 ≤ c
  · rw [if_pos (by simp (disch := omega) only [iI_lit, iI_add, iI_sub, iI_mul, iI_neg, iI_lt, iI_le, iI_eq] <;> omega)]
    exact h0 (by omega)
  rw [if_neg (by simp (disch := omega) only [iI_lit, iI_add, iI_sub, iI_mul, iI_neg, iI_lt, iI_le, iI_eq] <;> omega)]
  obtain ⟨k, rfl⟩ := Int.eq_ofNat_of_zero_le (show 0 ≤ c by omega)
  exact h1 k rfl (by omega)
theorem c_isScn {c : Int} (hc : rng c) (h0 : ¬ (0 ≤ c ∧ c ≤ 2) → Q (iI 0) A) (h1 : ∀ k : Nat, c = k → k < 3 → Q (iI 1) A) : wp_S_isScenario (iI c) A Q := c_isCon hc h0 h1
theorem c_isSta {c : Int} (hc : rng c) (h0 : ¬ (0 ≤ c ∧ c ≤ 3) → Q (iI 0) A) (h1 : ∀ k : Nat, c = k → k ≤ 3 → Q (iI 1) A) : wp_S_isState (iI c) A Q := by
  obtain ⟨c1, c2⟩ := hc
  unfold wp_S_isState
  by_cases q1 : c < 0
  · rw [if_pos (by simp (disch := omega) only [iI_lit, iI_add, iI_sub, iI_mul, iI_neg, iI_lt, iI_le, iI_eq] <;> omega)]
    exact h0 (by omega)
  rw [if_neg (by simp (disch := omega) only [iI_lit, iI_add, iI_sub, iI_mul, iI_neg, iI_lt, iI_le, iI_eq] <;> omega)]
  by_cases q2 : 3 < c
  · rw [if_pos (by simp (disch := omega) only [iI_lit, iI_add, iI_sub, iI_mul, iI_neg, iI_lt, iI_le, iI_eq] <;> omega)]
    exact h0 (by omega)
  rw [if_neg (by simp (disch := omega) only [iI_lit, iI_add, iI_sub, iI_mul, iI_neg, iI_lt, iI_le, iI_eq] <;> omega)]
  obtain ⟨k, rfl⟩ := Int.eq_ofNat_of_zero_le (show 0 ≤ c by omega)
  exact h1 k rfl (by omega)
theorem c_isOpen {c : Int} (hc : rng c) (h : Inv G A T sv S) (hQ : Q (iI (a_isOpen c S).2) A) : wp_S_isOpen sv (iI c) A Q := by
  obtain ⟨ca, sa, ty, sl, kl, dl, -, -, ⟨h1, -⟩, ⟨-, cf, h2, h3⟩, -⟩ := h
  unfold a_isOpen at hQ
  dsimp only at hQ
  unfold wp_S_isOpen
  refine c_isCon hc (fun z => ?_) (fun k e hk => ?_)
  · rw [if_pos (by decide)]
    rw [if_neg (by omega)] at hQ
    exact hQ
  · subst e
    rw [if_neg (by decide)]
    rw [show (k : Int).toNat = k from rfl] at hQ
    obtain ⟨cn, e1, rp, rd, ln, bd, rl, dc, cap, e2, e3⟩ := h3 k hk
    refine wgR.i (x := some ca) h1 rfl (wAO.i h2 hk (by omega) ?_)
    rw [e1]
    refine wgI.i e2 rfl ?_
    cases hb : (S.1 k).1 with
    | true =>
      rw [hb, if_neg (fun z => by cases z.2.2)] at hQ
      exact hQ
    | false =>
      rw [hb, if_pos ⟨by omega, by omega, rfl⟩] at hQ
      exact hQ
theorem c_size {c : Int} (hc : rng c) (h : Inv G A T sv S) (hQ : Q (iI (a_size c S).2) A) : wp_S_size sv (iI c) A Q := by
  obtain ⟨ca, sa, ty, sl, kl, dl, -, -, ⟨h1, -⟩, ⟨-, cf, h2, h3⟩, -⟩ := h
  unfold a_size at hQ
  dsimp only at hQ
  unfold wp_S_size
  refine c_isCon hc (fun z => ?_) (fun k e hk => ?_)
  · rw [if_pos (by decide)]
    rw [if_neg (by omega)] at hQ
    exact hQ
  · subst e
    rw [if_neg (by decide)]
    rw [show (k : Int).toNat = k from rfl, if_pos (by omega)] at hQ
    obtain ⟨cn, e1, rp, rd, ln, bd, rl, dc, cap, e2, e3, e4⟩ := h3 k hk
    refine wgR.i (x := some ca) h1 rfl (wAO.i h2 hk (by omega) ?_)
    rw [e1]
    exact wgR.i (x := some rp) e2 rfl (sb_len e3 hQ)
theorem c_at {c i : Int} (hc : rng c) (hi : rng i) (h : Inv G A T sv S) (hQ : Q (iI (a_at c i S).2) A) : wp_S_at sv (iI c) (iI i) A Q := by
  have hh := h
  obtain ⟨ca, sa, ty, sl, kl, dl, -, -, ⟨h1, -⟩, ⟨-, cf, h2, h3⟩, -⟩ := h
  unfold a_at at hQ
  dsimp only at hQ
  unfold wp_S_at
  obtain ⟨i1, i2⟩ := hi
  by_cases q1 : i < 0
  · rw [if_pos (by simp (disch := omega) only [iI_lit, iI_add, iI_sub, iI_mul, iI_neg, iI_lt, iI_le, iI_eq] <;> omega)]
    rw [if_neg (by omega)] at hQ
    exact hQ
  rw [if_neg (by simp (disch := omega) only [iI_lit, iI_add, iI_sub, iI_mul, iI_neg, iI_lt, iI_le, iI_eq] <;> omega)]
  refine wC.i h1 (c_size hc hh ?_)
  obtain ⟨i, rfl⟩ := Int.eq_ofNat_of_zero_le (show 0 ≤ i by omega)
  unfold a_size at hQ ⊢
  dsimp only at hQ ⊢
  by_cases q2 : 0 ≤ c ∧ c ≤ 2
  · obtain ⟨k, rfl⟩ := Int.eq_ofNat_of_zero_le q2.1
    have hk : k < 3 := by omega
    obtain ⟨cn, e1, rp, rd, ln, bd, rl, dc, cap, e2, e3, e4, e5, -⟩ := h3 k hk
    rw [if_pos q2, show (k : Int).toNat = k from rfl] at hQ ⊢
    rw [show (i : Int).toNat = i from rfl] at hQ
    by_cases q3 : (S.1 k).2.2.length ≤ i
    · rw [if_pos (by simp (disch := omega) only [iI_lit, iI_add, iI_sub, iI_mul, iI_neg, iI_lt, iI_le, iI_eq] <;> omega)]
      rw [if_neg (by omega)] at hQ
      exact hQ
    · rw [if_neg (by simp (disch := omega) only [iI_lit, iI_add, iI_sub, iI_mul, iI_neg, iI_lt, iI_le, iI_eq] <;> omega)]
      rw [if_pos (by omega)] at hQ
      refine wgR.i (x := some ca) h1 rfl (wAO.i h2 hk (by omega) ?_)
      rw [e1]
      exact wgR.i (x := some rp) e2 rfl (sb_get e3 rfl (by omega) hQ)
  · rw [if_neg q2] at hQ ⊢
    rw [if_pos (by simp (disch := omega) only [iI_lit, iI_add, iI_sub, iI_mul, iI_neg, iI_lt, iI_le, iI_eq] <;> omega)]
    rw [if_neg (by omega)] at hQ
    exact hQ
theorem c_journal (h : Inv G A T sv S) (hQ : Q (iI S.2.1.length) A) : wp_S_journal sv A Q := by
  obtain ⟨ca, sa, ty, sl, kl, dl, -, -, ⟨h1, -⟩, -, ⟨-, qs, cap, h2, h3⟩, -⟩ := h
  rw [← h3.1] at hQ
  exact wgR.i (x := some kl) h1 rfl (al_size h2 hQ)
theorem c_served (h : Inv G A T sv S) (hQ : Q (iI S.2.2.1) A) : wp_S_served sv A Q := by
  obtain ⟨ca, sa, ty, sl, kl, dl, -, -, ⟨h1, -⟩, -⟩ := h
  exact wgI.i h1 rfl hQ
theorem c_state {k : Int} (hk : rng k) (h : Inv G A T sv S) (hQ : Q (iI (a_state k S)) A) : wp_S_state sv (iI k) A Q := by
  obtain ⟨ca, sa, ty, sl, kl, dl, -, -, ⟨h1, -⟩, -, -, ⟨-, f, h2, h3⟩, -⟩ := h
  unfold a_state at hQ
  unfold wp_S_state
  refine c_isScn hk (fun z => ?_) (fun j e hj => ?_)
  · rw [if_pos (by decide)]
    rw [if_neg (by omega)] at hQ
    exact hQ
  · subst e
    rw [if_neg (by decide)]
    rw [if_pos (by omega), show (j : Int).toNat = j from rfl, ← (h3 j hj).1] at hQ
    exact wgR.i (x := some sa) h1 rfl (wAI.i h2 (Or.inl rfl) hj (by omega) hQ)
theorem c_isKept {k : Int} (hk : rng k) (h : Inv G A T sv S) (h0 : ¬ (0 ≤ k ∧ k < S.2.1.length) → Q (iI 0) A) (h1 : ∀ j : Nat, k = j → j < S.2.1.length → Q (iI 1) A) : wp_S_isKept sv (iI k) A Q := by
  obtain ⟨ca, sa, ty, sl, kl, dl, -, -, ⟨g1, -⟩, -, ⟨-, qs, cap, g2, g3⟩, -⟩ := h
  have l1 := g3.1
  have l2 := g3.2.1
  obtain ⟨k1, k2⟩ := hk
  unfold wp_S_isKept
  by_cases q1 : k < 0
  · rw [if_pos (by simp (disch := omega) only [iI_lit, iI_add, iI_sub, iI_mul, iI_neg, iI_lt, iI_le, iI_eq] <;> omega)]
    exact h0 (by omega)
  rw [if_neg (by simp (disch := omega) only [iI_lit, iI_add, iI_sub, iI_mul, iI_neg, iI_lt, iI_le, iI_eq] <;> omega)]
  refine wgR.i (x := some kl) g1 rfl (al_size g2 ?_)
  by_cases q2 : S.2.1.length ≤ k
  · rw [if_pos (by simp (disch := omega) only [iI_lit, iI_add, iI_sub, iI_mul, iI_neg, iI_lt, iI_le, iI_eq] <;> omega)]
    exact h0 (by omega)
  rw [if_neg (by simp (disch := omega) only [iI_lit, iI_add, iI_sub, iI_mul, iI_neg, iI_lt, iI_le, iI_eq] <;> omega)]
  obtain ⟨j, rfl⟩ := Int.eq_ofNat_of_zero_le (show 0 ≤ k by omega)
  exact h1 j rfl (by omega)
theorem li_at {α : Type} {L : List α} {j : Nat} (d : α) (h : j < L.length) : L[j]? = some (L.getD j d) := by
  rw [List.getD_eq_getElem?_getD, List.getElem?_eq_getElem h]
  rfl
theorem c_chosen {k : Int} (hk : rng k) (h : Inv G A T sv S) (hQ : Q (iI (a_chosen k S)) A) : wp_S_chosen sv (iI k) A Q := by
  have hh := h
  obtain ⟨ca, sa, ty, sl, kl, dl, -, -, ⟨h1, -⟩, -, ⟨-, qs, cap, h2, h3⟩, -⟩ := h
  unfold a_chosen at hQ
  unfold wp_S_chosen
  refine wC.i h1 (c_isKept hk hh (fun z => ?_) (fun j e hj => ?_))
  · rw [if_pos (by decide)]
    rw [if_neg z] at hQ
    exact hQ
  · subst e
    rw [if_neg (by decide)]
    rw [if_pos (by omega), show (j : Int).toNat = j from rfl] at hQ
    have hj2 : j < qs.length := by rw [h3.1]; exact hj
    refine wgR.i (x := some kl) h1 rfl (al_get h2 rfl hj2 ?_)
    obtain ⟨⟨pl, hl, mp, pp, bp, ys, cp, zs, cz, t1, -⟩, -⟩ := h3.2.2 j _ _ (ls_get hj2) (li_at ([], 0) hj)
    have t1 := (Zf.le A T).e t1
    exact wC.i t1 (wgI.i t1 rfl hQ)
theorem c_nearK {k : Int} (hk : rng k) (h : Inv G A T sv S) (hQ : Q (iI (a_near k S)) A) : wp_S_near sv (iI k) A Q := by
  have hh := h
  obtain ⟨ca, sa, ty, sl, kl, dl, -, -, ⟨h1, -⟩, -, ⟨-, qs, cap, h2, h3⟩, ⟨-, hsa⟩, -, -, hsl⟩ := h
  obtain ⟨bs, cs, s1, s2⟩ := hsl.at
  unfold a_near at hQ
  unfold wp_S_near
  refine wC.i h1 (c_isKept hk hh (fun z => ?_) (fun j e hj => ?_))
  · rw [if_pos (by decide)]
    rw [if_neg z] at hQ
    exact hQ
  · subst e
    rw [if_neg (by decide)]
    rw [if_pos (by omega), show (j : Int).toNat = j from rfl] at hQ
    have hj2 : j < qs.length := by rw [h3.1]; exact hj
    refine wgR.i (x := some kl) h1 rfl (al_get h2 rfl hj2 ?_)
    obtain ⟨hkr, hw⟩ := h3.2.2 j _ _ (ls_get hj2) (li_at ([], 0) hj)
    have hkr := hkr.f0 (Zf.le A T)
    have hk2 := hkr
    obtain ⟨pl, hl, mp, pp, bp, ys, cp, zs, cz, t1, -⟩ := hkr
    refine wC.i t1 (wC.i h1 (c_near h1 rfl rfl hsa s1 s2 hk2 hw (fun z => ?_) (fun x b z hb _ => ?_)))
    · rw [if_pos rfl]
      rw [z] at hQ
      exact hQ
    · rw [if_neg (fun e => by cases e)]
      rw [z] at hQ
      dsimp only at hQ
      obtain ⟨tp, ts, ml, ms, cp, so, e1, e2, e3, e4, e5, e6, e7, e8, e9, e10, e11, e12⟩ := hb
      refine wgI.i e1 rfl (wgR.i (x := some ml) e1 rfl (wgR.i (x := so) e1 rfl (wC.i h1 (c_miss h1 rfl hsa e6 e7 e8 hk2 hw ?_))))
      rw [show (100 : Int32) * iI (sbI x : Int) + iI ((scn S.2.2.2.1 (sbS x) + mss (rqB (S.2.1.getD j ([], 0)).1) (sbM x) : Nat) : Int) = iI (100 * (sbI x : Int) + ((scn S.2.2.2.1 (sbS x) + mss (rqB (S.2.1.getD j ([], 0)).1) (sbM x) : Nat) : Int)) from by rw [show (100 : Int32) = iI 100 from rfl, iI_mul, iI_add]]
      exact hQ
end ASK
