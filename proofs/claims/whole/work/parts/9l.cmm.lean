/-! The class: send -/
section SND
variable {G : ab_H} {sv c cn : Nat} {w : Int32} {Q : Int32 → ab_H → Prop}
theorem arr_b {S : St} {b : Nat} (h8 : ∀ y ∈ (S.1 c).2.1, y < 256) (hb : b < 256) : ∀ y ∈ ((arr S c b).1 c).2.1, y < 256 := by
  unfold arr
  by_cases q : (jd ((S.1 c).2.1 ++ [b])).1 = 0
  · rw [if_pos q]
    show ∀ y ∈ (upC S.1 c ((S.1 c).1, (S.1 c).2.1 ++ [b], (S.1 c).2.2) c).2.1, y < 256
    unfold upC
    rw [if_pos rfl]
    intro y hy
    rcases List.mem_append.mp hy with z | z
    · exact h8 y z
    · rw [List.mem_singleton.mp z]
      exact hb
  rw [if_neg q]
  by_cases q2 : (jd ((S.1 c).2.1 ++ [b])).1 = 1
  · rw [if_pos q2]
    unfold srv
    split
    · show ∀ y ∈ (upC S.1 c _ c).2.1, y < 256
      unfold upC
      rw [if_pos rfl]
      intro y hy
      cases hy
    · show ∀ y ∈ (upC S.1 c _ c).2.1, y < 256
      unfold upC
      rw [if_pos rfl]
      intro y hy
      cases hy
  rw [if_neg q2]
  show ∀ y ∈ (upC S.1 c (true, [], _) c).2.1, y < 256
  unfold upC
  rw [if_pos rfl]
  intro y hy
  cases hy
theorem arr_0 {S : St} {b : Nat} (h : (jd ((S.1 c).2.1 ++ [b])).1 = 0) : ((arr S c b).1 c).2.1 = (S.1 c).2.1 ++ [b] ∧ (arr S c b).2.2.1 = S.2.2.1 := by
  unfold arr
  rw [if_pos h]
  refine ⟨?_, rfl⟩
  show (upC S.1 c ((S.1 c).1, (S.1 c).2.1 ++ [b], (S.1 c).2.2) c).2.1 = _
  unfold upC
  rw [if_pos rfl]
theorem arr_1 {S : St} {b : Nat} (h : (jd ((S.1 c).2.1 ++ [b])).1 = 1) : ((arr S c b).1 c).2.1 = [] ∧ (arr S c b).2.2.1 = S.2.2.1 + 1 := by
  unfold arr
  rw [if_neg (by rw [h]; decide), if_pos h]
  unfold srv
  split
  · refine ⟨?_, rfl⟩
    show (upC S.1 c _ c).2.1 = _
    unfold upC
    rw [if_pos rfl]
  · refine ⟨?_, rfl⟩
    show (upC S.1 c _ c).2.1 = _
    unfold upC
    rw [if_pos rfl]
theorem arr_2 {S : St} {b : Nat} (h : (jd ((S.1 c).2.1 ++ [b])).1 ≠ 0) (h1 : (jd ((S.1 c).2.1 ++ [b])).1 ≠ 1) : ((arr S c b).1 c).1 = true := by
  unfold arr
  rw [if_neg h, if_neg h1]
  show (upC S.1 c (true, [], _) c).1 = true
  unfold upC
  rw [if_pos rfl]
theorem cl_send {n : Nat} (hc : c < 3) (hn : n ≤ 4) {F : St × Nat} (hQ : ∀ B T', Inv G B T' sv F.1 → Q (iI F.2) B) : ∀ (j k d e v : Nat) (A : ab_H) (T : Nat → Nat) (S : St) (kc ks : Nat), k + j = n + 1 → 1 ≤ k → Inv G A T sv S → Cnx A sv c cn → (S.1 c).1 = false → (∀ y ∈ (S.1 c).2.1, y < 256) → S.2.2.1 + j < 9000 → Ds (S.1 c).2.1 d → snl c (bts w j) S (k - 1) = F → (d < j → e = 1) → (4 ≤ (S.1 c).2.1.length + j → v = 1) → 20 * j + 600 * e + 110 * v + 6 ≤ kc → 700 * j + 7000 * e + 2800 * v + 400 ≤ ks → wq_S_send_31 sv (iI c) w (iI n) Q (j + 1) (some cn) (iI k) A kc ks := by
  intro j
  induction j with
  | zero =>
    intro k d e v A T S kc ks hk h1 hI hx ho h8 hsd hd hF he hv b1 b2
    show wb_S_send_31 _ _ _ _ _ _ _ _ _ _ _
    unfold wb_S_send_31
    rw [if_pos (by simp (disch := omega) only [iI_lit, iI_add, iI_sub, iI_mul, iI_neg, iI_lt, iI_le, iI_eq] <;> omega)]
    have hF : (S, k - 1) = F := hF
    subst hF
    have := hQ A T hI
    rw [show (S, k - 1).2 = n from by show k - 1 = n; omega] at this
    exact this
  | succ j ih =>
    intro k d e v A T S kc ks hk h1 hI hx ho h8 hsd hd hF he hv b1 b2
    have hb := byt_r w j
    show wb_S_send_31 _ _ _ _ _ _ _ _ _ _ _
    unfold wb_S_send_31
    rw [if_neg (by simp (disch := omega) only [iI_lit, iI_add, iI_sub, iI_mul, iI_neg, iI_lt, iI_le, iI_eq] <;> omega)]
    unfold wp_S_byteOf
    rw [show iI (n : Int) - iI (k : Int) = iI (j : Int) from (iI_sub _ _).trans (by congr 1; omega), wu_b (k := j) (by omega)]
    have hF2 : (if ((arr S c (byt w j)).1 c).1 = true then (arr S c (byt w j), k - 1 + 1) else snl c (bts w j) (arr S c (byt w j)) (k - 1 + 1)) = F := hF
    rw [show k - 1 + 1 = k by omega] at hF2
    -- how it goes on
    have go : ∀ (E : ab_H) (T' : Nat → Nat) (kc' ks' : Nat), Inv G E T' sv (arr S c (byt w j)) → Cnx E sv c cn → (((arr S c (byt w j)).1 c).1 = false → wq_S_send_31 sv (iI c) w (iI n) Q (j + 1) (some cn) (iI ((k + 1 : Nat) : Int)) E kc' ks') → wq_S_send_82 sv (iI c) w (iI n) Q (wq_S_send_31 sv (iI c) w (iI n) Q (j + 1)) (some cn) (iI k) E kc' ks' := fun E T' kc' ks' w1 w2 w3 => by
      unfold wq_S_send_82
      obtain ⟨rp, rd, ln, bd, rl, dc, cap, e1, -⟩ := w1.cnat w2 hc
      refine wgI.i e1 rfl ?_
      cases hz : ((arr S c (byt w j)).1 c).1 with
      | true =>
        rw [if_pos (by decide)]
        rw [if_pos hz] at hF2
        subst hF2
        exact hQ E T' w1
      | false =>
        rw [if_neg (by decide), show iI (k : Int) + 1 = iI ((k + 1 : Nat) : Int) from iI_add _ 1]
        exact w3 hz
    have h8' := arr_b (S := S) (b := byt w j) h8 hb
    have hnc : ((arr S c (byt w j)).1 c).1 = false → snl c (bts w j) (arr S c (byt w j)) (k + 1 - 1) = F := fun hz => by
      rw [if_neg (by rw [hz]; decide)] at hF2
      exact hF2
    have hl1 : ∀ hj : (jd ((S.1 c).2.1 ++ [byt w j])).1 = 1, 4 ≤ (S.1 c).2.1.length + 1 := fun hj => by
      have := jd_1 hj
      rw [List.length_append] at this
      simp at this
      omega
    by_cases hq : exq (S.1 c).2.1 (byt w j)
    · have hd0 : d = 0 := by
        cases d with
        | zero => rfl
        | succ d => exact absurd hq hd.no
      have he1 := he (by omega)
      have hne := Ds.sx hq
      refine c_step (kt := 620) (st := 7700) hc hI hx ho h8 (by omega) hb (by omega) (by omega) (fun _ => ⟨by omega, by omega⟩) (fun z => absurd z hne) (by omega) (by omega) (fun E T' kc' ks' w1 w2 w3 w4 => go E T' kc' ks' w1 w2 (fun hz => ?_))
      by_cases hj : (jd ((S.1 c).2.1 ++ [byt w j])).1 = 0
      · obtain ⟨a1, a2⟩ := arr_0 hj
        obtain ⟨y1, y2⟩ := w3 hj
        refine ih (k + 1) 3 0 v E T' _ kc' ks' (by omega) (by omega) w1 w2 hz h8' (by omega) (by rw [a1]; exact Ds.ex hq) (hnc hz) (fun z => by omega) (fun z => hv (by rw [a1, List.length_append] at z; simp at z; omega)) (by omega) (by omega)
      · rw [arr_2 hj hne] at hz
        cases hz
    · refine c_step (kt := 20) (st := 700) hc hI hx ho h8 (by omega) hb (by omega) (by omega) (fun z => absurd z hq) (fun z => by have := hv (by have := hl1 z; omega); exact ⟨by omega, by omega⟩) (by omega) (by omega) (fun E T' kc' ks' w1 w2 w3 w4 => go E T' kc' ks' w1 w2 (fun hz => ?_))
      by_cases hj : (jd ((S.1 c).2.1 ++ [byt w j])).1 = 0
      · obtain ⟨a1, a2⟩ := arr_0 hj
        obtain ⟨y1, y2⟩ := w3 hj
        refine ih (k + 1) (d - 1) e v E T' _ kc' ks' (by omega) (by omega) w1 w2 hz h8' (by omega) ?_ (hnc hz) (fun z => he (by omega)) (fun z => hv (by rw [a1, List.length_append] at z; simp at z; omega)) (by omega) (by omega)
        rw [a1]
        cases d with
        | zero => exact Or.inl rfl
        | succ d => exact hd.st
      · by_cases hj1 : (jd ((S.1 c).2.1 ++ [byt w j])).1 = 1
        · obtain ⟨a1, a2⟩ := arr_1 hj1
          obtain ⟨y1, y2⟩ := w4 hj1
          have hv1 := hv (by have := hl1 hj1; omega)
          refine ih (k + 1) (d - 1) e 0 E T' _ kc' ks' (by omega) (by omega) w1 w2 hz h8' (by omega) ?_ (hnc hz) (fun z => he (by omega)) (fun z => by rw [a1] at z; simp at z; omega) (by omega) (by omega)
          rw [a1]
          cases d with
          | zero => exact Or.inl rfl
          | succ d => exact hd.sv hj1
        · rw [arr_2 hj hj1] at hz
          cases hz
theorem c_send {A : ab_H} {T : Nat → Nat} {S : St} {c n : Int} {kc ks : Nat} (hc : rng c) (hn : rng n) (h : Inv G A T sv S) (h8 : ∀ d, d < 3 → ∀ y ∈ (S.1 d).2.1, y < 256) (hsd : S.2.2.1 < 8900) (k1 : 796 ≤ kc) (k2 : 13000 ≤ ks) (hQ : ∀ B T', Inv G B T' sv (a_send c w n S).1 → Q (iI (a_send c w n S).2) B) : wp_S_send sv (iI c) w (iI n) A kc ks Q := by
  have hh := h
  obtain ⟨ca, sa, ty, sl, kl, dl, i1, i2, ⟨v1, tv⟩, ⟨tc, cf, g1, g2⟩, -⟩ := h
  obtain ⟨n1, n2⟩ := hn
  unfold a_send at hQ
  have no : ¬ (0 ≤ c ∧ c ≤ 2 ∧ 1 ≤ n ∧ n ≤ 4 ∧ (S.1 c.toNat).1 = false) → Q (iI (-1)) A := fun z => by
    rw [if_neg z] at hQ
    exact hQ A T hh
  unfold wp_S_send
  refine wC.i v1 (c_isOpen hc hh ?_)
  unfold a_isOpen
  dsimp only
  by_cases q0 : 0 ≤ c ∧ c ≤ 2 ∧ (S.1 c.toNat).1 = false
  · rw [if_pos q0, if_neg (by decide)]
    by_cases q1 : n < 1
    · rw [if_pos (by simp (disch := omega) only [iI_lit, iI_add, iI_sub, iI_mul, iI_neg, iI_lt, iI_le, iI_eq] <;> omega)]
      exact no (by omega)
    rw [if_neg (by simp (disch := omega) only [iI_lit, iI_add, iI_sub, iI_mul, iI_neg, iI_lt, iI_le, iI_eq] <;> omega)]
    by_cases q2 : n ≤ 4
    · rw [if_pos (by simp (disch := omega) only [iI_lit, iI_add, iI_sub, iI_mul, iI_neg, iI_lt, iI_le, iI_eq] <;> omega)]
      obtain ⟨k, rfl⟩ := Int.eq_ofNat_of_zero_le q0.1
      obtain ⟨m, rfl⟩ := Int.eq_ofNat_of_zero_le (show 0 ≤ n by omega)
      rw [show (k : Int).toNat = k from rfl] at *
      rw [show (m : Int).toNat = m from rfl] at *
      rw [if_pos ⟨by omega, by omega, by omega, by omega, q0.2.2⟩] at hQ
      have hk : k < 3 := by omega
      obtain ⟨cn, e1, e2⟩ := g2 k hk
      refine wgR.i (x := some ca) v1 rfl (wAO.i g1 hk (by omega) ?_)
      rw [e1]
      exact ⟨_, cl_send (n := m) hk (by omega) hQ m 1 0 1 1 A T S kc ks (by omega) (by omega) hh ⟨ca, sa, ty, sl, kl, dl, _, _, cf, v1, g1, e1⟩ q0.2.2 (h8 k hk) (by omega) (Or.inl rfl) rfl (fun _ => rfl) (fun _ => rfl) (by omega) (by omega)⟩
    · rw [if_neg (by simp (disch := omega) only [iI_lit, iI_add, iI_sub, iI_mul, iI_neg, iI_lt, iI_le, iI_eq] <;> omega)]
      exact no (by omega)
  · rw [if_neg q0, if_pos (by decide)]
    exact no (fun z => q0 ⟨z.1, z.2.1, z.2.2.2.2⟩)
end SND
