/-! The reference: scene, remove, reset, count, near and the rest -/
def a_has (id : Int) (S : St) : Prop := ∃ x ∈ S.2.2.2.2.2.2.1, (sbI x : Int) = id
def a_cok (id k n g : Int) (S : St) : Prop := a_has id S ∧ 0 ≤ k ∧ k ≤ 2 ∧ 0 ≤ n ∧ n ≤ 3 ∧ 0 ≤ g ∧ g ≤ 3
def sbsc (y : Nat × Nat × Nat) (x : Sb) : Sb := (x.1, x.2.1, x.2.2.1, x.2.2.2.1, x.2.2.2.2.1, some y)
def a_cS (id k n g : Int) (S : St) : St := (S.1, S.2.1, S.2.2.1, S.2.2.2.1, S.2.2.2.2.1, S.2.2.2.2.2.1, S.2.2.2.2.2.2.1.map (fun x => if (sbI x : Int) = id then sbsc (k.toNat, n.toNat, g.toNat) x else x), S.2.2.2.2.2.2.2)
def a_rS (id : Int) (S : St) : St := (S.1, S.2.1, S.2.2.1, S.2.2.2.1, S.2.2.2.2.1, S.2.2.2.2.2.1, S.2.2.2.2.2.2.1.filter (fun x => decide ((sbI x : Int) ≠ id)), S.2.2.2.2.2.2.2)
def a_zS (S : St) : St := (S.1, [], S.2.2.1, (fun _ => 0), S.2.2.2.2)
def a_cnt (S : St) : Nat := S.2.1.countP (fun y => S.2.2.2.2.2.1.all (fun m => hld (rqB y.1) m))
def a_nS (S : St) : St := (S.1, S.2.1, S.2.2.1, S.2.2.2.1, S.2.2.2.2.1, [], S.2.2.2.2.2.2)
def a_chosen (k : Int) (S : St) : Int := if 0 ≤ k ∧ k < S.2.1.length then (S.2.1.getD k.toNat ([], 0)).2 else -2
def a_near (k : Int) (S : St) : Int := if 0 ≤ k ∧ k < S.2.1.length then (match nr (rqB (S.2.1.getD k.toNat ([], 0)).1) S.2.2.2.1 S.2.2.2.2.2.2.1 with
  | none => -1
  | some x => 100 * (sbI x : Int) + (miss (rqB (S.2.1.getD k.toNat ([], 0)).1) S.2.2.2.1 x : Int)) else -1
def a_state (k : Int) (S : St) : Int := if 0 ≤ k ∧ k ≤ 2 then (S.2.2.2.1 k.toNat : Int) else -1
section RE
variable {s0 : RS} {S : St} {Q : Int32 → RS → Prop}
/-- everything but the stubs -/
theorem sl_placeOf {id : Int} {PL : List (Nat × Sb)} (hi : rng id) (hP : Sbs s0 PL) (hQ0 : (∀ z ∈ PL, (sbI z.2 : Int) ≠ id) → Q (iI (-1)) s0) (hQ1 : ∀ z ∈ PL, (sbI z.2 : Int) = id → Q (iI z.1) s0) : ∀ (j k : Nat) (o : Option (Nat × Sb)), k + j = 8 → (match o with
    | none => ∀ z ∈ PL, z.1 < k → (sbI z.2 : Int) ≠ id
    | some z => z ∈ PL ∧ (sbI z.2 : Int) = id) → vq_M_placeOf_4 (iI id) Q (j + 1) (iI (plI o)) (iI k) s0 := by
  obtain ⟨i1, i2⟩ := hi
  intro j
  induction j with
  | zero =>
    intro k o hk ho
    show vb_M_placeOf_4 _ _ _ _ _ _
    unfold vb_M_placeOf_4
    rw [if_pos (by simp (disch := omega) only [iI_lit, iI_add, iI_sub, iI_mul, iI_neg, iI_lt, iI_le, iI_eq] <;> omega)]
    cases o with
    | none => exact hQ0 (fun z hz => ho z hz (by have := (hP.1 z hz).1; omega))
    | some z => exact hQ1 z ho.1 ho.2
  | succ j ih =>
    intro k o hk ho
    show vb_M_placeOf_4 _ _ _ _ _ _
    unfold vb_M_placeOf_4
    rw [if_neg (by simp (disch := omega) only [iI_lit, iI_add, iI_sub, iI_mul, iI_neg, iI_lt, iI_le, iI_eq] <;> omega), show iI (k : Int) + 1 = iI ((k + 1 : Nat) : Int) from iI_add _ 1]
    have skip : (∀ z ∈ PL, z.1 = k → (sbI z.2 : Int) ≠ id) → vq_M_placeOf_4 (iI id) Q (j + 1) (iI (plI o)) (iI ((k + 1 : Nat) : Int)) s0 := fun hs => by
      refine ih (k + 1) o (by omega) ?_
      cases o with
      | none =>
        intro z hz hl
        by_cases q : z.1 = k
        · exact hs z hz q
        · exact ho z hz (by omega)
      | some z => exact ho
    by_cases q1 : id < 0
    · rw [if_pos (by simp (disch := omega) only [iI_lit, iI_add, iI_sub, iI_mul, iI_neg, iI_lt, iI_le, iI_eq] <;> omega)]
      exact skip (fun z _ _ e => by omega)
    rw [if_neg (by simp (disch := omega) only [iI_lit, iI_add, iI_sub, iI_mul, iI_neg, iI_lt, iI_le, iI_eq] <;> omega)]
    by_cases q : ∃ z ∈ PL, z.1 = k
    · obtain ⟨z, hz, hzk⟩ := q
      have hz' := hP.1 z hz
      rw [hzk] at hz'
      have hi := hz'.2.1.1
      refine row8 rfl hz'.1 hz'.2.1.2 ?_
      by_cases q2 : (sbI z.2 : Int) = id
      · rw [if_pos (by simp (disch := omega) only [iI_lit, iI_add, iI_sub, iI_mul, iI_neg, iI_lt, iI_le, iI_eq] <;> omega)]
        have := ih (k + 1) (some z) (by omega) ⟨hz, q2⟩
        rw [show plI (some z) = (z.1 : Int) from rfl, hzk] at this
        exact this
      · rw [if_neg (by simp (disch := omega) only [iI_lit, iI_add, iI_sub, iI_mul, iI_neg, iI_lt, iI_le, iI_eq] <;> omega)]
        exact skip (fun y hy he e => by
          have := hP.2.2.1 y hy z hz (by omega)
          rw [this] at e
          exact q2 e)
    · refine row8 rfl (by omega) (hP.2.2.2.2.1 k (by omega) (fun z hz h => q ⟨z, hz, h⟩)) ?_
      rw [if_neg (by simp (disch := omega) only [iI_lit, iI_add, iI_sub, iI_mul, iI_neg, iI_lt, iI_le, iI_eq] <;> omega)]
      exact skip (fun z hz h => absurd ⟨z, hz, h⟩ q)
theorem sm_placeOf {id : Int} {PL : List (Nat × Sb)} (hi : rng id) (hP : Sbs s0 PL) (hQ0 : (∀ z ∈ PL, (sbI z.2 : Int) ≠ id) → Q (iI (-1)) s0) (hQ1 : ∀ z ∈ PL, (sbI z.2 : Int) = id → Q (iI z.1) s0) : vp_M_placeOf (iI id) s0 Q :=
  ⟨9, sl_placeOf hi hP hQ0 hQ1 8 0 none (by omega) (fun z _ h => absurd h (by omega))⟩
theorem srt_map {L : List Sb} {f : Sb → Sb} (h : srt L) (hf : ∀ x, sbI (f x) = sbI x) : srt (L.map f) := by
  unfold srt at *
  rw [List.pairwise_map]
  exact h.imp (fun {a b} hab => by rw [hf, hf]; exact hab)
theorem sm_scene {id k n g : Int} (hi : rng id) (hk : rng k) (hn : rng n) (hg : rng g) (h : Rl s0 S) (h0 : ¬ a_cok id k n g S → ∀ s', Rl s' S → Q (iI 0) s') (h1 : a_cok id k n g S → ∀ s', Rl s' (a_cS id k n g S) → Q (iI 1) s') : vp_M_scene (iI id) (iI k) (iI n) (iI g) s0 Q := by
  obtain ⟨k1, k2⟩ := hk
  obtain ⟨n1, n2⟩ := hn
  obtain ⟨g1, g2⟩ := hg
  have hh := h
  obtain ⟨r1, r2, r3, r4, r5⟩ := h
  obtain ⟨a, b, ⟨PL, hL, hP⟩, d, e⟩ := r5
  unfold vp_M_scene
  refine sm_placeOf hi hP (fun z => ?_) (fun z hz hid => ?_)
  · rw [if_pos (by decide)]
    refine h0 (fun y => ?_) s0 hh
    obtain ⟨x, hx, hxi⟩ := y.1
    rw [hL] at hx
    obtain ⟨v, hv, rfl⟩ := List.mem_map.mp hx
    exact z v hv hxi
  · have hz8 := (hP.1 z hz).1
    rw [if_neg (by simp (disch := omega) only [iI_lit, iI_add, iI_sub, iI_mul, iI_neg, iI_lt, iI_le, iI_eq] <;> omega)]
    by_cases q1 : k < 0
    · rw [if_pos (by simp (disch := omega) only [iI_lit, iI_add, iI_sub, iI_mul, iI_neg, iI_lt, iI_le, iI_eq] <;> omega)]
      exact h0 (fun z => by have := z.2.1; omega) s0 hh
    rw [if_neg (by simp (disch := omega) only [iI_lit, iI_add, iI_sub, iI_mul, iI_neg, iI_lt, iI_le, iI_eq] <;> omega)]
    by_cases q2 : 2 < k
    · rw [if_pos (by simp (disch := omega) only [iI_lit, iI_add, iI_sub, iI_mul, iI_neg, iI_lt, iI_le, iI_eq] <;> omega)]
      exact h0 (fun z => by have := z.2.2.1; omega) s0 hh
    rw [if_neg (by simp (disch := omega) only [iI_lit, iI_add, iI_sub, iI_mul, iI_neg, iI_lt, iI_le, iI_eq] <;> omega)]
    by_cases q3 : n < 0
    · rw [if_pos (by simp (disch := omega) only [iI_lit, iI_add, iI_sub, iI_mul, iI_neg, iI_lt, iI_le, iI_eq] <;> omega)]
      exact h0 (fun z => by have := z.2.2.2.1; omega) s0 hh
    rw [if_neg (by simp (disch := omega) only [iI_lit, iI_add, iI_sub, iI_mul, iI_neg, iI_lt, iI_le, iI_eq] <;> omega)]
    by_cases q4 : 3 < n
    · rw [if_pos (by simp (disch := omega) only [iI_lit, iI_add, iI_sub, iI_mul, iI_neg, iI_lt, iI_le, iI_eq] <;> omega)]
      exact h0 (fun z => by have := z.2.2.2.2.1; omega) s0 hh
    rw [if_neg (by simp (disch := omega) only [iI_lit, iI_add, iI_sub, iI_mul, iI_neg, iI_lt, iI_le, iI_eq] <;> omega)]
    by_cases q5 : g < 0
    · rw [if_pos (by simp (disch := omega) only [iI_lit, iI_add, iI_sub, iI_mul, iI_neg, iI_lt, iI_le, iI_eq] <;> omega)]
      exact h0 (fun z => by have := z.2.2.2.2.2.1; omega) s0 hh
    rw [if_neg (by simp (disch := omega) only [iI_lit, iI_add, iI_sub, iI_mul, iI_neg, iI_lt, iI_le, iI_eq] <;> omega)]
    by_cases q6 : g ≤ 3
    · rw [if_pos (by simp (disch := omega) only [iI_lit, iI_add, iI_sub, iI_mul, iI_neg, iI_lt, iI_le, iI_eq] <;> omega)]
      have h1 := h1 ⟨⟨z.2, by rw [hL]; exact List.mem_map_of_mem hz, hid⟩, by omega, by omega, by omega, by omega, by omega, q6⟩
      obtain ⟨k', rfl⟩ : ∃ x : Nat, k = x := ⟨k.toNat, by omega⟩
      obtain ⟨n', rfl⟩ : ∃ x : Nat, n = x := ⟨n.toNat, by omega⟩
      obtain ⟨g', rfl⟩ : ∃ x : Nat, g = x := ⟨g.toNat, by omega⟩
      refine wr8 rfl hz8 (wr8 rfl hz8 (wr8 rfl hz8 ?_))
      have hC : Ch [] [24, 25, 26] s0 (sR (sR (sR s0 24 z.1 (iI k')) 25 z.1 (iI n')) 26 z.1 (iI g')) := (((Ch.rf s0).r (by decide)).r (by decide)).r (by decide)
      have e24 : ∀ x, (sR (sR (sR s0 24 z.1 (iI k')) 25 z.1 (iI n')) 26 z.1 (iI g')).2 24 x = upd (s0.2 24) z.1 (iI k') x := fun x => by rw [sR_ne (by decide), sR_ne (by decide), sR_at]
      have e25 : ∀ x, (sR (sR (sR s0 24 z.1 (iI k')) 25 z.1 (iI n')) 26 z.1 (iI g')).2 25 x = upd (s0.2 25) z.1 (iI n') x := fun x => by rw [sR_ne (by decide), sR_at, sR_ne (by decide)]
      have e26 : ∀ x, (sR (sR (sR s0 24 z.1 (iI k')) 25 z.1 (iI n')) 26 z.1 (iI g')).2 26 x = upd (s0.2 26) z.1 (iI g') x := fun x => by rw [sR_at, sR_ne (by decide), sR_ne (by decide)]
      generalize sR (sR (sR s0 24 z.1 (iI k')) 25 z.1 (iI n')) 26 z.1 (iI g') = t at *
      have cf : ∀ x : Sb, sbI (if (sbI x : Int) = id then sbsc (k', n', g') x else x) = sbI x := fun x => by
        split <;> rfl
      obtain ⟨t1, t2, t3, t4, t5, t6⟩ := hP
      refine h1 t ⟨fun c hc => hC.rc (r1 c hc) (by decide), ⟨hC.jo r2.1 (by decide) (by decide) (by decide) (by decide), r2.2⟩, by rw [hC.1 7 (by decide)]; exact r3, hC.sc r4 (by decide), ⟨a.1, by rw [hC.1 10 (by decide)]; exact a.2.1, fun j hj => by rw [hC.2 9 (by decide)]; exact a.2.2 j hj⟩, ⟨b.1, by rw [hC.1 16 (by decide)]; exact b.2.1, fun k x hx => hC.mr (b.2.2 k x hx) (by decide)⟩, ⟨PL.map (fun y => (y.1, if (sbI y.2 : Int) = id then sbsc (k', n', g') y.2 else y.2)), ?_, ?_, ?_, ?_, ?_, ?_, ?_⟩, by rw [hC.1 17 (by decide)]; exact d, ?_⟩
      · unfold a_cS
        dsimp only
        rw [hL, List.map_map, List.map_map]
        rfl
      · intro y hy
        obtain ⟨v, hv, rfl⟩ := List.mem_map.mp hy
        dsimp only
        by_cases q : (sbI v.2 : Int) = id
        · rw [if_pos q]
          have : v = z := t4 v hv z hz (by omega)
          rw [this]
          obtain ⟨b1, b2, b3, b4, b5, b6, b7, b8⟩ := t1 z hz
          refine ⟨b1, ⟨b2.1, by rw [hC.2 18 (by decide)]; exact b2.2⟩, ⟨b3.1, by rw [hC.2 19 (by decide)]; exact b3.2⟩, ⟨b4.1, b4.2.1, by rw [hC.2 20 (by decide)]; exact b4.2.2⟩, ⟨b5.1, by rw [hC.2 21 (by decide)]; exact b5.2⟩, fun i m hm => hC.mr (b6 i m hm) (by decide), hC.tp b7 (by decide), ?_⟩
          show k' < 3 ∧ n' ≤ 3 ∧ g' ≤ 3 ∧ t.2 24 z.1 = iI k' ∧ t.2 25 z.1 = iI n' ∧ t.2 26 z.1 = iI g'
          rw [e24, e25, e26, pk_us, pk_us, pk_us]
          exact ⟨by omega, by omega, by omega, rfl, rfl, rfl⟩
        · rw [if_neg q]
          have hv1 : v.1 ≠ z.1 := fun e => q (by rw [t3 v hv z hz e]; exact hid)
          refine (t1 v hv).eq (fun r hr => ?_) (fun j _ => by rw [hC.2 22 (by decide)]) (fun i m _ hm => hC.mr hm (by decide))
          simp only [List.mem_cons, List.not_mem_nil, or_false] at hr
          rcases hr with rfl | rfl | rfl | rfl | rfl | rfl | rfl | rfl
          · rw [hC.2 18 (by decide)]
          · rw [hC.2 19 (by decide)]
          · rw [hC.2 20 (by decide)]
          · rw [hC.2 21 (by decide)]
          · rw [hC.2 23 (by decide)]
          · rw [e24, pk_un hv1]
          · rw [e25, pk_un hv1]
          · rw [e26, pk_un hv1]
      · rw [List.map_map]
        exact t2
      · intro x hx y hy he
        obtain ⟨u, hu, rfl⟩ := List.mem_map.mp hx
        obtain ⟨v, hv, rfl⟩ := List.mem_map.mp hy
        rw [t3 u hu v hv he]
      · intro x hx y hy he
        obtain ⟨u, hu, rfl⟩ := List.mem_map.mp hx
        obtain ⟨v, hv, rfl⟩ := List.mem_map.mp hy
        dsimp only at he
        rw [cf, cf] at he
        rw [t4 u hu v hv he]
      · intro x hx hy
        rw [hC.2 18 (by decide)]
        exact t5 x hx (fun v hv => by
          have := hy _ (List.mem_map.mpr ⟨v, hv, rfl⟩)
          exact this)
      · rw [List.map_map]
        have := srt_map t6 cf
        rw [List.map_map] at this
        exact this
      · intro x hx
        unfold a_cS at hx ⊢
        dsimp only at hx ⊢
        obtain ⟨y, hy, rfl⟩ := List.mem_map.mp hx
        rw [show ((k' : Int).toNat, (n' : Int).toNat, (g' : Int).toNat) = (k', n', g') from rfl, cf]
        exact e y hy
    · rw [if_neg (by simp (disch := omega) only [iI_lit, iI_add, iI_sub, iI_mul, iI_neg, iI_lt, iI_le, iI_eq] <;> omega)]
      exact h0 (fun z => by have := z.2.2.2.2.2.2; omega) s0 hh
theorem sm_remove {id : Int} (hi : rng id) (h : Rl s0 S) (h0 : ¬ a_has id S → ∀ s', Rl s' S → Q (iI 0) s') (h1 : a_has id S → ∀ s', Rl s' (a_rS id S) → Q (iI 1) s') : vp_M_remove (iI id) s0 Q := by
  have hh := h
  obtain ⟨r1, r2, r3, r4, r5⟩ := h
  obtain ⟨a, b, ⟨PL, hL, hP⟩, d, e⟩ := r5
  unfold vp_M_remove
  refine sm_placeOf hi hP (fun z => ?_) (fun z hz hid => ?_)
  · rw [if_neg (by decide)]
    refine h0 (fun y => ?_) s0 hh
    obtain ⟨x, hx, hxi⟩ := y
    rw [hL] at hx
    obtain ⟨v, hv, rfl⟩ := List.mem_map.mp hx
    exact z v hv hxi
  · have hz8 := (hP.1 z hz).1
    rw [if_pos (by simp (disch := omega) only [iI_lit, iI_add, iI_sub, iI_mul, iI_neg, iI_lt, iI_le, iI_eq] <;> omega)]
    have h1 := h1 ⟨z.2, by rw [hL]; exact List.mem_map_of_mem hz, hid⟩
    refine wr8 rfl hz8 ?_
    have hC : Ch [] [18] s0 (sR s0 18 z.1 (-1)) := (Ch.rf s0).r (by decide)
    have e18 : ∀ x, (sR s0 18 z.1 (-1)).2 18 x = upd (s0.2 18) z.1 (-1) x := fun x => by rw [sR_at]
    generalize sR s0 18 z.1 (-1) = t at *
    obtain ⟨t1, t2, t3, t4, t5, t6⟩ := hP
    have mf : ∀ v, v ∈ PL.filter (fun y => decide ((sbI y.2 : Int) ≠ id)) ↔ v ∈ PL ∧ (sbI v.2 : Int) ≠ id := fun v => by simp
    refine h1 t ⟨fun c hc => hC.rc (r1 c hc) (by decide), ⟨hC.jo r2.1 (by decide) (by decide) (by decide) (by decide), r2.2⟩, by rw [hC.1 7 (by decide)]; exact r3, hC.sc r4 (by decide), ⟨a.1, by rw [hC.1 10 (by decide)]; exact a.2.1, fun j hj => by rw [hC.2 9 (by decide)]; exact a.2.2 j hj⟩, ⟨b.1, by rw [hC.1 16 (by decide)]; exact b.2.1, fun k x hx => hC.mr (b.2.2 k x hx) (by decide)⟩, ⟨PL.filter (fun y => decide ((sbI y.2 : Int) ≠ id)), ?_, ?_, ?_, ?_, ?_, ?_, ?_⟩, by rw [hC.1 17 (by decide)]; exact d, ?_⟩
    · unfold a_rS
      dsimp only
      rw [hL, List.filter_map]
      rfl
    · intro v hv
      obtain ⟨v1, v2⟩ := (mf v).mp hv
      have hv1 : v.1 ≠ z.1 := fun e => v2 (by rw [t3 v v1 z hz e]; exact hid)
      refine (t1 v v1).eq (fun r hr => ?_) (fun j _ => by rw [hC.2 22 (by decide)]) (fun i m _ hm => hC.mr hm (by decide))
      simp only [List.mem_cons, List.not_mem_nil, or_false] at hr
      rcases hr with rfl | rfl | rfl | rfl | rfl | rfl | rfl | rfl
      · rw [e18, pk_un hv1]
      · rw [hC.2 19 (by decide)]
      · rw [hC.2 20 (by decide)]
      · rw [hC.2 21 (by decide)]
      · rw [hC.2 23 (by decide)]
      · rw [hC.2 24 (by decide)]
      · rw [hC.2 25 (by decide)]
      · rw [hC.2 26 (by decide)]
    · exact List.Nodup.sublist (List.Sublist.map _ List.filter_sublist) t2
    · exact fun x hx y hy he => t3 x ((mf x).mp hx).1 y ((mf y).mp hy).1 he
    · exact fun x hx y hy he => t4 x ((mf x).mp hx).1 y ((mf y).mp hy).1 he
    · intro k hk hy
      rw [e18]
      by_cases q : k = z.1
      · rw [q, pk_us]
        rfl
      · rw [pk_un q]
        refine t5 k hk (fun v hv he => ?_)
        by_cases w : (sbI v.2 : Int) = id
        · have : v = z := t4 v hv z hz (by omega)
          rw [this] at he
          exact q he.symm
        · exact hy v ((mf v).mpr ⟨hv, w⟩) he
    · exact List.Pairwise.sublist (List.Sublist.map _ List.filter_sublist) t6
    · intro x hx
      unfold a_rS at hx
      dsimp only at hx
      exact e x (List.mem_filter.mp hx).1
theorem sl_reset {u1 : Int32} : ∀ (j k : Nat) (s : RS), k + j = 3 → (∀ i, i < k → s.2 8 i = 0) → (∀ s', Ch [] [8] s s' → (∀ i, i < 3 → s'.2 8 i = 0) → Q u1 s') → vq_M_reset_12 Q (j + 1) u1 (iI k) s := by
  intro j
  induction j with
  | zero =>
    intro k s hk hi hQ
    show vb_M_reset_12 _ _ _ _ _
    unfold vb_M_reset_12
    rw [if_pos (by simp (disch := omega) only [iI_lit, iI_add, iI_sub, iI_mul, iI_neg, iI_lt, iI_le, iI_eq] <;> omega)]
    exact hQ s (Ch.rf _) (fun i h => hi i (by omega))
  | succ j ih =>
    intro k s hk hi hQ
    show vb_M_reset_12 _ _ _ _ _
    unfold vb_M_reset_12
    rw [if_neg (by simp (disch := omega) only [iI_lit, iI_add, iI_sub, iI_mul, iI_neg, iI_lt, iI_le, iI_eq] <;> omega)]
    refine vS_i (by omega) (show (k : Int) < (3 : Nat) by omega) (by decide) ?_
    rw [show (k : Int).toNat = k from rfl, show iI (k : Int) + 1 = iI ((k + 1 : Nat) : Int) from iI_add _ 1]
    refine ih (k + 1) _ (by omega) (fun i h => ?_) (fun s' a b => hQ s' (((Ch.rf s).r (by decide)).tr a) b)
    rw [sR_at]
    show upd (s.2 8) k 0 i = 0
    by_cases q : i = k
    · subst q
      rw [pk_us]
    · rw [pk_un q]
      exact hi i (by omega)
theorem sm_reset (h : Rl s0 S) (hQ : ∀ s', Rl s' (a_zS S) → Q (iI S.2.1.length) s') : vp_M_reset s0 Q := by
  obtain ⟨r1, r2, r3, r4, r5⟩ := h
  unfold vp_M_reset
  refine wL.i ?_
  rw [r2.1.2.1]
  refine vP.i ⟨_, sl_reset 3 0 _ (by omega) (fun i hi => absurd hi (by omega)) (fun s' a b => ?_)⟩
  have hC : Ch [5] [8] s0 s' := ((Ch.rf s0).i (by decide)).tr (a.mo (by decide) (by decide))
  refine hQ s' ⟨fun c hc => hC.rc (r1 c hc) (by decide), ⟨⟨by simp [a_zS], ?_, fun q y hy => by simp [a_zS] at hy⟩, fun y hy => by simp [a_zS] at hy⟩, by rw [hC.1 7 (by decide)]; exact r3, fun k hk => ⟨by simp [a_zS], b k hk⟩, hC.rt r5 (by decide) (by decide)⟩
  rw [a.1 5 (by decide), sI_at]
  rfl
theorem sm_journal (hQ : Q (iI S.2.1.length) s0) (h : Rl s0 S) : vp_M_journal s0 Q := by
  unfold vp_M_journal
  refine wL.i ?_
  rw [h.2.1.1.2.1]
  exact hQ
theorem sm_served (hQ : Q (iI S.2.2.1) s0) (h : Rl s0 S) : vp_M_served s0 Q := by
  unfold vp_M_served
  refine wL.i ?_
  rw [h.2.2.1]
  exact hQ
theorem sm_state {k : Int} (hk : rng k) (h : Rl s0 S) (hQ : Q (iI (a_state k S)) s0) : vp_M_state (iI k) s0 Q := by
  obtain ⟨k1, k2⟩ := hk
  unfold vp_M_state
  unfold a_state at hQ
  by_cases q1 : k < 0
  · rw [if_pos (by simp (disch := omega) only [iI_lit, iI_add, iI_sub, iI_mul, iI_neg, iI_lt, iI_le, iI_eq] <;> omega)]
    rw [if_neg (by omega)] at hQ
    exact hQ
  rw [if_neg (by simp (disch := omega) only [iI_lit, iI_add, iI_sub, iI_mul, iI_neg, iI_lt, iI_le, iI_eq] <;> omega)]
  by_cases q2 : k ≤ 2
  · rw [if_pos (by simp (disch := omega) only [iI_lit, iI_add, iI_sub, iI_mul, iI_neg, iI_lt, iI_le, iI_eq] <;> omega)]
    rw [if_pos (by omega)] at hQ
    obtain ⟨d, rfl⟩ : ∃ d : Nat, k = d := ⟨k.toNat, by omega⟩
    refine vA_i (by omega) (show (d : Int) < (3 : Nat) by omega) (by decide) ?_
    rw [show (d : Int).toNat = d from rfl, (h.2.2.2.1 d (by omega)).2]
    exact hQ
  · rw [if_neg (by simp (disch := omega) only [iI_lit, iI_add, iI_sub, iI_mul, iI_neg, iI_lt, iI_le, iI_eq] <;> omega)]
    rw [if_neg (by omega)] at hQ
    exact hQ
theorem ls_ge {J : List Jn} {k : Nat} (hk : k < J.length) : J[k]? = some (J.getD k ([], 0)) := by
  rw [List.getElem?_eq_getElem hk]
  simp [List.getD_eq_getElem?_getD, hk]
theorem sm_chosen {k : Int} (hk : rng k) (h : Rl s0 S) (hQ : Q (iI (a_chosen k S)) s0) : vp_M_chosen (iI k) s0 Q := by
  obtain ⟨k1, k2⟩ := hk
  have j5 := h.2.1.1.1
  unfold vp_M_chosen
  unfold a_chosen at hQ
  by_cases q1 : k < 0
  · rw [if_pos (by simp (disch := omega) only [iI_lit, iI_add, iI_sub, iI_mul, iI_neg, iI_lt, iI_le, iI_eq] <;> omega)]
    rw [if_neg (by omega)] at hQ
    exact hQ
  rw [if_neg (by simp (disch := omega) only [iI_lit, iI_add, iI_sub, iI_mul, iI_neg, iI_lt, iI_le, iI_eq] <;> omega)]
  refine wL.i ?_
  rw [h.2.1.1.2.1]
  by_cases q2 : k < S.2.1.length
  · rw [if_pos (by simp (disch := omega) only [iI_lit, iI_add, iI_sub, iI_mul, iI_neg, iI_lt, iI_le, iI_eq] <;> omega)]
    rw [if_pos (by omega)] at hQ
    obtain ⟨d, rfl⟩ : ∃ d : Nat, k = d := ⟨k.toNat, by omega⟩
    rw [show (3 : Int32) + iI d = iI ((3 + d : Nat) : Int) from iI_add 3 _]
    exact row8 rfl (by omega) (h.2.1.1.2.2 d _ (ls_ge (by omega))).2 hQ
  · rw [if_neg (by simp (disch := omega) only [iI_lit, iI_add, iI_sub, iI_mul, iI_neg, iI_lt, iI_le, iI_eq] <;> omega)]
    rw [if_neg (by omega)] at hQ
    exact hQ
theorem sl_count25 {k4 : Int32 → Int32 → RS → Prop} {B : List Nat} {cl : Bool} {hs : List (Nat × Nat)} {bd : List Nat} {dr : List Mt} {n q : Nat} (hJ : Jd s0 B cl hs bd) (hG : Gd B hs bd) (hD : RD s0 dr) (hn : n ≤ 10) (hQ : ∀ s', Ch [38, 40] [37, 39] s0 s' → k4 (iI ((n + (if dr.all (fun m => hld (rqOf B hs bd) m) = true then 1 else 0) : Nat) : Int)) (iI ((q + 1 : Nat) : Int)) s') : ∀ (j k : Nat) (s : RS) (g : Bool), k + j = dr.length → Ch [38, 40] [37, 39] s0 s → (g && (dr.drop k).all (fun m => hld (rqOf B hs bd) m)) = dr.all (fun m => hld (rqOf B hs bd) m) → vq_M_count_25 Q k4 (j + 1) (iI n) (iI q) (iI (bI g)) (iI k) s := by
  have h4 := hD.1
  intro j
  induction j with
  | zero =>
    intro k s g hk hC hg
    show vb_M_count_25 _ _ _ _ _ _ _ _
    unfold vb_M_count_25
    refine wL.i ?_
    rw [hC.1 16 (by decide), hD.2.1, if_pos (by simp (disch := omega) only [iI_lit, iI_add, iI_sub, iI_mul, iI_neg, iI_lt, iI_le, iI_eq] <;> omega)]
    rw [List.drop_of_length_le (by omega), List.all_nil, Bool.and_true] at hg
    rw [← hg] at hQ
    unfold vq_M_count_59
    rw [show iI (q : Int) + 1 = iI ((q + 1 : Nat) : Int) from iI_add _ 1]
    cases g with
    | false =>
      rw [if_pos (by decide)]
      refine wL.i ?_
      rw [show iI (n : Int) + 0 = iI ((n + 0 : Nat) : Int) from iI_add _ 0]
      exact hQ s hC
    | true =>
      rw [if_neg (by decide)]
      refine wL.i ?_
      rw [show iI (n : Int) + 1 = iI ((n + 1 : Nat) : Int) from iI_add _ 1]
      exact hQ s hC
  | succ j ih =>
    intro k s g hk hC hg
    show vb_M_count_25 _ _ _ _ _ _ _ _
    unfold vb_M_count_25
    refine wL.i ?_
    rw [hC.1 16 (by decide), hD.2.1, if_neg (by simp (disch := omega) only [iI_lit, iI_add, iI_sub, iI_mul, iI_neg, iI_lt, iI_le, iI_eq] <;> omega), show iI (k : Int) + 1 = iI ((k + 1 : Nat) : Int) from iI_add _ 1]
    have hx : dr[k]? = some (dr[k]'(show k < dr.length by omega)) := List.getElem?_eq_getElem _
    rw [List.drop_eq_getElem_cons (show k < dr.length by omega), List.all_cons] at hg
    generalize dr[k]'(show k < dr.length by omega) = x at *
    cases g with
    | false =>
      rw [if_pos (by decide)]
      exact ih (k + 1) s false (by omega) hC (by rw [Bool.false_and] at hg ⊢; exact hg)
    | true =>
      rw [if_neg (by decide)]
      refine sm_holds (hC.jd hJ (by decide) (by decide)) hG (hC.mr (hD.2.2 k x hx) (by decide)) (fun s' a => ?_)
      rw [Bool.true_and] at hg
      cases hd : hld (rqOf B hs bd) x with
      | false =>
        rw [if_pos (by decide)]
        rw [hd, Bool.false_and] at hg
        exact ih (k + 1) s' false (by omega) (hC.tr a) (by rw [Bool.false_and]; exact hg)
      | true =>
        rw [if_neg (by decide)]
        rw [hd, Bool.true_and] at hg
        exact ih (k + 1) s' true (by omega) (hC.tr a) (by rw [Bool.true_and]; exact hg)
theorem Rl.ch {I R : List Nat} {s t : RS} (h : Rl s S) (hc : Ch I R s t) (h0 : ∀ k ∈ [5, 7, 10, 16, 17], k ∉ I) (h1 : ∀ k ∈ [0, 1, 2, 3, 4, 6, 8, 9, 11, 12, 13, 14, 15, 18, 19, 20, 21, 22, 23, 24, 25, 26], k ∉ R) : Rl t S :=
  ⟨fun d hd => hc.rc (h.1 d hd) (fun k hk => h1 k (by simp at hk ⊢; omega)), ⟨hc.jo h.2.1.1 (h0 5 (by decide)) (h1 0 (by decide)) (h1 1 (by decide)) (h1 6 (by decide)), h.2.1.2⟩, by rw [hc.1 7 (h0 7 (by decide))]; exact h.2.2.1, hc.sc h.2.2.2.1 (h1 8 (by decide)), hc.rt h.2.2.2.2 (fun k hk => h0 k (by simp at hk ⊢; omega)) (fun k hk => h1 k (by simp at hk ⊢; omega))⟩
theorem sl_count (hQ : ∀ s', Rl s' (a_nS S) → Q (iI (a_cnt S)) s') : ∀ (j q : Nat) (s : RS), q + j = S.2.1.length → Rl s S → vq_M_count_4 Q (j + 1) (iI ((S.2.1.take q).countP (fun y => S.2.2.2.2.2.1.all (fun m => hld (rqB y.1) m)) : Nat)) (iI q) s := by
  intro j
  induction j with
  | zero =>
    intro q s hq h
    have j5 := h.2.1.1.1
    show vb_M_count_4 _ _ _ _ _
    unfold vb_M_count_4
    refine wL.i ?_
    rw [h.2.1.1.2.1, if_pos (by simp (disch := omega) only [iI_lit, iI_add, iI_sub, iI_mul, iI_neg, iI_lt, iI_le, iI_eq] <;> omega)]
    rw [List.take_of_length_le (by omega)]
    unfold vq_M_count_77
    refine vP.i (hQ _ ?_)
    obtain ⟨r1, r2, r3, r4, r5⟩ := h
    obtain ⟨a, b, c, d, e⟩ := r5
    have hC : Ch [16] [] s (sI s 16 0) := (Ch.rf s).i (by decide)
    have e16 : (sI s 16 0).1 16 = 0 := sI_at
    generalize sI s 16 0 = t at *
    obtain ⟨PL, c1, c2⟩ := c
    exact ⟨fun c hc => hC.rc (r1 c hc) (by decide), ⟨hC.jo r2.1 (by decide) (by decide) (by decide) (by decide), r2.2⟩, by rw [hC.1 7 (by decide)]; exact r3, hC.sc r4 (by decide), ⟨a.1, by rw [hC.1 10 (by decide)]; exact a.2.1, fun j hj => by rw [hC.2 9 (by decide)]; exact a.2.2 j hj⟩, ⟨by simp [a_nS], e16, fun k x hx => by simp [a_nS] at hx⟩, ⟨PL, c1, hC.sbs c2 (by decide)⟩, by rw [hC.1 17 (by decide)]; exact d, e⟩
  | succ j ih =>
    intro q s hq h
    have j5 := h.2.1.1.1
    show vb_M_count_4 _ _ _ _ _
    unfold vb_M_count_4
    refine wL.i ?_
    rw [h.2.1.1.2.1, if_neg (by simp (disch := omega) only [iI_lit, iI_add, iI_sub, iI_mul, iI_neg, iI_lt, iI_le, iI_eq] <;> omega), show (3 : Int32) + iI q = iI ((3 + q : Nat) : Int) from iI_add 3 _]
    have hy := ls_ge (J := S.2.1) (k := q) (by omega)
    have hym : S.2.1.getD q ([], 0) ∈ S.2.1 := List.mem_of_getElem? hy
    generalize S.2.1.getD q ([], 0) = y at *
    have he := h.2.1.1.2.2 q y hy
    have hB := (h.2.1.2 y hym).1
    refine sm_judge he.1 (fun z => absurd hB z) (fun _ s2 f2 j2 => ?_)
    have h2 := h.ch f2.ch (by decide) (by decide)
    have hG := (jd_f y.1).1 hB
    have hc10 : (S.2.1.take q).countP (fun y => S.2.2.2.2.2.1.all (fun m => hld (rqB y.1) m)) ≤ 10 := by
      refine Nat.le_trans List.countP_le_length ?_
      rw [List.length_take]
      omega
    refine ⟨_, sl_count25 (q := q) (s0 := s2) j2 hG h2.2.2.2.2.2.1 hc10 (fun s3 c3 => ?_) S.2.2.2.2.2.1.length 0 s2 true (by omega) (Ch.rf _) (by rw [Bool.true_and, List.drop_zero])⟩
    have h3 := h2.ch c3 (by decide) (by decide)
    have := ih (q + 1) s3 (by omega) h3
    have et : S.2.1.take (q + 1) = S.2.1.take q ++ [y] := by
      rw [List.take_succ, hy]
      rfl
    rw [et, List.countP_append, List.countP_singleton] at this
    exact this
theorem sm_count (h : Rl s0 S) (hQ : ∀ s', Rl s' (a_nS S) → Q (iI (a_cnt S)) s') : vp_M_count s0 Q := ⟨_, sl_count hQ S.2.1.length 0 s0 (by omega) h⟩
theorem sl_near {B : List Nat} {cl : Bool} {hs : List (Nat × Nat)} {bd : List Nat} {st : Nat → Nat} {PL : List (Nat × Sb)} {p0 : Int32} (hJ : Jd s0 B cl hs bd) (hG : Gd B hs bd) (hC : Sc s0 st) (hP : Sbs s0 PL) (hQ : ∀ s' o, Ch [38, 40] [37, 39] s0 s' → Bst (fun _ => True) (nbt (rqOf B hs bd) st) PL 8 o → vq_M_near_107 p0 Q (iI (plI o)) (iI (match o with
    | none => 0
    | some z => (miss (rqOf B hs bd) st z.2 : Int))) s') : ∀ (j k : Nat) (s : RS) (o : Option (Nat × Sb)), k + j = 8 → Ch [38, 40] [37, 39] s0 s → Bst (fun _ => True) (nbt (rqOf B hs bd) st) PL k o → vq_M_near_29 p0 Q (j + 1) (iI (plI o)) (iI (match o with
    | none => 0
    | some z => (miss (rqOf B hs bd) st z.2 : Int))) (iI k) s := by
  have hm : ∀ z ∈ PL, miss (rqOf B hs bd) st z.2 ≤ 5 := fun z hz => by
    unfold miss mss scn
    have := (hP.1 z hz).2.2.2.2.1.1
    have h3 : (sbM z.2).countP (fun m => !hld (rqOf B hs bd) m) ≤ (sbM z.2).length := List.countP_le_length
    split
    · omega
    · split <;> omega
  intro j
  induction j with
  | zero =>
    intro k s o hk hc hb
    show vb_M_near_29 _ _ _ _ _ _ _
    unfold vb_M_near_29
    rw [if_pos (by simp (disch := omega) only [iI_lit, iI_add, iI_sub, iI_mul, iI_neg, iI_lt, iI_le, iI_eq] <;> omega)]
    have : k = 8 := by omega
    subst this
    exact hQ s o hc hb
  | succ j ih =>
    intro k s o hk hc hb
    have hP' := hc.sbs hP (by decide)
    show vb_M_near_29 _ _ _ _ _ _ _
    unfold vb_M_near_29
    rw [if_neg (by simp (disch := omega) only [iI_lit, iI_add, iI_sub, iI_mul, iI_neg, iI_lt, iI_le, iI_eq] <;> omega)]
    by_cases q : ∃ z ∈ PL, z.1 = k
    · obtain ⟨z, hz, hzk⟩ := q
      have hz' := hP'.1 z hz
      rw [hzk] at hz'
      have hi1 := hz'.2.1.1
      refine row8 rfl hz'.1 hz'.2.1.2 ?_
      rw [if_pos (by simp (disch := omega) only [iI_lit, iI_add, iI_sub, iI_mul, iI_neg, iI_lt, iI_le, iI_eq] <;> omega)]
      refine sm_failing (hc.jd hJ (by decide) (by decide)) hG hz' (hc.sc hC (by decide)) (fun s' a => ?_)
      have hc' := hc.tr a
      have hP2 := hc'.sbs hP (by decide)
      have hz2 := hP2.1 z hz
      rw [hzk] at hz2
      have m1 := hm z hz
      unfold vq_M_near_57
      refine row8 rfl hz2.1 hz2.2.1.2 ?_
      rw [if_neg (by simp (disch := omega) only [iI_lit, iI_add, iI_sub, iI_mul, iI_neg, iI_lt, iI_le, iI_eq] <;> omega), show iI (k : Int) + 1 = iI ((k + 1 : Nat) : Int) from iI_add _ 1]
      have new : (∀ b, o = some b → nbt (rqOf B hs bd) st z.2 b.2) → vq_M_near_29 p0 Q (j + 1) (iI k) (iI (miss (rqOf B hs bd) st z.2)) (iI ((k + 1 : Nat) : Int)) s' := fun hn => by
        have := ih (k + 1) s' (some z) (by omega) hc' (hb.new hz hzk trivial (fun y hy h => hP.2.2.1 y hy z hz h) (fun h g => nbt_tr h g) hn)
        rw [show plI (some z) = (z.1 : Int) from rfl, hzk] at this
        exact this
      cases o with
      | none =>
        rw [if_pos (by decide)]
        exact new (fun b hb => by cases hb)
      | some b =>
        have hb1 := hb.1
        have m2 := hm b hb1
        have old : nbt (rqOf B hs bd) st b.2 z.2 → vq_M_near_29 p0 Q (j + 1) (iI (plI (some b))) (iI (miss (rqOf B hs bd) st b.2)) (iI ((k + 1 : Nat) : Int)) s' := fun hn =>
          ih (k + 1) s' (some b) (by omega) hc' (hb.old hz hzk (fun y hy h => hP.2.2.1 y hy z hz h) (fun _ => hn))
        have hne : sbI z.2 ≠ sbI b.2 := fun e => by
          have := hP.2.2.2.1 z hz b hb1 e
          have h2 := hb.2.1
          rw [← this] at h2
          omega
        rw [show plI (some b) = (b.1 : Int) from rfl] at old ⊢
        dsimp only
        have hb8 := (hP.1 b hb1).1
        rw [if_neg (by simp (disch := omega) only [iI_lit, iI_add, iI_sub, iI_mul, iI_neg, iI_lt, iI_le, iI_eq] <;> omega)]
        by_cases q1 : miss (rqOf B hs bd) st z.2 < miss (rqOf B hs bd) st b.2
        · rw [if_pos (by simp (disch := omega) only [iI_lit, iI_add, iI_sub, iI_mul, iI_neg, iI_lt, iI_le, iI_eq] <;> omega)]
          exact new (fun b' hb' => by cases hb'; exact Or.inl q1)
        rw [if_neg (by simp (disch := omega) only [iI_lit, iI_add, iI_sub, iI_mul, iI_neg, iI_lt, iI_le, iI_eq] <;> omega)]
        by_cases q2 : miss (rqOf B hs bd) st z.2 = miss (rqOf B hs bd) st b.2
        · rw [if_pos (by simp (disch := omega) only [iI_lit, iI_add, iI_sub, iI_mul, iI_neg, iI_lt, iI_le, iI_eq] <;> omega)]
          refine sm_before hz2 (hP2.1 b hb1) (fun w => ?_) (fun w => ?_)
          · exact new (fun b' hb' => by cases hb'; exact Or.inr ⟨q2, w⟩)
          · exact old (Or.inr ⟨q2.symm, bfr_to w hne⟩)
        · rw [if_neg (by simp (disch := omega) only [iI_lit, iI_add, iI_sub, iI_mul, iI_neg, iI_lt, iI_le, iI_eq] <;> omega)]
          exact old (Or.inl (by omega))
    · have h18 := hP'.2.2.2.2.1 k (by omega) (fun z hz h => q ⟨z, hz, h⟩)
      refine row8 rfl (by omega) h18 ?_
      rw [if_neg (by decide)]
      unfold vq_M_near_57
      refine row8 rfl (by omega) h18 ?_
      rw [if_pos (by decide), show iI (k : Int) + 1 = iI ((k + 1 : Nat) : Int) from iI_add _ 1]
      exact ih (k + 1) s o (by omega) hc (hb.skip (fun z hz h => absurd ⟨z, hz, h⟩ q))
theorem sm_near {k : Int} (hk : rng k) (h : Rl s0 S) (hQ : ∀ s', Rl s' S → Q (iI (a_near k S)) s') : vp_M_near (iI k) s0 Q := by
  obtain ⟨k1, k2⟩ := hk
  have j5 := h.2.1.1.1
  unfold vp_M_near
  unfold a_near at hQ
  by_cases q1 : k < 0
  · rw [if_pos (by simp (disch := omega) only [iI_lit, iI_add, iI_sub, iI_mul, iI_neg, iI_lt, iI_le, iI_eq] <;> omega)]
    rw [if_neg (by omega)] at hQ
    exact hQ s0 h
  rw [if_neg (by simp (disch := omega) only [iI_lit, iI_add, iI_sub, iI_mul, iI_neg, iI_lt, iI_le, iI_eq] <;> omega)]
  refine wL.i ?_
  rw [h.2.1.1.2.1]
  by_cases q2 : k < S.2.1.length
  · rw [if_pos (by simp (disch := omega) only [iI_lit, iI_add, iI_sub, iI_mul, iI_neg, iI_lt, iI_le, iI_eq] <;> omega)]
    rw [if_pos (by omega)] at hQ
    obtain ⟨d, rfl⟩ : ∃ d : Nat, k = d := ⟨k.toNat, by omega⟩
    rw [show (3 : Int32) + iI d = iI ((3 + d : Nat) : Int) from iI_add 3 _]
    rw [show (d : Int).toNat = d from rfl] at hQ
    have hy := ls_ge (J := S.2.1) (k := d) (by omega)
    have hym : S.2.1.getD d ([], 0) ∈ S.2.1 := List.mem_of_getElem? hy
    generalize S.2.1.getD d ([], 0) = y at *
    have he := h.2.1.1.2.2 d y hy
    have hB := (h.2.1.2 y hym).1
    refine sm_judge he.1 (fun z => absurd hB z) (fun _ s2 f2 j2 => ?_)
    have h2 := h.ch f2.ch (by decide) (by decide)
    have hG := (jd_f y.1).1 hB
    obtain ⟨PL, hL, hP⟩ := h2.2.2.2.2.2.2.1
    have hst := hP.2.2.2.2.2
    rw [← hL] at hst
    refine ⟨_, sl_near (st := S.2.2.2.1) j2 hG h2.2.2.2.1 hP (fun s3 o c3 b3 => ?_) 8 0 s2 none (by omega) (Ch.rf _) (fun z _ h => absurd h (by omega))⟩
    have h3 := hQ s3 (h2.ch c3 (by decide) (by decide))
    have hP3 := c3.sbs hP (by decide)
    unfold vq_M_near_107
    cases o with
    | none =>
      rw [if_neg (by decide)]
      have : S.2.2.2.2.2.2.1 = [] := by
        rw [hL]
        cases PL with
        | nil => rfl
        | cons z PL => exact absurd trivial (b3 z (by simp) ((hP.1 z (by simp)).1))
      rw [this] at h3
      exact h3
    | some z =>
      have hz := hP3.1 z b3.1
      have hz8 := hz.1
      rw [show plI (some z) = (z.1 : Int) from rfl, if_pos (by simp (disch := omega) only [iI_lit, iI_add, iI_sub, iI_mul, iI_neg, iI_lt, iI_le, iI_eq] <;> omega)]
      refine row8 rfl hz.1 hz.2.1.2 ?_
      rw [nr_eq (x := z.2) hst ⟨by rw [hL]; exact List.mem_map_of_mem b3.1, fun y hy => by
        rw [hL] at hy
        obtain ⟨v, hv, rfl⟩ := List.mem_map.mp hy
        rcases b3.2.2.2 v hv (hP.1 v hv).1 trivial with e | e
        · exact Or.inl (by rw [e])
        · exact Or.inr e⟩] at h3
      dsimp only at h3 ⊢
      rw [show (100 : Int32) * iI (sbI z.2) + iI (miss (rqOf y.1 (jd y.1).2.2.1 (jd y.1).2.2.2) S.2.2.2.1 z.2) = iI (100 * (sbI z.2 : Int) + (miss (rqB y.1) S.2.2.2.1 z.2 : Int)) from by rw [show (100 : Int32) = iI 100 from rfl, iI_mul, iI_add]; rfl]
      exact h3
  · rw [if_neg (by simp (disch := omega) only [iI_lit, iI_add, iI_sub, iI_mul, iI_neg, iI_lt, iI_le, iI_eq] <;> omega)]
    rw [if_neg (by omega)] at hQ
    exact hQ s0 h
end RE
