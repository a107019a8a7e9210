/-! The class: remove, scene, match, stub -/
section RMV
variable {G A : ab_H} {T : Nat → Nat} {sv kc ks : Nat} {S : St} {Q : Int32 → ab_H → Prop}
theorem c_place {id : Int} (hi : rng id) (h : Inv G A T sv S) (h0 : ¬ a_has id S → Q (iI (-1)) A) (h1 : ∀ (j : Nat) (x : Sb), S.2.2.2.2.2.2.1[j]? = some x → (sbI x : Int) = id → Q (iI j) A) : wp_S_placeOf sv (iI id) A Q := by
  obtain ⟨i1, i2⟩ := hi
  obtain ⟨ca, sa, ty, sl, kl, dl, -, -, ⟨g1, -⟩, -, -, -, -, -, g2⟩ := h
  obtain ⟨bs, cap, s1, s2, s3, s4⟩ := g2.at
  have go : ∀ (j k : Nat), k + j = bs.length → (∀ i x, i < k → S.2.2.2.2.2.2.1[i]? = some x → (sbI x : Int) ≠ id) → wq_S_placeOf_2 sv (iI id) Q (j + 1) (iI k) A := by
    intro j
    induction j with
    | zero =>
      intro k hk hn
      show wb_S_placeOf_2 _ _ _ _ _ _
      unfold wb_S_placeOf_2
      refine wgR.i (x := some sl) g1 rfl (al_size s1 ?_)
      rw [if_pos (by simp (disch := omega) only [iI_lit, iI_add, iI_sub, iI_mul, iI_neg, iI_lt, iI_le, iI_eq] <;> omega)]
      refine h0 (fun ⟨x, hx, hy⟩ => ?_)
      obtain ⟨i, hi⟩ := List.mem_iff_getElem?.mp hx
      have : i < S.2.2.2.2.2.2.1.length := (List.getElem?_eq_some_iff.mp hi).1
      exact hn i x (by omega) hi hy
    | succ j ih =>
      intro k hk hn
      have hkl : k < bs.length := by omega
      show wb_S_placeOf_2 _ _ _ _ _ _
      unfold wb_S_placeOf_2
      refine wgR.i (x := some sl) g1 rfl (al_size s1 ?_)
      rw [if_neg (by simp (disch := omega) only [iI_lit, iI_add, iI_sub, iI_mul, iI_neg, iI_lt, iI_le, iI_eq] <;> omega)]
      refine wgR.i (x := some sl) g1 rfl (al_get s1 rfl hkl ?_)
      obtain ⟨x, hx⟩ : ∃ x, S.2.2.2.2.2.2.1[k]? = some x := ⟨S.2.2.2.2.2.2.1[k]'(by omega), List.getElem?_eq_getElem _⟩
      obtain ⟨tp, ts, ml, ms, cp, so, e1, e2, e3, e4, e5, e6, e7, e8, e9, e10, e11, e12⟩ := s4 k _ x (ls_get hkl) hx
      refine wC.i e1 (wgI.i e1 rfl ?_)
      by_cases y : (sbI x : Int) = id
      · rw [if_pos (by rw [y])]
        exact h1 k x hx y
      · rw [if_neg (by simp (disch := omega) only [iI_lit, iI_add, iI_sub, iI_mul, iI_neg, iI_lt, iI_le, iI_eq] <;> omega), show iI (k : Int) + 1 = iI ((k + 1 : Nat) : Int) from iI_add _ 1]
        refine ih (k + 1) (by omega) (fun i z hi hz => ?_)
        by_cases e : i = k
        · subst e
          rw [hx] at hz
          cases hz
          exact y
        · exact hn i z (by omega) hz
  exact ⟨_, go bs.length 0 (by omega) (fun i x hi => absurd hi (by omega))⟩
theorem flt_er : ∀ (X : List Sb) (j : Nat) (x : Sb), srt X → X[j]? = some x → X.filter (fun y => decide ((sbI y : Int) ≠ (sbI x : Int))) = X.eraseIdx j
  | [], j, x, _, h => by simp at h
  | a :: X, 0, x, hs, h => by
    rw [List.getElem?_cons_zero] at h
    cases h
    unfold srt at hs
    rw [List.pairwise_cons] at hs
    rw [List.filter_cons_of_neg (by simp), List.eraseIdx_cons_zero, List.filter_eq_self.mpr]
    intro y hy
    have := hs.1 y hy
    exact decide_eq_true (by omega)
  | a :: X, j + 1, x, hs, h => by
    rw [List.getElem?_cons_succ] at h
    unfold srt at hs
    rw [List.pairwise_cons] at hs
    have := hs.1 x (List.mem_of_getElem? h)
    rw [List.filter_cons_of_pos (p := fun y => decide ((sbI y : Int) ≠ (sbI x : Int))) (decide_eq_true (by omega)), List.eraseIdx_cons_succ, flt_er X j x hs.2 h]
theorem srt_u {X : List Sb} {i j : Nat} {x y : Sb} (hs : srt X) (hx : X[i]? = some x) (hy : X[j]? = some y) (h : sbI x = sbI y) : i = j := by
  obtain ⟨h1, e1⟩ := List.getElem?_eq_some_iff.mp hx
  obtain ⟨h2, e2⟩ := List.getElem?_eq_some_iff.mp hy
  unfold srt at hs
  rw [List.pairwise_iff_getElem] at hs
  rcases Nat.lt_trichotomy i j with z | z | z
  · have := hs i j h1 h2 z
    rw [e1, e2] at this
    omega
  · exact z
  · have := hs j i h2 h1 z
    rw [e1, e2] at this
    omega
theorem c_remove {id : Int} (hi : rng id) (h : Inv G A T sv S) (h0 : ¬ a_has id S → ∀ B T', Inv G B T' sv S → Q (iI 0) B) (h1 : a_has id S → ∀ B T', Inv G B T' sv (a_rS id S) → Q (iI 1) B) : wp_S_remove sv (iI id) A Q := by
  have hh := h
  obtain ⟨ca, sa, ty, sl, kl, dl, i1, i2, i3, i4, i5, i6, i7, i8, i9⟩ := h
  obtain ⟨t9, st9, bs, cap, s1, s2, s3, s4⟩ := i9
  unfold wp_S_remove
  refine wC.i i3.1 (c_place hi hh (fun z => ?_) (fun j x hx hy => ?_))
  · rw [if_neg (by decide)]
    exact h0 z A T hh
  · have hj : j < S.2.2.2.2.2.2.1.length := (List.getElem?_eq_some_iff.mp hx).1
    rw [if_pos (by simp (disch := omega) only [iI_lit, iI_add, iI_sub, iI_mul, iI_neg, iI_lt, iI_le, iI_eq] <;> omega)]
    refine wgR.i (x := some sl) i3.1 rfl (al_rem s1 rfl (by omega) (fun B b1 b2 => ?_))
    have hT : Tf A T B T [5] := Tf.w i1 b2 (fun w hw => Or.inr (by simp at hw; rw [hw]; exact ⟨by rw [t9]; simp, _, b1, rfl⟩))
    refine h1 ⟨x, List.mem_of_getElem? hx, hy⟩ B T ⟨ca, sa, ty, sl, kl, dl, hT.2.2, i2.tf hT (by decide) (by decide), ⟨hT.c i3.2 (by decide) i3.1, hT.t2 i1 i3.2 (by omega) (by decide)⟩, i4.tf hT i1 (by decide) (by decide) (fun i j1 j2 => by simp; omega), i5.tf hT i1 (by decide) (by decide), i6.tf hT i1 (by decide), i7.tf hT i1 (by decide), i8.tf hT i1 (by decide) (by decide), ?_⟩
    have hfe : S.2.2.2.2.2.2.1.filter (fun y => decide ((sbI y : Int) ≠ id)) = S.2.2.2.2.2.2.1.eraseIdx j := by
      rw [← hy]
      exact flt_er _ j x st9 hx
    show Isl B T sl (S.2.2.2.2.2.2.1.filter (fun y => decide ((sbI y : Int) ≠ id)))
    rw [hfe]
    refine ⟨t9, List.Pairwise.sublist (List.eraseIdx_sublist _ _) st9, bs.eraseIdx j, 10, b1, ?_, ?_, fun i b y g1 g2 => ?_⟩
    · rw [List.length_eraseIdx, List.length_eraseIdx, s2]
    · rw [List.length_eraseIdx]
      split <;> omega
    · rw [List.getElem?_eraseIdx] at g1 g2
      by_cases e : i < j
      · rw [if_pos e] at g1 g2
        exact (s4 i b y g1 g2).tf hT i1 (by decide) (by simp; omega)
      · rw [if_neg e] at g1 g2
        exact (s4 (i + 1) b y g1 g2).tf hT i1 (by decide) (by simp; omega)
theorem c_Zinit {a k n g : Nat} {Q : ab_H → Prop} (h : A a = some (oR (.inr (13, mm_df 13)))) (hQ : ∀ B, B a = some (oR (.inr (13, [.int (iI k), .int (iI n), .int (iI g)]))) → Fw A B [a] → Q B) : wp_Z_init a (iI k) (iI n) (iI g) A Q := by
  have h : A a = some (oR (.inr (13, [.int 0, .int 0, .int 0]))) := h
  exact ⟨⟨a, rfl⟩, wpu h (Nat.le_of_ble_eq_true rfl) (fun A1 e1 f1 => wpu e1 (Nat.le_of_ble_eq_true rfl) (fun A2 e2 f2 => wpu e2 (Nat.le_of_ble_eq_true rfl) (fun A3 e3 f3 => hQ A3 e3 (fww (W := [a]) (fww (W := [a]) f1 f2) f3))))⟩
theorem c_scene {id k n g : Int} (hi : rng id) (hk : rng k) (hn : rng n) (hg : rng g) (h : Inv G A T sv S) (k1 : 1 ≤ kc) (k2 : 3 ≤ ks) (h0 : ¬ a_cok id k n g S → ∀ B T', Inv G B T' sv S → Q (iI 0) B) (h1 : a_cok id k n g S → ∀ B T', Inv G B T' sv (a_cS id k n g S) → Q (iI 1) B) : wp_S_scene sv (iI id) (iI k) (iI n) (iI g) A kc ks Q := by
  have hh := h
  obtain ⟨ca, sa, ty, sl, kl, dl, i1, i2, i3, i4, i5, i6, i7, i8, i9⟩ := h
  obtain ⟨t9, st9, bs, cap, s1, s2, s3, s4⟩ := i9
  unfold wp_S_scene
  refine wC.i i3.1 (c_place hi hh (fun z => ?_) (fun j x hx hy => ?_))
  · rw [if_pos (by decide)]
    exact h0 (fun w => z w.1) A T hh
  have hj : j < S.2.2.2.2.2.2.1.length := (List.getElem?_eq_some_iff.mp hx).1
  rw [if_neg (by simp (disch := omega) only [iI_lit, iI_add, iI_sub, iI_mul, iI_neg, iI_lt, iI_le, iI_eq] <;> omega)]
  refine c_isScn hk (fun z => ?_) (fun k' ek hk' => ?_)
  · rw [if_pos (by decide)]
    exact h0 (fun w => z ⟨w.2.1, w.2.2.1⟩) A T hh
  rw [if_neg (by decide)]
  refine c_isSta hn (fun z => ?_) (fun n' en hn' => ?_)
  · rw [if_pos (by decide)]
    exact h0 (fun w => z ⟨w.2.2.2.1, w.2.2.2.2.1⟩) A T hh
  rw [if_neg (by decide)]
  refine c_isSta hg (fun z => ?_) (fun g' eg hg' => ?_)
  · rw [if_pos (by decide)]
    exact h0 (fun w => z w.2.2.2.2.2) A T hh
  rw [if_neg (by decide)]
  have hok : a_cok id k n g S := ⟨⟨x, List.mem_of_getElem? hx, hy⟩, by omega, by omega, by omega, by omega, by omega, by omega⟩
  subst ek en eg
  have hjb : j < bs.length := by omega
  refine wgR.i (x := some sl) i3.1 rfl (al_get s1 rfl hjb ?_)
  have hZ := s4 j _ x (ls_get hjb) hx
  have hgb := ls_get hjb
  generalize bs.getD j 0 = b at *
  have hZ0 := hZ
  obtain ⟨tb, tp, ts, ml, ms, cp, so, e1, e2, e3, e4, e5, e6, e7, e8, e9⟩ := hZ0
  refine wC.i e1 (wnw k1 k2 (fun b8 A1 _ n1 f1 F1 => wD.i (c_Zinit f1 (fun A2 f2 F2 => ?_))))
  have F12 : Fw A A2 [] := F1.tr F2 (fun y hy => Or.inr (by simp at hy; rw [hy]; exact n1))
  refine wpu (F12.e e1) (Nat.le_of_ble_eq_true rfl) (fun B b1 b2 => ?_)
  have hF : Fw A B [b] := (F12.mo (by simp)).tr b2 (fun y hy => Or.inl hy)
  have hT : Tf A T B T [50 + sbI x] := Tf.w i1 hF (fun w hw => Or.inr (by simp at hw; rw [hw]; exact ⟨by rw [tb]; simp, _, b1, rfl⟩))
  have nd : ∀ i, i < 50 → i ∉ [50 + sbI x] := fun i hi => by simp; omega
  refine h1 hok B T ⟨ca, sa, ty, sl, kl, dl, hT.2.2, i2.tf hT (nd 0 (by omega)) (nd 8 (by omega)), ⟨hT.c i3.2 (nd 1 (by omega)) i3.1, hT.t2 i1 i3.2 (by omega) (nd 1 (by omega))⟩, i4.tf hT i1 (nd 0 (by omega)) (nd 2 (by omega)) (fun i j1 j2 => nd i (by omega)), i5.tf hT i1 (nd 0 (by omega)) (nd 6 (by omega)), i6.tf hT i1 (nd 3 (by omega)), i7.tf hT i1 (nd 4 (by omega)), i8.tf hT i1 (nd 0 (by omega)) (nd 7 (by omega)), ?_⟩
  have hid : ∀ y : Sb, sbI (if (sbI y : Int) = id then sbsc ((k' : Int).toNat, (n' : Int).toNat, (g' : Int).toNat) y else y) = sbI y := fun y => by
    split <;> rfl
  refine ⟨t9, ?_, bs, cap, hT.c t9 (nd 5 (by omega)) s1, by show _ = (List.map _ _).length; rw [List.length_map]; exact s2, by show (List.map _ _).length ≤ 8; rw [List.length_map]; exact s3, fun i b' y' q1 q2 => ?_⟩
  · show List.Pairwise _ (List.map _ _)
    rw [List.pairwise_map]
    exact List.Pairwise.imp (fun {p q} hpq => by rw [hid, hid]; exact hpq) st9
  · have q2 : (S.2.2.2.2.2.2.1.map (fun y => if (sbI y : Int) = id then sbsc ((k' : Int).toNat, (n' : Int).toNat, (g' : Int).toNat) y else y))[i]? = some y' := q2
    rw [List.getElem?_map] at q2
    cases hz : S.2.2.2.2.2.2.1[i]? with
    | none =>
      rw [hz] at q2
      cases q2
    | some y =>
      rw [hz] at q2
      have q2 := Option.some.inj q2
      rw [← q2]
      by_cases w : (sbI y : Int) = id
      · have hij : i = j := srt_u st9 hz hx (by omega)
        subst hij
        rw [hx] at hz
        cases hz
        have hbb : b' = b := by
          rw [q1] at hgb
          exact Option.some.inj hgb
        subst hbb
        dsimp only
        rw [if_pos w]
        have z := hT.z (nd 0 (by omega))
        refine ⟨tb, tp, ts, ml, ms, cp, some b8, b1, z.e e2, z.e e3, e4, e5, z.e e6, e7.f0 z, ⟨b8, rfl, Zf.i (b2.k f2 (F12.e e1) (fun e => by cases e)) (i1.n n1), hk', hn', hg'⟩, e9⟩
      · dsimp only
        rw [if_neg w]
        exact (s4 i b' y q1 hz).tf hT i1 (nd 0 (by omega)) (by simp; omega)
end RMV
