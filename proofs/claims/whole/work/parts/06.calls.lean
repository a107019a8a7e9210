theorem mm_gin {M : mm_M} (hc : Cond.code M.1 M.2.1 M.2.2.1 M.2.2.2.1 ∈ mm_all) : GoodIn mm_all (mm_ws M) := fun w hw => by
  rcases List.mem_cons.mp hw with h | h
  · subst h
    exact ⟨hc, mm_good _ hc⟩
  · exact ⟨h, mm_good _ h⟩
theorem mm_gap {ws vs : List Cond} (h1 : ∀ w ∈ ws, w ∈ mm_all) (h2 : GoodIn mm_all vs) : GoodIn mm_all (ws ++ vs) := fun w hw => by
  rcases List.mem_append.mp hw with h | h
  · exact ⟨h1 w h, mm_good _ (h1 w h)⟩
  · exact h2 w h
theorem mm_blind {G : mm_G} {h : mm_H} {as : List Value} : FrameBlind (va_Pc as (fun U => mm_F G U ∧ mm_R G h U.heap)) := fun a U g mk q =>
  ⟨q.1, mm_F.warm (locs := []) (U := U.calling g mk a) q.2.1 (State.WarmedH.refl U) va_S.rf, q.2.2⟩
theorem mm_vsum (G : mm_G) (st : List Value) : ((st.map (mm_v G)).map fun v => v.category).sum = (st.map fun v => v.category).sum := by
  rw [List.map_map]
  congr 1
  exact List.map_congr_left fun v _ => mm_vcat G v
/-- words of a call's site, of a callee M with n arguments (the receiver aside) -/
def mm_CB (own : String) (index : Nat) (M : mm_M) (n : Nat) : Prop := Cond.methodLink own index M.1 ∈ mm_all ∧ Cond.initialized M.1.cls ∈ mm_all ∧ Cond.code M.1 M.2.1 M.2.2.1 M.2.2.2.1 ∈ mm_all ∧
  (M.1.cls ≠ "java/lang/invoke/MethodHandle" ∧ M.1.cls ≠ "java/lang/invoke/VarHandle" ∧ (parseMethodDescriptor M.1.desc).map (fun d => d.parameters.length) = some n) ∧ M.2.2.1 ≤ 21
def mm_CU (own : String) (index : Nat) (x : MethodName) (owner C : String) (M : mm_M) (n : Nat) : Prop := Cond.methodLink own index x ∈ mm_all ∧ Cond.initialized M.1.cls ∈ mm_all ∧ Cond.code M.1 M.2.1 M.2.2.1 M.2.2.2.1 ∈ mm_all ∧
  (owner ≠ "java/lang/invoke/MethodHandle" ∧ owner ≠ "java/lang/invoke/VarHandle" ∧ (parseMethodDescriptor x.desc).map (fun d => d.parameters.length) = some n) ∧ M.2.2.1 ≤ 21 ∧
  Cond.sameMethod x.cls owner x.name x.desc ∈ mm_all ∧ Cond.instanceMethod M.1 ∈ mm_all ∧ Cond.selects C x M.1 ∈ mm_all ∧
  (M.1 = ⟨owner, x.name, x.desc⟩ ∨ (Cond.instanceMethod ⟨owner, x.name, x.desc⟩ ∈ mm_all ∧ ∃ (b0 : ByteArray) (m0 : Nat) (r0 : Option FieldType), Cond.code ⟨owner, x.name, x.desc⟩ b0 m0 r0 ∈ mm_all))
def mm_CP (own : String) (index : Nat) (M : mm_M) (n : Nat) : Prop := Cond.methodLink own index M.1 ∈ mm_all ∧ Cond.initialized M.1.cls ∈ mm_all ∧ Cond.code M.1 M.2.1 M.2.2.1 M.2.2.2.1 ∈ mm_all ∧
  (M.1.name ≠ "<init>" ∧ (parseMethodDescriptor M.1.desc).map (fun d => d.parameters.length) = some n) ∧ M.2.2.1 ≤ 21 ∧
  Cond.sameMethod M.1.cls M.1.cls M.1.name M.1.desc ∈ mm_all ∧ Cond.superclass own M.1.cls ∈ mm_all ∧ Cond.instanceMethod M.1 ∈ mm_all
def mm_CN (own : String) (index : Nat) (M : mm_M) (n : Nat) : Prop := (own, index, M.1, "StubServer") ∈ mm_nests ∧ Cond.initialized M.1.cls ∈ mm_all ∧ Cond.code M.1 M.2.1 M.2.2.1 M.2.2.2.1 ∈ mm_all ∧
  (M.1.cls ≠ "java/lang/invoke/MethodHandle" ∧ M.1.cls ≠ "java/lang/invoke/VarHandle" ∧ (parseMethodDescriptor M.1.desc).map (fun d => d.parameters.length) = some n) ∧ M.2.2.1 ≤ 21 ∧ M.1.name = "<init>" ∧ Cond.instanceMethod M.1 ∈ mm_all
section MMC
variable {l : Launch} {G : mm_G} {M M' : mm_M} {kc ks pc pc' : Nat} {L : List (Option Value)} {st as : List Value} {h : mm_H} {Q Qc : Option Value → mm_H → Prop} {mc ms index : Nat}
/-- behind a call -/
theorem mm_after {p : Program} {e : Env} {R : Room} {s : State} {m : MethodId} {args : Array Value} {below : List Frame} {meth : Method} {c : Code} {H : Heap} {locs : List Loc} {cells slots : Nat} {ls : Array Slot} {st0 : List Value} {aa : Array Value}
    (hX : mm_X G M p R s m args meth c) (hS : va_S (mm_A G) s.heap H locs) (hl : mm_L ls M.2.2.1 (L.map (Option.map (mm_v G)))) (hc : cells + kc ≤ R.cells) (hs : slots + ks ≤ R.slots) (hkc : mc ≤ kc) (hks : ms ≤ ks)
    (hr : va_Run p l e R s m args below meth c H locs cells slots mc ms (F0 m pc ls st0) (st.map (mm_v G)) (mm_Q G Qc aa) (mm_A G))
    (kk : ∀ (v : Option Value) (h' : mm_H), Qc v h' → mm_V l G M (kc - mc) (ks - ms) (pc + 3) L (v.toList ++ st) h' Q) :
    W p l e R s m args below meth c H locs cells slots (MQ below (mm_Q G Q) args s R.cells R.slots (mm_A G)) (F0 m pc ls st0) := by
  intro T hT X
  obtain ⟨v, st₀, t, T', L', h0, X', hL, e1, e2, ⟨⟨v0, h', hv, hq, hR'⟩, hz, hk⟩, stp⟩ := hr T hT X
  have hv' := Outcome.returned.inj hv
  subst hv'
  rw [h0] at hz hk
  have hS' : va_S (mm_A G) s.heap T'.heap (locs ++ L') := by
    refine ⟨Nat.le_trans hS.1 (by rw [e1]; exact hz), fun q g1 g2 => ?_, fun q hq' => ?_⟩
    · rw [e1, hk q (Nat.lt_of_lt_of_le g1 hS.1) g2]
      exact hS.2.1 q g1 g2
    · rcases List.mem_append.mp hq' with g | g
      · exact hS.2.2 q g
      · exact hL q g
  obtain ⟨t2, a1, b1⟩ := kk v0 h' hq p e R s m args below meth c T'.heap (locs ++ L') (cells + mc) (slots + ms) ls hX (by rw [e1]; exact hR') hS' hl (by omega) (by omega) T' rfl X'
  refine ⟨t2, stp t2 ?_, b1⟩
  have e9 : (v0.toList ++ st).map (mm_v G) = (v0.map (mm_v G)).toList ++ st.map (mm_v G) := by cases v0 <;> simp
  rw [e9] at a1
  exact a1
theorem mm_preS {H : Heap} {s : State} {locs : List Loc} (hF : mm_F G s) (hR : mm_R G h H) (hS : va_S (mm_A G) s.heap H locs) : PreS s H (va_Pc (as.map (mm_v G)) (fun U => mm_F G U ∧ mm_R G h U.heap)) (as.map (mm_v G)) :=
  ⟨mm_blind, fun U hU hW => ⟨rfl, hF.warm hW (by rw [hU]; exact hS), by rw [hU]; exact hR⟩⟩
theorem mm_stk (G : mm_G) (as st : List Value) : (as.reverse ++ st).map (mm_v G) = (as.map (mm_v G)).reverse ++ st.map (mm_v G) := by simp
theorem mm_callS {n : Nat} {st0 : List Value} (hd : decode M.2.1 pc = .ok (.invokestatic index, 3)) (hp : pc + 3 = pc') (hw : mm_CB M.1.cls index M' n ∧ Cond.static M'.1 ∈ mm_all) (hM : mm_S l G M' as h mc ms Qc) (hst : st0 = as.reverse ++ st) (hn : as.length = n) (hfr : M'.2.2.2.2 + 1 ≤ M.2.2.2.2) (h8 : (st.map fun v => v.category).sum ≤ 8) (hkc : mc ≤ kc) (hks : ms ≤ ks)
    (kk : ∀ (v : Option Value) (h' : mm_H), Qc v h' → mm_V l G M (kc - mc) (ks - ms) pc' L (v.toList ++ st) h' Q) : mm_V l G M kc ks pc L st0 h Q := by
  intro p e R s m args below meth c H locs cells slots ls hX hR hS hl hc hs
  subst hp
  subst hst
  obtain ⟨⟨w1, w2, w3, w4, w5⟩, w6⟩ := hw
  obtain ⟨x1, x2, x3, x4, x5, x6, x7, x8, x9, x10, x11⟩ := id hX
  have cw := va_cwS (R := R) (s := s) (args := args) (own := M.1.cls) (index := index) (ws := mm_ws M') (rm := { frames := M'.2.2.2.2, cells := mc, slots := ms, locals := 40 * M'.2.2.2.2 }) n x5
    (mm_gap (ws := [.methodLink M.1.cls index M'.1, .static M'.1, .initialized M'.1.cls]) (fun w hw => by
      simp only [List.mem_cons, List.not_mem_nil, or_false] at hw
      rcases hw with h | h | h <;> subst h <;> assumption) (mm_gin w3)) rfl rfl rfl w4 ⟨Nat.le_trans hfr x10, by show 8 + (M'.2.2.1 + 11) + 40 * M'.2.2.2.2 ≤ R.locals; omega⟩
  refine mm_after hX hS hl hc hs hkc hks (va_runS (g := F0 m pc ls _) (As := as.map (mm_v G)) (rest := st.map (mm_v G)) ⟨x1, x2, x3, x4, x5⟩ hM cw (mm_preS x6 hR hS) rfl (by rw [List.length_map]; exact hn) hl.1 (mm_stk G as st) (lv_room (by rw [mm_vsum]; exact h8)) hd ⟨by omega, by omega⟩) kk
theorem mm_callI {n b : Nat} {st0 : List Value} (hd : decode M.2.1 pc = .ok (.invokespecial index, 3)) (hp : pc + 3 = pc') (hw : mm_CB M.1.cls index M' n ∧ M'.1.name = "<init>" ∧ Cond.instanceMethod M'.1 ∈ mm_all) (hret : M'.2.2.2.1 = none) (hM : mm_S l G M' (.ref b :: as) h mc ms Qc) (hst : st0 = as.reverse ++ .ref b :: st) (hn : as.length = n) (hfr : M'.2.2.2.2 + 1 ≤ M.2.2.2.2) (h8 : (st.map fun v => v.category).sum ≤ 8) (hkc : mc ≤ kc) (hks : ms ≤ ks)
    (kk : ∀ (v : Option Value) (h' : mm_H), Qc v h' → mm_V l G M (kc - mc) (ks - ms) pc' L (v.toList ++ st) h' Q) : mm_V l G M kc ks pc L st0 h Q := by
  intro p e R s m args below meth c H locs cells slots ls hX hR hS hl hc hs
  subst hp
  subst hst
  obtain ⟨⟨w1, w2, w3, w4, w5⟩, w6, w7⟩ := hw
  obtain ⟨x1, x2, x3, x4, x5, x6, x7, x8, x9, x10, x11⟩ := id hX
  obtain ⟨y', cc', mL', ret', dp'⟩ := M'
  cases hret
  have cw := cwI (R := R) (s := s) (args := args) (own := M.1.cls) (index := index) (ws := mm_ws (y', cc', mL', none, dp')) (rm := { frames := dp', cells := mc, slots := ms, locals := 40 * dp' }) n x5 (mm_gin w3) rfl rfl rfl (x5 _ w2) (x5 _ w1) (x5 _ w7) w6 w4 ⟨Nat.le_trans hfr x10, by show 8 + (mL' + 11) + 40 * dp' ≤ R.locals; have : mL' ≤ 21 := w5; have : dp' + 1 ≤ M.2.2.2.2 := hfr; omega⟩
  have hp9 := mm_preS (as := .ref b :: as) x6 hR hS
  refine mm_after hX hS hl hc hs hkc hks (va_runI (g := F0 m pc ls _) (b := mm_f G b) (As := as.map (mm_v G)) (rest := st.map (mm_v G)) ⟨x1, x2, x3, x4, x5⟩ hM cw hp9 rfl (by rw [List.length_map]; exact hn) hl.1 (by simp [mm_v]) (lv_room (by rw [mm_vsum]; exact h8)) hd ⟨by omega, by omega⟩) kk
theorem mm_callN {n b : Nat} {st0 : List Value} (hd : decode M.2.1 pc = .ok (.invokespecial index, 3)) (hp : pc + 3 = pc') (hw : mm_CN M.1.cls index M' n) (hret : M'.2.2.2.1 = none) (hM : mm_S l G M' (.ref b :: as) h mc ms Qc) (hst : st0 = as.reverse ++ .ref b :: st) (hn : as.length = n) (hfr : M'.2.2.2.2 + 1 ≤ M.2.2.2.2) (h8 : (st.map fun v => v.category).sum ≤ 8) (hkc : mc ≤ kc) (hks : ms ≤ ks)
    (kk : ∀ (v : Option Value) (h' : mm_H), Qc v h' → mm_V l G M (kc - mc) (ks - ms) pc' L (v.toList ++ st) h' Q) : mm_V l G M kc ks pc L st0 h Q := by
  intro p e R s m args below meth c H locs cells slots ls hX hR hS hl hc hs
  subst hp
  subst hst
  obtain ⟨w1, w2, w3, w4, w5, w6, w7⟩ := hw
  obtain ⟨x1, x2, x3, x4, x5, x6, x7, x8, x9, x10, x11⟩ := id hX
  obtain ⟨y', cc', mL', ret', dp'⟩ := M'
  cases hret
  have hnw : va_Nw (.methodLinkNest M.1.cls index y' "StubServer") s := x6.2.2.2.2.2.2.2.2.1 _ w1
  have cw := va_cnB (R := R) (s := s) (args := args) (own := M.1.cls) (host := "StubServer") (index := index) (ws := mm_ws (y', cc', mL', none, dp')) (rm := { frames := dp', cells := mc, slots := ms, locals := 40 * dp' }) n x5 (mm_gin w3) rfl rfl rfl hnw (x5 _ w2) w4 ⟨Nat.le_trans hfr x10, by show 8 + (mL' + 11) + 40 * dp' ≤ R.locals; have : mL' ≤ 21 := w5; have : dp' + 1 ≤ M.2.2.2.2 := hfr; omega⟩
  have hp9 := mm_preS (as := .ref b :: as) x6 hR hS
  refine mm_after hX hS hl hc hs hkc hks (va_runIN (g := F0 m pc ls _) (b := mm_f G b) (As := as.map (mm_v G)) (rest := st.map (mm_v G)) ⟨x1, x2, x3, x4, x5⟩ hM ⟨cw, w6, x5 _ w7⟩ hp9 rfl (by rw [List.length_map]; exact hn) hl.1 (by simp [mm_v]) (lv_room (by rw [mm_vsum]; exact h8)) hd ⟨by omega, by omega⟩) kk
theorem mm_callV {n b ci : Nat} {fs : List Value} {T : u_T} {N : Nat} {st0 : List Value} (hd : decode M.2.1 pc = .ok (.invokevirtual index, 3)) (hp : pc + 3 = pc') (hw : mm_CB M.1.cls index M' n ∧ Cond.instanceMethod M'.1 ∈ mm_all ∧ Cond.selects M'.1.cls M'.1 M'.1 ∈ mm_all) (hh : h.1 b = some (.inr (ci, fs))) (hc1 : mm_Cl[ci]? = some (M'.1.cls, T, N)) (hM : mm_S l G M' (.ref b :: as) h mc ms Qc) (hst : st0 = as.reverse ++ .ref b :: st) (hn : as.length = n) (hfr : M'.2.2.2.2 + 1 ≤ M.2.2.2.2) (h8 : (st.map fun v => v.category).sum ≤ 8) (hkc : mc ≤ kc) (hks : ms ≤ ks)
    (kk : ∀ (v : Option Value) (h' : mm_H), Qc v h' → mm_V l G M (kc - mc) (ks - ms) pc' L (v.toList ++ st) h' Q) : mm_V l G M kc ks pc L st0 h Q := by
  intro p e R s m args below meth c H locs cells slots ls hX hR hS hl hc hs
  subst hp
  subst hst
  obtain ⟨⟨w1, w2, w3, w4, w5⟩, w6, w7⟩ := hw
  obtain ⟨x1, x2, x3, x4, x5, x6, x7, x8, x9, x10, x11⟩ := id hX
  have cw := cwV (R := R) (s := s) (args := args) (own := M.1.cls) (C := M'.1.cls) (index := index) (ws := mm_ws M') (rm := { frames := M'.2.2.2.2, cells := mc, slots := ms, locals := 40 * M'.2.2.2.2 }) n x5
    (mm_gap (ws := [.methodLink M.1.cls index M'.1, .instanceMethod M'.1, .selects M'.1.cls M'.1 M'.1, .initialized M'.1.cls]) (fun w hw => by
      simp only [List.mem_cons, List.not_mem_nil, or_false] at hw
      rcases hw with h | h | h | h <;> subst h <;> assumption) (mm_gin w3)) rfl rfl rfl ⟨rfl, w4⟩ ⟨Nat.le_trans hfr x10, by show 8 + (M'.2.2.1 + 11) + 40 * M'.2.2.2.2 ≤ R.locals; omega⟩
  have hp9 := mm_preS (as := .ref b :: as) x6 hR hS
  refine mm_after hX hS hl hc hs hkc hks (va_runV (g := F0 m pc ls _) (b := mm_f G b) (As := as.map (mm_v G)) (rest := st.map (mm_v G)) ⟨x1, x2, x3, x4, x5⟩ hM cw ⟨hp9.1, mm_recv x6 hR hS hh hc1, hp9.2⟩ rfl (by rw [List.length_map]; exact hn) hl.1 (by simp [mm_v]) (lv_room (by rw [mm_vsum]; exact h8)) hd ⟨by omega, by omega⟩) kk
theorem mm_callU {n b ci : Nat} {fs : List Value} {T : u_T} {N : Nat} {x : MethodName} {owner C : String} {st0 : List Value} (hd : decode M.2.1 pc = .ok (.invokevirtual index, 3)) (hp : pc + 3 = pc') (hw : mm_CU M.1.cls index x owner C M' n) (hh : h.1 b = some (.inr (ci, fs))) (hc1 : mm_Cl[ci]? = some (C, T, N)) (hM : mm_S l G M' (.ref b :: as) h mc ms Qc) (hst : st0 = as.reverse ++ .ref b :: st) (hn : as.length = n) (hfr : M'.2.2.2.2 + 1 ≤ M.2.2.2.2) (h8 : (st.map fun v => v.category).sum ≤ 8) (hkc : mc ≤ kc) (hks : ms ≤ ks)
    (kk : ∀ (v : Option Value) (h' : mm_H), Qc v h' → mm_V l G M (kc - mc) (ks - ms) pc' L (v.toList ++ st) h' Q) : mm_V l G M kc ks pc L st0 h Q := by
  intro p e R s m args below meth c H locs cells slots ls hX hR hS hl hc hs
  subst hp
  subst hst
  obtain ⟨w1, w2, w3, w4, w5, w6, w7, w8, w9⟩ := hw
  obtain ⟨x1, x2, x3, x4, x5, x6, x7, x8, x9, x10, x11⟩ := id hX
  have hRm : M'.2.2.2.2 + 1 ≤ R.frames ∧ 8 + (M'.2.2.1 + 11) + 40 * M'.2.2.2.2 ≤ R.locals := ⟨Nat.le_trans hfr x10, by omega⟩
  have cw : va_CU R s args M.1.cls C owner index x M'.1 M'.2.1 M'.2.2.1 M'.2.2.2.1 (mm_ws M') { frames := M'.2.2.2.2, cells := mc, slots := ms, locals := 40 * M'.2.2.2.2 } mc ms n := by
    rcases w9 with w9 | ⟨w9, b0, m0, r0, w10⟩
    · exact va_cwU n x5 (mm_gap (ws := [.methodLink M.1.cls index x, .sameMethod x.cls owner x.name x.desc, .selects C x M'.1, .instanceMethod M'.1, .initialized M'.1.cls]) (fun w hw => by
        simp only [List.mem_cons, List.not_mem_nil, or_false] at hw
        rcases hw with h | h | h | h | h <;> subst h <;> assumption) (mm_gin w3)) rfl rfl rfl w9 w4 hRm
    · exact va_cwO n x5 (mm_gap (ws := [.methodLink M.1.cls index x, .sameMethod x.cls owner x.name x.desc, .instanceMethod ⟨owner, x.name, x.desc⟩, .selects C x M'.1, .instanceMethod M'.1, .initialized M'.1.cls]) (fun w hw => by
        simp only [List.mem_cons, List.not_mem_nil, or_false] at hw
        rcases hw with h | h | h | h | h | h <;> subst h <;> assumption) (mm_gin w3)) rfl rfl rfl w10 w4 hRm
  have hp9 := mm_preS (as := .ref b :: as) x6 hR hS
  refine mm_after hX hS hl hc hs hkc hks (va_runU (g := F0 m pc ls _) (b := mm_f G b) (As := as.map (mm_v G)) (rest := st.map (mm_v G)) ⟨x1, x2, x3, x4, x5⟩ hM cw ⟨hp9.1, mm_recv x6 hR hS hh hc1, hp9.2⟩ rfl (by rw [List.length_map]; exact hn) hl.1 (by simp [mm_v]) (lv_room (by rw [mm_vsum]; exact h8)) hd ⟨by omega, by omega⟩) kk
theorem mm_callP {n b ci : Nat} {fs : List Value} {C : String} {T : u_T} {N : Nat} {st0 : List Value} (hd : decode M.2.1 pc = .ok (.invokespecial index, 3)) (hp : pc + 3 = pc') (hw : mm_CP M.1.cls index M' n) (hh : h.1 b = some (.inr (ci, fs))) (hc1 : mm_Cl[ci]? = some (C, T, N)) (hM : mm_S l G M' (.ref b :: as) h mc ms Qc) (hst : st0 = as.reverse ++ .ref b :: st) (hn : as.length = n) (hfr : M'.2.2.2.2 + 1 ≤ M.2.2.2.2) (h8 : (st.map fun v => v.category).sum ≤ 8) (hkc : mc ≤ kc) (hks : ms ≤ ks)
    (kk : ∀ (v : Option Value) (h' : mm_H), Qc v h' → mm_V l G M (kc - mc) (ks - ms) pc' L (v.toList ++ st) h' Q) : mm_V l G M kc ks pc L st0 h Q := by
  intro p e R s m args below meth c H locs cells slots ls hX hR hS hl hc hs
  subst hp
  subst hst
  obtain ⟨w1, w2, w3, w4, w5, w6, w7, w8⟩ := hw
  obtain ⟨x1, x2, x3, x4, x5, x6, x7, x8, x9, x10, x11⟩ := id hX
  have cw := va_cwSU (R := R) (s := s) (args := args) (own := M.1.cls) (index := index) (ws := mm_ws M') (rm := { frames := M'.2.2.2.2, cells := mc, slots := ms, locals := 40 * M'.2.2.2.2 }) n x5
    (mm_gap (ws := [.methodLink M.1.cls index M'.1, .sameMethod M'.1.cls M'.1.cls M'.1.name M'.1.desc, .superclass M.1.cls M'.1.cls, .instanceMethod M'.1, .initialized M'.1.cls]) (fun w hw => by
      simp only [List.mem_cons, List.not_mem_nil, or_false] at hw
      rcases hw with h | h | h | h | h <;> subst h <;> assumption) (mm_gin w3)) rfl rfl rfl w4 ⟨Nat.le_trans hfr x10, by show 8 + (M'.2.2.1 + 11) + 40 * M'.2.2.2.2 ≤ R.locals; omega⟩
  have hp9 := mm_preS (as := .ref b :: as) x6 hR hS
  refine mm_after hX hS hl hc hs hkc hks (va_runSU (g := F0 m pc ls _) (b := mm_f G b) (As := as.map (mm_v G)) (rest := st.map (mm_v G)) (x6.1.1 ci _ hc1).2 ⟨x1, x2, x3, x4, x5⟩ hM cw ⟨hp9.1, mm_recv x6 hR hS hh hc1, hp9.2⟩ rfl (by rw [List.length_map]; exact hn) hl.1 (by simp [mm_v]) (lv_room (by rw [mm_vsum]; exact h8)) hd ⟨by omega, by omega⟩) kk
theorem mm_objInit {b : Nat} (hd : decode M.2.1 pc = .ok (.invokespecial index, 3)) (hp : pc + 3 = pc') (hw : Cond.methodLink M.1.cls index Lib.objectInit ∈ mm_all ∧ Cond.instanceMethod Lib.objectInit ∈ mm_all ∧ Cond.code Lib.objectInit ⟨#[0xb1]⟩ 1 none ∈ mm_all) (hfr : 1 ≤ M.2.2.2.2) (h8 : (st.map fun v => v.category).sum ≤ 8) (kk : mm_V l G M kc ks pc' L st h Q) : mm_V l G M kc ks pc L (.ref b :: st) h Q := by
  intro p e R s m args below meth c H locs cells slots ls hX hR hS hl hc hs
  subst hp
  have kk' := kk p e R s m args below meth c H locs cells slots ls hX hR hS hl hc hs
  obtain ⟨x1, x2, x3, x4, x5, x6, x7, x8, x9, x10, x11⟩ := hX
  refine W.objInit x1 x2 x4 (x5 _ hw.1) (x5 _ hw.2.1) (x5 _ hw.2.2) rfl (hl.1.trans x3.symm) rfl hd (Nat.le_trans hfr x10) ?_ kk'
  have h9 := lv_room (m := m) (pc := pc) (ls := ls) (rest := (Value.ref b :: st).map (mm_v G)) (st := st.map (mm_v G)) (by rw [mm_vsum]; exact h8)
  omega
end MMC
