theorem mm_nn {z : Int32} (hz : ¬ z < 0) : z.toInt = (z.toNatClampNeg : Int) := by
  have hz0 : (0 : Int) ≤ z.toInt := by
    have := Int32.not_lt.mp hz
    simpa using Int32.le_iff_toInt_le.mp this
  show z.toInt = ((z.toInt.toNat : Nat) : Int)
  omega
def mm_AC (own : String) (index : Nat) : Prop := Cond.methodLink own index arraycopyName ∈ mm_all ∧ Cond.native arraycopyName ∈ mm_all ∧ Cond.static arraycopyName ∈ mm_all ∧ Cond.initialized "java/lang/System" ∈ mm_all
section MMY
variable {l : Launch} {G : mm_G} {M : mm_M} {kc ks pc pc' : Nat} {L : List (Option Value)} {st : List Value} {h : mm_H} {Q : Option Value → mm_H → Prop} {index : Nat}
set_option maxHeartbeats 1000000 in
/-- System.arraycopy of a row of small numbers into a new row of the same kind -/
theorem mm_copy {a0 a t0 t1 n0 n1 : Nat} {ty : FieldType} {f g : Nat → Int32} {sp dp n : Int32} (hd : decode M.2.1 pc = .ok (.invokestatic index, 3)) (hp : pc + 3 = pc') (hw : mm_AC M.1.cls index) (ht0 : t0 < 16) (ht1 : t1 < 8) (hy0 : mm_ty t0 = ty) (hy1 : mm_ty t1 = ty)
    (ha0 : h.1 a0 = some (.inl (t0, n0, .inl f))) (ha1 : h.1 a = some (.inl (t1, n1, .inl g))) (h1 : ¬ sp < 0) (h2 : ¬ dp < 0) (h3 : ¬ n < 0) (h4 : sp.toNatClampNeg + n.toNatClampNeg ≤ n0) (h5 : dp.toNatClampNeg + n.toNatClampNeg ≤ n1)
    (hfit : ∀ i : Nat, i < n.toNatClampNeg → fits ty (.int (f (sp.toNatClampNeg + i))) = true) (hfr : 1 ≤ M.2.2.2.2) (h8 : (st.map fun v => v.category).sum ≤ 8)
    (kk : mm_V l G M kc ks pc' L st (mm_set h a (.inl (t1, n1, .inl (va_cpy f g sp.toNatClampNeg dp.toNatClampNeg n.toNatClampNeg)))) Q) : mm_V l G M kc ks pc L (.int n :: .int dp :: .ref a :: .int sp :: .ref a0 :: st) h Q := by
  intro p e R s m args below meth c H locs cells slots ls hX hR hS hl hc hs
  subst hp
  obtain ⟨w1, w2, w3, w4⟩ := hw
  obtain ⟨x1, x2, x3, x4, x5, x6, x7, x8, x9, x10, x11⟩ := id hX
  have hK := mm_newA hR.2.2.2.2 ha1 ht1
  have hAa : mm_A G (mm_f G a) := by rw [mm_fK hK]; exact Nat.le_add_right _ _
  have hc1 := mm_cellA hR hK ha1
  obtain ⟨scr, r1, r2, r3, r4, r5, r6⟩ := mm_rd x6 hR hS ha0 ht0
  rw [hy0] at r2
  obtain ⟨hs6, k0, hk0, cm0, hkk0⟩ := r2
  have hq1 := (x6.1.2 t1 _ (mm_tyAt G (by omega))).1 n1 (mm_x (mm_c G (.inl g)))
  rw [hy1] at hq1
  obtain ⟨-, k1, hk1, cm1, hkk1⟩ := hq1
  intro T hT X
  obtain ⟨vm', X', step⟩ := X.arraycopy x1 x4 (x5 _ w1) (x5 _ w2) (x5 _ w3) (x5 _ w4) (src := mm_f G a0) (dst := mm_f G a) (cs := scr) (cd := arrV (G.2.1 t1) n1 (mm_x (mm_c G (.inl g)))) (srcPos := sp) (destPos := dp) (n := n) (by rw [hT]; exact r1) (by rw [hT]; exact hc1)
    hs6 (fun _ h => by cases h) r3 (fun h => by cases h) hk0 hk1 hkk0 hkk1 (by simp) h1 h2 h3
    (by rw [mm_nn h1, mm_nn h3]; omega)
    (by rw [mm_nn h2, mm_nn h3, arrV_size]; omega)
    (fun vm₁ _ i hi => by
      have e : scr.slots.getD (sp.toNatClampNeg + i) .null = .int (f (sp.toNatClampNeg + i)) := by
        rw [Array.getD_eq_getD_getElem?, r6 _ (by omega)]
        rfl
      refine ⟨?_, ?_⟩
      · rw [e]
        exact hfit i hi
      · rw [e]
        exact trivial)
    (g := F0 m pc ls (.int n :: .int dp :: .ref (mm_f G a) :: .int sp :: .ref (mm_f G a0) :: st.map (mm_v G))) rfl (hl.1.trans x3.symm) (rest := st.map (mm_v G)) rfl (by rw [x2]; exact hd) (Nat.le_trans hfr x10)
    (by
      have h9 := lv_room (m := m) (pc := pc) (ls := ls) (rest := (Value.int n :: Value.int dp :: Value.ref (mm_f G a) :: Value.int sp :: Value.ref (mm_f G a0) :: st.map (mm_v G))) (st := st.map (mm_v G)) (by rw [mm_vsum]; exact h8)
      have hw5 : nativeFrameWords "java/lang/System" "arraycopy" 5 = 7 := by decide
      omega)
  have e1 : copied scr (arrV (G.2.1 t1) n1 (mm_x (mm_c G (.inl g)))) sp dp n = arrV (G.2.1 t1) n1 (mm_x (mm_c G (.inl (va_cpy f g sp.toNatClampNeg dp.toNatClampNeg n.toNatClampNeg)))) := va_copiedX (fun z => .int z) scr (G.2.1 t1) f g r6 h4
  rw [e1] at X' step
  have hlt : mm_f G a < H.size := (Array.getElem?_eq_some_iff.mp hc1).1
  have hheap : ((T.setVm vm').setCell (mm_f G a) (arrV (G.2.1 t1) n1 (mm_x (mm_c G (.inl (va_cpy f g sp.toNatClampNeg dp.toNatClampNeg n.toNatClampNeg)))))).heap = H.setIfInBounds (mm_f G a) (arrV (G.2.1 t1) n1 (mm_x (mm_c G (.inl (va_cpy f g sp.toNatClampNeg dp.toNatClampNeg n.toNatClampNeg))))) := by rw [← hT]; rfl
  generalize hH1 : H.setIfInBounds (mm_f G a) (arrV (G.2.1 t1) n1 (mm_x (mm_c G (.inl (va_cpy f g sp.toNatClampNeg dp.toNatClampNeg n.toNatClampNeg))))) = H1 at hheap
  have oq : ∀ q : Nat, q ≠ mm_f G a → H1[q]? = H[q]? := fun q hq => by rw [← hH1]; simp [Array.getElem?_setIfInBounds, Ne.symm hq]
  have z1 : H1.size = H.size := by rw [← hH1]; simp
  have e2 : H1[mm_f G a]? = some (arrV (G.2.1 t1) n1 (mm_x (mm_c G (.inl (va_cpy f g sp.toNatClampNeg dp.toNatClampNeg n.toNatClampNeg))))) := by rw [← hH1]; simp [Array.getElem?_setIfInBounds, hlt]
  obtain ⟨t, a1, b1⟩ := kk p e R s m args below meth c H1 _ cells slots ls hX (hR.set hK ha1 z1 oq e2) ⟨by rw [z1]; exact hS.1, fun q g1 g2 => by
      rw [oq q (fun e => g2 (by rw [e]; exact hAa))]
      exact hS.2.1 q g1 g2, fun q hq => by
      rcases List.mem_append.mp hq with h | h
      · exact hS.2.2 q h
      · obtain ⟨z, -, hz⟩ := List.mem_map.mp h
        rw [← hz]
        exact hAa⟩ hl hc hs _ hheap X'
  exact ⟨t, step t a1, b1⟩
set_option maxHeartbeats 1000000 in
/-- System.arraycopy within a new row of references -/
theorem mm_copyq {a t n1 : Nat} {E : String} {f : Nat → Option Nat} {sp dp n : Int32} (hd : decode M.2.1 pc = .ok (.invokestatic index, 3)) (hp : pc + 3 = pc') (hw : mm_AC M.1.cls index) (ht : t < 8) (hy : mm_ty t = .object E)
    (ha : h.1 a = some (.inl (t, n1, .inr (.inr (.inr (.inr f)))))) (h1 : ¬ sp < 0) (h2 : ¬ dp < 0) (h3 : ¬ n < 0) (h4 : sp.toNatClampNeg + n.toNatClampNeg ≤ n1) (h5 : dp.toNatClampNeg + n.toNatClampNeg ≤ n1)
    (hel : ∀ i : Nat, i < n.toNatClampNeg → ∀ y : Nat, f (sp.toNatClampNeg + i) = some y → ∃ (ci : Nat) (fs : List Value) (C : String) (T : u_T) (N : Nat), h.1 y = some (.inr (ci, fs)) ∧ mm_Cl[ci]? = some (C, T, N) ∧ (C = E ∨ (C, E) ∈ mm_casts)) (hfr : 1 ≤ M.2.2.2.2) (h8 : (st.map fun v => v.category).sum ≤ 8)
    (kk : mm_V l G M kc ks pc' L st (mm_set h a (.inl (t, n1, .inr (.inr (.inr (.inr (va_cpy f f sp.toNatClampNeg dp.toNatClampNeg n.toNatClampNeg))))))) Q) : mm_V l G M kc ks pc L (.int n :: .int dp :: .ref a :: .int sp :: .ref a :: st) h Q := by
  intro p e R s m args below meth c H locs cells slots ls hX hR hS hl hc hs
  subst hp
  obtain ⟨w1, w2, w3, w4⟩ := hw
  obtain ⟨x1, x2, x3, x4, x5, x6, x7, x8, x9, x10, x11⟩ := id hX
  have hK := mm_newA hR.2.2.2.2 ha ht
  have hAa : mm_A G (mm_f G a) := by rw [mm_fK hK]; exact Nat.le_add_right _ _
  have hc1 : H[mm_f G a]? = some (arrV (G.2.1 t) n1 (fun j => va_rf ((f j).map (mm_f G)))) := mm_cellA hR hK ha
  have hq1 := (x6.1.2 t _ (mm_tyAt G (by omega)))
  rw [hy] at hq1
  obtain ⟨-, k1, hk1, cm1, hkk1⟩ := hq1.1 n1 (fun j => va_rf ((f j).map (mm_f G)))
  obtain ⟨kA, comp, r1, r2, r3, -⟩ := hq1.2
  cases hk1.symm.trans r1
  cases hkk1.symm.trans r2
  obtain ⟨kE, hkE, -⟩ := Vm.findClass_spec r3
  intro T hT X
  obtain ⟨vm', X', step⟩ := X.arraycopy x1 x4 (x5 _ w1) (x5 _ w2) (x5 _ w3) (x5 _ w4) (src := mm_f G a) (dst := mm_f G a) (cs := arrV (G.2.1 t) n1 (fun j => va_rf ((f j).map (mm_f G)))) (cd := arrV (G.2.1 t) n1 (fun j => va_rf ((f j).map (mm_f G)))) (srcPos := sp) (destPos := dp) (n := n) (by rw [hT]; exact hc1) (by rw [hT]; exact hc1)
    (fun _ h => by cases h) (fun _ h => by cases h) (fun h => by cases h) (fun h => by cases h) hk1 hk1 hkk1 hkk1 rfl h1 h2 h3
    (by rw [mm_nn h1, mm_nn h3, arrV_size]; omega)
    (by rw [mm_nn h2, mm_nn h3, arrV_size]; omega)
    (fun vm₁ hal i hi => by
      have e : (arrV (G.2.1 t) n1 (fun j => va_rf ((f j).map (mm_f G)))).slots.getD (sp.toNatClampNeg + i) .null = va_rf ((f (sp.toNatClampNeg + i)).map (mm_f G)) := by
        rw [Array.getD_eq_getD_getElem?, arrV_read _ _ (by omega)]
        rfl
      rw [e]
      cases hy9 : f (sp.toNatClampNeg + i) with
      | none => exact ⟨rfl, trivial⟩
      | some y =>
        obtain ⟨ci, fs, C, T0, N, hy1, hcl, hca⟩ := hel i hi y hy9
        obtain ⟨cellV, g1, g2, g3⟩ := mm_recv x6 hR hS hy1 hcl
        obtain ⟨kC, hkC, -⟩ := Vm.findClass_spec g3
        obtain ⟨kC', hkC', -⟩ := hal.2.2 _ _ hkC
        obtain ⟨kE', hkE', -⟩ := hal.2.2 _ _ hkE
        refine ⟨rfl, cellV, (show T.heap[mm_f G y]? = some cellV by rw [hT]; exact g1), (fun q h => by rw [h] at g2; cases g2), ⟨kC', hkC'⟩, ?_, ?_⟩
        · exact ⟨kE', hkE'⟩
        · show vm₁.assignable _ _ = true
          rw [hal.assignable]
          rcases hca with hca | hca
          · subst hca
            exact vb_asgS _ _ r3 g3
          · exact vb_asgC (x6.2.2.2.2.2.1 _ hca) _ _ r3 g3)
    (g := F0 m pc ls (.int n :: .int dp :: .ref (mm_f G a) :: .int sp :: .ref (mm_f G a) :: st.map (mm_v G))) rfl (hl.1.trans x3.symm) (rest := st.map (mm_v G)) rfl (by rw [x2]; exact hd) (Nat.le_trans hfr x10)
    (by
      have h9 := lv_room (m := m) (pc := pc) (ls := ls) (rest := (Value.int n :: Value.int dp :: Value.ref (mm_f G a) :: Value.int sp :: Value.ref (mm_f G a) :: st.map (mm_v G))) (st := st.map (mm_v G)) (by rw [mm_vsum]; exact h8)
      have hw5 : nativeFrameWords "java/lang/System" "arraycopy" 5 = 7 := by decide
      omega)
  have e1 : copied (arrV (G.2.1 t) n1 (fun j => va_rf ((f j).map (mm_f G)))) (arrV (G.2.1 t) n1 (fun j => va_rf ((f j).map (mm_f G)))) sp dp n = arrV (G.2.1 t) n1 (fun j => va_rf ((va_cpy f f sp.toNatClampNeg dp.toNatClampNeg n.toNatClampNeg j).map (mm_f G))) := va_copied (fun z => va_rf (z.map (mm_f G))) (G.2.1 t) (G.2.1 t) f f h4
  rw [e1] at X' step
  have hlt : mm_f G a < H.size := (Array.getElem?_eq_some_iff.mp hc1).1
  generalize hnew : arrV (G.2.1 t) n1 (fun j => va_rf ((va_cpy f f sp.toNatClampNeg dp.toNatClampNeg n.toNatClampNeg j).map (mm_f G))) = cellN at X' step
  have hheap : ((T.setVm vm').setCell (mm_f G a) cellN).heap = H.setIfInBounds (mm_f G a) cellN := by rw [← hT]; rfl
  generalize hH1 : H.setIfInBounds (mm_f G a) cellN = H1 at hheap
  have oq : ∀ q : Nat, q ≠ mm_f G a → H1[q]? = H[q]? := fun q hq => by rw [← hH1]; simp [Array.getElem?_setIfInBounds, Ne.symm hq]
  have z1 : H1.size = H.size := by rw [← hH1]; simp
  have e2 : H1[mm_f G a]? = some (arrV (G.2.1 t) n1 (fun j => va_rf ((va_cpy f f sp.toNatClampNeg dp.toNatClampNeg n.toNatClampNeg j).map (mm_f G)))) := by rw [← hH1, hnew]; simp [Array.getElem?_setIfInBounds, hlt]
  obtain ⟨t2, a1, b1⟩ := kk p e R s m args below meth c H1 _ cells slots ls hX (hR.set hK ha z1 oq e2) ⟨by rw [z1]; exact hS.1, fun q g1 g2 => by
      rw [oq q (fun e => g2 (by rw [e]; exact hAa))]
      exact hS.2.1 q g1 g2, fun q hq => by
      rcases List.mem_append.mp hq with h | h
      · exact hS.2.2 q h
      · obtain ⟨z, -, hz⟩ := List.mem_map.mp h
        rw [← hz]
        exact hAa⟩ hl hc hs _ hheap X'
  exact ⟨t2, step t2 a1, b1⟩
end MMY
