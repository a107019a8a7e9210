def mm_CL (own : String) (index : Nat) : Prop := Cond.methodLink own index ⟨"[B", "clone", "()Ljava/lang/Object;"⟩ ∈ mm_all ∧ Cond.sameMethod "[B" "java/lang/Object" "clone" "()Ljava/lang/Object;" ∈ mm_all ∧ Cond.native ⟨"java/lang/Object", "clone", "()Ljava/lang/Object;"⟩ ∈ mm_all ∧ Cond.instanceMethod ⟨"java/lang/Object", "clone", "()Ljava/lang/Object;"⟩ ∈ mm_all ∧
  Cond.selects "[B" ⟨"[B", "clone", "()Ljava/lang/Object;"⟩ ⟨"java/lang/Object", "clone", "()Ljava/lang/Object;"⟩ ∈ mm_all
section MMK
variable {l : Launch} {G : mm_G} {M : mm_M} {kc ks pc pc' : Nat} {L : List (Option Value)} {st : List Value} {h : mm_H} {Q : Option Value → mm_H → Prop} {index : Nat}
theorem mm_nameB {s : State} {t : Nat} (hF : mm_F G s) (ht : t < 16) (hy : mm_ty t = .byte) : s.vm.findClass "[B" = some (G.2.1 t) := by
  have hRA := (hF.1.2 t _ (mm_tyAt G ht)).2
  rw [hy] at hRA
  exact hRA
set_option maxHeartbeats 1000000 in
/-- clone() of a new row of bytes -/
theorem mm_clone {a t n : Nat} {f : Nat → Int32} (hd : decode M.2.1 pc = .ok (.invokevirtual index, 3)) (hp : pc + 3 = pc') (hw : mm_CL M.1.cls index) (ht : t < 8) (hy : mm_ty t = .byte) (ha : h.1 a = some (.inl (t, n, .inl f))) (hfit : ∀ i : Nat, i < n → fits .byte (.int (f i)) = true) (hfr : 1 ≤ M.2.2.2.2) (h8 : (st.map fun v => v.category).sum ≤ 8) (hkc : 1 ≤ kc) (hks : n ≤ ks)
    (kk : mm_V l G M (kc - 1) (ks - n) pc' L (.ref h.2 :: st) (mm_new h (.inl (t, n, .inl f))) Q) : mm_V l G M kc ks pc L (.ref a :: st) h Q := by
  intro p e R s m args below meth c H locs cells slots ls hX hR hS hl hc hs
  subst hp
  obtain ⟨w1, w2, w3, w4, w5⟩ := hw
  obtain ⟨x1, x2, x3, x4, x5, x6, x7, x8, x9, x10, x11⟩ := id hX
  have hK := mm_newA hR.2.2.2.2 ha ht
  have hc1 := mm_cellA hR hK ha
  have hnm := mm_nameB x6 (by omega : t < 16) hy
  have hcl : va_Nw (.castable "[B" "java/lang/Cloneable") s := x6.2.2.2.2.2.1 ("[B", "java/lang/Cloneable") (by decide +kernel)
  obtain ⟨c0, t0', f1, f2, f3⟩ := Cond.castable_spec (va_Nw.use (A := args) rfl hcl)
  cases hnm.symm.trans f1
  have htop := hR.top
  have hAr := (x6.1.2 t _ (mm_tyAt G (by omega))).1
  rw [hy] at hAr
  intro T hT X
  have hcellT : T.heap[mm_f G a]? = some (arrV (G.2.1 t) n (fun j => Value.int (f j))) := by rw [hT]; exact hc1
  obtain ⟨-, kA, hkA, comp, hkind⟩ := State.isArrayOf_alike X.warmed.alike (hAr 0 (fun _ => .null))
  obtain ⟨-, kS, hkS, compS, hkindS⟩ := hAr 0 (fun _ => .null)
  have h9 := lv_room (m := m) (pc := pc) (ls := ls) (rest := (Value.ref (mm_f G a) :: st.map (mm_v G))) (st := st.map (mm_v G)) (by rw [mm_vsum]; exact h8)
  obtain ⟨vm', X', stp⟩ := X.cloneArray x1 x4 (x5 _ w1) (x5 _ w2) (x5 _ w3) (x5 _ w4) (x5 _ w5) (a := mm_f G a) (cell := arrV (G.2.1 t) n (fun j => Value.int (f j))) hcellT (fun k h => by cases h) (fun h => by cases h) hnm f2 f3
    (fun i v hv => by
      have hk' : T.vm.classes[G.2.1 t]? = some kA := hkA
      have h7 := va_fit (ty := .byte) (F := fun j => Value.int (f j)) hfit i v hv
      show T.fitsSlot (G.2.1 t) .none i v = true
      simpa [State.fitsSlot, State.slotType?, hk', hkind] using h7)
    (g := F0 m pc ls (.ref (mm_f G a) :: st.map (mm_v G))) rfl (hl.1.trans x3.symm) rfl (by rw [x2]; exact hd) (Nat.le_trans hfr x10) (by omega) (by omega) (by rw [arrV_size]; omega) (hloader := Vm.clonesLoader_of_array hkS hkindS)
  have hcellE : ({ cls := (arrV (G.2.1 t) n (fun j => Value.int (f j))).cls, slots := (arrV (G.2.1 t) n (fun j => Value.int (f j))).slots } : Cell) = arrV (G.2.1 t) n (fun j => Value.int (f j)) := rfl
  rw [hcellE, arrV_size] at X'
  generalize hH1 : H.push (arrV (G.2.1 t) n (fun j => Value.int (f j))) = H1
  have z1 : H1.size = H.size + 1 := by rw [← hH1, Array.size_push]
  have e1 : H1[H.size]? = some (arrV (G.2.1 t) n (fun j => Value.int (f j))) := by rw [← hH1, Array.getElem?_push_size]
  have o1 : ∀ q : Nat, q < H.size → H1[q]? = H[q]? := fun q hq => by rw [← hH1, Array.getElem?_push, if_neg (Nat.ne_of_lt hq)]
  have hS1 : va_S (mm_A G) s.heap H1 locs := ⟨Nat.le_trans hS.1 (by omega), fun x g1 g2 => (o1 x (Nat.lt_of_lt_of_le g1 hS.1)).trans (hS.2.1 x g1 g2), hS.2.2⟩
  have hR1 : mm_R G (mm_new h (.inl (t, n, .inl f))) H1 := hR.push z1 o1 e1
  have hheap : ((T.setVm vm').pushCell (arrV (G.2.1 t) n (fun j => Value.int (f j)))).heap = H1 := by rw [← hH1, ← hT]; rfl
  obtain ⟨t2, b1, b2⟩ := kk p e R s m args below meth c H1 locs (cells + 1) (slots + n) ls hX hR1 hS1 hl (by omega) (by omega) _ hheap X'
  refine ⟨t2, stp t2 ?_, b2⟩
  rw [hcellE, hT]
  have e9 : (Value.ref H.size :: st.map (mm_v G)) = (Value.ref h.2 :: st).map (mm_v G) := by
    show _ = mm_v G (.ref h.2) :: _
    rw [← htop]
    rfl
  show Steps p.tables e below (((T.setVm vm').pushCell _).setTop (F0 m (pc + 3) ls (Value.ref H.size :: st.map (mm_v G)))) t2
  rw [e9]
  exact b1
theorem mm_castB {a t n : Nat} {x : mm_C} (hd : decode M.2.1 pc = .ok (.checkcast index, 3)) (hp : pc + 3 = pc') (hw : Cond.classLink M.1.cls index "[B" ∈ mm_all) (ht : t < 8) (hy : mm_ty t = .byte) (ha : h.1 a = some (.inl (t, n, x))) (kk : mm_V l G M kc ks pc' L (.ref a :: st) h Q) : mm_V l G M kc ks pc L (.ref a :: st) h Q := by
  intro p e R s m args below meth c H locs cells slots ls hX hR hS hl hc hs
  subst hp
  have kk' := kk p e R s m args below meth c H locs cells slots ls hX hR hS hl hc hs
  have hK := mm_newA hR.2.2.2.2 ha ht
  have hc1 := mm_cellA hR hK ha
  have hnm := mm_nameB hX.2.2.2.2.2.1 (by omega : t < 16) hy
  intro T hT X
  obtain ⟨vm', X', stp⟩ := X.checkcastYes hX.1 hX.2.2.2.1 (hX.2.2.2.2.1 _ hw) (by rw [hT]; exact hc1) rfl hnm (va_asg _ _) (g := F0 m pc ls (.ref (mm_f G a) :: st.map (mm_v G))) rfl rfl (by rw [hX.2.1]; exact hd)
  obtain ⟨t2, a1, b1⟩ := kk' (T.setVm vm') hT X'
  exact ⟨t2, stp t2 a1, b1⟩
end MMK
