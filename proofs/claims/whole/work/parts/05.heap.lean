/-! what a site of the code names: a field of a class, a class, a static -/
def mm_FL (own : String) (index ci k : Nat) : Prop := ∃ (C : String) (T : u_T) (N : Nat) (ref : String), mm_Cl[ci]? = some (C, T, N) ∧ k < N ∧ Cond.fieldLink own index ref (T k).2.1 (T k).2.2.1 ∈ mm_all ∧ (ref = (T k).1 ∨ Cond.sameField ref (T k).1 (T k).2.1 (T k).2.2.1 ∈ mm_all)
def mm_PL (M : mm_M) (index ci k : Nat) (ty : FieldType) : Prop := ∃ (C : String) (T : u_T) (N : Nat) (ref : String), mm_Cl[ci]? = some (C, T, N) ∧ k < N ∧ Cond.fieldLink M.1.cls index ref (T k).2.1 (T k).2.2.1 ∈ mm_all ∧ (ref = (T k).1 ∨ Cond.sameField ref (T k).1 (T k).2.1 (T k).2.2.1 ∈ mm_all) ∧
  parseFieldDescriptor (T k).2.2.1 = some ty ∧ ((T k).2.2.2 = false ∨ ((T k).2.2.2 = true ∧ M.1.name = "<init>" ∧ (T k).1 = M.1.cls))
def mm_NL (own : String) (index ci : Nat) : Prop := ∃ (C : String) (T : u_T) (N : Nat), mm_Cl[ci]? = some (C, T, N) ∧ Cond.classLink own index C ∈ mm_all ∧ Cond.instantiable C N ∈ mm_all ∧ Cond.initialized C ∈ mm_all
def mm_GL (own : String) (index : Nat) (v : Value) : Prop := ∃ (C n d ref : String), (C, n, d, v) ∈ mm_sts ∧ Cond.fieldLink own index ref n d ∈ mm_all ∧ (ref = C ∨ Cond.sameField ref C n d ∈ mm_all)
/-- the receiver of a call, the object of a cast -/
theorem mm_recv {G : mm_G} {h : mm_H} {H : Heap} {s : State} {locs : List Loc} {a ci : Nat} {fs : List Value} {q : vw_C} (hF : mm_F G s) (hR : mm_R G h H) (hS : va_S (mm_A G) s.heap H locs) (hh : h.1 a = some (.inr (ci, fs))) (hc : mm_Cl[ci]? = some q) :
    ∃ cell : Cell, H[mm_f G a]? = some cell ∧ cell.vm.isStatics = false ∧ s.vm.findClass q.1 = some cell.cls := by
  by_cases ha : mm_K ≤ a
  · obtain ⟨r, h1, cell, g1, g2, g3, -⟩ := hR.2.2.2.1 a _ ha hh
    have e1 : r = q := Option.some.inj (h1.symm.trans hc)
    subst e1
    exact ⟨cell, g1, by rw [g3]; rfl, by rw [g2]; exact (hF.1.1 ci _ hc).2.1⟩
  · have hO : mm_O G.2.2.2.2 a = some (.inr (ci, fs)) := by rw [← hR.2.2.2.2 a (by omega)]; exact hh
    have e1 := (mm_Oo hO).1
    subst e1
    have e2 := Option.some.inj (hc.symm.trans mm_scAt)
    subst e2
    obtain ⟨cell, h1, h2, h3, -⟩ := (hF.2.1 a _ (by omega) hO).1.kept hS.2.1
    exact ⟨cell, h1, h2, h3⟩
/-- an array, as far as it is read -/
theorem mm_rd {G : mm_G} {h : mm_H} {H : Heap} {s : State} {locs : List Loc} {a t n : Nat} {x : mm_C} (hF : mm_F G s) (hR : mm_R G h H) (hS : va_S (mm_A G) s.heap H locs) (hh : h.1 a = some (.inl (t, n, x))) (ht : t < 16) :
    ∃ cell : Cell, H[mm_f G a]? = some cell ∧ s.isArrayOf cell (mm_ty t) ∧ cell.vm ≠ .unknown ∧ n ≤ cell.slots.size ∧ cell.slots.size.toInt32 = Int32.ofNat n ∧ ∀ j : Nat, j < n → cell.slots[j]? = some (mm_x (mm_c G x) j) := by
  by_cases ha : mm_K ≤ a
  · have h1 : H[mm_f G a]? = some (vp_cell (G.2.1 t) (n, mm_c G x)) := hR.2.2.2.1 a _ ha hh
    have h2 : vp_cell (G.2.1 t) (n, mm_c G x) = arrV (G.2.1 t) n (mm_x (mm_c G x)) := by
      obtain f | f | f | f | f := x <;> rfl
    rw [h2] at h1
    refine ⟨_, h1, (hF.1.2 t _ (mm_tyAt G ht)).1 n _, (fun q => by cases q), by rw [arrV_size]; exact Nat.le_refl _, by rw [arrV_size] <;> rfl, fun j hj => arrV_read _ _ hj⟩
  · have hO : mm_O G.2.2.2.2 a = some (.inl (t, n, x)) := by rw [← hR.2.2.2.2 a (by omega)]; exact hh
    obtain ⟨cell, h1, h2, h3, h4, h5, h6, h7⟩ := va_T.kept (hF.2.1 a _ (by omega) hO) hS.2.1
    exact ⟨cell, h1, h2, h3, h4, h5, h6⟩
section MMH
variable {l : Launch} {G : mm_G} {M : mm_M} {kc ks pc pc' : Nat} {L : List (Option Value)} {st : List Value} {h : mm_H} {Q : Option Value → mm_H → Prop}
theorem mm_aret {v : Value} {rt : FieldType} (hd : decode M.2.1 pc = .ok (.areturn, 1)) (hr : M.2.2.2.1 = some rt) (hrt : (∃ n, rt = .object n) ∨ ∃ t, rt = .array t) (hv : v = .null ∨ ∃ a, v = .ref a) (hq : Q (some v) h) : mm_V l G M kc ks pc L [v] h Q := by
  intro p e R s m args below meth c H locs cells slots ls hX hR hS hl hc hs
  refine W.widen (k := R.cells) (n := R.slots) (by omega) (by omega) ?_
  have hv' : mm_v G v = .null ∨ ∃ a, mm_v G v = .ref a := by
    rcases hv with rfl | ⟨a, rfl⟩
    · exact Or.inl rfl
    · exact Or.inr ⟨_, rfl⟩
  exact W.aret hX.1 hX.2.1 (hX.2.2.2.2.2.2.1.trans hr) hrt hv' (fun t ht hW => ⟨⟨some v, h, rfl, hq, by rw [ht]; exact hR⟩, hS.F ht⟩) hS.2.2 hd hX.2.2.2.2.2.2.2.1
theorem mm_getfield {index ci k a : Nat} {fs : List Value} {v : Value} (hd : decode M.2.1 pc = .ok (.getfield index, 3)) (hp : pc + 3 = pc') (hf : mm_FL M.1.cls index ci k) (hh : h.1 a = some (.inr (ci, fs))) (hv : fs[k]? = some v) (kk : mm_V l G M kc ks pc' L (v :: st) h Q) : mm_V l G M kc ks pc L (.ref a :: st) h Q := by
  intro p e R s m args below meth c H locs cells slots ls hX hR hS hl hc hs
  subst hp
  have kk' := kk p e R s m args below meth c H locs cells slots ls hX hR hS hl hc hs
  obtain ⟨x1, x2, x3, x4, x5, x6, -⟩ := hX
  obtain ⟨C, T, N, ref, hc1, hkN, hlk, hsm⟩ := hf
  obtain ⟨ty, c1, -⟩ := mm_CK hc1
  have hsame : ∀ x, s.fieldFound? (T k).1 (T k).2.1 (T k).2.2.1 = some x → s.fieldFound? ref (T k).2.1 (T k).2.2.1 = some x := by
    rcases hsm with h1 | h1
    · rw [h1]
      exact fun _ h => h
    · exact fun x hx => u_same (x5 _ h1) x hx
  by_cases ha : mm_K ≤ a
  · have hat := hR.2.2.2.1 a _ ha hh
    have hP : va_P G.1 mm_Cl [(mm_f G a, mm_e G (.inr (ci, fs)))] H := fun q x hq => by
      rw [List.mem_singleton.mp (List.mem_of_getElem? hq)]
      exact hat
    exact va_get x1 x2 (Ts := mm_all) x5 c1 x4 x6.1 hP 0 rfl hc1 k hkN (x5 _ hlk) hsame (v := mm_v G v) (by rw [List.getElem?_map, hv]; rfl) hd kk'
  · have hO : mm_O G.2.2.2.2 a = some (.inr (ci, fs)) := by rw [← hR.2.2.2.2 a (by omega)]; exact hh
    obtain ⟨e1, e2⟩ := mm_Oo hO
    subst e1
    obtain ⟨q1, q2, q3⟩ := x6.2.1 a _ (by omega) hO
    have e3 := Option.some.inj (hc1.symm.trans mm_scAt)
    cases e3
    have hk2 : k < 2 := by
      have := (List.getElem?_eq_some_iff.mp hv).1
      omega
    have hvv : vp_V fs k = v := by simp [vp_V, hv]
    match k, hk2 with
    | 0, _ => exact vk_getf x1 x2 (by rw [hvv] at q2; exact q2) hS x4 (x5 _ hlk) hsame hd kk'
    | 1, _ => exact vk_getf x1 x2 (by rw [hvv] at q3; exact q3) hS x4 (x5 _ hlk) hsame hd kk'
theorem mm_old {xs : List Int32} {a ci : Nat} {fs : List Value} (hR : ∀ k : Nat, k < mm_K → h.1 k = mm_O xs k) (hh : h.1 a = some (.inr (ci, fs))) (hK : ci ≠ mm_sc ∨ mm_K ≤ a) : mm_K ≤ a := by
  rcases hK with hK | hK
  · refine Nat.le_of_not_lt fun q => hK (mm_Oo (xs := xs) (k := a) (fs := fs) ?_).1
    rw [← hR a q]
    exact hh
  · exact hK
theorem mm_putfield {index ci k a : Nat} {fs : List Value} {v : Value} {ty : FieldType} (hd : decode M.2.1 pc = .ok (.putfield index, 3)) (hp : pc + 3 = pc') (hf : mm_PL M index ci k ty) (hn : ∀ G : mm_G, narrow ty (mm_v G v) = mm_v G v ∧ fits ty (mm_v G v) = true) (hh : h.1 a = some (.inr (ci, fs))) (hK : ci ≠ mm_sc ∨ mm_K ≤ a) (hl0 : k < fs.length)
    (kk : mm_V l G M kc ks pc' L st (mm_set h a (.inr (ci, fs.set k v))) Q) : mm_V l G M kc ks pc L (v :: .ref a :: st) h Q := by
  intro p e R s m args below meth c H locs cells slots ls hX hR hS hl hc hs
  subst hp
  have ha := mm_old hR.2.2.2.2 hh hK
  have hAa : mm_A G (mm_f G a) := by rw [mm_fK ha]; exact Nat.le_add_right _ _
  have kk' := kk p e R s m args below meth c
  obtain ⟨x1, x2, x3, x4, x5, x6, x7, x8, x9, -⟩ := id hX
  obtain ⟨C, T, N, ref, hc1, hkN, hlk, hsm, hpd, hfin⟩ := hf
  obtain ⟨ty0, c1, c2, c3, -⟩ := mm_CK hc1
  have hsame : ∀ x, s.fieldFound? (T k).1 (T k).2.1 (T k).2.2.1 = some x → s.fieldFound? ref (T k).2.1 (T k).2.2.1 = some x := by
    rcases hsm with h1 | h1
    · rw [h1]
      exact fun _ h => h
    · exact fun x hx => u_same (x5 _ h1) x hx
  have hap := va_apart (own := M.1.cls) x5 c1 ty0 c2 c3 x6.1 hc1
  obtain ⟨r, h1, cell, q1, q2, q3, q4⟩ := hR.2.2.2.1 a _ ha hh
  have hr : r = (C, T, N) := Option.some.inj (h1.symm.trans hc1)
  subst hr
  obtain ⟨hSl, hfc, kC, hkC, hkind⟩ := x6.1.1 ci _ hc1
  obtain ⟨cf, kf, fi, f, hi, hsl⟩ := hSl k hkN
  have hst := (u_facts hfc hkC (u_lays x5 c1 hkN) hi).1
  have hlay := x5 _ (c1 _ (u_in_lay hkN))
  unfold u_lay at hlay
  have fin : ∀ H' : Heap, H'[mm_f G a]? = some (cell.setSlot f.slot (mm_v G v)) → H'.size = H.size → (∀ q, q ≠ mm_f G a → H'[q]? = H[q]?) → W p l e R s m args below meth c H' (locs ++ [⟨mm_f G a, f.slot⟩]) cells slots (MQ below (mm_Q G Q) args s R.cells R.slots (mm_A G)) (F0 m (pc + 3) ls (st.map (mm_v G))) := by
    intro H' e1 e2 e3
    rw [hsl] at e1
    refine kk' H' _ cells slots ls hX (hR.set ha hh e2 e3 ?_) (hS.put e2 e3 hAa) hl hc hs
    refine ⟨_, hc1, t_OB.to (V := updV (vp_V (fs.map (mm_v G))) k (mm_v G v)) ⟨_, e1, q2, q3, t_set q4 hap hkN (mm_v G v)⟩ (fun j _ => ?_)⟩
    rw [vp_updV_set (by rw [List.length_map]; exact hl0)]
    rw [List.map_set]
  rcases hfin with hfin | ⟨hfin, hin2, hdecl⟩
  · rw [if_neg (by rw [hfin]; decide)] at hlay
    have h6 := u_store hfc hkC hkind hlay hi hpd (hn G).1 (hn G).2
    exact W.putK x1 x2 (f := f) ⟨x4, x5 _ hlk, ⟨_, _, _, hsame _ hi⟩, hst⟩ (by rw [q2]; exact h6) q1 q3 (by rw [hsl]; exact k2_hasslot (q4 k hkN)) rfl rfl hd fin
  · rw [if_pos hfin] at hlay
    have hcf : m.cls = cf := by
      obtain ⟨_, _, c', _, _, _, -, -, hf', -, -, -, hown2, -⟩ := Cond.laysFinal_spec hlay
      have e1 : c' = cf := by have := hi.symm.trans hf'; simp at this; exact this.1.symm
      rw [hdecl] at hown2
      rw [← e1]; exact Option.some.inj (x4.symm.trans hown2)
    have h6 := u_fits hfc hkC hkind (Or.inr hlay) hi hpd (hn G).1 (hn G).2
    exact W.putFinK x1 x2 x4 (x5 _ hlk) (hsame _ hi) hst hcf (x9.trans hin2) (by rw [q2]; exact h6) q1 q3 (by rw [hsl]; exact k2_hasslot (q4 k hkN)) rfl rfl hd fin
theorem mm_getstatic {index : Nat} {v : Value} (hd : decode M.2.1 pc = .ok (.getstatic index, 3)) (hp : pc + 3 = pc') (hg : mm_GL M.1.cls index v) (kk : mm_V l G M kc ks pc' L (v :: st) h Q) : mm_V l G M kc ks pc L st h Q := by
  intro p e R s m args below meth c H locs cells slots ls hX hR hS hl hc hs
  subst hp
  have kk' := kk p e R s m args below meth c H locs cells slots ls hX hR hS hl hc hs
  obtain ⟨x1, x2, x3, x4, x5, x6, -⟩ := hX
  obtain ⟨C, n, d, ref, h1, h2, h3⟩ := hg
  have hsame : ∀ x, s.fieldFound? C n d = some x → s.fieldFound? ref n d = some x := by
    rcases h3 with h3 | h3
    · rw [h3]
      exact fun _ h => h
    · exact fun x hx => u_same (x5 _ h3) x hx
  exact va_gets x1 x2 (x6.2.2.1 _ h1) hS x4 (x5 _ h2) hsame hd kk'
/-- the one static of which only 'a reference or null' is known -/
theorem mm_getstaticQ {index : Nat} (hd : decode M.2.1 pc = .ok (.getstatic index, 3)) (hp : pc + 3 = pc') (hg : Cond.fieldLink M.1.cls index "jdk/internal/util/Preconditions" "SIOOBE_FORMATTER" "Ljava/util/function/BiFunction;" ∈ mm_all) (kk : ∀ v : Value, (v = .null ∨ ∃ k : Nat, v = .ref k) → mm_V l G M kc ks pc' L (v :: st) h Q) : mm_V l G M kc ks pc L st h Q := by
  intro p e R s m args below meth c H locs cells slots ls hX hR hS hl hc hs
  subst hp
  obtain ⟨v, hv, hz⟩ := hX.2.2.2.2.2.1.2.2.2.2.2.2.2.2.2.1
  have kk' := kk v hv p e R s m args below meth c H locs cells slots ls hX hR hS hl hc hs
  obtain ⟨x1, x2, x3, x4, x5, x6, -⟩ := hX
  exact va_gets x1 x2 hz hS x4 (x5 _ hg) (fun _ h => h) hd kk'
theorem mm_ldcS {index k : Nat} {tx : String} (hd : decode M.2.1 pc = .ok (.ldc index, 2)) (hp : pc + 2 = pc') (hg : (M.1.cls, index, tx, k) ∈ mm_strs) (kk : mm_V l G M kc ks pc' L (.ref k :: st) h Q) : mm_V l G M kc ks pc L st h Q := by
  intro p e R s m args below meth c H locs cells slots ls hX hR hS hl hc hs
  subst hp
  have kk' := kk p e R s m args below meth c H locs cells slots ls hX hR hS hl hc hs
  obtain ⟨x1, x2, x3, x4, x5, x6, -⟩ := hX
  exact va_ldcS x1 x2 x4 (x6.2.2.2.1 _ hg) hd kk'
theorem mm_ldc {index : Nat} {v : Int32} (hd : decode M.2.1 pc = .ok (.ldc index, 2)) (hp : pc + 2 = pc') (hg : Cond.constant M.1.cls index v ∈ mm_all) (kk : mm_V l G M kc ks pc' L (.int v :: st) h Q) : mm_V l G M kc ks pc L st h Q := by
  intro p e R s m args below meth c H locs cells slots ls hX hR hS hl hc hs
  subst hp
  have kk' := kk p e R s m args below meth c H locs cells slots ls hX hR hS hl hc hs
  obtain ⟨x1, x2, x3, x4, x5, x6, -⟩ := hX
  exact lv_ldc x1 x2 x4 (x5 _ hg) hd kk'
theorem mm_newo {index ci n : Nat} (hd : decode M.2.1 pc = .ok (.new index, 3)) (hp : pc + 3 = pc') (hg : mm_NL M.1.cls index ci) (hn : (mm_df ci).length = n) (hkc : 1 ≤ kc) (hks : n ≤ ks) (kk : mm_V l G M (kc - 1) (ks - n) pc' L (.ref h.2 :: st) (mm_new h (.inr (ci, mm_df ci))) Q) : mm_V l G M kc ks pc L st h Q := by
  intro p e R s m args below meth c H locs cells slots ls hX hR hS hl hc hs
  subst hp
  have kk' := kk p e R s m args below meth c
  obtain ⟨x1, x2, x3, x4, x5, x6, -⟩ := id hX
  obtain ⟨C, T, N, hc1, h1, h2, h3⟩ := hg
  obtain ⟨ty0, c1, c2, c3, c4, c5⟩ := mm_CK hc1
  have hN : N = n := c5.symm.trans hn
  subst hN
  have hKn := x6.1.1 ci _ hc1
  refine W.newcK x1 x2 x4 (x5 _ h1) (x5 _ h2) (x5 _ h3) rfl hd (by omega) (by omega) hKn.2.1 rfl fun H1 kC hkC e1 z1 o1 => ?_
  have htop := hR.top
  have hS1 : va_S (mm_A G) s.heap H1 locs := ⟨Nat.le_trans hS.1 (by omega), fun x g1 g2 => (o1 x (Nat.lt_of_lt_of_le g1 hS.1)).trans (hS.2.1 x g1 g2), hS.2.2⟩
  have hR1 : mm_R G (mm_new h (.inr (ci, mm_df ci))) H1 := hR.push z1 o1 ⟨_, hc1, (u_born ty0 x5 c1 hKn hkC e1 c2).to (fun j hj => by rw [mm_vV, ← c4 j hj]; exact mm_dv G _)⟩
  have k9 := kk' H1 locs (cells + 1) (slots + N) ls hX hR1 hS1 hl (by omega) (by omega)
  have e9 : (Value.ref H.size :: st.map (mm_v G)) = (Value.ref h.2 :: st).map (mm_v G) := by
    show _ = mm_v G (.ref h.2) :: _
    rw [← htop]
    rfl
  show W p l e R s m args below meth c H1 locs (cells + 1) (slots + N) _ (F0 m (pc + 3) ls (Value.ref H.size :: st.map (mm_v G)))
  rw [e9]
  exact k9
theorem mm_iald {t n a : Nat} {f : Nat → Int32} {i : Int32} (hd : decode M.2.1 pc = .ok (.iaload, 1)) (hp : pc + 1 = pc') (ht : t < 16) (hty : mm_ty t = .int) (hh : h.1 a = some (.inl (t, n, .inl f))) (hin : vp_in i n) (kk : mm_V l G M kc ks pc' L (.int (f i.toNatClampNeg) :: st) h Q) : mm_V l G M kc ks pc L (.int i :: .ref a :: st) h Q := by
  intro p e R s m args below meth c H locs cells slots ls hX hR hS hl hc hs
  subst hp
  have kk' := kk p e R s m args below meth c H locs cells slots ls hX hR hS hl hc hs
  obtain ⟨cell, r1, r2, r3, r4, r5, r6⟩ := mm_rd hX.2.2.2.2.2.1 hR hS hh ht
  rw [hty] at r2
  have hlt : i.toNatClampNeg < n := Nat.not_le.mp fun q => hin (Or.inr q)
  exact W.iald (v := .int (f i.toNatClampNeg)) hX.1 hX.2.1 r1 r2 r3 (fun q => q.elim (fun q => hin (Or.inl q)) (fun q => by omega)) (r6 _ hlt) rfl rfl hd kk'
theorem mm_bald {t n a : Nat} {f : Nat → Int32} {i : Int32} (hd : decode M.2.1 pc = .ok (.baload, 1)) (hp : pc + 1 = pc') (ht : t < 16) (hty : mm_ty t = .byte) (hh : h.1 a = some (.inl (t, n, .inl f))) (hin : vp_in i n) (kk : mm_V l G M kc ks pc' L (.int (f i.toNatClampNeg) :: st) h Q) : mm_V l G M kc ks pc L (.int i :: .ref a :: st) h Q := by
  intro p e R s m args below meth c H locs cells slots ls hX hR hS hl hc hs
  subst hp
  have kk' := kk p e R s m args below meth c H locs cells slots ls hX hR hS hl hc hs
  obtain ⟨cell, r1, r2, r3, r4, r5, r6⟩ := mm_rd hX.2.2.2.2.2.1 hR hS hh ht
  rw [hty] at r2
  have hlt : i.toNatClampNeg < n := Nat.not_le.mp fun q => hin (Or.inr q)
  exact W.bald (v := .int (f i.toNatClampNeg)) hX.1 hX.2.1 r1 r2 r3 (fun q => q.elim (fun q => hin (Or.inl q)) (fun q => by omega)) (r6 _ hlt) rfl rfl hd kk'
theorem mm_zald {t n a : Nat} {f : Nat → Int32} {i : Int32} (hd : decode M.2.1 pc = .ok (.baload, 1)) (hp : pc + 1 = pc') (ht : t < 16) (hty : mm_ty t = .boolean) (hh : h.1 a = some (.inl (t, n, .inl f))) (hin : vp_in i n) (kk : mm_V l G M kc ks pc' L (.int (f i.toNatClampNeg) :: st) h Q) : mm_V l G M kc ks pc L (.int i :: .ref a :: st) h Q := by
  intro p e R s m args below meth c H locs cells slots ls hX hR hS hl hc hs
  subst hp
  have kk' := kk p e R s m args below meth c H locs cells slots ls hX hR hS hl hc hs
  obtain ⟨cell, r1, r2, r3, r4, r5, r6⟩ := mm_rd hX.2.2.2.2.2.1 hR hS hh ht
  rw [hty] at r2
  have hlt : i.toNatClampNeg < n := Nat.not_le.mp fun q => hin (Or.inr q)
  exact W.zald (v := .int (f i.toNatClampNeg)) hX.1 hX.2.1 r1 r2 r3 (fun q => q.elim (fun q => hin (Or.inl q)) (fun q => by omega)) (r6 _ hlt) rfl rfl hd kk'
theorem mm_cald {t n a : Nat} {f : Nat → Int32} {i : Int32} (hd : decode M.2.1 pc = .ok (.caload, 1)) (hp : pc + 1 = pc') (ht : t < 16) (hty : mm_ty t = .char) (hh : h.1 a = some (.inl (t, n, .inl f))) (hin : vp_in i n) (kk : mm_V l G M kc ks pc' L (.int (f i.toNatClampNeg) :: st) h Q) : mm_V l G M kc ks pc L (.int i :: .ref a :: st) h Q := by
  intro p e R s m args below meth c H locs cells slots ls hX hR hS hl hc hs
  subst hp
  have kk' := kk p e R s m args below meth c H locs cells slots ls hX hR hS hl hc hs
  obtain ⟨cell, r1, r2, r3, r4, r5, r6⟩ := mm_rd hX.2.2.2.2.2.1 hR hS hh ht
  rw [hty] at r2
  have hlt : i.toNatClampNeg < n := Nat.not_le.mp fun q => hin (Or.inr q)
  exact W.cald (v := .int (f i.toNatClampNeg)) hX.1 hX.2.1 r1 r2 r3 (fun q => q.elim (fun q => hin (Or.inl q)) (fun q => by omega)) (r6 _ hlt) rfl rfl hd kk'
theorem mm_aald {t n a : Nat} {C : String} {f : Nat → Option Nat} {i : Int32} (hd : decode M.2.1 pc = .ok (.aaload, 1)) (hp : pc + 1 = pc') (ht : t < 16) (hty : mm_ty t = .object C) (hh : h.1 a = some (.inl (t, n, .inr (.inr (.inr (.inr f)))))) (hin : vp_in i n) (kk : mm_V l G M kc ks pc' L (va_rf (f i.toNatClampNeg) :: st) h Q) : mm_V l G M kc ks pc L (.int i :: .ref a :: st) h Q := by
  intro p e R s m args below meth c H locs cells slots ls hX hR hS hl hc hs
  subst hp
  have kk' := kk p e R s m args below meth c H locs cells slots ls hX hR hS hl hc hs
  rw [List.map_cons, mm_vrf] at kk'
  obtain ⟨cell, r1, r2, r3, r4, r5, r6⟩ := mm_rd hX.2.2.2.2.2.1 hR hS hh ht
  rw [hty] at r2
  have hlt : i.toNatClampNeg < n := Nat.not_le.mp fun q => hin (Or.inr q)
  exact W.aald (v := va_rf ((f i.toNatClampNeg).map (mm_f G))) (ty := .object C) hX.1 hX.2.1 r1 r2 rfl r3 (fun q => q.elim (fun q => hin (Or.inl q)) (fun q => by omega)) (r6 _ hlt) rfl rfl hd kk'
theorem mm_alen {t n a : Nat} {x : mm_C} {v : Int32} (hd : decode M.2.1 pc = .ok (.arraylength, 1)) (hp : pc + 1 = pc') (ht : t < 16) (hh : h.1 a = some (.inl (t, n, x))) (hv : Int32.ofNat n = v) (kk : mm_V l G M kc ks pc' L (.int v :: st) h Q) : mm_V l G M kc ks pc L (.ref a :: st) h Q := by
  intro p e R s m args below meth c H locs cells slots ls hX hR hS hl hc hs
  subst hp
  have kk' := kk p e R s m args below meth c H locs cells slots ls hX hR hS hl hc hs
  obtain ⟨cell, r1, r2, r3, r4, r5, r6⟩ := mm_rd hX.2.2.2.2.2.1 hR hS hh ht
  exact W.alen (n := v) hX.1 hX.2.1 r1 r2 (r5.trans hv) rfl rfl hd kk'
/-- a new array's cell in the machine, and what a store makes of it -/
theorem mm_newA {xs : List Int32} {a t n : Nat} {x : mm_C} (hR : ∀ k : Nat, k < mm_K → h.1 k = mm_O xs k) (hh : h.1 a = some (.inl (t, n, x))) (ht : t < 8) : mm_K ≤ a :=
  Nat.le_of_not_lt fun q => by
    have := mm_Oa (xs := xs) (k := a) (t := t) (n := n) (x := x) (by rw [← hR a q]; exact hh)
    omega
theorem mm_cellA {H : Heap} {a t n : Nat} {x : mm_C} (hR : mm_R G h H) (ha : mm_K ≤ a) (hh : h.1 a = some (.inl (t, n, x))) : H[mm_f G a]? = some (arrV (G.2.1 t) n (mm_x (mm_c G x))) := by
  have h1 : H[mm_f G a]? = some (vp_cell (G.2.1 t) (n, mm_c G x)) := hR.2.2.2.1 a _ ha hh
  rw [h1]
  obtain f | f | f | f | f := x <;> rfl
theorem mm_putA {H H1 : Heap} {a t n j : Nat} {x x' : mm_C} {v : Value} (hR : mm_R G h H) (ha : mm_K ≤ a) (hh : h.1 a = some (.inl (t, n, x))) (e1 : H1[mm_f G a]? = some ((arrV (G.2.1 t) n (mm_x (mm_c G x))).setSlot j v)) (e2 : H1.size = H.size) (e3 : ∀ q, q ≠ mm_f G a → H1[q]? = H[q]?) (hx : ∀ q, mm_x (mm_c G x') q = if q = j then v else mm_x (mm_c G x) q) : mm_R G (mm_set h a (.inl (t, n, x'))) H1 := by
  refine hR.set ha hh e2 e3 ?_
  show H1[mm_f G a]? = some (vp_cell (G.2.1 t) (n, mm_c G x'))
  rw [e1, arrV_store]
  have h2 : vp_cell (G.2.1 t) (n, mm_c G x') = arrV (G.2.1 t) n (mm_x (mm_c G x')) := by
    obtain f | f | f | f | f := x' <;> rfl
  rw [h2]
  congr 2
  funext q
  rw [hx q]
  rfl
theorem mm_iast {t n a : Nat} {f : Nat → Int32} {i x : Int32} (hd : decode M.2.1 pc = .ok (.iastore, 1)) (hp : pc + 1 = pc') (ht : t < 8) (hty : mm_ty t = .int) (hh : h.1 a = some (.inl (t, n, .inl f))) (hin : vp_in i n) (kk : mm_V l G M kc ks pc' L st (mm_set h a (.inl (t, n, .inl (upd f i.toNatClampNeg x)))) Q) : mm_V l G M kc ks pc L (.int x :: .int i :: .ref a :: st) h Q := by
  intro p e R s m args below meth c H locs cells slots ls hX hR hS hl hc hs
  subst hp
  have ha := mm_newA hR.2.2.2.2 hh ht
  have hAa : mm_A G (mm_f G a) := by rw [mm_fK ha]; exact Nat.le_add_right _ _
  have h1 := mm_cellA hR ha hh
  have h2 := (hX.2.2.2.2.2.1.1.2 t _ (mm_tyAt G (by omega))).1 n (mm_x (mm_c G (.inl f)))
  rw [hty] at h2
  refine W.iast hX.1 hX.2.1 h1 h2 (fun q => by cases q) (by rw [arrV_size]; exact hin) rfl rfl hd fun H1 e1 e2 e3 => ?_
  refine kk p e R s m args below meth c H1 _ cells slots ls hX (mm_putA hR ha hh e1 e2 e3 fun q => ?_) (hS.put e2 e3 hAa) hl hc hs
  by_cases hq : q = i.toNatClampNeg <;> simp [mm_c, mm_x, upd, hq]
theorem mm_bast {t n a : Nat} {f : Nat → Int32} {i x : Int32} (hd : decode M.2.1 pc = .ok (.bastore, 1)) (hp : pc + 1 = pc') (ht : t < 8) (hty : mm_ty t = .byte) (hh : h.1 a = some (.inl (t, n, .inl f))) (hin : vp_in i n) (kk : mm_V l G M kc ks pc' L st (mm_set h a (.inl (t, n, .inl (upd f i.toNatClampNeg (x.toInt8.toInt32))))) Q) : mm_V l G M kc ks pc L (.int x :: .int i :: .ref a :: st) h Q := by
  intro p e R s m args below meth c H locs cells slots ls hX hR hS hl hc hs
  subst hp
  have ha := mm_newA hR.2.2.2.2 hh ht
  have hAa : mm_A G (mm_f G a) := by rw [mm_fK ha]; exact Nat.le_add_right _ _
  have h1 := mm_cellA hR ha hh
  have h2 := (hX.2.2.2.2.2.1.1.2 t _ (mm_tyAt G (by omega))).1 n (mm_x (mm_c G (.inl f)))
  rw [hty] at h2
  refine W.bast hX.1 hX.2.1 h1 h2 (fun q => by cases q) (by rw [arrV_size]; exact hin) rfl rfl hd fun H1 e1 e2 e3 => ?_
  refine kk p e R s m args below meth c H1 _ cells slots ls hX (mm_putA hR ha hh e1 e2 e3 fun q => ?_) (hS.put e2 e3 hAa) hl hc hs
  by_cases hq : q = i.toNatClampNeg
  · simp [mm_c, mm_x, upd, hq]
    rfl
  · simp [mm_c, mm_x, upd, hq]
theorem mm_zast {t n a : Nat} {f : Nat → Int32} {i x : Int32} (hd : decode M.2.1 pc = .ok (.bastore, 1)) (hp : pc + 1 = pc') (ht : t < 8) (hty : mm_ty t = .boolean) (hx01 : narrow .boolean (.int x) = .int x) (hh : h.1 a = some (.inl (t, n, .inl f))) (hin : vp_in i n) (kk : mm_V l G M kc ks pc' L st (mm_set h a (.inl (t, n, .inl (upd f i.toNatClampNeg x)))) Q) : mm_V l G M kc ks pc L (.int x :: .int i :: .ref a :: st) h Q := by
  intro p e R s m args below meth c H locs cells slots ls hX hR hS hl hc hs
  subst hp
  have ha := mm_newA hR.2.2.2.2 hh ht
  have hAa : mm_A G (mm_f G a) := by rw [mm_fK ha]; exact Nat.le_add_right _ _
  have h1 := mm_cellA hR ha hh
  have h2 := (hX.2.2.2.2.2.1.1.2 t _ (mm_tyAt G (by omega))).1 n (mm_x (mm_c G (.inl f)))
  rw [hty] at h2
  refine W.zast hX.1 hX.2.1 h1 h2 (fun q => by cases q) (by rw [arrV_size]; exact hin) rfl rfl hd fun H1 e1 e2 e3 => ?_
  rw [hx01] at e1
  refine kk p e R s m args below meth c H1 _ cells slots ls hX (mm_putA hR ha hh e1 e2 e3 fun q => ?_) (hS.put e2 e3 hAa) hl hc hs
  by_cases hq : q = i.toNatClampNeg <;> simp [mm_c, mm_x, upd, hq]
theorem mm_cast {t n a : Nat} {f : Nat → Int32} {i x : Int32} (hd : decode M.2.1 pc = .ok (.castore, 1)) (hp : pc + 1 = pc') (ht : t < 8) (hty : mm_ty t = .char) (hx01 : narrow .char (.int x) = .int x) (hh : h.1 a = some (.inl (t, n, .inl f))) (hin : vp_in i n) (kk : mm_V l G M kc ks pc' L st (mm_set h a (.inl (t, n, .inl (upd f i.toNatClampNeg x)))) Q) : mm_V l G M kc ks pc L (.int x :: .int i :: .ref a :: st) h Q := by
  intro p e R s m args below meth c H locs cells slots ls hX hR hS hl hc hs
  subst hp
  have ha := mm_newA hR.2.2.2.2 hh ht
  have hAa : mm_A G (mm_f G a) := by rw [mm_fK ha]; exact Nat.le_add_right _ _
  have h1 := mm_cellA hR ha hh
  have h2 := (hX.2.2.2.2.2.1.1.2 t _ (mm_tyAt G (by omega))).1 n (mm_x (mm_c G (.inl f)))
  rw [hty] at h2
  refine W.cast hX.1 hX.2.1 h1 h2 (fun q => by cases q) (by rw [arrV_size]; exact hin) rfl rfl hd fun H1 e1 e2 e3 => ?_
  rw [hx01] at e1
  refine kk p e R s m args below meth c H1 _ cells slots ls hX (mm_putA hR ha hh e1 e2 e3 fun q => ?_) (hS.put e2 e3 hAa) hl hc hs
  by_cases hq : q = i.toNatClampNeg <;> simp [mm_c, mm_x, upd, hq]
/-- an object is laid into a row of its own class, or of one that it may be cast to -/
theorem mm_aast {t n a v ci : Nat} {C E : String} {T : u_T} {N : Nat} {fs : List Value} {f : Nat → Option Nat} {i : Int32} (hd : decode M.2.1 pc = .ok (.aastore, 1)) (hp : pc + 1 = pc') (ht : t < 8) (hty : mm_ty t = .object E) (hh : h.1 a = some (.inl (t, n, .inr (.inr (.inr (.inr f)))))) (hin : vp_in i n) (hv : h.1 v = some (.inr (ci, fs))) (hc1 : mm_Cl[ci]? = some (C, T, N)) (hca : C = E ∨ (C, E) ∈ mm_casts)
    (kk : mm_V l G M kc ks pc' L st (mm_set h a (.inl (t, n, .inr (.inr (.inr (.inr (va_up f i.toNatClampNeg (some v)))))))) Q) : mm_V l G M kc ks pc L (.ref v :: .int i :: .ref a :: st) h Q := by
  intro p e R s m args below meth c H locs cells slots ls hX hR hS hl hc hs
  subst hp
  have ha := mm_newA hR.2.2.2.2 hh ht
  have hAa : mm_A G (mm_f G a) := by rw [mm_fK ha]; exact Nat.le_add_right _ _
  have h1 := mm_cellA hR ha hh
  have hlt : i.toNatClampNeg < n := Nat.not_le.mp fun q => hin (Or.inr q)
  have h0 : ¬ i < 0 := fun q => hin (Or.inl q)
  have hF := hX.2.2.2.2.2.1
  obtain ⟨cellV, g1, g3, g2⟩ := mm_recv hF hR hS hv hc1
  have hRA := (hF.1.2 t _ (mm_tyAt G (by omega))).2
  rw [hty] at hRA
  obtain ⟨kA, comp, k1, k2, k3, -⟩ := hRA
  obtain ⟨kE, hkE, -⟩ := Vm.findClass_spec k3
  obtain ⟨kC, hkC, -⟩ := Vm.findClass_spec g2
  have hasg : s.vm.assignable cellV.cls comp = true := by
    rcases hca with hca | hca
    · subst hca
      exact vb_asgS comp _ k3 g2
    · exact vb_asgC (hF.2.2.2.2.2.1 _ hca) comp _ k3 g2
  refine W.aast hX.1 hX.2.1 h1 (fun q h => by cases h) (fun h => by cases h) k1 k2 rfl hkE ⟨h0, by rw [arrV_size]; exact hlt⟩ g1 (fun q h => by rw [h] at g3; cases g3) hkC hasg rfl rfl hd fun H1 e1 e2 e3 => ?_
  refine kk p e R s m args below meth c H1 _ cells slots ls hX (mm_putA hR ha hh e1 e2 e3 fun q => ?_) (hS.put e2 e3 hAa) hl hc hs
  by_cases hq : q = i.toNatClampNeg
  · subst hq
    simp [mm_c, mm_x, va_up, va_rf]
  · simp [mm_c, mm_x, va_up, hq]
theorem mm_aastN {t n a : Nat} {E : String} {f : Nat → Option Nat} {i : Int32} (hd : decode M.2.1 pc = .ok (.aastore, 1)) (hp : pc + 1 = pc') (ht : t < 8) (hty : mm_ty t = .object E) (hh : h.1 a = some (.inl (t, n, .inr (.inr (.inr (.inr f)))))) (hin : vp_in i n)
    (kk : mm_V l G M kc ks pc' L st (mm_set h a (.inl (t, n, .inr (.inr (.inr (.inr (va_up f i.toNatClampNeg none))))))) Q) : mm_V l G M kc ks pc L (.null :: .int i :: .ref a :: st) h Q := by
  intro p e R s m args below meth c H locs cells slots ls hX hR hS hl hc hs
  subst hp
  have ha := mm_newA hR.2.2.2.2 hh ht
  have hAa : mm_A G (mm_f G a) := by rw [mm_fK ha]; exact Nat.le_add_right _ _
  have h1 := mm_cellA hR ha hh
  have h2 := (hX.2.2.2.2.2.1.1.2 t _ (mm_tyAt G (by omega))).1 n (mm_x (mm_c G (.inr (.inr (.inr (.inr f))))))
  rw [hty] at h2
  refine va_WaastN (C := E) hX.1 hX.2.1 h1 h2 (fun q => by cases q) (by rw [arrV_size]; exact hin) rfl rfl hd fun H1 e1 e2 e3 => ?_
  refine kk p e R s m args below meth c H1 _ cells slots ls hX (mm_putA hR ha hh e1 e2 e3 fun q => ?_) (hS.put e2 e3 hAa) hl hc hs
  by_cases hq : q = i.toNatClampNeg
  · subst hq
    simp [mm_c, mm_x, va_up, va_rf]
  · simp [mm_c, mm_x, va_up, hq]
theorem mm_pushA {H H1 : Heap} {t n : Nat} {x : mm_C} {v : Value} (hR : mm_R G h H) (z1 : H1.size = H.size + 1) (o1 : ∀ q : Nat, q < H.size → H1[q]? = H[q]?) (e1 : H1[H.size]? = some (arrV (G.2.1 t) n (fun _ => v))) (hx : ∀ j, mm_x (mm_c G x) j = v) : mm_R G (mm_new h (.inl (t, n, x))) H1 := by
  refine hR.push z1 o1 ?_
  show H1[H.size]? = some (vp_cell (G.2.1 t) (n, mm_c G x))
  have h2 : vp_cell (G.2.1 t) (n, mm_c G x) = arrV (G.2.1 t) n (mm_x (mm_c G x)) := by
    obtain f | f | f | f | f := x <;> rfl
  rw [e1, h2]
  congr 2
  funext j
  exact (hx j).symm
theorem mm_newarr {t N : Nat} {atype : ArrayType} {n : Int32} (hd : decode M.2.1 pc = .ok (.newarray atype, 2)) (hp : pc + 2 = pc') (ht : t < 8) (hty : mm_ty t = newarray.typeOf atype) (hw : Cond.arrayClass (newarray.typeOf atype) ∈ mm_all) (hdv : defaultValue (newarray.typeOf atype) = .int 0) (hn : ¬ n < 0) (hN : n.toNatClampNeg = N) (hb : N * componentBytes (newarray.typeOf atype) ≤ 536870912) (hkc : 1 ≤ kc) (hks : N ≤ ks)
    (kk : mm_V l G M (kc - 1) (ks - N) pc' L (.ref h.2 :: st) (mm_new h (.inl (t, N, .inl (fun _ => 0)))) Q) : mm_V l G M kc ks pc L (.int n :: st) h Q := by
  intro p e R s m args below meth c H locs cells slots ls hX hR hS hl hc hs
  subst hp
  have htop := hR.top
  refine va_newaK hX.1 hX.2.1 (hX.2.2.2.2.1 _ hw) rfl hd rfl hn hN hb (by omega) (by omega) rfl fun H1 cA e1 z1 o1 hAr hNm => ?_
  have hRA := (hX.2.2.2.2.2.1.1.2 t _ (mm_tyAt G (by omega))).2
  have hcA : cA = G.2.1 t := by
    rw [hty] at hRA
    have h9 : s.vm.findClass ("[" ++ (newarray.typeOf atype).toString) = some (G.2.1 t) := by cases atype <;> exact hRA
    exact Option.some.inj (hNm.symm.trans h9)
  subst hcA
  rw [hdv] at e1
  have hS1 : va_S (mm_A G) s.heap H1 locs := ⟨Nat.le_trans hS.1 (by omega), fun x g1 g2 => (o1 x (Nat.lt_of_lt_of_le g1 hS.1)).trans (hS.2.1 x g1 g2), hS.2.2⟩
  have hR1 : mm_R G (mm_new h (.inl (t, N, .inl (fun _ => 0)))) H1 := mm_pushA hR z1 o1 e1 (fun _ => rfl)
  have k9 := kk p e R s m args below meth c H1 locs (cells + 1) (slots + N) ls hX hR1 hS1 hl (by omega) (by omega)
  have e9 : (Value.ref H.size :: st.map (mm_v G)) = (Value.ref h.2 :: st).map (mm_v G) := by
    show _ = mm_v G (.ref h.2) :: _
    rw [← htop]
    rfl
  show W p l e R s m args below meth c H1 locs (cells + 1) (slots + N) _ (F0 m (pc + 2) ls (Value.ref H.size :: st.map (mm_v G)))
  rw [e9]
  exact k9
theorem mm_anewarr {t N index : Nat} {E : String} {n : Int32} (hd : decode M.2.1 pc = .ok (.anewarray index, 3)) (hp : pc + 3 = pc') (ht : t < 8) (hty : mm_ty t = .object E) (hw : Cond.classLink M.1.cls index E ∈ mm_all) (hao : E ∈ mm_aos) (hn : ¬ n < 0) (hN : n.toNatClampNeg = N) (hb : N * 4 ≤ 536870912) (hkc : 1 ≤ kc) (hks : N ≤ ks)
    (kk : mm_V l G M (kc - 1) (ks - N) pc' L (.ref h.2 :: st) (mm_new h (.inl (t, N, .inr (.inr (.inr (.inr (fun _ => none))))))) Q) : mm_V l G M kc ks pc L (.int n :: st) h Q := by
  intro p e R s m args below meth c H locs cells slots ls hX hR hS hl hc hs
  subst hp
  subst hN
  have htop := hR.top
  refine W.anew hX.1 hX.2.1 hX.2.2.2.1 (hX.2.2.2.2.1 _ hw) (va_AO.use (hX.2.2.2.2.2.1.2.2.2.2.1 _ hao)) rfl hd rfl hn hb (by omega) (by omega) fun cA kA comp f1 f2 f3 f4 => ?_
  generalize hH1 : H.push ({ cls := cA, slots := Array.replicate n.toNatClampNeg .null, vm := .none } : Cell) = H1
  have z1 : H1.size = H.size + 1 := by rw [← hH1, Array.size_push]
  have e1 : H1[H.size]? = some (arrV cA n.toNatClampNeg (fun _ => .null)) := by rw [← hH1, Array.getElem?_push_size, ← arrV_new]
  have o1 : ∀ q : Nat, q < H.size → H1[q]? = H[q]? := fun q hq => by rw [← hH1, Array.getElem?_push, if_neg (Nat.ne_of_lt hq)]
  have hRA := (hX.2.2.2.2.2.1.1.2 t _ (mm_tyAt G (by omega))).2
  rw [hty] at hRA
  obtain ⟨kA2, comp2, r1, r2, r3, r4⟩ := hRA
  have hcA : cA = G.2.1 t := Option.some.inj (f1.symm.trans r4)
  subst hcA
  have hS1 : va_S (mm_A G) s.heap H1 locs := ⟨Nat.le_trans hS.1 (by omega), fun x g1 g2 => (o1 x (Nat.lt_of_lt_of_le g1 hS.1)).trans (hS.2.1 x g1 g2), hS.2.2⟩
  have hR1 : mm_R G (mm_new h (.inl (t, n.toNatClampNeg, .inr (.inr (.inr (.inr (fun _ => none))))))) H1 := mm_pushA hR z1 o1 e1 (fun _ => rfl)
  have k9 := kk p e R s m args below meth c H1 locs (cells + 1) (slots + n.toNatClampNeg) ls hX hR1 hS1 hl (by omega) (by omega)
  have e9 : (Value.ref H.size :: st.map (mm_v G)) = (Value.ref h.2 :: st).map (mm_v G) := by
    show _ = mm_v G (.ref h.2) :: _
    rw [← htop]
    rfl
  show W p l e R s m args below meth c H1 locs (cells + 1) (slots + n.toNatClampNeg) _ (F0 m (pc + 3) ls (Value.ref H.size :: st.map (mm_v G)))
  rw [e9]
  exact k9
theorem mm_cast1 {index a ci : Nat} {fs : List Value} {C : String} {T : u_T} {N : Nat} (hd : decode M.2.1 pc = .ok (.checkcast index, 3)) (hp : pc + 3 = pc') (hc1 : mm_Cl[ci]? = some (C, T, N)) (hw : Cond.classLink M.1.cls index C ∈ mm_all) (hh : h.1 a = some (.inr (ci, fs))) (kk : mm_V l G M kc ks pc' L (.ref a :: st) h Q) : mm_V l G M kc ks pc L (.ref a :: st) h Q := by
  intro p e R s m args below meth c H locs cells slots ls hX hR hS hl hc hs
  subst hp
  have kk' := kk p e R s m args below meth c H locs cells slots ls hX hR hS hl hc hs
  exact va_castE hX.1 hX.2.1 hX.2.2.2.1 (hX.2.2.2.2.1 _ hw) (mm_recv hX.2.2.2.2.2.1 hR hS hh hc1) hd kk'
theorem mm_castN {index : Nat} (hd : decode M.2.1 pc = .ok (.checkcast index, 3)) (hp : pc + 3 = pc') (kk : mm_V l G M kc ks pc' L (.null :: st) h Q) : mm_V l G M kc ks pc L (.null :: st) h Q := by
  intro p e R s m args below meth c H locs cells slots ls hX hR hS hl hc hs
  subst hp
  exact lv_castN hX.1 hX.2.1 hd (kk p e R s m args below meth c H locs cells slots ls hX hR hS hl hc hs)
theorem mm_inst1 {index a ci : Nat} {fs : List Value} {C : String} {T : u_T} {N : Nat} (hd : decode M.2.1 pc = .ok (.instanceof index, 3)) (hp : pc + 3 = pc') (hc1 : mm_Cl[ci]? = some (C, T, N)) (hw : Cond.classLink M.1.cls index C ∈ mm_all) (hh : h.1 a = some (.inr (ci, fs))) (kk : mm_V l G M kc ks pc' L (.int 1 :: st) h Q) : mm_V l G M kc ks pc L (.ref a :: st) h Q := by
  intro p e R s m args below meth c H locs cells slots ls hX hR hS hl hc hs
  subst hp
  have kk' := kk p e R s m args below meth c H locs cells slots ls hX hR hS hl hc hs
  exact va_instE hX.1 hX.2.1 hX.2.2.2.1 (hX.2.2.2.2.1 _ hw) (mm_recv hX.2.2.2.2.2.1 hR hS hh hc1) hd kk'
/-- two references: equal, or not; two different ones of which one is new differ in the machine too -/
def mm_dis (a b : Nat) : Prop := (mm_K ≤ a ∨ mm_K ≤ b) ∨ (0 < a ∧ a < 8 ∧ 0 < b ∧ b < 8)
theorem mm_fne {a b : Nat} {s : State} (hF : mm_F G s) (hab : mm_dis a b) (h : mm_f G a = mm_f G b) : a = b := by
  have ho := hF.2.2.2.2.2.2.2.1
  have hd := hF.2.2.2.2.2.2.2.2.2.2
  unfold mm_f at h
  by_cases h1 : a < mm_K <;> by_cases h2 : b < mm_K
  · rw [if_pos h1, if_pos h2] at h
    rcases hab with q | ⟨q1, q2, q3, q4⟩
    · omega
    · exact hd a b q1 q2 q3 q4 h
  · rw [if_pos h1, if_neg h2] at h
    have := ho a h1
    omega
  · rw [if_neg h1, if_pos h2] at h
    have := ho b h2
    omega
  · rw [if_neg h1, if_neg h2] at h
    omega
theorem mm_acmp_eqT {a : Nat} {off : Int} {tgt : Nat} (hd : decode M.2.1 pc = .ok (.if_acmp .eq off, 3)) (ht : (pc : Int) + off = (tgt : Int)) (k : mm_V l G M kc ks tgt L st h Q) : mm_V l G M kc ks pc L (.ref a :: .ref a :: st) h Q := by
  intro p e R s m args below meth c H locs cells slots ls hX hR hS hl hc hs
  exact lv_acmp_eq (rx := some (mm_f G a)) (ry := some (mm_f G a)) hX.1 hX.2.1 hd ht (fun _ => k p e R s m args below meth c H locs cells slots ls hX hR hS hl hc hs) (fun q => absurd rfl q)
theorem mm_acmp_neF {a : Nat} {off : Int} {tgt : Nat} (hd : decode M.2.1 pc = .ok (.if_acmp .ne off, 3)) (hp : pc + 3 = pc') (ht : (pc : Int) + off = (tgt : Int)) (k : mm_V l G M kc ks pc' L st h Q) : mm_V l G M kc ks pc L (.ref a :: .ref a :: st) h Q := by
  intro p e R s m args below meth c H locs cells slots ls hX hR hS hl hc hs
  subst hp
  exact lv_acmp_ne (rx := some (mm_f G a)) (ry := some (mm_f G a)) hX.1 hX.2.1 hd ht (fun q => absurd rfl q) (fun _ => k p e R s m args below meth c H locs cells slots ls hX hR hS hl hc hs)
theorem mm_acmp_eqF {a b : Nat} {off : Int} {tgt : Nat} (hd : decode M.2.1 pc = .ok (.if_acmp .eq off, 3)) (hp : pc + 3 = pc') (ht : (pc : Int) + off = (tgt : Int)) (hne : a ≠ b) (hab : mm_dis a b) (k : mm_V l G M kc ks pc' L st h Q) : mm_V l G M kc ks pc L (.ref b :: .ref a :: st) h Q := by
  intro p e R s m args below meth c H locs cells slots ls hX hR hS hl hc hs
  subst hp
  exact lv_acmp_eq (rx := some (mm_f G a)) (ry := some (mm_f G b)) hX.1 hX.2.1 hd ht (fun q => absurd (mm_fne hX.2.2.2.2.2.1 hab (Option.some.inj q)) hne) (fun _ => k p e R s m args below meth c H locs cells slots ls hX hR hS hl hc hs)
theorem mm_acmp_neT {a b : Nat} {off : Int} {tgt : Nat} (hd : decode M.2.1 pc = .ok (.if_acmp .ne off, 3)) (ht : (pc : Int) + off = (tgt : Int)) (hne : a ≠ b) (hab : mm_dis a b) (k : mm_V l G M kc ks tgt L st h Q) : mm_V l G M kc ks pc L (.ref b :: .ref a :: st) h Q := by
  intro p e R s m args below meth c H locs cells slots ls hX hR hS hl hc hs
  exact lv_acmp_ne (rx := some (mm_f G a)) (ry := some (mm_f G b)) hX.1 hX.2.1 hd ht (fun _ => k p e R s m args below meth c H locs cells slots ls hX hR hS hl hc hs) (fun q => absurd (mm_fne hX.2.2.2.2.2.1 hab (Option.some.inj q)) hne)
end MMH
