/-! My heap: addresses are small numbers; below mm_K the cells that stood before the law began (read only), from mm_K on the cells that the run makes, in their order. -/
/-- the real address -/
def mm_f (G : mm_G) (a : Nat) : Nat := if a < mm_K then G.2.2.1 a else G.2.2.2.1 + (a - mm_K)
def mm_v (G : mm_G) (v : Value) : Value := match v with
  | .ref a => .ref (mm_f G a)
  | w => w
def mm_c (G : mm_G) (x : mm_C) : mm_C := match x with
  | .inr (.inr (.inr (.inr f))) => .inr (.inr (.inr (.inr (fun j => (f j).map (mm_f G)))))
  | y => y
def mm_x (x : mm_C) (j : Nat) : Value := match x with
  | .inl f => .int (f j)
  | .inr (.inl f) => .long (f j)
  | .inr (.inr (.inl f)) => .float (f j)
  | .inr (.inr (.inr (.inl f))) => .double (f j)
  | .inr (.inr (.inr (.inr f))) => va_rf (f j)
def mm_e (G : mm_G) (e : mm_E) : va_E := match e with
  | .inl (t, n, x) => .inl (G.2.1 t, n, mm_c G x)
  | .inr (c, fs) => .inr (c, fs.map (mm_v G))
def mm_tys (G : mm_G) : List (ClassId × FieldType) := (List.range 16).map fun t => (G.2.1 t, mm_ty t)
/-- what may be written -/
def mm_A (G : mm_G) : Nat → Prop := fun q => G.2.2.2.1 ≤ q
/-- an old cell, as far as it is read -/
def mm_Ok (G : mm_G) (U : State) (H : Heap) (k : Nat) (e : mm_E) : Prop := match e with
  | .inl (t, n, x) => va_T (mm_ty t) (mm_f G k) n (fun j => mm_x (mm_c G x) j) (mm_A G) U H
  | .inr (_, fs) => va_O "java/lang/String" (mm_f G k) (mm_A G) U H ∧ va_OF "java/lang/String" "value" "[B" (mm_v G (vp_V fs 0)) (mm_f G k) (mm_A G) U H ∧ va_OF "java/lang/String" "coder" "B" (mm_v G (vp_V fs 1)) (mm_f G k) (mm_A G) U H
/-- what every state of the run keeps: tables, old cells, statics, constants -/
def mm_F (G : mm_G) (U : State) : Prop :=
  va_K G.1 mm_Cl (mm_tys G) U ∧ (∀ (k : Nat) (e : mm_E), k < mm_K → mm_O G.2.2.2.2 k = some e → mm_Ok G U U.heap k e) ∧
  (∀ q ∈ mm_sts, va_Z q.1 q.2.1 q.2.2.1 (mm_v G q.2.2.2) (mm_A G) U U.heap) ∧ (∀ q ∈ mm_strs, vk_R q.1 q.2.1 q.2.2.1 (mm_f G q.2.2.2) U) ∧
  (∀ C ∈ mm_aos, va_AO C U) ∧ (∀ q ∈ mm_casts, va_Nw (.castable q.1 q.2) U) ∧ G.2.2.2.1 ≤ U.heap.size ∧ (∀ k : Nat, k < mm_K → G.2.2.1 k < G.2.2.2.1) ∧
  (∀ q ∈ mm_nests, va_Nw (.methodLinkNest q.1 q.2.1 q.2.2.1 q.2.2.2) U) ∧ (∃ v : Value, (v = .null ∨ ∃ k : Nat, v = .ref k) ∧ va_Z "jdk/internal/util/Preconditions" "SIOOBE_FORMATTER" "Ljava/util/function/BiFunction;" (mm_v G v) (mm_A G) U U.heap) ∧ ∀ i j : Nat, 0 < i → i < 8 → 0 < j → j < 8 → G.2.2.1 i = G.2.2.1 j → i = j
/-- my heap stands for the machine's -/
def mm_R (G : mm_G) (h : mm_H) (H : Heap) : Prop :=
  H.size + mm_K = G.2.2.2.1 + h.2 ∧ mm_K ≤ h.2 ∧ (∀ (k : Nat) (e : mm_E), h.1 k = some e → k < h.2) ∧
  (∀ (k : Nat) (e : mm_E), mm_K ≤ k → h.1 k = some e → va_at G.1 mm_Cl (mm_f G k, mm_e G e) H) ∧ (∀ k : Nat, k < mm_K → h.1 k = mm_O G.2.2.2.2 k)
def mm_set (h : mm_H) (a : Nat) (e : mm_E) : mm_H := (fun b => if b = a then some e else h.1 b, h.2)
def mm_new (h : mm_H) (e : mm_E) : mm_H := (fun b => if b = h.2 then some e else h.1 b, h.2 + 1)
def mm_ws (M : mm_M) : List Cond := .code M.1 M.2.1 M.2.2.1 M.2.2.2.1 :: mm_all
/-- the method M is being run -/
def mm_X (G : mm_G) (M : mm_M) (p : Program) (R : Room) (s : State) (m : MethodId) (args : Array Value) (meth : Method) (c : Code) : Prop :=
  p.tables.exec = Jvm.exec ∧ c.code = M.2.1 ∧ c.maxLocals = M.2.2.1 ∧ s.vm.findClass M.1.cls = some m.cls ∧ (∀ w ∈ mm_all, w.before args s = true) ∧ mm_F G s ∧
  meth.sig.returnType = M.2.2.2.1 ∧ meth.locks = false ∧ meth.name = M.1.name ∧ M.2.2.2.2 ≤ R.frames ∧ 40 * M.2.2.2.2 ≤ R.locals
def mm_Q (G : mm_G) (Q : Option Value → mm_H → Prop) : Array Value → State → Outcome → State → Prop := fun _ st oc t =>
  (∃ (v : Option Value) (h' : mm_H), oc = .returned (v.map (mm_v G)) ∧ Q v h' ∧ mm_R G h' t.heap) ∧ va_F (mm_A G) st t
def mm_L (ls : Array Slot) (nL : Nat) (L : List (Option Value)) : Prop := ls.size = nL ∧ lv_wf ls ∧ L.length = nL ∧ ∀ (i : Nat) (v : Value), L[i]? = some (some v) → ls[i]? = some (.val v)
/-- from here (in the method M at pc, locals L, stack st, heap h) the method returns with Q, making at most kc cells of ks slots more -/
def mm_V (l : Launch) (G : mm_G) (M : mm_M) (kc ks pc : Nat) (L : List (Option Value)) (st : List Value) (h : mm_H) (Q : Option Value → mm_H → Prop) : Prop :=
  ∀ (p : Program) (e : Env) (R : Room) (s : State) (m : MethodId) (args : Array Value) (below : List Frame) (meth : Method) (c : Code) (H : Heap) (locs : List Loc) (cells slots : Nat) (ls : Array Slot),
    mm_X G M p R s m args meth c → mm_R G h H → va_S (mm_A G) s.heap H locs → mm_L ls M.2.2.1 (L.map (Option.map (mm_v G))) → cells + kc ≤ R.cells → slots + ks ≤ R.slots →
    W p l e R s m args below meth c H locs cells slots (MQ below (mm_Q G Q) args s R.cells R.slots (mm_A G)) (F0 m pc ls (st.map (mm_v G)))
/-- the contract of the method M at these arguments and this heap -/
def mm_S (l : Launch) (G : mm_G) (M : mm_M) (as : List Value) (h : mm_H) (kc ks : Nat) (Q : Option Value → mm_H → Prop) : Prop :=
  Met l M.1 (mm_ws M) { frames := M.2.2.2.2, cells := kc, slots := ks, locals := 40 * M.2.2.2.2 } (va_Pc (as.map (mm_v G)) (fun U => mm_F G U ∧ mm_R G h U.heap)) (mm_Q G Q) kc ks (mm_A G)
theorem mm_fK {G : mm_G} {a : Nat} (h : mm_K ≤ a) : mm_f G a = G.2.2.2.1 + (a - mm_K) := if_neg (by omega)
theorem mm_fI {G : mm_G} {a b : Nat} (ha : mm_K ≤ a) (hb : mm_K ≤ b) (h : mm_f G a = mm_f G b) : a = b := by
  rw [mm_fK ha, mm_fK hb] at h
  omega
theorem mm_vcat (G : mm_G) (v : Value) : (mm_v G v).category = v.category := by cases v <;> rfl
theorem mm_vrf (G : mm_G) (r : Option Nat) : mm_v G (va_rf r) = va_rf (r.map (mm_f G)) := by cases r <;> rfl
theorem mm_vV (G : mm_G) (fs : List Value) (k : Nat) : vp_V (fs.map (mm_v G)) k = mm_v G (vp_V fs k) := by
  simp only [vp_V, List.getD_eq_getElem?_getD, List.getElem?_map]
  cases fs[k]? <;> rfl
theorem mm_dv (G : mm_G) (ty : FieldType) : defaultValue ty = mm_v G (defaultValue ty) := mm_dv0 ty (mm_v G) rfl (fun _ => rfl) (fun _ => rfl) (fun _ => rfl) (fun _ => rfl)
theorem mm_tyAt (G : mm_G) {t : Nat} (h : t < 16) : (mm_tys G)[t]? = some (G.2.1 t, mm_ty t) := by
  simp [mm_tys, h]
theorem mm_setAt {h : mm_H} {a b : Nat} {e : mm_E} : (mm_set h a e).1 b = if b = a then some e else h.1 b := rfl
theorem mm_setSelf {h : mm_H} {a : Nat} {e : mm_E} : (mm_set h a e).1 a = some e := if_pos rfl
theorem mm_setNe {h : mm_H} {a b : Nat} {e : mm_E} (hn : b ≠ a) : (mm_set h a e).1 b = h.1 b := if_neg hn
theorem mm_newAt {h : mm_H} {b : Nat} {e : mm_E} : (mm_new h e).1 b = if b = h.2 then some e else h.1 b := rfl
theorem mm_newSelf {h : mm_H} {e : mm_E} : (mm_new h e).1 h.2 = some e := if_pos rfl
theorem mm_newNe {h : mm_H} {b : Nat} {e : mm_E} (hn : b ≠ h.2) : (mm_new h e).1 b = h.1 b := if_neg hn
theorem mm_R.top {G : mm_G} {h : mm_H} {H : Heap} (hR : mm_R G h H) : mm_f G h.2 = H.size := by
  obtain ⟨h1, h2, -⟩ := hR
  rw [mm_fK h2]
  omega
theorem mm_R.set {G : mm_G} {h : mm_H} {H H1 : Heap} {a : Nat} {e0 e : mm_E} (hR : mm_R G h H) (ha : mm_K ≤ a) (h0 : h.1 a = some e0) (hz : H1.size = H.size) (oq : ∀ q : Nat, q ≠ mm_f G a → H1[q]? = H[q]?) (he : va_at G.1 mm_Cl (mm_f G a, mm_e G e) H1) : mm_R G (mm_set h a e) H1 := by
  obtain ⟨h1, h2, h3, h4, h5⟩ := hR
  refine ⟨by rw [hz]; exact h1, h2, fun k x hk => ?_, fun k x hK hk => ?_, fun k hk => ?_⟩
  · by_cases hka : k = a
    · subst hka
      exact h3 _ _ h0
    · rw [mm_setNe hka] at hk
      exact h3 k x hk
  · by_cases hka : k = a
    · subst hka
      rw [mm_setSelf] at hk
      cases hk
      exact he
    · rw [mm_setNe hka] at hk
      exact (h4 k x hK hk).kept (oq _ (fun q => hka (mm_fI hK ha q)))
  · rw [mm_setNe (by omega)]
    exact h5 k hk
theorem mm_R.push {G : mm_G} {h : mm_H} {H H1 : Heap} {e : mm_E} (hR : mm_R G h H) (hz : H1.size = H.size + 1) (oq : ∀ q : Nat, q < H.size → H1[q]? = H[q]?) (he : va_at G.1 mm_Cl (H.size, mm_e G e) H1) : mm_R G (mm_new h e) H1 := by
  have htop := hR.top
  obtain ⟨h1, h2, h3, h4, h5⟩ := hR
  refine ⟨?_, ?_, fun k x hk => ?_, fun k x hK hk => ?_, fun k hk => ?_⟩
  · show H1.size + mm_K = G.2.2.2.1 + (h.2 + 1)
    omega
  · show mm_K ≤ h.2 + 1
    omega
  · show k < h.2 + 1
    by_cases hka : k = h.2
    · omega
    · rw [mm_newNe hka] at hk
      have := h3 k x hk
      omega
  · by_cases hka : k = h.2
    · subst hka
      rw [mm_newSelf] at hk
      cases hk
      rw [htop]
      exact he
    · rw [mm_newNe hka] at hk
      have h6 := h4 k x hK hk
      exact h6.kept (oq _ h6.lt)
  · rw [mm_newNe (by omega)]
    exact h5 k hk
theorem mm_F.warm {G : mm_G} {s U : State} {locs : List Loc} (h : mm_F G s) (hW : s.WarmedH U.vm) (hS : va_S (mm_A G) s.heap U.heap locs) : mm_F G U := by
  obtain ⟨h1, h2, h3, h4, h5, h6, h7, h9, h10, ⟨v, hv, h11⟩, h12⟩ := h
  refine ⟨h1.moved hW.alike, fun k e hk he => ?_, fun q hq => ((h3 q hq).moved hW.alike).kept hS.2.1, fun q hq => (h4 q hq).warm hW, fun C hC => (h5 C hC).moved hW.alike, fun q hq => (h6 q hq).warmC hW, Nat.le_trans h7 hS.1, h9, fun q hq => (h10 q hq).warmM hW, ⟨v, hv, (h11.moved hW.alike).kept hS.2.1⟩, h12⟩
  have h8 := h2 k e hk he
  obtain ⟨t, n, x⟩ | ⟨c, fs⟩ := e
  · exact (va_T.moved hW.alike h8).kept hS.2.1
  · exact ⟨(h8.1.moved hW.alike).kept hS.2.1, (h8.2.1.moved hW.alike).kept hS.2.1, (h8.2.2.moved hW.alike).kept hS.2.1⟩
/-! locals by their places -/
def mm_2 (x : Option Value) : Bool := match x with
  | some (.long _) => true
  | some (.double _) => true
  | _ => false
def mm_st : List (Option Value) → Nat → Value → List (Option Value)
  | [], _, _ => []
  | _ :: L, 0, v => some v :: L
  | x :: L, 1, v => (if mm_2 x then none else x) :: mm_st L 0 v
  | x :: L, i + 2, v => x :: mm_st L (i + 1) v
def mm_st2 : List (Option Value) → Nat → Value → List (Option Value)
  | [], _, _ => []
  | [_], 0, v => [some v]
  | _ :: _ :: L, 0, v => some v :: none :: L
  | x :: L, 1, v => (if mm_2 x then none else x) :: mm_st2 L 0 v
  | x :: L, i + 2, v => x :: mm_st2 L (i + 1) v
theorem mm_st_len : ∀ (L : List (Option Value)) (i : Nat) (v : Value), (mm_st L i v).length = L.length
  | [], _, _ => rfl
  | _ :: _, 0, _ => rfl
  | _ :: L, 1, v => by simp [mm_st, mm_st_len L 0 v]
  | _ :: L, i + 2, v => by simp [mm_st, mm_st_len L (i + 1) v]
theorem mm_st2_len : ∀ (L : List (Option Value)) (i : Nat) (v : Value), (mm_st2 L i v).length = L.length
  | [], _, _ => rfl
  | [_], 0, _ => rfl
  | _ :: _ :: _, 0, _ => rfl
  | [x], 1, v => by simp [mm_st2]
  | x :: y :: L, 1, v => by simp [mm_st2, mm_st2_len (y :: L) 0 v]
  | [x], i + 2, v => by simp [mm_st2]
  | x :: y :: L, i + 2, v => by simp [mm_st2, mm_st2_len (y :: L) (i + 1) v]
theorem mm_2c {v : Value} : mm_2 (some v) = true ↔ v.category = 2 := by cases v <;> simp [mm_2, Value.category]
theorem mm_st_at : ∀ (L : List (Option Value)) (i : Nat) (v : Value) (j : Nat) (w : Value), (mm_st L i v)[j]? = some (some w) → (j = i ∧ w = v) ∨ (L[j]? = some (some w) ∧ j ≠ i ∧ ¬ (j + 1 = i ∧ w.category = 2))
  | [], _, _, j, w, h => by simp [mm_st] at h
  | x :: L, 0, v, j, w, h => by
    cases j with
    | zero => simp [mm_st] at h; exact Or.inl ⟨rfl, h.symm⟩
    | succ j => simp [mm_st] at h; exact Or.inr ⟨by simpa using h, by omega, by omega⟩
  | x :: L, 1, v, j, w, h => by
    cases j with
    | zero =>
      simp only [mm_st, List.getElem?_cons_zero, Option.some.injEq] at h
      by_cases hx : mm_2 x = true
      · rw [if_pos hx] at h
        cases h
      · rw [if_neg hx] at h
        refine Or.inr ⟨by simp [h], by omega, fun q => hx ?_⟩
        rw [h]
        exact mm_2c.mpr q.2
    | succ j =>
      simp only [mm_st, List.getElem?_cons_succ] at h
      rcases mm_st_at L 0 v j w h with ⟨a, b⟩ | ⟨a, b, c⟩
      · exact Or.inl ⟨by omega, b⟩
      · exact Or.inr ⟨by simpa using a, by omega, by omega⟩
  | x :: L, i + 2, v, j, w, h => by
    cases j with
    | zero =>
      simp only [mm_st, List.getElem?_cons_zero, Option.some.injEq] at h
      exact Or.inr ⟨by simp [h], by omega, by omega⟩
    | succ j =>
      simp only [mm_st, List.getElem?_cons_succ] at h
      rcases mm_st_at L (i + 1) v j w h with ⟨a, b⟩ | ⟨a, b, c⟩
      · exact Or.inl ⟨by omega, b⟩
      · exact Or.inr ⟨by simpa using a, by omega, fun q => c ⟨by omega, q.2⟩⟩
theorem mm_st2_at : ∀ (L : List (Option Value)) (i : Nat) (v : Value) (j : Nat) (w : Value), (mm_st2 L i v)[j]? = some (some w) → (j = i ∧ w = v) ∨ (L[j]? = some (some w) ∧ j ≠ i ∧ j ≠ i + 1 ∧ ¬ (j + 1 = i ∧ w.category = 2))
  | [], _, _, j, w, h => by simp [mm_st2] at h
  | [x], 0, v, j, w, h => by
    cases j with
    | zero => simp [mm_st2] at h; exact Or.inl ⟨rfl, h.symm⟩
    | succ j => simp [mm_st2] at h
  | x :: y :: L, 0, v, j, w, h => by
    cases j with
    | zero => simp [mm_st2] at h; exact Or.inl ⟨rfl, h.symm⟩
    | succ j =>
      cases j with
      | zero => simp [mm_st2] at h
      | succ j => simp [mm_st2] at h; exact Or.inr ⟨by simpa using h, by omega, by omega, by omega⟩
  | x :: L, 1, v, j, w, h => by
    cases j with
    | zero =>
      have h : (if mm_2 x = true then none else x) = some w := by cases L <;> simpa [mm_st2] using h
      by_cases hx : mm_2 x = true
      · rw [if_pos hx] at h
        cases h
      · rw [if_neg hx] at h
        refine Or.inr ⟨by simp [h], by omega, by omega, fun q => hx ?_⟩
        rw [h]
        exact mm_2c.mpr q.2
    | succ j =>
      have h : (mm_st2 L 0 v)[j]? = some (some w) := by cases L <;> simpa [mm_st2] using h
      rcases mm_st2_at L 0 v j w h with ⟨a, b⟩ | ⟨a, b, c, d⟩
      · exact Or.inl ⟨by omega, b⟩
      · exact Or.inr ⟨by simpa using a, by omega, by omega, by omega⟩
  | x :: L, i + 2, v, j, w, h => by
    cases j with
    | zero =>
      have h : x = some w := by cases L <;> simpa [mm_st2] using h
      exact Or.inr ⟨by simp [h], by omega, by omega, by omega⟩
    | succ j =>
      have h : (mm_st2 L (i + 1) v)[j]? = some (some w) := by cases L <;> simpa [mm_st2] using h
      rcases mm_st2_at L (i + 1) v j w h with ⟨a, b⟩ | ⟨a, b, c, d⟩
      · exact Or.inl ⟨by omega, b⟩
      · exact Or.inr ⟨by simpa using a, by omega, by omega, fun q => d ⟨by omega, q.2⟩⟩
theorem mm_2v (G : mm_G) (x : Option Value) : mm_2 (x.map (mm_v G)) = mm_2 x := by
  cases x with
  | none => rfl
  | some v => cases v <;> rfl
theorem mm_st_map (G : mm_G) : ∀ (L : List (Option Value)) (i : Nat) (v : Value), (mm_st L i v).map (Option.map (mm_v G)) = mm_st (L.map (Option.map (mm_v G))) i (mm_v G v)
  | [], _, _ => rfl
  | _ :: _, 0, _ => rfl
  | x :: L, 1, v => by
    simp only [mm_st, List.map_cons, mm_st_map G L 0 v, mm_2v]
    cases mm_2 x <;> rfl
  | x :: L, i + 2, v => by simp only [mm_st, List.map_cons, mm_st_map G L (i + 1) v]
theorem mm_st2_map (G : mm_G) : ∀ (L : List (Option Value)) (i : Nat) (v : Value), (mm_st2 L i v).map (Option.map (mm_v G)) = mm_st2 (L.map (Option.map (mm_v G))) i (mm_v G v)
  | [], _, _ => rfl
  | [_], 0, _ => rfl
  | _ :: _ :: _, 0, _ => rfl
  | [x], 1, v => by
    simp only [mm_st2, List.map_cons, List.map_nil, mm_2v]
    cases mm_2 x <;> rfl
  | x :: y :: L, 1, v => by
    have e := mm_st2_map G (y :: L) 0 v
    simp only [List.map_cons] at e
    simp only [mm_st2, List.map_cons, e, mm_2v]
    cases mm_2 x <;> rfl
  | [x], i + 2, v => by simp only [mm_st2, List.map_cons, List.map_nil]
  | x :: y :: L, i + 2, v => by
    have e := mm_st2_map G (y :: L) (i + 1) v
    simp only [List.map_cons] at e
    simp only [mm_st2, List.map_cons, e]
/-- the listed values as the kit lists them -/
def mm_ps (L : List (Option Value)) : List (Nat × Value) := (List.range L.length).filterMap fun j => (L[j]?.join).map fun w => (j, w)
theorem mm_ps_mem {L : List (Option Value)} {j : Nat} {w : Value} : (j, w) ∈ mm_ps L ↔ L[j]? = some (some w) := by
  simp only [mm_ps, List.mem_filterMap, List.mem_range, Option.map_eq_some_iff, Option.join_eq_some_iff]
  constructor
  · rintro ⟨k, hk, x, hx, hp⟩
    cases hp
    exact hx
  · intro h
    exact ⟨j, (List.getElem?_eq_some_iff.mp h).1, w, h, rfl⟩
theorem mm_L.has {ls : Array Slot} {nL : Nat} {L : List (Option Value)} (h : mm_L ls nL L) : lv_has ls nL (mm_ps L) := ⟨h.1, h.2.1, fun q hq => h.2.2.2 q.1 q.2 (mm_ps_mem.mp hq)⟩
theorem mm_L.st {ls ls' : Array Slot} {nL i : Nat} {L : List (Option Value)} {v : Value} (h : mm_L ls nL L) (h' : lv_has ls' nL ((i, v) :: (mm_ps L).filter (fun q => !(q.1 == i) && !(q.1 + 1 == i && q.2.category == 2)))) : mm_L ls' nL (mm_st L i v) := by
  refine ⟨h'.1, h'.2.1, by rw [mm_st_len]; exact h.2.2.1, fun j w hj => ?_⟩
  rcases mm_st_at L i v j w hj with ⟨a, b⟩ | ⟨a, b, c⟩
  · subst a; subst b
    exact h'.2.2 (j, w) List.mem_cons_self
  · refine h'.2.2 (j, w) (List.mem_cons_of_mem _ (List.mem_filter.mpr ⟨mm_ps_mem.mpr a, ?_⟩))
    by_cases hc : w.category = 2
    · have : ¬ j + 1 = i := fun q => c ⟨q, hc⟩
      simp [b, this]
    · simp [b, hc]
theorem mm_L.st2 {ls ls' : Array Slot} {nL i : Nat} {L : List (Option Value)} {v : Value} (h : mm_L ls nL L) (h' : lv_has ls' nL ((i, v) :: (mm_ps L).filter (fun q => !(q.1 == i) && (!(q.1 == i + 1) && !(q.1 + 1 == i && q.2.category == 2))))) : mm_L ls' nL (mm_st2 L i v) := by
  refine ⟨h'.1, h'.2.1, by rw [mm_st2_len]; exact h.2.2.1, fun j w hj => ?_⟩
  rcases mm_st2_at L i v j w hj with ⟨a, b⟩ | ⟨a, b, d, c⟩
  · subst a; subst b
    exact h'.2.2 (j, w) List.mem_cons_self
  · refine h'.2.2 (j, w) (List.mem_cons_of_mem _ (List.mem_filter.mpr ⟨mm_ps_mem.mpr a, ?_⟩))
    by_cases hc : w.category = 2
    · have : ¬ j + 1 = i := fun q => c ⟨q, hc⟩
      simp [b, d, this]
    · simp [b, d, hc]
/-- a listed local, as the machine has it -/
theorem mm_L.get {G : mm_G} {ls : Array Slot} {nL i : Nat} {L : List (Option Value)} {v : Value} (h : mm_L ls nL (L.map (Option.map (mm_v G)))) (hi : L[i]? = some (some v)) : ls[i]? = some (.val (mm_v G v)) :=
  h.2.2.2 i (mm_v G v) (by rw [List.getElem?_map, hi]; rfl)
/-! the start of a method -/
def mm_as : List Value → List (Option Value)
  | [] => []
  | v :: vs => if v.category = 2 then some v :: none :: mm_as vs else some v :: mm_as vs
def mm_en (as : List Value) (n : Nat) : List (Option Value) := mm_as as ++ List.replicate (n - (mm_as as).length) none
theorem mm_as_map (G : mm_G) : ∀ as : List Value, (mm_as as).map (Option.map (mm_v G)) = mm_as (as.map (mm_v G))
  | [] => rfl
  | v :: vs => by
    simp only [mm_as, List.map_cons, mm_vcat]
    split <;> simp [mm_as_map G vs]
theorem mm_as_len : ∀ as : List Value, (mm_as as).length = (lg_sl as).length
  | [] => rfl
  | v :: vs => by
    have e := mm_as_len vs
    simp only [lg_sl, List.flatMap_cons, List.length_append] at e ⊢
    simp only [mm_as]
    split <;> simp [e] <;> omega
theorem mm_as_at : ∀ (as : List Value) (i j : Nat) (w : Value), (mm_as as)[j]? = some (some w) → (i + j, w) ∈ lv_args i as
  | [], i, j, w, h => by simp [mm_as] at h
  | v :: vs, i, j, w, h => by
    simp only [mm_as] at h
    by_cases hc : v.category = 2
    · rw [if_pos hc] at h
      cases j with
      | zero => simp at h; subst h; simp [lv_args]
      | succ j =>
        cases j with
        | zero => simp at h
        | succ j =>
          simp only [List.getElem?_cons_succ] at h
          have := mm_as_at vs (i + 2) j w h
          simp only [lv_args, if_pos hc]
          refine List.mem_cons_of_mem _ ?_
          rw [show i + (j + 1 + 1) = i + 2 + j by omega]
          exact this
    · rw [if_neg hc] at h
      cases j with
      | zero => simp at h; subst h; simp [lv_args]
      | succ j =>
        simp only [List.getElem?_cons_succ] at h
        have := mm_as_at vs (i + 1) j w h
        simp only [lv_args, if_neg hc]
        refine List.mem_cons_of_mem _ ?_
        rw [show i + (j + 1) = i + 1 + j by omega]
        exact this
theorem mm_en_L (G : mm_G) {as : List Value} {n : Nat} (h : (mm_as as).length ≤ n) : mm_L ((lg_sl (as.map (mm_v G)) ++ List.replicate (n - (lg_sl (as.map (mm_v G))).length) Slot.unset).toArray) n ((mm_en as n).map (Option.map (mm_v G))) := by
  have hlen : (lg_sl (as.map (mm_v G))).length = (mm_as as).length := by
    rw [← mm_as_len, ← mm_as_map, List.length_map]
  obtain ⟨h1, h2, h3⟩ := lv_entry (as.map (mm_v G)) (n := n) (by rw [hlen]; exact h)
  refine ⟨h1, h2, ?_, fun i v hi => ?_⟩
  · simp [mm_en]
    omega
  · have hi' : (mm_as (as.map (mm_v G)))[i]? = some (some v) := by
      simp only [mm_en, List.map_append, mm_as_map, List.map_replicate] at hi
      by_cases hl : i < (mm_as (as.map (mm_v G))).length
      · rw [List.getElem?_append_left hl] at hi
        exact hi
      · rw [List.getElem?_append_right (by omega)] at hi
        have := List.eq_of_mem_replicate (List.mem_of_getElem? hi)
        cases this
    have := mm_as_at _ 0 i v hi'
    rw [Nat.zero_add] at this
    exact h3 _ this
set_option maxHeartbeats 4000000 in
/-- a contract out of the walk of the body -/
theorem mm_start {l : Launch} {G : mm_G} {M : mm_M} {as : List Value} {h : mm_H} {kc ks : Nat} {Q : Option Value → mm_H → Prop} (hy : plainName M.1.cls = true) (hn : (mm_as as).length ≤ M.2.2.1)
    (k : mm_V l G M kc ks 0 (mm_en as M.2.2.1) [] h Q) : mm_S l G M as h kc ks Q := by
  refine Met.ofW (cc := M.2.1) (maxL := M.2.2.1) (ret := M.2.2.2.1) hy rfl ?_
  intro p e s m args below meth c s₁ B hml hv
  obtain ⟨rfl, hF, hR⟩ := hv
  have hts := atoms_spec (ws := mm_ws M) B.pre
  have hl := mm_en_L G hn
  rw [lg_entry_eq]
  generalize (lg_sl (as.map (mm_v G)) ++ List.replicate (M.2.2.1 - (lg_sl (as.map (mm_v G))).length) Slot.unset).toArray = ls at hl ⊢
  exact k p e _ s m _ below meth c s.heap [] 0 0 ls ⟨B.exec, B.bytes, hml, findClass_of_methodNamed B.named, fun w hw => hts w (List.mem_cons_of_mem _ hw), hF, B.returns, B.notSynchronized, (name_of_methodNamed B.named B.method).1, Nat.le_refl _, Nat.le_refl _⟩ hR va_S.rf hl (by simp [headSpec]) (by simp [headSpec])
theorem mm_wid {l : Launch} {G : mm_G} {M : mm_M} {kc ks kc' ks' pc : Nat} {L : List (Option Value)} {st : List Value} {h : mm_H} {Q : Option Value → mm_H → Prop} (h1 : kc' ≤ kc) (h2 : ks' ≤ ks) (k : mm_V l G M kc' ks' pc L st h Q) : mm_V l G M kc ks pc L st h Q := by
  intro p e R s m args below meth c H locs cells slots ls hX hR hS hl hc hs
  exact k p e R s m args below meth c H locs cells slots ls hX hR hS hl (by omega) (by omega)
theorem mm_eq {l : Launch} {G : mm_G} {M : mm_M} {kc ks pc pc' : Nat} {L L' : List (Option Value)} {st st' : List Value} {h h' : mm_H} {Q : Option Value → mm_H → Prop} (k : mm_V l G M kc ks pc' L' st' h' Q) (e1 : pc = pc') (e2 : L = L') (e3 : st = st') (e4 : h = h') : mm_V l G M kc ks pc L st h Q := by
  subst e1; subst e2; subst e3; subst e4
  exact k
