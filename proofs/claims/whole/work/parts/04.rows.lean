section MMP
variable {l : Launch} {G : mm_G} {M : mm_M} {kc ks pc pc' : Nat} {L : List (Option Value)} {st : List Value} {h : mm_H} {Q : Option Value → mm_H → Prop}
theorem mm_iconst {n : Int} {v : Int32} (hd : decode M.2.1 pc = .ok (.iconst n, 1)) (hp : pc + 1 = pc') (hv : Int32.ofInt n = v) (k : mm_V l G M kc ks pc' L (.int v :: st) h Q) : mm_V l G M kc ks pc L st h Q := by
  intro p e R s m args below meth c H locs cells slots ls hX hR hS hl hc hs
  subst hp
  exact lv_iconst hX.1 hX.2.1 hd hv (k p e R s m args below meth c H locs cells slots ls hX hR hS hl hc hs)
theorem mm_bipush {n : Int} {v : Int32} (hd : decode M.2.1 pc = .ok (.bipush n, 2)) (hp : pc + 2 = pc') (hv : (Int8.ofInt n).toInt32 = v) (k : mm_V l G M kc ks pc' L (.int v :: st) h Q) : mm_V l G M kc ks pc L st h Q := by
  intro p e R s m args below meth c H locs cells slots ls hX hR hS hl hc hs
  subst hp
  exact lv_bipush hX.1 hX.2.1 hd hv (k p e R s m args below meth c H locs cells slots ls hX hR hS hl hc hs)
theorem mm_sipush {n : Int} {v : Int32} (hd : decode M.2.1 pc = .ok (.sipush n, 3)) (hp : pc + 3 = pc') (hv : (Int16.ofInt n).toInt32 = v) (k : mm_V l G M kc ks pc' L (.int v :: st) h Q) : mm_V l G M kc ks pc L st h Q := by
  intro p e R s m args below meth c H locs cells slots ls hX hR hS hl hc hs
  subst hp
  exact lv_sipush hX.1 hX.2.1 hd hv (k p e R s m args below meth c H locs cells slots ls hX hR hS hl hc hs)
theorem mm_lconst {n : Fin 2} {v : Int64} (hd : decode M.2.1 pc = .ok (.lconst n, 1)) (hp : pc + 1 = pc') (hv : Int64.ofNat (n : Nat) = v) (k : mm_V l G M kc ks pc' L (.long v :: st) h Q) : mm_V l G M kc ks pc L st h Q := by
  intro p e R s m args below meth c H locs cells slots ls hX hR hS hl hc hs
  subst hp
  exact lv_lconst hX.1 hX.2.1 hd hv (k p e R s m args below meth c H locs cells slots ls hX hR hS hl hc hs)
theorem mm_null (hd : decode M.2.1 pc = .ok (.aconst_null, 1)) (hp : pc + 1 = pc') (k : mm_V l G M kc ks pc' L (.null :: st) h Q) : mm_V l G M kc ks pc L st h Q := by
  intro p e R s m args below meth c H locs cells slots ls hX hR hS hl hc hs
  subst hp
  exact lv_null hX.1 hX.2.1 hd (k p e R s m args below meth c H locs cells slots ls hX hR hS hl hc hs)
theorem mm_iload_n {q : Fin 4} {i : Nat} {x : Int32} (hd : decode M.2.1 pc = .ok (.iload_n q, 1)) (hp : pc + 1 = pc') (hi : (q : Nat) = i) (hv : L[i]? = some (some (.int x))) (k : mm_V l G M kc ks pc' L (.int x :: st) h Q) : mm_V l G M kc ks pc L st h Q := by
  intro p e R s m args below meth c H locs cells slots ls hX hR hS hl hc hs
  subst hp
  exact lv_iload_n hX.1 hX.2.1 hd hi (hl.get hv) (k p e R s m args below meth c H locs cells slots ls hX hR hS hl hc hs)
theorem mm_iload {i : Nat} {x : Int32} (hd : decode M.2.1 pc = .ok (.iload i, 2)) (hp : pc + 2 = pc') (hv : L[i]? = some (some (.int x))) (k : mm_V l G M kc ks pc' L (.int x :: st) h Q) : mm_V l G M kc ks pc L st h Q := by
  intro p e R s m args below meth c H locs cells slots ls hX hR hS hl hc hs
  subst hp
  exact lv_iload hX.1 hX.2.1 hd (hl.get hv) (k p e R s m args below meth c H locs cells slots ls hX hR hS hl hc hs)
theorem mm_lload_n {q : Fin 4} {i : Nat} {x : Int64} (hd : decode M.2.1 pc = .ok (.lload_n q, 1)) (hp : pc + 1 = pc') (hi : (q : Nat) = i) (hv : L[i]? = some (some (.long x))) (k : mm_V l G M kc ks pc' L (.long x :: st) h Q) : mm_V l G M kc ks pc L st h Q := by
  intro p e R s m args below meth c H locs cells slots ls hX hR hS hl hc hs
  subst hp
  exact lv_lload_n hX.1 hX.2.1 hd hi (hl.get hv) (k p e R s m args below meth c H locs cells slots ls hX hR hS hl hc hs)
theorem mm_lload {i : Nat} {x : Int64} (hd : decode M.2.1 pc = .ok (.lload i, 2)) (hp : pc + 2 = pc') (hv : L[i]? = some (some (.long x))) (k : mm_V l G M kc ks pc' L (.long x :: st) h Q) : mm_V l G M kc ks pc L st h Q := by
  intro p e R s m args below meth c H locs cells slots ls hX hR hS hl hc hs
  subst hp
  exact lv_lload hX.1 hX.2.1 hd (hl.get hv) (k p e R s m args below meth c H locs cells slots ls hX hR hS hl hc hs)
theorem mm_aload_n {q : Fin 4} {i a : Nat} (hd : decode M.2.1 pc = .ok (.aload_n q, 1)) (hp : pc + 1 = pc') (hi : (q : Nat) = i) (hv : L[i]? = some (some (.ref a))) (k : mm_V l G M kc ks pc' L (.ref a :: st) h Q) : mm_V l G M kc ks pc L st h Q := by
  intro p e R s m args below meth c H locs cells slots ls hX hR hS hl hc hs
  subst hp
  exact lv_aload_n hX.1 hX.2.1 hd hi (hl.get hv) (k p e R s m args below meth c H locs cells slots ls hX hR hS hl hc hs)
theorem mm_aload {i a : Nat} (hd : decode M.2.1 pc = .ok (.aload i, 2)) (hp : pc + 2 = pc') (hv : L[i]? = some (some (.ref a))) (k : mm_V l G M kc ks pc' L (.ref a :: st) h Q) : mm_V l G M kc ks pc L st h Q := by
  intro p e R s m args below meth c H locs cells slots ls hX hR hS hl hc hs
  subst hp
  exact lv_aload hX.1 hX.2.1 hd (hl.get hv) (k p e R s m args below meth c H locs cells slots ls hX hR hS hl hc hs)
theorem mm_aload_nN {q : Fin 4} {i : Nat} (hd : decode M.2.1 pc = .ok (.aload_n q, 1)) (hp : pc + 1 = pc') (hi : (q : Nat) = i) (hv : L[i]? = some (some .null)) (k : mm_V l G M kc ks pc' L (.null :: st) h Q) : mm_V l G M kc ks pc L st h Q := by
  intro p e R s m args below meth c H locs cells slots ls hX hR hS hl hc hs
  subst hp
  exact lv_aload_nN hX.1 hX.2.1 hd hi (hl.get hv) (k p e R s m args below meth c H locs cells slots ls hX hR hS hl hc hs)
theorem mm_aloadN {i : Nat} (hd : decode M.2.1 pc = .ok (.aload i, 2)) (hp : pc + 2 = pc') (hv : L[i]? = some (some .null)) (k : mm_V l G M kc ks pc' L (.null :: st) h Q) : mm_V l G M kc ks pc L st h Q := by
  intro p e R s m args below meth c H locs cells slots ls hX hR hS hl hc hs
  subst hp
  exact lv_aloadN hX.1 hX.2.1 hd (hl.get hv) (k p e R s m args below meth c H locs cells slots ls hX hR hS hl hc hs)
theorem mm_istore_n {q : Fin 4} {i : Nat} {x : Int32} (hd : decode M.2.1 pc = .ok (.istore_n q, 1)) (hp : pc + 1 = pc') (hi : (q : Nat) = i) (hn : i < M.2.2.1) (k : mm_V l G M kc ks pc' (mm_st L i (.int x)) st h Q) : mm_V l G M kc ks pc L ((.int x) :: st) h Q := by
  intro p e R s m args below meth c H locs cells slots ls hX hR hS hl hc hs
  subst hp
  refine lv_istore_n hX.1 hX.2.1 hd hi hl.has hn rfl fun ls' h' => ?_
  have h2 := hl.st h'
  exact k p e R s m args below meth c H locs cells slots ls' hX hR hS (by rw [mm_st_map]; exact h2) hc hs
theorem mm_istore {i : Nat} {x : Int32} (hd : decode M.2.1 pc = .ok (.istore i, 2)) (hp : pc + 2 = pc') (hn : i < M.2.2.1) (k : mm_V l G M kc ks pc' (mm_st L i (.int x)) st h Q) : mm_V l G M kc ks pc L ((.int x) :: st) h Q := by
  intro p e R s m args below meth c H locs cells slots ls hX hR hS hl hc hs
  subst hp
  refine lv_istore hX.1 hX.2.1 hd hl.has hn rfl fun ls' h' => ?_
  have h2 := hl.st h'
  exact k p e R s m args below meth c H locs cells slots ls' hX hR hS (by rw [mm_st_map]; exact h2) hc hs
theorem mm_lstore_n {q : Fin 4} {i : Nat} {x : Int64} (hd : decode M.2.1 pc = .ok (.lstore_n q, 1)) (hp : pc + 1 = pc') (hi : (q : Nat) = i) (hn : i + 1 < M.2.2.1) (k : mm_V l G M kc ks pc' (mm_st2 L i (.long x)) st h Q) : mm_V l G M kc ks pc L ((.long x) :: st) h Q := by
  intro p e R s m args below meth c H locs cells slots ls hX hR hS hl hc hs
  subst hp
  refine lv_lstore_n hX.1 hX.2.1 hd hi hl.has hn rfl fun ls' h' => ?_
  have h2 := hl.st2 h'
  exact k p e R s m args below meth c H locs cells slots ls' hX hR hS (by rw [mm_st2_map]; exact h2) hc hs
theorem mm_lstore {i : Nat} {x : Int64} (hd : decode M.2.1 pc = .ok (.lstore i, 2)) (hp : pc + 2 = pc') (hn : i + 1 < M.2.2.1) (k : mm_V l G M kc ks pc' (mm_st2 L i (.long x)) st h Q) : mm_V l G M kc ks pc L ((.long x) :: st) h Q := by
  intro p e R s m args below meth c H locs cells slots ls hX hR hS hl hc hs
  subst hp
  refine lv_lstore hX.1 hX.2.1 hd hl.has hn rfl fun ls' h' => ?_
  have h2 := hl.st2 h'
  exact k p e R s m args below meth c H locs cells slots ls' hX hR hS (by rw [mm_st2_map]; exact h2) hc hs
theorem mm_astore_n {q : Fin 4} {i a : Nat} (hd : decode M.2.1 pc = .ok (.astore_n q, 1)) (hp : pc + 1 = pc') (hi : (q : Nat) = i) (hn : i < M.2.2.1) (k : mm_V l G M kc ks pc' (mm_st L i (.ref a)) st h Q) : mm_V l G M kc ks pc L ((.ref a) :: st) h Q := by
  intro p e R s m args below meth c H locs cells slots ls hX hR hS hl hc hs
  subst hp
  refine lv_astore_n hX.1 hX.2.1 hd hi hl.has hn rfl fun ls' h' => ?_
  have h2 := hl.st h'
  exact k p e R s m args below meth c H locs cells slots ls' hX hR hS (by rw [mm_st_map]; exact h2) hc hs
theorem mm_astore {i a : Nat} (hd : decode M.2.1 pc = .ok (.astore i, 2)) (hp : pc + 2 = pc') (hn : i < M.2.2.1) (k : mm_V l G M kc ks pc' (mm_st L i (.ref a)) st h Q) : mm_V l G M kc ks pc L ((.ref a) :: st) h Q := by
  intro p e R s m args below meth c H locs cells slots ls hX hR hS hl hc hs
  subst hp
  refine lv_astore hX.1 hX.2.1 hd hl.has hn rfl fun ls' h' => ?_
  have h2 := hl.st h'
  exact k p e R s m args below meth c H locs cells slots ls' hX hR hS (by rw [mm_st_map]; exact h2) hc hs
theorem mm_astore_nN {q : Fin 4} {i : Nat} (hd : decode M.2.1 pc = .ok (.astore_n q, 1)) (hp : pc + 1 = pc') (hi : (q : Nat) = i) (hn : i < M.2.2.1) (k : mm_V l G M kc ks pc' (mm_st L i (.null)) st h Q) : mm_V l G M kc ks pc L ((.null) :: st) h Q := by
  intro p e R s m args below meth c H locs cells slots ls hX hR hS hl hc hs
  subst hp
  refine lv_astore_nN hX.1 hX.2.1 hd hi hl.has hn rfl fun ls' h' => ?_
  have h2 := hl.st h'
  exact k p e R s m args below meth c H locs cells slots ls' hX hR hS (by rw [mm_st_map]; exact h2) hc hs
theorem mm_astoreN {i : Nat} (hd : decode M.2.1 pc = .ok (.astore i, 2)) (hp : pc + 2 = pc') (hn : i < M.2.2.1) (k : mm_V l G M kc ks pc' (mm_st L i (.null)) st h Q) : mm_V l G M kc ks pc L ((.null) :: st) h Q := by
  intro p e R s m args below meth c H locs cells slots ls hX hR hS hl hc hs
  subst hp
  refine lv_astoreN hX.1 hX.2.1 hd hl.has hn rfl fun ls' h' => ?_
  have h2 := hl.st h'
  exact k p e R s m args below meth c H locs cells slots ls' hX hR hS (by rw [mm_st_map]; exact h2) hc hs
theorem mm_iinc {i : Nat} {n : Int} {x v : Int32} (hd : decode M.2.1 pc = .ok (.iinc i n, 3)) (hp : pc + 3 = pc') (hx : L[i]? = some (some (.int x))) (hv : x + Int32.ofInt n = v) (hn : i < M.2.2.1) (k : mm_V l G M kc ks pc' (mm_st L i (.int v)) st h Q) : mm_V l G M kc ks pc L st h Q := by
  intro p e R s m args below meth c H locs cells slots ls hX hR hS hl hc hs
  subst hp
  have hm : (i, mm_v G (.int x)) ∈ mm_ps (L.map (Option.map (mm_v G))) := mm_ps_mem.mpr (by rw [List.getElem?_map, hx]; rfl)
  obtain ⟨q, hq⟩ := List.getElem?_of_mem hm
  refine lv_iinc hX.1 hX.2.1 hd hl.has hq hv hn rfl fun ls' h' => ?_
  have h2 := hl.st h'
  exact k p e R s m args below meth c H locs cells slots ls' hX hR hS (by rw [mm_st_map]; exact h2) hc hs
theorem mm_iadd {x y : Int32} (hd : decode M.2.1 pc = .ok (.iadd, 1)) (hp : pc + 1 = pc') (k : mm_V l G M kc ks pc' L (.int (x + y) :: st) h Q) : mm_V l G M kc ks pc L (.int y :: .int x :: st) h Q := by
  intro p e R s m args below meth c H locs cells slots ls hX hR hS hl hc hs
  subst hp
  exact lv_iadd hX.1 hX.2.1 hd (k p e R s m args below meth c H locs cells slots ls hX hR hS hl hc hs)
theorem mm_isub {x y : Int32} (hd : decode M.2.1 pc = .ok (.isub, 1)) (hp : pc + 1 = pc') (k : mm_V l G M kc ks pc' L (.int (x - y) :: st) h Q) : mm_V l G M kc ks pc L (.int y :: .int x :: st) h Q := by
  intro p e R s m args below meth c H locs cells slots ls hX hR hS hl hc hs
  subst hp
  exact lv_isub hX.1 hX.2.1 hd (k p e R s m args below meth c H locs cells slots ls hX hR hS hl hc hs)
theorem mm_imul {x y : Int32} (hd : decode M.2.1 pc = .ok (.imul, 1)) (hp : pc + 1 = pc') (k : mm_V l G M kc ks pc' L (.int (x * y) :: st) h Q) : mm_V l G M kc ks pc L (.int y :: .int x :: st) h Q := by
  intro p e R s m args below meth c H locs cells slots ls hX hR hS hl hc hs
  subst hp
  exact lv_imul hX.1 hX.2.1 hd (k p e R s m args below meth c H locs cells slots ls hX hR hS hl hc hs)
theorem mm_iand {x y : Int32} (hd : decode M.2.1 pc = .ok (.iand, 1)) (hp : pc + 1 = pc') (k : mm_V l G M kc ks pc' L (.int (x &&& y) :: st) h Q) : mm_V l G M kc ks pc L (.int y :: .int x :: st) h Q := by
  intro p e R s m args below meth c H locs cells slots ls hX hR hS hl hc hs
  subst hp
  exact lv_iand hX.1 hX.2.1 hd (k p e R s m args below meth c H locs cells slots ls hX hR hS hl hc hs)
theorem mm_ior {x y : Int32} (hd : decode M.2.1 pc = .ok (.ior, 1)) (hp : pc + 1 = pc') (k : mm_V l G M kc ks pc' L (.int (x ||| y) :: st) h Q) : mm_V l G M kc ks pc L (.int y :: .int x :: st) h Q := by
  intro p e R s m args below meth c H locs cells slots ls hX hR hS hl hc hs
  subst hp
  exact lv_ior hX.1 hX.2.1 hd (k p e R s m args below meth c H locs cells slots ls hX hR hS hl hc hs)
theorem mm_ixor {x y : Int32} (hd : decode M.2.1 pc = .ok (.ixor, 1)) (hp : pc + 1 = pc') (k : mm_V l G M kc ks pc' L (.int (x ^^^ y) :: st) h Q) : mm_V l G M kc ks pc L (.int y :: .int x :: st) h Q := by
  intro p e R s m args below meth c H locs cells slots ls hX hR hS hl hc hs
  subst hp
  exact lv_ixor hX.1 hX.2.1 hd (k p e R s m args below meth c H locs cells slots ls hX hR hS hl hc hs)
theorem mm_ishl {x y : Int32} (hd : decode M.2.1 pc = .ok (.ishl, 1)) (hp : pc + 1 = pc') (k : mm_V l G M kc ks pc' L (.int (x <<< (y &&& 31)) :: st) h Q) : mm_V l G M kc ks pc L (.int y :: .int x :: st) h Q := by
  intro p e R s m args below meth c H locs cells slots ls hX hR hS hl hc hs
  subst hp
  exact lv_ishl hX.1 hX.2.1 hd (k p e R s m args below meth c H locs cells slots ls hX hR hS hl hc hs)
theorem mm_ishr {x y : Int32} (hd : decode M.2.1 pc = .ok (.ishr, 1)) (hp : pc + 1 = pc') (k : mm_V l G M kc ks pc' L (.int (x >>> (y &&& 31)) :: st) h Q) : mm_V l G M kc ks pc L (.int y :: .int x :: st) h Q := by
  intro p e R s m args below meth c H locs cells slots ls hX hR hS hl hc hs
  subst hp
  exact lv_ishr hX.1 hX.2.1 hd (k p e R s m args below meth c H locs cells slots ls hX hR hS hl hc hs)
theorem mm_idiv {x y : Int32} (hd : decode M.2.1 pc = .ok (.idiv, 1)) (hp : pc + 1 = pc') (hne : ¬ y = 0) (k : mm_V l G M kc ks pc' L (.int (x / y) :: st) h Q) : mm_V l G M kc ks pc L (.int y :: .int x :: st) h Q := by
  intro p e R s m args below meth c H locs cells slots ls hX hR hS hl hc hs
  subst hp
  exact lv_idiv hX.1 hX.2.1 hd hne (k p e R s m args below meth c H locs cells slots ls hX hR hS hl hc hs)
theorem mm_irem {x y : Int32} (hd : decode M.2.1 pc = .ok (.irem, 1)) (hp : pc + 1 = pc') (hne : ¬ y = 0) (k : mm_V l G M kc ks pc' L (.int (x - x / y * y) :: st) h Q) : mm_V l G M kc ks pc L (.int y :: .int x :: st) h Q := by
  intro p e R s m args below meth c H locs cells slots ls hX hR hS hl hc hs
  subst hp
  exact lv_irem hX.1 hX.2.1 hd hne (k p e R s m args below meth c H locs cells slots ls hX hR hS hl hc hs)
theorem mm_ladd {x y : Int64} (hd : decode M.2.1 pc = .ok (.ladd, 1)) (hp : pc + 1 = pc') (k : mm_V l G M kc ks pc' L (.long (x + y) :: st) h Q) : mm_V l G M kc ks pc L (.long y :: .long x :: st) h Q := by
  intro p e R s m args below meth c H locs cells slots ls hX hR hS hl hc hs
  subst hp
  exact lv_ladd hX.1 hX.2.1 hd (k p e R s m args below meth c H locs cells slots ls hX hR hS hl hc hs)
theorem mm_lsub {x y : Int64} (hd : decode M.2.1 pc = .ok (.lsub, 1)) (hp : pc + 1 = pc') (k : mm_V l G M kc ks pc' L (.long (x - y) :: st) h Q) : mm_V l G M kc ks pc L (.long y :: .long x :: st) h Q := by
  intro p e R s m args below meth c H locs cells slots ls hX hR hS hl hc hs
  subst hp
  exact lv_lsub hX.1 hX.2.1 hd (k p e R s m args below meth c H locs cells slots ls hX hR hS hl hc hs)
theorem mm_land {x y : Int64} (hd : decode M.2.1 pc = .ok (.land, 1)) (hp : pc + 1 = pc') (k : mm_V l G M kc ks pc' L (.long (x &&& y) :: st) h Q) : mm_V l G M kc ks pc L (.long y :: .long x :: st) h Q := by
  intro p e R s m args below meth c H locs cells slots ls hX hR hS hl hc hs
  subst hp
  exact lv_land hX.1 hX.2.1 hd (k p e R s m args below meth c H locs cells slots ls hX hR hS hl hc hs)
theorem mm_lor {x y : Int64} (hd : decode M.2.1 pc = .ok (.lor, 1)) (hp : pc + 1 = pc') (k : mm_V l G M kc ks pc' L (.long (x ||| y) :: st) h Q) : mm_V l G M kc ks pc L (.long y :: .long x :: st) h Q := by
  intro p e R s m args below meth c H locs cells slots ls hX hR hS hl hc hs
  subst hp
  exact lv_lor hX.1 hX.2.1 hd (k p e R s m args below meth c H locs cells slots ls hX hR hS hl hc hs)
theorem mm_lxor {x y : Int64} (hd : decode M.2.1 pc = .ok (.lxor, 1)) (hp : pc + 1 = pc') (k : mm_V l G M kc ks pc' L (.long (x ^^^ y) :: st) h Q) : mm_V l G M kc ks pc L (.long y :: .long x :: st) h Q := by
  intro p e R s m args below meth c H locs cells slots ls hX hR hS hl hc hs
  subst hp
  exact lv_lxor hX.1 hX.2.1 hd (k p e R s m args below meth c H locs cells slots ls hX hR hS hl hc hs)
theorem mm_ineg {x : Int32} (hd : decode M.2.1 pc = .ok (.ineg, 1)) (hp : pc + 1 = pc') (k : mm_V l G M kc ks pc' L (.int (-x) :: st) h Q) : mm_V l G M kc ks pc L (.int x :: st) h Q := by
  intro p e R s m args below meth c H locs cells slots ls hX hR hS hl hc hs
  subst hp
  exact lv_ineg hX.1 hX.2.1 hd (k p e R s m args below meth c H locs cells slots ls hX hR hS hl hc hs)
theorem mm_i2l {x : Int32} {v : Int64} (hd : decode M.2.1 pc = .ok (.i2l, 1)) (hp : pc + 1 = pc') (hv : x.toInt64 = v) (k : mm_V l G M kc ks pc' L (.long v :: st) h Q) : mm_V l G M kc ks pc L (.int x :: st) h Q := by
  intro p e R s m args below meth c H locs cells slots ls hX hR hS hl hc hs
  subst hp
  exact lv_i2l hX.1 hX.2.1 hd hv (k p e R s m args below meth c H locs cells slots ls hX hR hS hl hc hs)
theorem mm_l2i {x : Int64} {v : Int32} (hd : decode M.2.1 pc = .ok (.l2i, 1)) (hp : pc + 1 = pc') (hv : x.toInt32 = v) (k : mm_V l G M kc ks pc' L (.int v :: st) h Q) : mm_V l G M kc ks pc L (.long x :: st) h Q := by
  intro p e R s m args below meth c H locs cells slots ls hX hR hS hl hc hs
  subst hp
  exact lv_l2i hX.1 hX.2.1 hd hv (k p e R s m args below meth c H locs cells slots ls hX hR hS hl hc hs)
theorem mm_i2b {x v : Int32} (hd : decode M.2.1 pc = .ok (.i2b, 1)) (hp : pc + 1 = pc') (hv : x.toInt8.toInt32 = v) (k : mm_V l G M kc ks pc' L (.int v :: st) h Q) : mm_V l G M kc ks pc L (.int x :: st) h Q := by
  intro p e R s m args below meth c H locs cells slots ls hX hR hS hl hc hs
  subst hp
  exact lv_i2b hX.1 hX.2.1 hd hv (k p e R s m args below meth c H locs cells slots ls hX hR hS hl hc hs)
theorem mm_i2c {x v : Int32} (hd : decode M.2.1 pc = .ok (.i2c, 1)) (hp : pc + 1 = pc') (hv : (x.toUInt32 % 65536).toInt32 = v) (k : mm_V l G M kc ks pc' L (.int v :: st) h Q) : mm_V l G M kc ks pc L (.int x :: st) h Q := by
  intro p e R s m args below meth c H locs cells slots ls hX hR hS hl hc hs
  subst hp
  exact lv_i2c hX.1 hX.2.1 hd hv (k p e R s m args below meth c H locs cells slots ls hX hR hS hl hc hs)
theorem mm_iushr {x y v : Int32} (hd : decode M.2.1 pc = .ok (.iushr, 1)) (hp : pc + 1 = pc') (hv : (x.toUInt32 >>> (y.toUInt32 &&& Int32.toUInt32 31)).toInt32 = v) (k : mm_V l G M kc ks pc' L (.int v :: st) h Q) : mm_V l G M kc ks pc L (.int y :: .int x :: st) h Q := by
  intro p e R s m args below meth c H locs cells slots ls hX hR hS hl hc hs
  subst hp
  exact lv_iushr hX.1 hX.2.1 hd hv (k p e R s m args below meth c H locs cells slots ls hX hR hS hl hc hs)
theorem mm_lshl {x v : Int64} {y : Int32} (hd : decode M.2.1 pc = .ok (.lshl, 1)) (hp : pc + 1 = pc') (hv : x <<< (y.toInt64 &&& 63) = v) (k : mm_V l G M kc ks pc' L (.long v :: st) h Q) : mm_V l G M kc ks pc L (.int y :: .long x :: st) h Q := by
  intro p e R s m args below meth c H locs cells slots ls hX hR hS hl hc hs
  subst hp
  exact lv_lshl hX.1 hX.2.1 hd hv (k p e R s m args below meth c H locs cells slots ls hX hR hS hl hc hs)
theorem mm_lshr {x v : Int64} {y : Int32} (hd : decode M.2.1 pc = .ok (.lshr, 1)) (hp : pc + 1 = pc') (hv : x >>> (y.toInt64 &&& 63) = v) (k : mm_V l G M kc ks pc' L (.long v :: st) h Q) : mm_V l G M kc ks pc L (.int y :: .long x :: st) h Q := by
  intro p e R s m args below meth c H locs cells slots ls hX hR hS hl hc hs
  subst hp
  exact lv_lshr hX.1 hX.2.1 hd hv (k p e R s m args below meth c H locs cells slots ls hX hR hS hl hc hs)
theorem mm_lcmp {x y : Int64} (hd : decode M.2.1 pc = .ok (.lcmp, 1)) (hp : pc + 1 = pc') (k : mm_V l G M kc ks pc' L (.int (lg_cmp x y) :: st) h Q) : mm_V l G M kc ks pc L (.long y :: .long x :: st) h Q := by
  intro p e R s m args below meth c H locs cells slots ls hX hR hS hl hc hs
  subst hp
  exact W.lcmp hX.1 hX.2.1 hd (k p e R s m args below meth c H locs cells slots ls hX hR hS hl hc hs)
theorem mm_dup {va : Value} (hd : decode M.2.1 pc = .ok (.dup, 1)) (hp : pc + 1 = pc') (hva : va.category = 1) (k : mm_V l G M kc ks pc' L (va :: va :: st) h Q) : mm_V l G M kc ks pc L (va :: st) h Q := by
  intro p e R s m args below meth c H locs cells slots ls hX hR hS hl hc hs
  subst hp
  exact lv_dup hX.1 hX.2.1 hd (by rw [mm_vcat]; exact hva) (k p e R s m args below meth c H locs cells slots ls hX hR hS hl hc hs)
theorem mm_pop {va : Value} (hd : decode M.2.1 pc = .ok (.pop, 1)) (hp : pc + 1 = pc') (hva : va.category = 1) (k : mm_V l G M kc ks pc' L st h Q) : mm_V l G M kc ks pc L (va :: st) h Q := by
  intro p e R s m args below meth c H locs cells slots ls hX hR hS hl hc hs
  subst hp
  exact lv_pop hX.1 hX.2.1 hd (by rw [mm_vcat]; exact hva) (k p e R s m args below meth c H locs cells slots ls hX hR hS hl hc hs)
theorem mm_dup_x1 {va vb : Value} (hd : decode M.2.1 pc = .ok (.dup_x1, 1)) (hp : pc + 1 = pc') (hva : va.category = 1) (hvb : vb.category = 1) (k : mm_V l G M kc ks pc' L (va :: vb :: va :: st) h Q) : mm_V l G M kc ks pc L (va :: vb :: st) h Q := by
  intro p e R s m args below meth c H locs cells slots ls hX hR hS hl hc hs
  subst hp
  exact lv_dup_x1 hX.1 hX.2.1 hd (by rw [mm_vcat]; exact hva) (by rw [mm_vcat]; exact hvb) (k p e R s m args below meth c H locs cells slots ls hX hR hS hl hc hs)
theorem mm_dup_x2 {va vb vd : Value} (hd : decode M.2.1 pc = .ok (.dup_x2, 1)) (hp : pc + 1 = pc') (hva : va.category = 1) (hvb : vb.category = 1) (hvd : vd.category = 1) (k : mm_V l G M kc ks pc' L (va :: vb :: vd :: va :: st) h Q) : mm_V l G M kc ks pc L (va :: vb :: vd :: st) h Q := by
  intro p e R s m args below meth c H locs cells slots ls hX hR hS hl hc hs
  subst hp
  exact lv_dup_x2 hX.1 hX.2.1 hd (by rw [mm_vcat]; exact hva) (by rw [mm_vcat]; exact hvb) (by rw [mm_vcat]; exact hvd) (k p e R s m args below meth c H locs cells slots ls hX hR hS hl hc hs)
theorem mm_dup2 {va vb : Value} (hd : decode M.2.1 pc = .ok (.dup2, 1)) (hp : pc + 1 = pc') (hva : va.category = 1) (hvb : vb.category = 1) (k : mm_V l G M kc ks pc' L (va :: vb :: va :: vb :: st) h Q) : mm_V l G M kc ks pc L (va :: vb :: st) h Q := by
  intro p e R s m args below meth c H locs cells slots ls hX hR hS hl hc hs
  subst hp
  exact lv_dup2_11 hX.1 hX.2.1 hd (by rw [mm_vcat]; exact hva) (by rw [mm_vcat]; exact hvb) (k p e R s m args below meth c H locs cells slots ls hX hR hS hl hc hs)
theorem mm_dup2_2 {va : Value} (hd : decode M.2.1 pc = .ok (.dup2, 1)) (hp : pc + 1 = pc') (hva : va.category = 2) (k : mm_V l G M kc ks pc' L (va :: va :: st) h Q) : mm_V l G M kc ks pc L (va :: st) h Q := by
  intro p e R s m args below meth c H locs cells slots ls hX hR hS hl hc hs
  subst hp
  exact lv_dup2_2 hX.1 hX.2.1 hd (by rw [mm_vcat]; exact hva) (k p e R s m args below meth c H locs cells slots ls hX hR hS hl hc hs)
theorem mm_if_eq {x : Int32} {off : Int} {tgt : Nat} (hd : decode M.2.1 pc = .ok (.ifCond .eq off, 3)) (hp : pc + 3 = pc') (ht : (pc : Int) + off = (tgt : Int)) (kt : x = 0 → mm_V l G M kc ks tgt L st h Q) (kf : ¬ x = 0 → mm_V l G M kc ks pc' L st h Q) : mm_V l G M kc ks pc L (.int x :: st) h Q := by
  intro p e R s m args below meth c H locs cells slots ls hX hR hS hl hc hs
  subst hp
  exact lv_if_eq hX.1 hX.2.1 hd ht (fun q => kt q p e R s m args below meth c H locs cells slots ls hX hR hS hl hc hs) (fun q => kf q p e R s m args below meth c H locs cells slots ls hX hR hS hl hc hs)
theorem mm_icmp_eq {x y : Int32} {off : Int} {tgt : Nat} (hd : decode M.2.1 pc = .ok (.if_icmp .eq off, 3)) (hp : pc + 3 = pc') (ht : (pc : Int) + off = (tgt : Int)) (kt : x = y → mm_V l G M kc ks tgt L st h Q) (kf : ¬ x = y → mm_V l G M kc ks pc' L st h Q) : mm_V l G M kc ks pc L (.int y :: .int x :: st) h Q := by
  intro p e R s m args below meth c H locs cells slots ls hX hR hS hl hc hs
  subst hp
  exact lv_icmp_eq hX.1 hX.2.1 hd ht (fun q => kt q p e R s m args below meth c H locs cells slots ls hX hR hS hl hc hs) (fun q => kf q p e R s m args below meth c H locs cells slots ls hX hR hS hl hc hs)
theorem mm_if_ne {x : Int32} {off : Int} {tgt : Nat} (hd : decode M.2.1 pc = .ok (.ifCond .ne off, 3)) (hp : pc + 3 = pc') (ht : (pc : Int) + off = (tgt : Int)) (kt : ¬ x = 0 → mm_V l G M kc ks tgt L st h Q) (kf : x = 0 → mm_V l G M kc ks pc' L st h Q) : mm_V l G M kc ks pc L (.int x :: st) h Q := by
  intro p e R s m args below meth c H locs cells slots ls hX hR hS hl hc hs
  subst hp
  exact lv_if_ne hX.1 hX.2.1 hd ht (fun q => kt q p e R s m args below meth c H locs cells slots ls hX hR hS hl hc hs) (fun q => kf q p e R s m args below meth c H locs cells slots ls hX hR hS hl hc hs)
theorem mm_icmp_ne {x y : Int32} {off : Int} {tgt : Nat} (hd : decode M.2.1 pc = .ok (.if_icmp .ne off, 3)) (hp : pc + 3 = pc') (ht : (pc : Int) + off = (tgt : Int)) (kt : ¬ x = y → mm_V l G M kc ks tgt L st h Q) (kf : x = y → mm_V l G M kc ks pc' L st h Q) : mm_V l G M kc ks pc L (.int y :: .int x :: st) h Q := by
  intro p e R s m args below meth c H locs cells slots ls hX hR hS hl hc hs
  subst hp
  exact lv_icmp_ne hX.1 hX.2.1 hd ht (fun q => kt q p e R s m args below meth c H locs cells slots ls hX hR hS hl hc hs) (fun q => kf q p e R s m args below meth c H locs cells slots ls hX hR hS hl hc hs)
theorem mm_if_lt {x : Int32} {off : Int} {tgt : Nat} (hd : decode M.2.1 pc = .ok (.ifCond .lt off, 3)) (hp : pc + 3 = pc') (ht : (pc : Int) + off = (tgt : Int)) (kt : x < 0 → mm_V l G M kc ks tgt L st h Q) (kf : ¬ x < 0 → mm_V l G M kc ks pc' L st h Q) : mm_V l G M kc ks pc L (.int x :: st) h Q := by
  intro p e R s m args below meth c H locs cells slots ls hX hR hS hl hc hs
  subst hp
  exact lv_if_lt hX.1 hX.2.1 hd ht (fun q => kt q p e R s m args below meth c H locs cells slots ls hX hR hS hl hc hs) (fun q => kf q p e R s m args below meth c H locs cells slots ls hX hR hS hl hc hs)
theorem mm_icmp_lt {x y : Int32} {off : Int} {tgt : Nat} (hd : decode M.2.1 pc = .ok (.if_icmp .lt off, 3)) (hp : pc + 3 = pc') (ht : (pc : Int) + off = (tgt : Int)) (kt : x < y → mm_V l G M kc ks tgt L st h Q) (kf : ¬ x < y → mm_V l G M kc ks pc' L st h Q) : mm_V l G M kc ks pc L (.int y :: .int x :: st) h Q := by
  intro p e R s m args below meth c H locs cells slots ls hX hR hS hl hc hs
  subst hp
  exact lv_icmp_lt hX.1 hX.2.1 hd ht (fun q => kt q p e R s m args below meth c H locs cells slots ls hX hR hS hl hc hs) (fun q => kf q p e R s m args below meth c H locs cells slots ls hX hR hS hl hc hs)
theorem mm_if_ge {x : Int32} {off : Int} {tgt : Nat} (hd : decode M.2.1 pc = .ok (.ifCond .ge off, 3)) (hp : pc + 3 = pc') (ht : (pc : Int) + off = (tgt : Int)) (kt : 0 ≤ x → mm_V l G M kc ks tgt L st h Q) (kf : ¬ 0 ≤ x → mm_V l G M kc ks pc' L st h Q) : mm_V l G M kc ks pc L (.int x :: st) h Q := by
  intro p e R s m args below meth c H locs cells slots ls hX hR hS hl hc hs
  subst hp
  exact lv_if_ge hX.1 hX.2.1 hd ht (fun q => kt q p e R s m args below meth c H locs cells slots ls hX hR hS hl hc hs) (fun q => kf q p e R s m args below meth c H locs cells slots ls hX hR hS hl hc hs)
theorem mm_icmp_ge {x y : Int32} {off : Int} {tgt : Nat} (hd : decode M.2.1 pc = .ok (.if_icmp .ge off, 3)) (hp : pc + 3 = pc') (ht : (pc : Int) + off = (tgt : Int)) (kt : y ≤ x → mm_V l G M kc ks tgt L st h Q) (kf : ¬ y ≤ x → mm_V l G M kc ks pc' L st h Q) : mm_V l G M kc ks pc L (.int y :: .int x :: st) h Q := by
  intro p e R s m args below meth c H locs cells slots ls hX hR hS hl hc hs
  subst hp
  exact lv_icmp_ge hX.1 hX.2.1 hd ht (fun q => kt q p e R s m args below meth c H locs cells slots ls hX hR hS hl hc hs) (fun q => kf q p e R s m args below meth c H locs cells slots ls hX hR hS hl hc hs)
theorem mm_if_gt {x : Int32} {off : Int} {tgt : Nat} (hd : decode M.2.1 pc = .ok (.ifCond .gt off, 3)) (hp : pc + 3 = pc') (ht : (pc : Int) + off = (tgt : Int)) (kt : 0 < x → mm_V l G M kc ks tgt L st h Q) (kf : ¬ 0 < x → mm_V l G M kc ks pc' L st h Q) : mm_V l G M kc ks pc L (.int x :: st) h Q := by
  intro p e R s m args below meth c H locs cells slots ls hX hR hS hl hc hs
  subst hp
  exact lv_if_gt hX.1 hX.2.1 hd ht (fun q => kt q p e R s m args below meth c H locs cells slots ls hX hR hS hl hc hs) (fun q => kf q p e R s m args below meth c H locs cells slots ls hX hR hS hl hc hs)
theorem mm_icmp_gt {x y : Int32} {off : Int} {tgt : Nat} (hd : decode M.2.1 pc = .ok (.if_icmp .gt off, 3)) (hp : pc + 3 = pc') (ht : (pc : Int) + off = (tgt : Int)) (kt : y < x → mm_V l G M kc ks tgt L st h Q) (kf : ¬ y < x → mm_V l G M kc ks pc' L st h Q) : mm_V l G M kc ks pc L (.int y :: .int x :: st) h Q := by
  intro p e R s m args below meth c H locs cells slots ls hX hR hS hl hc hs
  subst hp
  exact lv_icmp_gt hX.1 hX.2.1 hd ht (fun q => kt q p e R s m args below meth c H locs cells slots ls hX hR hS hl hc hs) (fun q => kf q p e R s m args below meth c H locs cells slots ls hX hR hS hl hc hs)
theorem mm_if_le {x : Int32} {off : Int} {tgt : Nat} (hd : decode M.2.1 pc = .ok (.ifCond .le off, 3)) (hp : pc + 3 = pc') (ht : (pc : Int) + off = (tgt : Int)) (kt : x ≤ 0 → mm_V l G M kc ks tgt L st h Q) (kf : ¬ x ≤ 0 → mm_V l G M kc ks pc' L st h Q) : mm_V l G M kc ks pc L (.int x :: st) h Q := by
  intro p e R s m args below meth c H locs cells slots ls hX hR hS hl hc hs
  subst hp
  exact lv_if_le hX.1 hX.2.1 hd ht (fun q => kt q p e R s m args below meth c H locs cells slots ls hX hR hS hl hc hs) (fun q => kf q p e R s m args below meth c H locs cells slots ls hX hR hS hl hc hs)
theorem mm_icmp_le {x y : Int32} {off : Int} {tgt : Nat} (hd : decode M.2.1 pc = .ok (.if_icmp .le off, 3)) (hp : pc + 3 = pc') (ht : (pc : Int) + off = (tgt : Int)) (kt : x ≤ y → mm_V l G M kc ks tgt L st h Q) (kf : ¬ x ≤ y → mm_V l G M kc ks pc' L st h Q) : mm_V l G M kc ks pc L (.int y :: .int x :: st) h Q := by
  intro p e R s m args below meth c H locs cells slots ls hX hR hS hl hc hs
  subst hp
  exact lv_icmp_le hX.1 hX.2.1 hd ht (fun q => kt q p e R s m args below meth c H locs cells slots ls hX hR hS hl hc hs) (fun q => kf q p e R s m args below meth c H locs cells slots ls hX hR hS hl hc hs)
theorem mm_goto {off : Int} {tgt : Nat} (hd : decode M.2.1 pc = .ok (.goto off, 3)) (ht : (pc : Int) + off = (tgt : Int)) (k : mm_V l G M kc ks tgt L st h Q) : mm_V l G M kc ks pc L st h Q := by
  intro p e R s m args below meth c H locs cells slots ls hX hR hS hl hc hs
  exact lv_goto hX.1 hX.2.1 hd ht (k p e R s m args below meth c H locs cells slots ls hX hR hS hl hc hs)
theorem mm_ifnonnull {a : Nat} {off : Int} {tgt : Nat} (hd : decode M.2.1 pc = .ok (.ifnonnull off, 3)) (ht : (pc : Int) + off = (tgt : Int)) (k : mm_V l G M kc ks tgt L st h Q) : mm_V l G M kc ks pc L (.ref a :: st) h Q := by
  intro p e R s m args below meth c H locs cells slots ls hX hR hS hl hc hs
  exact lv_ifnonnull hX.1 hX.2.1 hd ht (k p e R s m args below meth c H locs cells slots ls hX hR hS hl hc hs)
theorem mm_ifnull {a : Nat} {off : Int} (hd : decode M.2.1 pc = .ok (.ifnull off, 3)) (hp : pc + 3 = pc') (k : mm_V l G M kc ks pc' L st h Q) : mm_V l G M kc ks pc L (.ref a :: st) h Q := by
  intro p e R s m args below meth c H locs cells slots ls hX hR hS hl hc hs
  subst hp
  exact lv_ifnull hX.1 hX.2.1 hd (k p e R s m args below meth c H locs cells slots ls hX hR hS hl hc hs)
theorem mm_ifnullN {off : Int} {tgt : Nat} (hd : decode M.2.1 pc = .ok (.ifnull off, 3)) (ht : (pc : Int) + off = (tgt : Int)) (k : mm_V l G M kc ks tgt L st h Q) : mm_V l G M kc ks pc L (.null :: st) h Q := by
  intro p e R s m args below meth c H locs cells slots ls hX hR hS hl hc hs
  exact lv_ifnullN hX.1 hX.2.1 hd ht (k p e R s m args below meth c H locs cells slots ls hX hR hS hl hc hs)
theorem mm_ifnonnullN {off : Int} (hd : decode M.2.1 pc = .ok (.ifnonnull off, 3)) (hp : pc + 3 = pc') (k : mm_V l G M kc ks pc' L st h Q) : mm_V l G M kc ks pc L (.null :: st) h Q := by
  intro p e R s m args below meth c H locs cells slots ls hX hR hS hl hc hs
  subst hp
  exact lv_ifnonnullN hX.1 hX.2.1 hd (k p e R s m args below meth c H locs cells slots ls hX hR hS hl hc hs)
theorem mm_tableIn {dflt lo hi : Int} {offs : Array Int} {len : Nat} {x : Int32} {off : Int} {tgt : Nat} (hd : decode M.2.1 pc = .ok (.tableswitch dflt lo hi offs, len)) (h1 : ¬ x.toInt < lo) (h2 : ¬ hi < x.toInt) (ho : offs[(x.toInt - lo).toNat]? = some off) (ht : (pc : Int) + off = (tgt : Int)) (k : mm_V l G M kc ks tgt L st h Q) : mm_V l G M kc ks pc L (.int x :: st) h Q := by
  intro p e R s m args below meth c H locs cells slots ls hX hR hS hl hc hs
  exact lv_tableIn hX.1 hX.2.1 hd h1 h2 ho ht (k p e R s m args below meth c H locs cells slots ls hX hR hS hl hc hs)
theorem mm_tableOut {dflt lo hi : Int} {offs : Array Int} {len : Nat} {x : Int32} {tgt : Nat} (hd : decode M.2.1 pc = .ok (.tableswitch dflt lo hi offs, len)) (h1 : x.toInt < lo ∨ hi < x.toInt) (ht : (pc : Int) + dflt = (tgt : Int)) (k : mm_V l G M kc ks tgt L st h Q) : mm_V l G M kc ks pc L (.int x :: st) h Q := by
  intro p e R s m args below meth c H locs cells slots ls hX hR hS hl hc hs
  exact lv_tableOut hX.1 hX.2.1 hd h1 ht (k p e R s m args below meth c H locs cells slots ls hX hR hS hl hc hs)
theorem mm_lookup {dflt : Int} {ps : Array (Int × Int)} {len : Nat} {x : Int32} {off : Int} {tgt : Nat} (hd : decode M.2.1 pc = .ok (.lookupswitch dflt ps, len)) (h1 : (ps.toList.zip (ps.toList.drop 1)).all (fun (a, next) => a.1 < next.1) = true) (ho : Op.lookupswitch.offset ps.toList dflt x.toInt = off) (ht : (pc : Int) + off = (tgt : Int)) (k : mm_V l G M kc ks tgt L st h Q) : mm_V l G M kc ks pc L (.int x :: st) h Q := by
  intro p e R s m args below meth c H locs cells slots ls hX hR hS hl hc hs
  exact lv_lookup hX.1 hX.2.1 hd h1 ho ht (k p e R s m args below meth c H locs cells slots ls hX hR hS hl hc hs)
theorem mm_iret {x : Int32} {ty : FieldType} (hd : decode M.2.1 pc = .ok (.ireturn, 1)) (hr : M.2.2.2.1 = some ty) (hn : narrow ty (.int x) = .int x) (hq : Q (some (.int x)) h) : mm_V l G M kc ks pc L [.int x] h Q := by
  intro p e R s m args below meth c H locs cells slots ls hX hR hS hl hc hs
  refine W.widen (k := R.cells) (n := R.slots) (by omega) (by omega) ?_
  exact W.zret hX.1 hX.2.1 (hX.2.2.2.2.2.2.1.trans hr) hn (fun t ht hW => ⟨⟨(some (.int x)), h, rfl, hq, by rw [ht]; exact hR⟩, hS.F ht⟩) hS.2.2 hd hX.2.2.2.2.2.2.2.1
theorem mm_vret (hd : decode M.2.1 pc = .ok (.return_, 1)) (hr : M.2.2.2.1 = none) (hq : Q none h) : mm_V l G M kc ks pc L [] h Q := by
  intro p e R s m args below meth c H locs cells slots ls hX hR hS hl hc hs
  refine W.widen (k := R.cells) (n := R.slots) (by omega) (by omega) ?_
  exact W.vret hX.1 hX.2.1 (hX.2.2.2.2.2.2.1.trans hr) (fun t ht hW => ⟨⟨none, h, rfl, hq, by rw [ht]; exact hR⟩, hS.F ht⟩) hS.2.2 hd hX.2.2.2.2.2.2.2.1
theorem mm_lret {x : Int64} (hd : decode M.2.1 pc = .ok (.lreturn, 1)) (hr : M.2.2.2.1 = some .long) (hq : Q (some (.long x)) h) : mm_V l G M kc ks pc L [.long x] h Q := by
  intro p e R s m args below meth c H locs cells slots ls hX hR hS hl hc hs
  refine W.widen (k := R.cells) (n := R.slots) (by omega) (by omega) ?_
  exact W.lret hX.1 hX.2.1 (hX.2.2.2.2.2.2.1.trans hr) (fun t ht hW => ⟨⟨(some (.long x)), h, rfl, hq, by rw [ht]; exact hR⟩, hS.F ht⟩) hS.2.2 hd hX.2.2.2.2.2.2.2.1
end MMP
