section MMS
variable {l : Launch} {G : mm_G} {M : mm_M} {kc ks pc pc' : Nat} {L : List (Option Value)} {st : List Value} {h : mm_H} {Q : Option Value → mm_H → Prop}
theorem mm_dec (x : Int32) : x + Int32.ofInt (-1) = x - 1 := by
  rw [Int32.sub_eq_add_neg]
  rfl
theorem mm_ist0 {x0 : Option Value} {x : Int32} (hd : decode M.2.1 pc = .ok (.istore_n 0, 1)) (hp : pc + 1 = pc') (h2 : mm_2 (none : Option Value) = false) (hn : 0 < M.2.2.1) (k : mm_V l G M kc ks pc' (some (.int x) :: L) st h Q) : mm_V l G M kc ks pc (x0 :: L) ((.int x) :: st) h Q := by
  refine mm_istore_n hd hp rfl hn ?_
  simpa [mm_st, h2] using k
theorem mm_ast0 {x0 : Option Value} {a : Nat} (hd : decode M.2.1 pc = .ok (.astore_n 0, 1)) (hp : pc + 1 = pc') (h2 : mm_2 (none : Option Value) = false) (hn : 0 < M.2.2.1) (k : mm_V l G M kc ks pc' (some (.ref a) :: L) st h Q) : mm_V l G M kc ks pc (x0 :: L) ((.ref a) :: st) h Q := by
  refine mm_astore_n hd hp rfl hn ?_
  simpa [mm_st, h2] using k
theorem mm_ast0N {x0 : Option Value} (hd : decode M.2.1 pc = .ok (.astore_n 0, 1)) (hp : pc + 1 = pc') (h2 : mm_2 (none : Option Value) = false) (hn : 0 < M.2.2.1) (k : mm_V l G M kc ks pc' (some .null :: L) st h Q) : mm_V l G M kc ks pc (x0 :: L) (.null :: st) h Q := by
  refine mm_astore_nN hd hp rfl hn ?_
  simpa [mm_st, h2] using k
theorem mm_lst0 {x0 : Option Value} {y0 : Option Value} {x : Int64} (hd : decode M.2.1 pc = .ok (.lstore_n 0, 1)) (hp : pc + 1 = pc') (h2 : mm_2 (none : Option Value) = false) (hn : 0 + 1 < M.2.2.1) (k : mm_V l G M kc ks pc' (some (.long x) :: none :: L) st h Q) : mm_V l G M kc ks pc (x0 :: y0 :: L) (.long x :: st) h Q := by
  refine mm_lstore_n hd hp rfl hn ?_
  simpa [mm_st2, h2] using k
theorem mm_iinc0 {n : Int} {x v : Int32} (hd : decode M.2.1 pc = .ok (.iinc 0 n, 3)) (hp : pc + 3 = pc') (h2 : mm_2 (none : Option Value) = false) (hv : x + Int32.ofInt n = v) (hn : 0 < M.2.2.1) (k : mm_V l G M kc ks pc' (some (.int v) :: L) st h Q) : mm_V l G M kc ks pc (some (.int x) :: L) st h Q := by
  refine mm_iinc hd hp rfl hv hn ?_
  simpa [mm_st, h2] using k
theorem mm_ist1 {x0 x1 : Option Value} {x : Int32} (hd : decode M.2.1 pc = .ok (.istore_n 1, 1)) (hp : pc + 1 = pc') (h2 : mm_2 x0 = false) (hn : 1 < M.2.2.1) (k : mm_V l G M kc ks pc' (x0 :: some (.int x) :: L) st h Q) : mm_V l G M kc ks pc (x0 :: x1 :: L) ((.int x) :: st) h Q := by
  refine mm_istore_n hd hp rfl hn ?_
  simpa [mm_st, h2] using k
theorem mm_ast1 {x0 x1 : Option Value} {a : Nat} (hd : decode M.2.1 pc = .ok (.astore_n 1, 1)) (hp : pc + 1 = pc') (h2 : mm_2 x0 = false) (hn : 1 < M.2.2.1) (k : mm_V l G M kc ks pc' (x0 :: some (.ref a) :: L) st h Q) : mm_V l G M kc ks pc (x0 :: x1 :: L) ((.ref a) :: st) h Q := by
  refine mm_astore_n hd hp rfl hn ?_
  simpa [mm_st, h2] using k
theorem mm_ast1N {x0 x1 : Option Value} (hd : decode M.2.1 pc = .ok (.astore_n 1, 1)) (hp : pc + 1 = pc') (h2 : mm_2 x0 = false) (hn : 1 < M.2.2.1) (k : mm_V l G M kc ks pc' (x0 :: some .null :: L) st h Q) : mm_V l G M kc ks pc (x0 :: x1 :: L) (.null :: st) h Q := by
  refine mm_astore_nN hd hp rfl hn ?_
  simpa [mm_st, h2] using k
theorem mm_lst1 {x0 x1 : Option Value} {y0 : Option Value} {x : Int64} (hd : decode M.2.1 pc = .ok (.lstore_n 1, 1)) (hp : pc + 1 = pc') (h2 : mm_2 x0 = false) (hn : 1 + 1 < M.2.2.1) (k : mm_V l G M kc ks pc' (x0 :: some (.long x) :: none :: L) st h Q) : mm_V l G M kc ks pc (x0 :: x1 :: y0 :: L) (.long x :: st) h Q := by
  refine mm_lstore_n hd hp rfl hn ?_
  simpa [mm_st2, h2] using k
theorem mm_iinc1 {x0 : Option Value} {n : Int} {x v : Int32} (hd : decode M.2.1 pc = .ok (.iinc 1 n, 3)) (hp : pc + 3 = pc') (h2 : mm_2 x0 = false) (hv : x + Int32.ofInt n = v) (hn : 1 < M.2.2.1) (k : mm_V l G M kc ks pc' (x0 :: some (.int v) :: L) st h Q) : mm_V l G M kc ks pc (x0 :: some (.int x) :: L) st h Q := by
  refine mm_iinc hd hp rfl hv hn ?_
  simpa [mm_st, h2] using k
theorem mm_ist2 {x0 x1 x2 : Option Value} {x : Int32} (hd : decode M.2.1 pc = .ok (.istore_n 2, 1)) (hp : pc + 1 = pc') (h2 : mm_2 x1 = false) (hn : 2 < M.2.2.1) (k : mm_V l G M kc ks pc' (x0 :: x1 :: some (.int x) :: L) st h Q) : mm_V l G M kc ks pc (x0 :: x1 :: x2 :: L) ((.int x) :: st) h Q := by
  refine mm_istore_n hd hp rfl hn ?_
  simpa [mm_st, h2] using k
theorem mm_ast2 {x0 x1 x2 : Option Value} {a : Nat} (hd : decode M.2.1 pc = .ok (.astore_n 2, 1)) (hp : pc + 1 = pc') (h2 : mm_2 x1 = false) (hn : 2 < M.2.2.1) (k : mm_V l G M kc ks pc' (x0 :: x1 :: some (.ref a) :: L) st h Q) : mm_V l G M kc ks pc (x0 :: x1 :: x2 :: L) ((.ref a) :: st) h Q := by
  refine mm_astore_n hd hp rfl hn ?_
  simpa [mm_st, h2] using k
theorem mm_ast2N {x0 x1 x2 : Option Value} (hd : decode M.2.1 pc = .ok (.astore_n 2, 1)) (hp : pc + 1 = pc') (h2 : mm_2 x1 = false) (hn : 2 < M.2.2.1) (k : mm_V l G M kc ks pc' (x0 :: x1 :: some .null :: L) st h Q) : mm_V l G M kc ks pc (x0 :: x1 :: x2 :: L) (.null :: st) h Q := by
  refine mm_astore_nN hd hp rfl hn ?_
  simpa [mm_st, h2] using k
theorem mm_lst2 {x0 x1 x2 : Option Value} {y0 : Option Value} {x : Int64} (hd : decode M.2.1 pc = .ok (.lstore_n 2, 1)) (hp : pc + 1 = pc') (h2 : mm_2 x1 = false) (hn : 2 + 1 < M.2.2.1) (k : mm_V l G M kc ks pc' (x0 :: x1 :: some (.long x) :: none :: L) st h Q) : mm_V l G M kc ks pc (x0 :: x1 :: x2 :: y0 :: L) (.long x :: st) h Q := by
  refine mm_lstore_n hd hp rfl hn ?_
  simpa [mm_st2, h2] using k
theorem mm_iinc2 {x0 x1 : Option Value} {n : Int} {x v : Int32} (hd : decode M.2.1 pc = .ok (.iinc 2 n, 3)) (hp : pc + 3 = pc') (h2 : mm_2 x1 = false) (hv : x + Int32.ofInt n = v) (hn : 2 < M.2.2.1) (k : mm_V l G M kc ks pc' (x0 :: x1 :: some (.int v) :: L) st h Q) : mm_V l G M kc ks pc (x0 :: x1 :: some (.int x) :: L) st h Q := by
  refine mm_iinc hd hp rfl hv hn ?_
  simpa [mm_st, h2] using k
theorem mm_ist3 {x0 x1 x2 x3 : Option Value} {x : Int32} (hd : decode M.2.1 pc = .ok (.istore_n 3, 1)) (hp : pc + 1 = pc') (h2 : mm_2 x2 = false) (hn : 3 < M.2.2.1) (k : mm_V l G M kc ks pc' (x0 :: x1 :: x2 :: some (.int x) :: L) st h Q) : mm_V l G M kc ks pc (x0 :: x1 :: x2 :: x3 :: L) ((.int x) :: st) h Q := by
  refine mm_istore_n hd hp rfl hn ?_
  simpa [mm_st, h2] using k
theorem mm_ast3 {x0 x1 x2 x3 : Option Value} {a : Nat} (hd : decode M.2.1 pc = .ok (.astore_n 3, 1)) (hp : pc + 1 = pc') (h2 : mm_2 x2 = false) (hn : 3 < M.2.2.1) (k : mm_V l G M kc ks pc' (x0 :: x1 :: x2 :: some (.ref a) :: L) st h Q) : mm_V l G M kc ks pc (x0 :: x1 :: x2 :: x3 :: L) ((.ref a) :: st) h Q := by
  refine mm_astore_n hd hp rfl hn ?_
  simpa [mm_st, h2] using k
theorem mm_ast3N {x0 x1 x2 x3 : Option Value} (hd : decode M.2.1 pc = .ok (.astore_n 3, 1)) (hp : pc + 1 = pc') (h2 : mm_2 x2 = false) (hn : 3 < M.2.2.1) (k : mm_V l G M kc ks pc' (x0 :: x1 :: x2 :: some .null :: L) st h Q) : mm_V l G M kc ks pc (x0 :: x1 :: x2 :: x3 :: L) (.null :: st) h Q := by
  refine mm_astore_nN hd hp rfl hn ?_
  simpa [mm_st, h2] using k
theorem mm_lst3 {x0 x1 x2 x3 : Option Value} {y0 : Option Value} {x : Int64} (hd : decode M.2.1 pc = .ok (.lstore_n 3, 1)) (hp : pc + 1 = pc') (h2 : mm_2 x2 = false) (hn : 3 + 1 < M.2.2.1) (k : mm_V l G M kc ks pc' (x0 :: x1 :: x2 :: some (.long x) :: none :: L) st h Q) : mm_V l G M kc ks pc (x0 :: x1 :: x2 :: x3 :: y0 :: L) (.long x :: st) h Q := by
  refine mm_lstore_n hd hp rfl hn ?_
  simpa [mm_st2, h2] using k
theorem mm_iinc3 {x0 x1 x2 : Option Value} {n : Int} {x v : Int32} (hd : decode M.2.1 pc = .ok (.iinc 3 n, 3)) (hp : pc + 3 = pc') (h2 : mm_2 x2 = false) (hv : x + Int32.ofInt n = v) (hn : 3 < M.2.2.1) (k : mm_V l G M kc ks pc' (x0 :: x1 :: x2 :: some (.int v) :: L) st h Q) : mm_V l G M kc ks pc (x0 :: x1 :: x2 :: some (.int x) :: L) st h Q := by
  refine mm_iinc hd hp rfl hv hn ?_
  simpa [mm_st, h2] using k
theorem mm_ist4 {x0 x1 x2 x3 x4 : Option Value} {x : Int32} (hd : decode M.2.1 pc = .ok (.istore 4, 2)) (hp : pc + 2 = pc') (h2 : mm_2 x3 = false) (hn : 4 < M.2.2.1) (k : mm_V l G M kc ks pc' (x0 :: x1 :: x2 :: x3 :: some (.int x) :: L) st h Q) : mm_V l G M kc ks pc (x0 :: x1 :: x2 :: x3 :: x4 :: L) ((.int x) :: st) h Q := by
  refine mm_istore hd hp hn ?_
  simpa [mm_st, h2] using k
theorem mm_ast4 {x0 x1 x2 x3 x4 : Option Value} {a : Nat} (hd : decode M.2.1 pc = .ok (.astore 4, 2)) (hp : pc + 2 = pc') (h2 : mm_2 x3 = false) (hn : 4 < M.2.2.1) (k : mm_V l G M kc ks pc' (x0 :: x1 :: x2 :: x3 :: some (.ref a) :: L) st h Q) : mm_V l G M kc ks pc (x0 :: x1 :: x2 :: x3 :: x4 :: L) ((.ref a) :: st) h Q := by
  refine mm_astore hd hp hn ?_
  simpa [mm_st, h2] using k
theorem mm_ast4N {x0 x1 x2 x3 x4 : Option Value} (hd : decode M.2.1 pc = .ok (.astore 4, 2)) (hp : pc + 2 = pc') (h2 : mm_2 x3 = false) (hn : 4 < M.2.2.1) (k : mm_V l G M kc ks pc' (x0 :: x1 :: x2 :: x3 :: some .null :: L) st h Q) : mm_V l G M kc ks pc (x0 :: x1 :: x2 :: x3 :: x4 :: L) (.null :: st) h Q := by
  refine mm_astoreN hd hp hn ?_
  simpa [mm_st, h2] using k
theorem mm_lst4 {x0 x1 x2 x3 x4 : Option Value} {y0 : Option Value} {x : Int64} (hd : decode M.2.1 pc = .ok (.lstore 4, 2)) (hp : pc + 2 = pc') (h2 : mm_2 x3 = false) (hn : 4 + 1 < M.2.2.1) (k : mm_V l G M kc ks pc' (x0 :: x1 :: x2 :: x3 :: some (.long x) :: none :: L) st h Q) : mm_V l G M kc ks pc (x0 :: x1 :: x2 :: x3 :: x4 :: y0 :: L) (.long x :: st) h Q := by
  refine mm_lstore hd hp hn ?_
  simpa [mm_st2, h2] using k
theorem mm_iinc4 {x0 x1 x2 x3 : Option Value} {n : Int} {x v : Int32} (hd : decode M.2.1 pc = .ok (.iinc 4 n, 3)) (hp : pc + 3 = pc') (h2 : mm_2 x3 = false) (hv : x + Int32.ofInt n = v) (hn : 4 < M.2.2.1) (k : mm_V l G M kc ks pc' (x0 :: x1 :: x2 :: x3 :: some (.int v) :: L) st h Q) : mm_V l G M kc ks pc (x0 :: x1 :: x2 :: x3 :: some (.int x) :: L) st h Q := by
  refine mm_iinc hd hp rfl hv hn ?_
  simpa [mm_st, h2] using k
theorem mm_ist5 {x0 x1 x2 x3 x4 x5 : Option Value} {x : Int32} (hd : decode M.2.1 pc = .ok (.istore 5, 2)) (hp : pc + 2 = pc') (h2 : mm_2 x4 = false) (hn : 5 < M.2.2.1) (k : mm_V l G M kc ks pc' (x0 :: x1 :: x2 :: x3 :: x4 :: some (.int x) :: L) st h Q) : mm_V l G M kc ks pc (x0 :: x1 :: x2 :: x3 :: x4 :: x5 :: L) ((.int x) :: st) h Q := by
  refine mm_istore hd hp hn ?_
  simpa [mm_st, h2] using k
theorem mm_ast5 {x0 x1 x2 x3 x4 x5 : Option Value} {a : Nat} (hd : decode M.2.1 pc = .ok (.astore 5, 2)) (hp : pc + 2 = pc') (h2 : mm_2 x4 = false) (hn : 5 < M.2.2.1) (k : mm_V l G M kc ks pc' (x0 :: x1 :: x2 :: x3 :: x4 :: some (.ref a) :: L) st h Q) : mm_V l G M kc ks pc (x0 :: x1 :: x2 :: x3 :: x4 :: x5 :: L) ((.ref a) :: st) h Q := by
  refine mm_astore hd hp hn ?_
  simpa [mm_st, h2] using k
theorem mm_ast5N {x0 x1 x2 x3 x4 x5 : Option Value} (hd : decode M.2.1 pc = .ok (.astore 5, 2)) (hp : pc + 2 = pc') (h2 : mm_2 x4 = false) (hn : 5 < M.2.2.1) (k : mm_V l G M kc ks pc' (x0 :: x1 :: x2 :: x3 :: x4 :: some .null :: L) st h Q) : mm_V l G M kc ks pc (x0 :: x1 :: x2 :: x3 :: x4 :: x5 :: L) (.null :: st) h Q := by
  refine mm_astoreN hd hp hn ?_
  simpa [mm_st, h2] using k
theorem mm_lst5 {x0 x1 x2 x3 x4 x5 : Option Value} {y0 : Option Value} {x : Int64} (hd : decode M.2.1 pc = .ok (.lstore 5, 2)) (hp : pc + 2 = pc') (h2 : mm_2 x4 = false) (hn : 5 + 1 < M.2.2.1) (k : mm_V l G M kc ks pc' (x0 :: x1 :: x2 :: x3 :: x4 :: some (.long x) :: none :: L) st h Q) : mm_V l G M kc ks pc (x0 :: x1 :: x2 :: x3 :: x4 :: x5 :: y0 :: L) (.long x :: st) h Q := by
  refine mm_lstore hd hp hn ?_
  simpa [mm_st2, h2] using k
theorem mm_iinc5 {x0 x1 x2 x3 x4 : Option Value} {n : Int} {x v : Int32} (hd : decode M.2.1 pc = .ok (.iinc 5 n, 3)) (hp : pc + 3 = pc') (h2 : mm_2 x4 = false) (hv : x + Int32.ofInt n = v) (hn : 5 < M.2.2.1) (k : mm_V l G M kc ks pc' (x0 :: x1 :: x2 :: x3 :: x4 :: some (.int v) :: L) st h Q) : mm_V l G M kc ks pc (x0 :: x1 :: x2 :: x3 :: x4 :: some (.int x) :: L) st h Q := by
  refine mm_iinc hd hp rfl hv hn ?_
  simpa [mm_st, h2] using k
theorem mm_ist6 {x0 x1 x2 x3 x4 x5 x6 : Option Value} {x : Int32} (hd : decode M.2.1 pc = .ok (.istore 6, 2)) (hp : pc + 2 = pc') (h2 : mm_2 x5 = false) (hn : 6 < M.2.2.1) (k : mm_V l G M kc ks pc' (x0 :: x1 :: x2 :: x3 :: x4 :: x5 :: some (.int x) :: L) st h Q) : mm_V l G M kc ks pc (x0 :: x1 :: x2 :: x3 :: x4 :: x5 :: x6 :: L) ((.int x) :: st) h Q := by
  refine mm_istore hd hp hn ?_
  simpa [mm_st, h2] using k
theorem mm_ast6 {x0 x1 x2 x3 x4 x5 x6 : Option Value} {a : Nat} (hd : decode M.2.1 pc = .ok (.astore 6, 2)) (hp : pc + 2 = pc') (h2 : mm_2 x5 = false) (hn : 6 < M.2.2.1) (k : mm_V l G M kc ks pc' (x0 :: x1 :: x2 :: x3 :: x4 :: x5 :: some (.ref a) :: L) st h Q) : mm_V l G M kc ks pc (x0 :: x1 :: x2 :: x3 :: x4 :: x5 :: x6 :: L) ((.ref a) :: st) h Q := by
  refine mm_astore hd hp hn ?_
  simpa [mm_st, h2] using k
theorem mm_ast6N {x0 x1 x2 x3 x4 x5 x6 : Option Value} (hd : decode M.2.1 pc = .ok (.astore 6, 2)) (hp : pc + 2 = pc') (h2 : mm_2 x5 = false) (hn : 6 < M.2.2.1) (k : mm_V l G M kc ks pc' (x0 :: x1 :: x2 :: x3 :: x4 :: x5 :: some .null :: L) st h Q) : mm_V l G M kc ks pc (x0 :: x1 :: x2 :: x3 :: x4 :: x5 :: x6 :: L) (.null :: st) h Q := by
  refine mm_astoreN hd hp hn ?_
  simpa [mm_st, h2] using k
theorem mm_lst6 {x0 x1 x2 x3 x4 x5 x6 : Option Value} {y0 : Option Value} {x : Int64} (hd : decode M.2.1 pc = .ok (.lstore 6, 2)) (hp : pc + 2 = pc') (h2 : mm_2 x5 = false) (hn : 6 + 1 < M.2.2.1) (k : mm_V l G M kc ks pc' (x0 :: x1 :: x2 :: x3 :: x4 :: x5 :: some (.long x) :: none :: L) st h Q) : mm_V l G M kc ks pc (x0 :: x1 :: x2 :: x3 :: x4 :: x5 :: x6 :: y0 :: L) (.long x :: st) h Q := by
  refine mm_lstore hd hp hn ?_
  simpa [mm_st2, h2] using k
theorem mm_iinc6 {x0 x1 x2 x3 x4 x5 : Option Value} {n : Int} {x v : Int32} (hd : decode M.2.1 pc = .ok (.iinc 6 n, 3)) (hp : pc + 3 = pc') (h2 : mm_2 x5 = false) (hv : x + Int32.ofInt n = v) (hn : 6 < M.2.2.1) (k : mm_V l G M kc ks pc' (x0 :: x1 :: x2 :: x3 :: x4 :: x5 :: some (.int v) :: L) st h Q) : mm_V l G M kc ks pc (x0 :: x1 :: x2 :: x3 :: x4 :: x5 :: some (.int x) :: L) st h Q := by
  refine mm_iinc hd hp rfl hv hn ?_
  simpa [mm_st, h2] using k
theorem mm_ist7 {x0 x1 x2 x3 x4 x5 x6 x7 : Option Value} {x : Int32} (hd : decode M.2.1 pc = .ok (.istore 7, 2)) (hp : pc + 2 = pc') (h2 : mm_2 x6 = false) (hn : 7 < M.2.2.1) (k : mm_V l G M kc ks pc' (x0 :: x1 :: x2 :: x3 :: x4 :: x5 :: x6 :: some (.int x) :: L) st h Q) : mm_V l G M kc ks pc (x0 :: x1 :: x2 :: x3 :: x4 :: x5 :: x6 :: x7 :: L) ((.int x) :: st) h Q := by
  refine mm_istore hd hp hn ?_
  simpa [mm_st, h2] using k
theorem mm_ast7 {x0 x1 x2 x3 x4 x5 x6 x7 : Option Value} {a : Nat} (hd : decode M.2.1 pc = .ok (.astore 7, 2)) (hp : pc + 2 = pc') (h2 : mm_2 x6 = false) (hn : 7 < M.2.2.1) (k : mm_V l G M kc ks pc' (x0 :: x1 :: x2 :: x3 :: x4 :: x5 :: x6 :: some (.ref a) :: L) st h Q) : mm_V l G M kc ks pc (x0 :: x1 :: x2 :: x3 :: x4 :: x5 :: x6 :: x7 :: L) ((.ref a) :: st) h Q := by
  refine mm_astore hd hp hn ?_
  simpa [mm_st, h2] using k
theorem mm_ast7N {x0 x1 x2 x3 x4 x5 x6 x7 : Option Value} (hd : decode M.2.1 pc = .ok (.astore 7, 2)) (hp : pc + 2 = pc') (h2 : mm_2 x6 = false) (hn : 7 < M.2.2.1) (k : mm_V l G M kc ks pc' (x0 :: x1 :: x2 :: x3 :: x4 :: x5 :: x6 :: some .null :: L) st h Q) : mm_V l G M kc ks pc (x0 :: x1 :: x2 :: x3 :: x4 :: x5 :: x6 :: x7 :: L) (.null :: st) h Q := by
  refine mm_astoreN hd hp hn ?_
  simpa [mm_st, h2] using k
theorem mm_lst7 {x0 x1 x2 x3 x4 x5 x6 x7 : Option Value} {y0 : Option Value} {x : Int64} (hd : decode M.2.1 pc = .ok (.lstore 7, 2)) (hp : pc + 2 = pc') (h2 : mm_2 x6 = false) (hn : 7 + 1 < M.2.2.1) (k : mm_V l G M kc ks pc' (x0 :: x1 :: x2 :: x3 :: x4 :: x5 :: x6 :: some (.long x) :: none :: L) st h Q) : mm_V l G M kc ks pc (x0 :: x1 :: x2 :: x3 :: x4 :: x5 :: x6 :: x7 :: y0 :: L) (.long x :: st) h Q := by
  refine mm_lstore hd hp hn ?_
  simpa [mm_st2, h2] using k
theorem mm_iinc7 {x0 x1 x2 x3 x4 x5 x6 : Option Value} {n : Int} {x v : Int32} (hd : decode M.2.1 pc = .ok (.iinc 7 n, 3)) (hp : pc + 3 = pc') (h2 : mm_2 x6 = false) (hv : x + Int32.ofInt n = v) (hn : 7 < M.2.2.1) (k : mm_V l G M kc ks pc' (x0 :: x1 :: x2 :: x3 :: x4 :: x5 :: x6 :: some (.int v) :: L) st h Q) : mm_V l G M kc ks pc (x0 :: x1 :: x2 :: x3 :: x4 :: x5 :: x6 :: some (.int x) :: L) st h Q := by
  refine mm_iinc hd hp rfl hv hn ?_
  simpa [mm_st, h2] using k
theorem mm_ist8 {x0 x1 x2 x3 x4 x5 x6 x7 x8 : Option Value} {x : Int32} (hd : decode M.2.1 pc = .ok (.istore 8, 2)) (hp : pc + 2 = pc') (h2 : mm_2 x7 = false) (hn : 8 < M.2.2.1) (k : mm_V l G M kc ks pc' (x0 :: x1 :: x2 :: x3 :: x4 :: x5 :: x6 :: x7 :: some (.int x) :: L) st h Q) : mm_V l G M kc ks pc (x0 :: x1 :: x2 :: x3 :: x4 :: x5 :: x6 :: x7 :: x8 :: L) ((.int x) :: st) h Q := by
  refine mm_istore hd hp hn ?_
  simpa [mm_st, h2] using k
theorem mm_ast8 {x0 x1 x2 x3 x4 x5 x6 x7 x8 : Option Value} {a : Nat} (hd : decode M.2.1 pc = .ok (.astore 8, 2)) (hp : pc + 2 = pc') (h2 : mm_2 x7 = false) (hn : 8 < M.2.2.1) (k : mm_V l G M kc ks pc' (x0 :: x1 :: x2 :: x3 :: x4 :: x5 :: x6 :: x7 :: some (.ref a) :: L) st h Q) : mm_V l G M kc ks pc (x0 :: x1 :: x2 :: x3 :: x4 :: x5 :: x6 :: x7 :: x8 :: L) ((.ref a) :: st) h Q := by
  refine mm_astore hd hp hn ?_
  simpa [mm_st, h2] using k
theorem mm_ast8N {x0 x1 x2 x3 x4 x5 x6 x7 x8 : Option Value} (hd : decode M.2.1 pc = .ok (.astore 8, 2)) (hp : pc + 2 = pc') (h2 : mm_2 x7 = false) (hn : 8 < M.2.2.1) (k : mm_V l G M kc ks pc' (x0 :: x1 :: x2 :: x3 :: x4 :: x5 :: x6 :: x7 :: some .null :: L) st h Q) : mm_V l G M kc ks pc (x0 :: x1 :: x2 :: x3 :: x4 :: x5 :: x6 :: x7 :: x8 :: L) (.null :: st) h Q := by
  refine mm_astoreN hd hp hn ?_
  simpa [mm_st, h2] using k
theorem mm_lst8 {x0 x1 x2 x3 x4 x5 x6 x7 x8 : Option Value} {y0 : Option Value} {x : Int64} (hd : decode M.2.1 pc = .ok (.lstore 8, 2)) (hp : pc + 2 = pc') (h2 : mm_2 x7 = false) (hn : 8 + 1 < M.2.2.1) (k : mm_V l G M kc ks pc' (x0 :: x1 :: x2 :: x3 :: x4 :: x5 :: x6 :: x7 :: some (.long x) :: none :: L) st h Q) : mm_V l G M kc ks pc (x0 :: x1 :: x2 :: x3 :: x4 :: x5 :: x6 :: x7 :: x8 :: y0 :: L) (.long x :: st) h Q := by
  refine mm_lstore hd hp hn ?_
  simpa [mm_st2, h2] using k
theorem mm_iinc8 {x0 x1 x2 x3 x4 x5 x6 x7 : Option Value} {n : Int} {x v : Int32} (hd : decode M.2.1 pc = .ok (.iinc 8 n, 3)) (hp : pc + 3 = pc') (h2 : mm_2 x7 = false) (hv : x + Int32.ofInt n = v) (hn : 8 < M.2.2.1) (k : mm_V l G M kc ks pc' (x0 :: x1 :: x2 :: x3 :: x4 :: x5 :: x6 :: x7 :: some (.int v) :: L) st h Q) : mm_V l G M kc ks pc (x0 :: x1 :: x2 :: x3 :: x4 :: x5 :: x6 :: x7 :: some (.int x) :: L) st h Q := by
  refine mm_iinc hd hp rfl hv hn ?_
  simpa [mm_st, h2] using k
theorem mm_ist9 {x0 x1 x2 x3 x4 x5 x6 x7 x8 x9 : Option Value} {x : Int32} (hd : decode M.2.1 pc = .ok (.istore 9, 2)) (hp : pc + 2 = pc') (h2 : mm_2 x8 = false) (hn : 9 < M.2.2.1) (k : mm_V l G M kc ks pc' (x0 :: x1 :: x2 :: x3 :: x4 :: x5 :: x6 :: x7 :: x8 :: some (.int x) :: L) st h Q) : mm_V l G M kc ks pc (x0 :: x1 :: x2 :: x3 :: x4 :: x5 :: x6 :: x7 :: x8 :: x9 :: L) ((.int x) :: st) h Q := by
  refine mm_istore hd hp hn ?_
  simpa [mm_st, h2] using k
theorem mm_ast9 {x0 x1 x2 x3 x4 x5 x6 x7 x8 x9 : Option Value} {a : Nat} (hd : decode M.2.1 pc = .ok (.astore 9, 2)) (hp : pc + 2 = pc') (h2 : mm_2 x8 = false) (hn : 9 < M.2.2.1) (k : mm_V l G M kc ks pc' (x0 :: x1 :: x2 :: x3 :: x4 :: x5 :: x6 :: x7 :: x8 :: some (.ref a) :: L) st h Q) : mm_V l G M kc ks pc (x0 :: x1 :: x2 :: x3 :: x4 :: x5 :: x6 :: x7 :: x8 :: x9 :: L) ((.ref a) :: st) h Q := by
  refine mm_astore hd hp hn ?_
  simpa [mm_st, h2] using k
theorem mm_ast9N {x0 x1 x2 x3 x4 x5 x6 x7 x8 x9 : Option Value} (hd : decode M.2.1 pc = .ok (.astore 9, 2)) (hp : pc + 2 = pc') (h2 : mm_2 x8 = false) (hn : 9 < M.2.2.1) (k : mm_V l G M kc ks pc' (x0 :: x1 :: x2 :: x3 :: x4 :: x5 :: x6 :: x7 :: x8 :: some .null :: L) st h Q) : mm_V l G M kc ks pc (x0 :: x1 :: x2 :: x3 :: x4 :: x5 :: x6 :: x7 :: x8 :: x9 :: L) (.null :: st) h Q := by
  refine mm_astoreN hd hp hn ?_
  simpa [mm_st, h2] using k
theorem mm_lst9 {x0 x1 x2 x3 x4 x5 x6 x7 x8 x9 : Option Value} {y0 : Option Value} {x : Int64} (hd : decode M.2.1 pc = .ok (.lstore 9, 2)) (hp : pc + 2 = pc') (h2 : mm_2 x8 = false) (hn : 9 + 1 < M.2.2.1) (k : mm_V l G M kc ks pc' (x0 :: x1 :: x2 :: x3 :: x4 :: x5 :: x6 :: x7 :: x8 :: some (.long x) :: none :: L) st h Q) : mm_V l G M kc ks pc (x0 :: x1 :: x2 :: x3 :: x4 :: x5 :: x6 :: x7 :: x8 :: x9 :: y0 :: L) (.long x :: st) h Q := by
  refine mm_lstore hd hp hn ?_
  simpa [mm_st2, h2] using k
theorem mm_iinc9 {x0 x1 x2 x3 x4 x5 x6 x7 x8 : Option Value} {n : Int} {x v : Int32} (hd : decode M.2.1 pc = .ok (.iinc 9 n, 3)) (hp : pc + 3 = pc') (h2 : mm_2 x8 = false) (hv : x + Int32.ofInt n = v) (hn : 9 < M.2.2.1) (k : mm_V l G M kc ks pc' (x0 :: x1 :: x2 :: x3 :: x4 :: x5 :: x6 :: x7 :: x8 :: some (.int v) :: L) st h Q) : mm_V l G M kc ks pc (x0 :: x1 :: x2 :: x3 :: x4 :: x5 :: x6 :: x7 :: x8 :: some (.int x) :: L) st h Q := by
  refine mm_iinc hd hp rfl hv hn ?_
  simpa [mm_st, h2] using k
theorem mm_ist10 {x0 x1 x2 x3 x4 x5 x6 x7 x8 x9 x10 : Option Value} {x : Int32} (hd : decode M.2.1 pc = .ok (.istore 10, 2)) (hp : pc + 2 = pc') (h2 : mm_2 x9 = false) (hn : 10 < M.2.2.1) (k : mm_V l G M kc ks pc' (x0 :: x1 :: x2 :: x3 :: x4 :: x5 :: x6 :: x7 :: x8 :: x9 :: some (.int x) :: L) st h Q) : mm_V l G M kc ks pc (x0 :: x1 :: x2 :: x3 :: x4 :: x5 :: x6 :: x7 :: x8 :: x9 :: x10 :: L) ((.int x) :: st) h Q := by
  refine mm_istore hd hp hn ?_
  simpa [mm_st, h2] using k
theorem mm_ast10 {x0 x1 x2 x3 x4 x5 x6 x7 x8 x9 x10 : Option Value} {a : Nat} (hd : decode M.2.1 pc = .ok (.astore 10, 2)) (hp : pc + 2 = pc') (h2 : mm_2 x9 = false) (hn : 10 < M.2.2.1) (k : mm_V l G M kc ks pc' (x0 :: x1 :: x2 :: x3 :: x4 :: x5 :: x6 :: x7 :: x8 :: x9 :: some (.ref a) :: L) st h Q) : mm_V l G M kc ks pc (x0 :: x1 :: x2 :: x3 :: x4 :: x5 :: x6 :: x7 :: x8 :: x9 :: x10 :: L) ((.ref a) :: st) h Q := by
  refine mm_astore hd hp hn ?_
  simpa [mm_st, h2] using k
theorem mm_ast10N {x0 x1 x2 x3 x4 x5 x6 x7 x8 x9 x10 : Option Value} (hd : decode M.2.1 pc = .ok (.astore 10, 2)) (hp : pc + 2 = pc') (h2 : mm_2 x9 = false) (hn : 10 < M.2.2.1) (k : mm_V l G M kc ks pc' (x0 :: x1 :: x2 :: x3 :: x4 :: x5 :: x6 :: x7 :: x8 :: x9 :: some .null :: L) st h Q) : mm_V l G M kc ks pc (x0 :: x1 :: x2 :: x3 :: x4 :: x5 :: x6 :: x7 :: x8 :: x9 :: x10 :: L) (.null :: st) h Q := by
  refine mm_astoreN hd hp hn ?_
  simpa [mm_st, h2] using k
theorem mm_lst10 {x0 x1 x2 x3 x4 x5 x6 x7 x8 x9 x10 : Option Value} {y0 : Option Value} {x : Int64} (hd : decode M.2.1 pc = .ok (.lstore 10, 2)) (hp : pc + 2 = pc') (h2 : mm_2 x9 = false) (hn : 10 + 1 < M.2.2.1) (k : mm_V l G M kc ks pc' (x0 :: x1 :: x2 :: x3 :: x4 :: x5 :: x6 :: x7 :: x8 :: x9 :: some (.long x) :: none :: L) st h Q) : mm_V l G M kc ks pc (x0 :: x1 :: x2 :: x3 :: x4 :: x5 :: x6 :: x7 :: x8 :: x9 :: x10 :: y0 :: L) (.long x :: st) h Q := by
  refine mm_lstore hd hp hn ?_
  simpa [mm_st2, h2] using k
theorem mm_iinc10 {x0 x1 x2 x3 x4 x5 x6 x7 x8 x9 : Option Value} {n : Int} {x v : Int32} (hd : decode M.2.1 pc = .ok (.iinc 10 n, 3)) (hp : pc + 3 = pc') (h2 : mm_2 x9 = false) (hv : x + Int32.ofInt n = v) (hn : 10 < M.2.2.1) (k : mm_V l G M kc ks pc' (x0 :: x1 :: x2 :: x3 :: x4 :: x5 :: x6 :: x7 :: x8 :: x9 :: some (.int v) :: L) st h Q) : mm_V l G M kc ks pc (x0 :: x1 :: x2 :: x3 :: x4 :: x5 :: x6 :: x7 :: x8 :: x9 :: some (.int x) :: L) st h Q := by
  refine mm_iinc hd hp rfl hv hn ?_
  simpa [mm_st, h2] using k
theorem mm_ist11 {x0 x1 x2 x3 x4 x5 x6 x7 x8 x9 x10 x11 : Option Value} {x : Int32} (hd : decode M.2.1 pc = .ok (.istore 11, 2)) (hp : pc + 2 = pc') (h2 : mm_2 x10 = false) (hn : 11 < M.2.2.1) (k : mm_V l G M kc ks pc' (x0 :: x1 :: x2 :: x3 :: x4 :: x5 :: x6 :: x7 :: x8 :: x9 :: x10 :: some (.int x) :: L) st h Q) : mm_V l G M kc ks pc (x0 :: x1 :: x2 :: x3 :: x4 :: x5 :: x6 :: x7 :: x8 :: x9 :: x10 :: x11 :: L) ((.int x) :: st) h Q := by
  refine mm_istore hd hp hn ?_
  simpa [mm_st, h2] using k
theorem mm_ast11 {x0 x1 x2 x3 x4 x5 x6 x7 x8 x9 x10 x11 : Option Value} {a : Nat} (hd : decode M.2.1 pc = .ok (.astore 11, 2)) (hp : pc + 2 = pc') (h2 : mm_2 x10 = false) (hn : 11 < M.2.2.1) (k : mm_V l G M kc ks pc' (x0 :: x1 :: x2 :: x3 :: x4 :: x5 :: x6 :: x7 :: x8 :: x9 :: x10 :: some (.ref a) :: L) st h Q) : mm_V l G M kc ks pc (x0 :: x1 :: x2 :: x3 :: x4 :: x5 :: x6 :: x7 :: x8 :: x9 :: x10 :: x11 :: L) ((.ref a) :: st) h Q := by
  refine mm_astore hd hp hn ?_
  simpa [mm_st, h2] using k
theorem mm_ast11N {x0 x1 x2 x3 x4 x5 x6 x7 x8 x9 x10 x11 : Option Value} (hd : decode M.2.1 pc = .ok (.astore 11, 2)) (hp : pc + 2 = pc') (h2 : mm_2 x10 = false) (hn : 11 < M.2.2.1) (k : mm_V l G M kc ks pc' (x0 :: x1 :: x2 :: x3 :: x4 :: x5 :: x6 :: x7 :: x8 :: x9 :: x10 :: some .null :: L) st h Q) : mm_V l G M kc ks pc (x0 :: x1 :: x2 :: x3 :: x4 :: x5 :: x6 :: x7 :: x8 :: x9 :: x10 :: x11 :: L) (.null :: st) h Q := by
  refine mm_astoreN hd hp hn ?_
  simpa [mm_st, h2] using k
theorem mm_lst11 {x0 x1 x2 x3 x4 x5 x6 x7 x8 x9 x10 x11 : Option Value} {y0 : Option Value} {x : Int64} (hd : decode M.2.1 pc = .ok (.lstore 11, 2)) (hp : pc + 2 = pc') (h2 : mm_2 x10 = false) (hn : 11 + 1 < M.2.2.1) (k : mm_V l G M kc ks pc' (x0 :: x1 :: x2 :: x3 :: x4 :: x5 :: x6 :: x7 :: x8 :: x9 :: x10 :: some (.long x) :: none :: L) st h Q) : mm_V l G M kc ks pc (x0 :: x1 :: x2 :: x3 :: x4 :: x5 :: x6 :: x7 :: x8 :: x9 :: x10 :: x11 :: y0 :: L) (.long x :: st) h Q := by
  refine mm_lstore hd hp hn ?_
  simpa [mm_st2, h2] using k
theorem mm_iinc11 {x0 x1 x2 x3 x4 x5 x6 x7 x8 x9 x10 : Option Value} {n : Int} {x v : Int32} (hd : decode M.2.1 pc = .ok (.iinc 11 n, 3)) (hp : pc + 3 = pc') (h2 : mm_2 x10 = false) (hv : x + Int32.ofInt n = v) (hn : 11 < M.2.2.1) (k : mm_V l G M kc ks pc' (x0 :: x1 :: x2 :: x3 :: x4 :: x5 :: x6 :: x7 :: x8 :: x9 :: x10 :: some (.int v) :: L) st h Q) : mm_V l G M kc ks pc (x0 :: x1 :: x2 :: x3 :: x4 :: x5 :: x6 :: x7 :: x8 :: x9 :: x10 :: some (.int x) :: L) st h Q := by
  refine mm_iinc hd hp rfl hv hn ?_
  simpa [mm_st, h2] using k
theorem mm_ist12 {x0 x1 x2 x3 x4 x5 x6 x7 x8 x9 x10 x11 x12 : Option Value} {x : Int32} (hd : decode M.2.1 pc = .ok (.istore 12, 2)) (hp : pc + 2 = pc') (h2 : mm_2 x11 = false) (hn : 12 < M.2.2.1) (k : mm_V l G M kc ks pc' (x0 :: x1 :: x2 :: x3 :: x4 :: x5 :: x6 :: x7 :: x8 :: x9 :: x10 :: x11 :: some (.int x) :: L) st h Q) : mm_V l G M kc ks pc (x0 :: x1 :: x2 :: x3 :: x4 :: x5 :: x6 :: x7 :: x8 :: x9 :: x10 :: x11 :: x12 :: L) ((.int x) :: st) h Q := by
  refine mm_istore hd hp hn ?_
  simpa [mm_st, h2] using k
theorem mm_ast12 {x0 x1 x2 x3 x4 x5 x6 x7 x8 x9 x10 x11 x12 : Option Value} {a : Nat} (hd : decode M.2.1 pc = .ok (.astore 12, 2)) (hp : pc + 2 = pc') (h2 : mm_2 x11 = false) (hn : 12 < M.2.2.1) (k : mm_V l G M kc ks pc' (x0 :: x1 :: x2 :: x3 :: x4 :: x5 :: x6 :: x7 :: x8 :: x9 :: x10 :: x11 :: some (.ref a) :: L) st h Q) : mm_V l G M kc ks pc (x0 :: x1 :: x2 :: x3 :: x4 :: x5 :: x6 :: x7 :: x8 :: x9 :: x10 :: x11 :: x12 :: L) ((.ref a) :: st) h Q := by
  refine mm_astore hd hp hn ?_
  simpa [mm_st, h2] using k
theorem mm_ast12N {x0 x1 x2 x3 x4 x5 x6 x7 x8 x9 x10 x11 x12 : Option Value} (hd : decode M.2.1 pc = .ok (.astore 12, 2)) (hp : pc + 2 = pc') (h2 : mm_2 x11 = false) (hn : 12 < M.2.2.1) (k : mm_V l G M kc ks pc' (x0 :: x1 :: x2 :: x3 :: x4 :: x5 :: x6 :: x7 :: x8 :: x9 :: x10 :: x11 :: some .null :: L) st h Q) : mm_V l G M kc ks pc (x0 :: x1 :: x2 :: x3 :: x4 :: x5 :: x6 :: x7 :: x8 :: x9 :: x10 :: x11 :: x12 :: L) (.null :: st) h Q := by
  refine mm_astoreN hd hp hn ?_
  simpa [mm_st, h2] using k
theorem mm_lst12 {x0 x1 x2 x3 x4 x5 x6 x7 x8 x9 x10 x11 x12 : Option Value} {y0 : Option Value} {x : Int64} (hd : decode M.2.1 pc = .ok (.lstore 12, 2)) (hp : pc + 2 = pc') (h2 : mm_2 x11 = false) (hn : 12 + 1 < M.2.2.1) (k : mm_V l G M kc ks pc' (x0 :: x1 :: x2 :: x3 :: x4 :: x5 :: x6 :: x7 :: x8 :: x9 :: x10 :: x11 :: some (.long x) :: none :: L) st h Q) : mm_V l G M kc ks pc (x0 :: x1 :: x2 :: x3 :: x4 :: x5 :: x6 :: x7 :: x8 :: x9 :: x10 :: x11 :: x12 :: y0 :: L) (.long x :: st) h Q := by
  refine mm_lstore hd hp hn ?_
  simpa [mm_st2, h2] using k
theorem mm_iinc12 {x0 x1 x2 x3 x4 x5 x6 x7 x8 x9 x10 x11 : Option Value} {n : Int} {x v : Int32} (hd : decode M.2.1 pc = .ok (.iinc 12 n, 3)) (hp : pc + 3 = pc') (h2 : mm_2 x11 = false) (hv : x + Int32.ofInt n = v) (hn : 12 < M.2.2.1) (k : mm_V l G M kc ks pc' (x0 :: x1 :: x2 :: x3 :: x4 :: x5 :: x6 :: x7 :: x8 :: x9 :: x10 :: x11 :: some (.int v) :: L) st h Q) : mm_V l G M kc ks pc (x0 :: x1 :: x2 :: x3 :: x4 :: x5 :: x6 :: x7 :: x8 :: x9 :: x10 :: x11 :: some (.int x) :: L) st h Q := by
  refine mm_iinc hd hp rfl hv hn ?_
  simpa [mm_st, h2] using k
end MMS
