theorem wr_2 (r : Option Nat) : mm_2 (some (va_rf r)) = false := by cases r <;> rfl
theorem wr_let {α : Type} {e : α} {K : α → Prop} {P : α → Prop} (hw : wL e K) (kk : ∀ x, K x → P x) : P e := kk e hw
theorem ld2_N_74 : Cond.constantLong "StubServer$Pattern" 74 (-1) ∈ mm_all := by decide +kernel
theorem mm_le.e : mm_le [] [] := trivial
theorem mm_le.s {v : Value} {L L' : List (Option Value)} (h : mm_le L L') : mm_le (some v :: L) (some v :: L') := ⟨rfl, h⟩
theorem mm_le.n {x : Option Value} {L L' : List (Option Value)} (h : mm_le L L') : mm_le (none :: L) (x :: L') := h
theorem wr_h0 : (([] : List Value).map fun v => v.category).sum ≤ 0 := Nat.le_refl _
theorem wr_hR {r : Option Nat} {st : List Value} {n : Nat} (h : (st.map fun v => v.category).sum ≤ n) : ((va_rf r :: st).map fun v => v.category).sum ≤ n + 1 := by
  rw [List.map_cons, List.sum_cons, wr_cat]
  omega
theorem wr_hI {x : Int32} {st : List Value} {n : Nat} (h : (st.map fun v => v.category).sum ≤ n) : ((.int x :: st).map fun v => v.category).sum ≤ n + 1 := by
  rw [List.map_cons, List.sum_cons]
  show 1 + _ ≤ _
  omega
theorem wr_hJ {x : Int64} {st : List Value} {n : Nat} (h : (st.map fun v => v.category).sum ≤ n) : ((.long x :: st).map fun v => v.category).sum ≤ n + 2 := by
  rw [List.map_cons, List.sum_cons]
  show 2 + _ ≤ _
  omega
theorem wr_catI (x : Int32) : (Value.int x).category = 1 := rfl
theorem wr_catJ (x : Int64) : (Value.long x).category = 2 := rfl
theorem wr_catN (x : Nat) : (Value.ref x).category = 1 := rfl
section WC
variable {l : Launch} {G : mm_G} {M M' : mm_M} {kc ks pc pc' index : Nat} {L : List (Option Value)} {st as : List Value} {h : mm_H} {Q : Option Value → mm_H → Prop} {A : ab_H} {r : Option Nat}
theorem wr_ast0 {x0 : Option Value} (hd : decode M.2.1 pc = .ok (.astore_n 0, 1)) (hp : pc + 1 = pc') (h2 : mm_2 (none : Option Value) = false) (hn : 0 < M.2.2.1) (k : mm_V l G M kc ks pc' (some (va_rf r) :: L) st h Q) : mm_V l G M kc ks pc (x0 :: L) (va_rf r :: st) h Q := by
  cases r with
  | none => exact mm_ast0N hd hp h2 hn k
  | some a => exact mm_ast0 hd hp h2 hn k
theorem wr_ast1 {x0 x1 : Option Value} (hd : decode M.2.1 pc = .ok (.astore_n 1, 1)) (hp : pc + 1 = pc') (h2 : mm_2 x0 = false) (hn : 1 < M.2.2.1) (k : mm_V l G M kc ks pc' (x0 :: some (va_rf r) :: L) st h Q) : mm_V l G M kc ks pc (x0 :: x1 :: L) (va_rf r :: st) h Q := by
  cases r with
  | none => exact mm_ast1N hd hp h2 hn k
  | some a => exact mm_ast1 hd hp h2 hn k
theorem wr_ast2 {x0 x1 x2 : Option Value} (hd : decode M.2.1 pc = .ok (.astore_n 2, 1)) (hp : pc + 1 = pc') (h2 : mm_2 x1 = false) (hn : 2 < M.2.2.1) (k : mm_V l G M kc ks pc' (x0 :: x1 :: some (va_rf r) :: L) st h Q) : mm_V l G M kc ks pc (x0 :: x1 :: x2 :: L) (va_rf r :: st) h Q := by
  cases r with
  | none => exact mm_ast2N hd hp h2 hn k
  | some a => exact mm_ast2 hd hp h2 hn k
theorem wr_ast3 {x0 x1 x2 x3 : Option Value} (hd : decode M.2.1 pc = .ok (.astore_n 3, 1)) (hp : pc + 1 = pc') (h2 : mm_2 x2 = false) (hn : 3 < M.2.2.1) (k : mm_V l G M kc ks pc' (x0 :: x1 :: x2 :: some (va_rf r) :: L) st h Q) : mm_V l G M kc ks pc (x0 :: x1 :: x2 :: x3 :: L) (va_rf r :: st) h Q := by
  cases r with
  | none => exact mm_ast3N hd hp h2 hn k
  | some a => exact mm_ast3 hd hp h2 hn k
theorem wr_ast4 {x0 x1 x2 x3 x4 : Option Value} (hd : decode M.2.1 pc = .ok (.astore 4, 2)) (hp : pc + 2 = pc') (h2 : mm_2 x3 = false) (hn : 4 < M.2.2.1) (k : mm_V l G M kc ks pc' (x0 :: x1 :: x2 :: x3 :: some (va_rf r) :: L) st h Q) : mm_V l G M kc ks pc (x0 :: x1 :: x2 :: x3 :: x4 :: L) (va_rf r :: st) h Q := by
  cases r with
  | none => exact mm_ast4N hd hp h2 hn k
  | some a => exact mm_ast4 hd hp h2 hn k
theorem wr_ast5 {x0 x1 x2 x3 x4 x5 : Option Value} (hd : decode M.2.1 pc = .ok (.astore 5, 2)) (hp : pc + 2 = pc') (h2 : mm_2 x4 = false) (hn : 5 < M.2.2.1) (k : mm_V l G M kc ks pc' (x0 :: x1 :: x2 :: x3 :: x4 :: some (va_rf r) :: L) st h Q) : mm_V l G M kc ks pc (x0 :: x1 :: x2 :: x3 :: x4 :: x5 :: L) (va_rf r :: st) h Q := by
  cases r with
  | none => exact mm_ast5N hd hp h2 hn k
  | some a => exact mm_ast5 hd hp h2 hn k
theorem wr_ast6 {x0 x1 x2 x3 x4 x5 x6 : Option Value} (hd : decode M.2.1 pc = .ok (.astore 6, 2)) (hp : pc + 2 = pc') (h2 : mm_2 x5 = false) (hn : 6 < M.2.2.1) (k : mm_V l G M kc ks pc' (x0 :: x1 :: x2 :: x3 :: x4 :: x5 :: some (va_rf r) :: L) st h Q) : mm_V l G M kc ks pc (x0 :: x1 :: x2 :: x3 :: x4 :: x5 :: x6 :: L) (va_rf r :: st) h Q := by
  cases r with
  | none => exact mm_ast6N hd hp h2 hn k
  | some a => exact mm_ast6 hd hp h2 hn k
theorem wr_ast7 {x0 x1 x2 x3 x4 x5 x6 x7 : Option Value} (hd : decode M.2.1 pc = .ok (.astore 7, 2)) (hp : pc + 2 = pc') (h2 : mm_2 x6 = false) (hn : 7 < M.2.2.1) (k : mm_V l G M kc ks pc' (x0 :: x1 :: x2 :: x3 :: x4 :: x5 :: x6 :: some (va_rf r) :: L) st h Q) : mm_V l G M kc ks pc (x0 :: x1 :: x2 :: x3 :: x4 :: x5 :: x6 :: x7 :: L) (va_rf r :: st) h Q := by
  cases r with
  | none => exact mm_ast7N hd hp h2 hn k
  | some a => exact mm_ast7 hd hp h2 hn k
theorem wr_ast8 {x0 x1 x2 x3 x4 x5 x6 x7 x8 : Option Value} (hd : decode M.2.1 pc = .ok (.astore 8, 2)) (hp : pc + 2 = pc') (h2 : mm_2 x7 = false) (hn : 8 < M.2.2.1) (k : mm_V l G M kc ks pc' (x0 :: x1 :: x2 :: x3 :: x4 :: x5 :: x6 :: x7 :: some (va_rf r) :: L) st h Q) : mm_V l G M kc ks pc (x0 :: x1 :: x2 :: x3 :: x4 :: x5 :: x6 :: x7 :: x8 :: L) (va_rf r :: st) h Q := by
  cases r with
  | none => exact mm_ast8N hd hp h2 hn k
  | some a => exact mm_ast8 hd hp h2 hn k
theorem wr_ast9 {x0 x1 x2 x3 x4 x5 x6 x7 x8 x9 : Option Value} (hd : decode M.2.1 pc = .ok (.astore 9, 2)) (hp : pc + 2 = pc') (h2 : mm_2 x8 = false) (hn : 9 < M.2.2.1) (k : mm_V l G M kc ks pc' (x0 :: x1 :: x2 :: x3 :: x4 :: x5 :: x6 :: x7 :: x8 :: some (va_rf r) :: L) st h Q) : mm_V l G M kc ks pc (x0 :: x1 :: x2 :: x3 :: x4 :: x5 :: x6 :: x7 :: x8 :: x9 :: L) (va_rf r :: st) h Q := by
  cases r with
  | none => exact mm_ast9N hd hp h2 hn k
  | some a => exact mm_ast9 hd hp h2 hn k
theorem wr_ast10 {x0 x1 x2 x3 x4 x5 x6 x7 x8 x9 x10 : Option Value} (hd : decode M.2.1 pc = .ok (.astore 10, 2)) (hp : pc + 2 = pc') (h2 : mm_2 x9 = false) (hn : 10 < M.2.2.1) (k : mm_V l G M kc ks pc' (x0 :: x1 :: x2 :: x3 :: x4 :: x5 :: x6 :: x7 :: x8 :: x9 :: some (va_rf r) :: L) st h Q) : mm_V l G M kc ks pc (x0 :: x1 :: x2 :: x3 :: x4 :: x5 :: x6 :: x7 :: x8 :: x9 :: x10 :: L) (va_rf r :: st) h Q := by
  cases r with
  | none => exact mm_ast10N hd hp h2 hn k
  | some a => exact mm_ast10 hd hp h2 hn k
theorem wr_ast11 {x0 x1 x2 x3 x4 x5 x6 x7 x8 x9 x10 x11 : Option Value} (hd : decode M.2.1 pc = .ok (.astore 11, 2)) (hp : pc + 2 = pc') (h2 : mm_2 x10 = false) (hn : 11 < M.2.2.1) (k : mm_V l G M kc ks pc' (x0 :: x1 :: x2 :: x3 :: x4 :: x5 :: x6 :: x7 :: x8 :: x9 :: x10 :: some (va_rf r) :: L) st h Q) : mm_V l G M kc ks pc (x0 :: x1 :: x2 :: x3 :: x4 :: x5 :: x6 :: x7 :: x8 :: x9 :: x10 :: x11 :: L) (va_rf r :: st) h Q := by
  cases r with
  | none => exact mm_ast11N hd hp h2 hn k
  | some a => exact mm_ast11 hd hp h2 hn k
theorem wr_ast12 {x0 x1 x2 x3 x4 x5 x6 x7 x8 x9 x10 x11 x12 : Option Value} (hd : decode M.2.1 pc = .ok (.astore 12, 2)) (hp : pc + 2 = pc') (h2 : mm_2 x11 = false) (hn : 12 < M.2.2.1) (k : mm_V l G M kc ks pc' (x0 :: x1 :: x2 :: x3 :: x4 :: x5 :: x6 :: x7 :: x8 :: x9 :: x10 :: x11 :: some (va_rf r) :: L) st h Q) : mm_V l G M kc ks pc (x0 :: x1 :: x2 :: x3 :: x4 :: x5 :: x6 :: x7 :: x8 :: x9 :: x10 :: x11 :: x12 :: L) (va_rf r :: st) h Q := by
  cases r with
  | none => exact mm_ast12N hd hp h2 hn k
  | some a => exact mm_ast12 hd hp h2 hn k
theorem wr_cSI {n : Nat} {st0 : List Value} {K : Int32 → ab_H → Prop} (hd : decode M.2.1 pc = .ok (.invokestatic index, 3)) (hp : pc + 3 = pc') (hc : mm_CB M.1.cls index M' n ∧ Cond.static M'.1 ∈ mm_all) (hM : mm_S l G M' as h 0 0 (wQI G K)) (hst : st0 = as.reverse ++ st) (hn : as.length = n) (hfr : M'.2.2.2.2 + 1 ≤ M.2.2.2.2) (h8 : (st.map fun v => v.category).sum ≤ 8) (kk : ∀ v h' A', Vw G h' A' → K v A' → mm_V l G M kc ks pc' L (.int v :: st) h' Q) : mm_V l G M kc ks pc L st0 h Q := by
  refine mm_callS hd hp hc hM hst hn hfr h8 (Nat.zero_le _) (Nat.zero_le _) (fun v h' hq => ?_)
  obtain ⟨v, A2, rfl, hV2, hq⟩ := hq
  exact kk _ _ _ hV2 hq
theorem wr_cSIx {n : Nat} {st0 : List Value} {W : Nat → Nat → (Int32 → ab_H → Prop) → Prop} {K : Int32 → ab_H → Nat → Nat → Prop} (hd : decode M.2.1 pc = .ok (.invokestatic index, 3)) (hp : pc + 3 = pc') (hc : mm_CB M.1.cls index M' n ∧ Cond.static M'.1 ∈ mm_all) (hw : wX kc ks W K) (hM : ∀ c s Q', W c s Q' → mm_S l G M' as h c s (wQI G Q')) (hst : st0 = as.reverse ++ st) (hn : as.length = n) (hfr : M'.2.2.2.2 + 1 ≤ M.2.2.2.2) (h8 : (st.map fun v => v.category).sum ≤ 8) (kk : ∀ v h' A' kc' ks', Vw G h' A' → K v A' kc' ks' → mm_V l G M kc' ks' pc' L (.int v :: st) h' Q) : mm_V l G M kc ks pc L st0 h Q := by
  obtain ⟨c, s, h1, h2, hw⟩ := hw
  refine mm_callS hd hp hc (hM c s _ hw) hst hn hfr h8 h1 h2 (fun v h' hq => ?_)
  obtain ⟨v, A2, rfl, hV2, hq⟩ := hq
  exact kk _ _ _ _ _ hV2 hq
theorem wr_cVI {n : Nat} {st0 : List Value} {K : Int32 → ab_H → Prop} {W : Nat → (Int32 → ab_H → Prop) → Prop} (hd : decode M.2.1 pc = .ok (.invokevirtual index, 3)) (hp : pc + 3 = pc') (hc : mm_CB M.1.cls index M' n ∧ Cond.instanceMethod M'.1 ∈ mm_all ∧ Cond.selects M'.1.cls M'.1 M'.1 ∈ mm_all) {ci : Nat} {T : u_T} {N : Nat} (hc1 : mm_Cl[ci]? = some (M'.1.cls, T, N)) (hV : Vw G h A) (hw : wC A r ci (fun a => W a K)) (hM : ∀ a Q', W a Q' → mm_S l G M' (.ref a :: as) h 0 0 (wQI G Q')) (hst : st0 = as.reverse ++ va_rf r :: st) (hn : as.length = n) (hfr : M'.2.2.2.2 + 1 ≤ M.2.2.2.2) (h8 : (st.map fun v => v.category).sum ≤ 8) (kk : ∀ v h' A', Vw G h' A' → K v A' → mm_V l G M kc ks pc' L (.int v :: st) h' Q) : mm_V l G M kc ks pc L st0 h Q := by
  obtain ⟨a, fs, rfl, hA, hw⟩ := hw
  refine mm_callV hd hp hc (hV.raw hA) hc1 (hM a _ hw) hst hn hfr h8 (Nat.zero_le _) (Nat.zero_le _) (fun v h' hq => ?_)
  obtain ⟨v, A2, rfl, hV2, hq⟩ := hq
  exact kk _ _ _ hV2 hq
theorem wr_cVIx {n : Nat} {st0 : List Value} {K : Int32 → ab_H → Nat → Nat → Prop} {W : Nat → Nat → Nat → (Int32 → ab_H → Prop) → Prop} (hd : decode M.2.1 pc = .ok (.invokevirtual index, 3)) (hp : pc + 3 = pc') (hc : mm_CB M.1.cls index M' n ∧ Cond.instanceMethod M'.1 ∈ mm_all ∧ Cond.selects M'.1.cls M'.1 M'.1 ∈ mm_all) {ci : Nat} {T : u_T} {N : Nat} (hc1 : mm_Cl[ci]? = some (M'.1.cls, T, N)) (hV : Vw G h A) (hw : wC A r ci (fun a => wX kc ks (W a) K)) (hM : ∀ a c s Q', W a c s Q' → mm_S l G M' (.ref a :: as) h c s (wQI G Q')) (hst : st0 = as.reverse ++ va_rf r :: st) (hn : as.length = n) (hfr : M'.2.2.2.2 + 1 ≤ M.2.2.2.2) (h8 : (st.map fun v => v.category).sum ≤ 8) (kk : ∀ v h' A' kc' ks', Vw G h' A' → K v A' kc' ks' → mm_V l G M kc' ks' pc' L (.int v :: st) h' Q) : mm_V l G M kc ks pc L st0 h Q := by
  obtain ⟨a, fs, rfl, hA, c, s, h1, h2, hw⟩ := hw
  refine mm_callV hd hp hc (hV.raw hA) hc1 (hM a c s _ hw) hst hn hfr h8 h1 h2 (fun v h' hq => ?_)
  obtain ⟨v, A2, rfl, hV2, hq⟩ := hq
  exact kk _ _ _ _ _ hV2 hq
theorem wr_cSJ {n : Nat} {st0 : List Value} {K : Int64 → ab_H → Prop} (hd : decode M.2.1 pc = .ok (.invokestatic index, 3)) (hp : pc + 3 = pc') (hc : mm_CB M.1.cls index M' n ∧ Cond.static M'.1 ∈ mm_all) (hM : mm_S l G M' as h 0 0 (wQJ G K)) (hst : st0 = as.reverse ++ st) (hn : as.length = n) (hfr : M'.2.2.2.2 + 1 ≤ M.2.2.2.2) (h8 : (st.map fun v => v.category).sum ≤ 8) (kk : ∀ v h' A', Vw G h' A' → K v A' → mm_V l G M kc ks pc' L (.long v :: st) h' Q) : mm_V l G M kc ks pc L st0 h Q := by
  refine mm_callS hd hp hc hM hst hn hfr h8 (Nat.zero_le _) (Nat.zero_le _) (fun v h' hq => ?_)
  obtain ⟨v, A2, rfl, hV2, hq⟩ := hq
  exact kk _ _ _ hV2 hq
theorem wr_cSJx {n : Nat} {st0 : List Value} {W : Nat → Nat → (Int64 → ab_H → Prop) → Prop} {K : Int64 → ab_H → Nat → Nat → Prop} (hd : decode M.2.1 pc = .ok (.invokestatic index, 3)) (hp : pc + 3 = pc') (hc : mm_CB M.1.cls index M' n ∧ Cond.static M'.1 ∈ mm_all) (hw : wX kc ks W K) (hM : ∀ c s Q', W c s Q' → mm_S l G M' as h c s (wQJ G Q')) (hst : st0 = as.reverse ++ st) (hn : as.length = n) (hfr : M'.2.2.2.2 + 1 ≤ M.2.2.2.2) (h8 : (st.map fun v => v.category).sum ≤ 8) (kk : ∀ v h' A' kc' ks', Vw G h' A' → K v A' kc' ks' → mm_V l G M kc' ks' pc' L (.long v :: st) h' Q) : mm_V l G M kc ks pc L st0 h Q := by
  obtain ⟨c, s, h1, h2, hw⟩ := hw
  refine mm_callS hd hp hc (hM c s _ hw) hst hn hfr h8 h1 h2 (fun v h' hq => ?_)
  obtain ⟨v, A2, rfl, hV2, hq⟩ := hq
  exact kk _ _ _ _ _ hV2 hq
theorem wr_cVJ {n : Nat} {st0 : List Value} {K : Int64 → ab_H → Prop} {W : Nat → (Int64 → ab_H → Prop) → Prop} (hd : decode M.2.1 pc = .ok (.invokevirtual index, 3)) (hp : pc + 3 = pc') (hc : mm_CB M.1.cls index M' n ∧ Cond.instanceMethod M'.1 ∈ mm_all ∧ Cond.selects M'.1.cls M'.1 M'.1 ∈ mm_all) {ci : Nat} {T : u_T} {N : Nat} (hc1 : mm_Cl[ci]? = some (M'.1.cls, T, N)) (hV : Vw G h A) (hw : wC A r ci (fun a => W a K)) (hM : ∀ a Q', W a Q' → mm_S l G M' (.ref a :: as) h 0 0 (wQJ G Q')) (hst : st0 = as.reverse ++ va_rf r :: st) (hn : as.length = n) (hfr : M'.2.2.2.2 + 1 ≤ M.2.2.2.2) (h8 : (st.map fun v => v.category).sum ≤ 8) (kk : ∀ v h' A', Vw G h' A' → K v A' → mm_V l G M kc ks pc' L (.long v :: st) h' Q) : mm_V l G M kc ks pc L st0 h Q := by
  obtain ⟨a, fs, rfl, hA, hw⟩ := hw
  refine mm_callV hd hp hc (hV.raw hA) hc1 (hM a _ hw) hst hn hfr h8 (Nat.zero_le _) (Nat.zero_le _) (fun v h' hq => ?_)
  obtain ⟨v, A2, rfl, hV2, hq⟩ := hq
  exact kk _ _ _ hV2 hq
theorem wr_cVJx {n : Nat} {st0 : List Value} {K : Int64 → ab_H → Nat → Nat → Prop} {W : Nat → Nat → Nat → (Int64 → ab_H → Prop) → Prop} (hd : decode M.2.1 pc = .ok (.invokevirtual index, 3)) (hp : pc + 3 = pc') (hc : mm_CB M.1.cls index M' n ∧ Cond.instanceMethod M'.1 ∈ mm_all ∧ Cond.selects M'.1.cls M'.1 M'.1 ∈ mm_all) {ci : Nat} {T : u_T} {N : Nat} (hc1 : mm_Cl[ci]? = some (M'.1.cls, T, N)) (hV : Vw G h A) (hw : wC A r ci (fun a => wX kc ks (W a) K)) (hM : ∀ a c s Q', W a c s Q' → mm_S l G M' (.ref a :: as) h c s (wQJ G Q')) (hst : st0 = as.reverse ++ va_rf r :: st) (hn : as.length = n) (hfr : M'.2.2.2.2 + 1 ≤ M.2.2.2.2) (h8 : (st.map fun v => v.category).sum ≤ 8) (kk : ∀ v h' A' kc' ks', Vw G h' A' → K v A' kc' ks' → mm_V l G M kc' ks' pc' L (.long v :: st) h' Q) : mm_V l G M kc ks pc L st0 h Q := by
  obtain ⟨a, fs, rfl, hA, c, s, h1, h2, hw⟩ := hw
  refine mm_callV hd hp hc (hV.raw hA) hc1 (hM a c s _ hw) hst hn hfr h8 h1 h2 (fun v h' hq => ?_)
  obtain ⟨v, A2, rfl, hV2, hq⟩ := hq
  exact kk _ _ _ _ _ hV2 hq
theorem wr_cSR {n : Nat} {st0 : List Value} {K : Option Nat → ab_H → Prop} (hd : decode M.2.1 pc = .ok (.invokestatic index, 3)) (hp : pc + 3 = pc') (hc : mm_CB M.1.cls index M' n ∧ Cond.static M'.1 ∈ mm_all) (hM : mm_S l G M' as h 0 0 (wQR G K)) (hst : st0 = as.reverse ++ st) (hn : as.length = n) (hfr : M'.2.2.2.2 + 1 ≤ M.2.2.2.2) (h8 : (st.map fun v => v.category).sum ≤ 8) (kk : ∀ v h' A', Vw G h' A' → K v A' → mm_V l G M kc ks pc' L (va_rf v :: st) h' Q) : mm_V l G M kc ks pc L st0 h Q := by
  refine mm_callS hd hp hc hM hst hn hfr h8 (Nat.zero_le _) (Nat.zero_le _) (fun v h' hq => ?_)
  obtain ⟨v, A2, rfl, hV2, hq⟩ := hq
  exact kk _ _ _ hV2 hq
theorem wr_cSRx {n : Nat} {st0 : List Value} {W : Nat → Nat → (Option Nat → ab_H → Prop) → Prop} {K : Option Nat → ab_H → Nat → Nat → Prop} (hd : decode M.2.1 pc = .ok (.invokestatic index, 3)) (hp : pc + 3 = pc') (hc : mm_CB M.1.cls index M' n ∧ Cond.static M'.1 ∈ mm_all) (hw : wX kc ks W K) (hM : ∀ c s Q', W c s Q' → mm_S l G M' as h c s (wQR G Q')) (hst : st0 = as.reverse ++ st) (hn : as.length = n) (hfr : M'.2.2.2.2 + 1 ≤ M.2.2.2.2) (h8 : (st.map fun v => v.category).sum ≤ 8) (kk : ∀ v h' A' kc' ks', Vw G h' A' → K v A' kc' ks' → mm_V l G M kc' ks' pc' L (va_rf v :: st) h' Q) : mm_V l G M kc ks pc L st0 h Q := by
  obtain ⟨c, s, h1, h2, hw⟩ := hw
  refine mm_callS hd hp hc (hM c s _ hw) hst hn hfr h8 h1 h2 (fun v h' hq => ?_)
  obtain ⟨v, A2, rfl, hV2, hq⟩ := hq
  exact kk _ _ _ _ _ hV2 hq
theorem wr_cVR {n : Nat} {st0 : List Value} {K : Option Nat → ab_H → Prop} {W : Nat → (Option Nat → ab_H → Prop) → Prop} (hd : decode M.2.1 pc = .ok (.invokevirtual index, 3)) (hp : pc + 3 = pc') (hc : mm_CB M.1.cls index M' n ∧ Cond.instanceMethod M'.1 ∈ mm_all ∧ Cond.selects M'.1.cls M'.1 M'.1 ∈ mm_all) {ci : Nat} {T : u_T} {N : Nat} (hc1 : mm_Cl[ci]? = some (M'.1.cls, T, N)) (hV : Vw G h A) (hw : wC A r ci (fun a => W a K)) (hM : ∀ a Q', W a Q' → mm_S l G M' (.ref a :: as) h 0 0 (wQR G Q')) (hst : st0 = as.reverse ++ va_rf r :: st) (hn : as.length = n) (hfr : M'.2.2.2.2 + 1 ≤ M.2.2.2.2) (h8 : (st.map fun v => v.category).sum ≤ 8) (kk : ∀ v h' A', Vw G h' A' → K v A' → mm_V l G M kc ks pc' L (va_rf v :: st) h' Q) : mm_V l G M kc ks pc L st0 h Q := by
  obtain ⟨a, fs, rfl, hA, hw⟩ := hw
  refine mm_callV hd hp hc (hV.raw hA) hc1 (hM a _ hw) hst hn hfr h8 (Nat.zero_le _) (Nat.zero_le _) (fun v h' hq => ?_)
  obtain ⟨v, A2, rfl, hV2, hq⟩ := hq
  exact kk _ _ _ hV2 hq
theorem wr_cVRx {n : Nat} {st0 : List Value} {K : Option Nat → ab_H → Nat → Nat → Prop} {W : Nat → Nat → Nat → (Option Nat → ab_H → Prop) → Prop} (hd : decode M.2.1 pc = .ok (.invokevirtual index, 3)) (hp : pc + 3 = pc') (hc : mm_CB M.1.cls index M' n ∧ Cond.instanceMethod M'.1 ∈ mm_all ∧ Cond.selects M'.1.cls M'.1 M'.1 ∈ mm_all) {ci : Nat} {T : u_T} {N : Nat} (hc1 : mm_Cl[ci]? = some (M'.1.cls, T, N)) (hV : Vw G h A) (hw : wC A r ci (fun a => wX kc ks (W a) K)) (hM : ∀ a c s Q', W a c s Q' → mm_S l G M' (.ref a :: as) h c s (wQR G Q')) (hst : st0 = as.reverse ++ va_rf r :: st) (hn : as.length = n) (hfr : M'.2.2.2.2 + 1 ≤ M.2.2.2.2) (h8 : (st.map fun v => v.category).sum ≤ 8) (kk : ∀ v h' A' kc' ks', Vw G h' A' → K v A' kc' ks' → mm_V l G M kc' ks' pc' L (va_rf v :: st) h' Q) : mm_V l G M kc ks pc L st0 h Q := by
  obtain ⟨a, fs, rfl, hA, c, s, h1, h2, hw⟩ := hw
  refine mm_callV hd hp hc (hV.raw hA) hc1 (hM a c s _ hw) hst hn hfr h8 h1 h2 (fun v h' hq => ?_)
  obtain ⟨v, A2, rfl, hV2, hq⟩ := hq
  exact kk _ _ _ _ _ hV2 hq
theorem wr_cSV {n : Nat} {st0 : List Value} {K : ab_H → Prop} (hd : decode M.2.1 pc = .ok (.invokestatic index, 3)) (hp : pc + 3 = pc') (hc : mm_CB M.1.cls index M' n ∧ Cond.static M'.1 ∈ mm_all) (hM : mm_S l G M' as h 0 0 (wQV G K)) (hst : st0 = as.reverse ++ st) (hn : as.length = n) (hfr : M'.2.2.2.2 + 1 ≤ M.2.2.2.2) (h8 : (st.map fun v => v.category).sum ≤ 8) (kk : ∀ h' A', Vw G h' A' → K A' → mm_V l G M kc ks pc' L (st) h' Q) : mm_V l G M kc ks pc L st0 h Q := by
  refine mm_callS hd hp hc hM hst hn hfr h8 (Nat.zero_le _) (Nat.zero_le _) (fun v h' hq => ?_)
  obtain ⟨A2, rfl, hV2, hq⟩ := hq
  exact kk _ _ hV2 hq
theorem wr_cSVx {n : Nat} {st0 : List Value} {W : Nat → Nat → (ab_H → Prop) → Prop} {K : ab_H → Nat → Nat → Prop} (hd : decode M.2.1 pc = .ok (.invokestatic index, 3)) (hp : pc + 3 = pc') (hc : mm_CB M.1.cls index M' n ∧ Cond.static M'.1 ∈ mm_all) (hw : wXV kc ks W K) (hM : ∀ c s Q', W c s Q' → mm_S l G M' as h c s (wQV G Q')) (hst : st0 = as.reverse ++ st) (hn : as.length = n) (hfr : M'.2.2.2.2 + 1 ≤ M.2.2.2.2) (h8 : (st.map fun v => v.category).sum ≤ 8) (kk : ∀ h' A' kc' ks', Vw G h' A' → K A' kc' ks' → mm_V l G M kc' ks' pc' L (st) h' Q) : mm_V l G M kc ks pc L st0 h Q := by
  obtain ⟨c, s, h1, h2, hw⟩ := hw
  refine mm_callS hd hp hc (hM c s _ hw) hst hn hfr h8 h1 h2 (fun v h' hq => ?_)
  obtain ⟨A2, rfl, hV2, hq⟩ := hq
  exact kk _ _ _ _ hV2 hq
theorem wr_cVV {n : Nat} {st0 : List Value} {K : ab_H → Prop} {W : Nat → (ab_H → Prop) → Prop} (hd : decode M.2.1 pc = .ok (.invokevirtual index, 3)) (hp : pc + 3 = pc') (hc : mm_CB M.1.cls index M' n ∧ Cond.instanceMethod M'.1 ∈ mm_all ∧ Cond.selects M'.1.cls M'.1 M'.1 ∈ mm_all) {ci : Nat} {T : u_T} {N : Nat} (hc1 : mm_Cl[ci]? = some (M'.1.cls, T, N)) (hV : Vw G h A) (hw : wC A r ci (fun a => W a K)) (hM : ∀ a Q', W a Q' → mm_S l G M' (.ref a :: as) h 0 0 (wQV G Q')) (hst : st0 = as.reverse ++ va_rf r :: st) (hn : as.length = n) (hfr : M'.2.2.2.2 + 1 ≤ M.2.2.2.2) (h8 : (st.map fun v => v.category).sum ≤ 8) (kk : ∀ h' A', Vw G h' A' → K A' → mm_V l G M kc ks pc' L (st) h' Q) : mm_V l G M kc ks pc L st0 h Q := by
  obtain ⟨a, fs, rfl, hA, hw⟩ := hw
  refine mm_callV hd hp hc (hV.raw hA) hc1 (hM a _ hw) hst hn hfr h8 (Nat.zero_le _) (Nat.zero_le _) (fun v h' hq => ?_)
  obtain ⟨A2, rfl, hV2, hq⟩ := hq
  exact kk _ _ hV2 hq
theorem wr_cVVx {n : Nat} {st0 : List Value} {K : ab_H → Nat → Nat → Prop} {W : Nat → Nat → Nat → (ab_H → Prop) → Prop} (hd : decode M.2.1 pc = .ok (.invokevirtual index, 3)) (hp : pc + 3 = pc') (hc : mm_CB M.1.cls index M' n ∧ Cond.instanceMethod M'.1 ∈ mm_all ∧ Cond.selects M'.1.cls M'.1 M'.1 ∈ mm_all) {ci : Nat} {T : u_T} {N : Nat} (hc1 : mm_Cl[ci]? = some (M'.1.cls, T, N)) (hV : Vw G h A) (hw : wC A r ci (fun a => wXV kc ks (W a) K)) (hM : ∀ a c s Q', W a c s Q' → mm_S l G M' (.ref a :: as) h c s (wQV G Q')) (hst : st0 = as.reverse ++ va_rf r :: st) (hn : as.length = n) (hfr : M'.2.2.2.2 + 1 ≤ M.2.2.2.2) (h8 : (st.map fun v => v.category).sum ≤ 8) (kk : ∀ h' A' kc' ks', Vw G h' A' → K A' kc' ks' → mm_V l G M kc' ks' pc' L (st) h' Q) : mm_V l G M kc ks pc L st0 h Q := by
  obtain ⟨a, fs, rfl, hA, c, s, h1, h2, hw⟩ := hw
  refine mm_callV hd hp hc (hV.raw hA) hc1 (hM a c s _ hw) hst hn hfr h8 h1 h2 (fun v h' hq => ?_)
  obtain ⟨A2, rfl, hV2, hq⟩ := hq
  exact kk _ _ _ _ hV2 hq
theorem wr_cI {n : Nat} {st0 : List Value} {K : ab_H → Prop} {W : Nat → (ab_H → Prop) → Prop} (hd : decode M.2.1 pc = .ok (.invokespecial index, 3)) (hp : pc + 3 = pc') (hc : mm_CB M.1.cls index M' n ∧ M'.1.name = "<init>" ∧ Cond.instanceMethod M'.1 ∈ mm_all) (hret : M'.2.2.2.1 = none) (hV : Vw G h A) (hw : wD r (fun a => W a K)) (hM : ∀ a Q', W a Q' → mm_S l G M' (.ref a :: as) h 0 0 (wQV G Q')) (hst : st0 = as.reverse ++ va_rf r :: st) (hn : as.length = n) (hfr : M'.2.2.2.2 + 1 ≤ M.2.2.2.2) (h8 : (st.map fun v => v.category).sum ≤ 8) (kk : ∀ h' A', Vw G h' A' → K A' → mm_V l G M kc ks pc' L (st) h' Q) : mm_V l G M kc ks pc L st0 h Q := by
  obtain ⟨a, rfl, hw⟩ := hw
  refine mm_callI hd hp hc hret (hM a _ hw) hst hn hfr h8 (Nat.zero_le _) (Nat.zero_le _) (fun v h' hq => ?_)
  obtain ⟨A2, rfl, hV2, hq⟩ := hq
  exact kk _ _ hV2 hq
theorem wr_cIx {n : Nat} {st0 : List Value} {K : ab_H → Nat → Nat → Prop} {W : Nat → Nat → Nat → (ab_H → Prop) → Prop} (hd : decode M.2.1 pc = .ok (.invokespecial index, 3)) (hp : pc + 3 = pc') (hc : mm_CB M.1.cls index M' n ∧ M'.1.name = "<init>" ∧ Cond.instanceMethod M'.1 ∈ mm_all) (hret : M'.2.2.2.1 = none) (hV : Vw G h A) (hw : wD r (fun a => wXV kc ks (W a) K)) (hM : ∀ a c s Q', W a c s Q' → mm_S l G M' (.ref a :: as) h c s (wQV G Q')) (hst : st0 = as.reverse ++ va_rf r :: st) (hn : as.length = n) (hfr : M'.2.2.2.2 + 1 ≤ M.2.2.2.2) (h8 : (st.map fun v => v.category).sum ≤ 8) (kk : ∀ h' A' kc' ks', Vw G h' A' → K A' kc' ks' → mm_V l G M kc' ks' pc' L (st) h' Q) : mm_V l G M kc ks pc L st0 h Q := by
  obtain ⟨a, rfl, c, s, h1, h2, hw⟩ := hw
  refine mm_callI hd hp hc hret (hM a c s _ hw) hst hn hfr h8 h1 h2 (fun v h' hq => ?_)
  obtain ⟨A2, rfl, hV2, hq⟩ := hq
  exact kk _ _ _ _ hV2 hq
theorem wr_cN {n : Nat} {st0 : List Value} {K : ab_H → Prop} {W : Nat → (ab_H → Prop) → Prop} (hd : decode M.2.1 pc = .ok (.invokespecial index, 3)) (hp : pc + 3 = pc') (hc : mm_CN M.1.cls index M' n) (hret : M'.2.2.2.1 = none) (hV : Vw G h A) (hw : wD r (fun a => W a K)) (hM : ∀ a Q', W a Q' → mm_S l G M' (.ref a :: as) h 0 0 (wQV G Q')) (hst : st0 = as.reverse ++ va_rf r :: st) (hn : as.length = n) (hfr : M'.2.2.2.2 + 1 ≤ M.2.2.2.2) (h8 : (st.map fun v => v.category).sum ≤ 8) (kk : ∀ h' A', Vw G h' A' → K A' → mm_V l G M kc ks pc' L (st) h' Q) : mm_V l G M kc ks pc L st0 h Q := by
  obtain ⟨a, rfl, hw⟩ := hw
  refine mm_callN hd hp hc hret (hM a _ hw) hst hn hfr h8 (Nat.zero_le _) (Nat.zero_le _) (fun v h' hq => ?_)
  obtain ⟨A2, rfl, hV2, hq⟩ := hq
  exact kk _ _ hV2 hq
theorem wr_cNx {n : Nat} {st0 : List Value} {K : ab_H → Nat → Nat → Prop} {W : Nat → Nat → Nat → (ab_H → Prop) → Prop} (hd : decode M.2.1 pc = .ok (.invokespecial index, 3)) (hp : pc + 3 = pc') (hc : mm_CN M.1.cls index M' n) (hret : M'.2.2.2.1 = none) (hV : Vw G h A) (hw : wD r (fun a => wXV kc ks (W a) K)) (hM : ∀ a c s Q', W a c s Q' → mm_S l G M' (.ref a :: as) h c s (wQV G Q')) (hst : st0 = as.reverse ++ va_rf r :: st) (hn : as.length = n) (hfr : M'.2.2.2.2 + 1 ≤ M.2.2.2.2) (h8 : (st.map fun v => v.category).sum ≤ 8) (kk : ∀ h' A' kc' ks', Vw G h' A' → K A' kc' ks' → mm_V l G M kc' ks' pc' L (st) h' Q) : mm_V l G M kc ks pc L st0 h Q := by
  obtain ⟨a, rfl, c, s, h1, h2, hw⟩ := hw
  refine mm_callN hd hp hc hret (hM a c s _ hw) hst hn hfr h8 h1 h2 (fun v h' hq => ?_)
  obtain ⟨A2, rfl, hV2, hq⟩ := hq
  exact kk _ _ _ _ hV2 hq
end WC
