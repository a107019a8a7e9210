/-! The entry: the cells that stand before the law begins, the classes, the constants -/
theorem ey_1 {w : Cond} {i : Nat} (h : tables_1_1[i]? = some w) : w ∈ tables_1 := List.mem_append_left _ (List.mem_of_getElem? h)
theorem ey_2 {w : Cond} {i : Nat} (h : tables_1_2[i]? = some w) : w ∈ tables_1 := List.mem_append_right _ (List.mem_append_left _ (List.mem_of_getElem? h))
theorem ey_3 {w : Cond} {i : Nat} (h : tables_1_3[i]? = some w) : w ∈ tables_1 := List.mem_append_right _ (List.mem_append_right _ (List.mem_append_left _ (List.mem_of_getElem? h)))
theorem ey_4 {w : Cond} {i : Nat} (h : tables_1_4[i]? = some w) : w ∈ tables_1 := List.mem_append_right _ (List.mem_append_right _ (List.mem_append_right _ (List.mem_append_left _ (List.mem_of_getElem? h))))
theorem ey_5 {w : Cond} {i : Nat} (h : tables_1_5[i]? = some w) : w ∈ tables_1 := List.mem_append_right _ (List.mem_append_right _ (List.mem_append_right _ (List.mem_append_right _ (List.mem_append_left _ (List.mem_of_getElem? h)))))
theorem ey_6 {w : Cond} {i : Nat} (h : tables_1_6[i]? = some w) : w ∈ tables_1 := List.mem_append_right _ (List.mem_append_right _ (List.mem_append_right _ (List.mem_append_right _ (List.mem_append_right _ (List.mem_append_left _ (List.mem_of_getElem? h))))))
theorem ey_7 {w : Cond} {i : Nat} (h : tables_1_7[i]? = some w) : w ∈ tables_1 := List.mem_append_right _ (List.mem_append_right _ (List.mem_append_right _ (List.mem_append_right _ (List.mem_append_right _ (List.mem_append_right _ (List.mem_of_getElem? h))))))
theorem ey_w {s : State} {args : Array Value} (hts : ∀ w ∈ lw_tbl, w.before args s = true) {w : Cond} (h : w ∈ tables_1) : w.before args s = true := hts w (List.mem_append_right _ h)
theorem ey_in {ci : Nat} {q : vw_C} (h : mm_Cl[ci]? = some q) : ∃ n : Nat, Cond.instantiable q.1 n ∈ tables_1 := by
  match ci, h with
  | 0, h =>
    cases (show some ("java/lang/String", mm_T0, 4) = some q from h)
    exact ⟨4, ey_2 (i := 155) rfl⟩
  | 1, h =>
    cases (show some ("java/lang/StringBuilder", mm_T1, 4) = some q from h)
    exact ⟨4, ey_1 (i := 52) rfl⟩
  | 2, h =>
    cases (show some ("java/util/ArrayList", mm_T2, 3) = some q from h)
    exact ⟨3, ey_1 (i := 103) rfl⟩
  | 3, h =>
    cases (show some ("StubServer", mm_T3, 8) = some q from h)
    exact ⟨8, ey_1 (i := 31) rfl⟩
  | 4, h =>
    cases (show some ("StubServer$Connection", mm_T4, 3) = some q from h)
    exact ⟨3, ey_1 (i := 40) rfl⟩
  | 5, h =>
    cases (show some ("StubServer$Reader", mm_T5, 11) = some q from h)
    exact ⟨11, ey_1 (i := 46) rfl⟩
  | 6, h =>
    cases (show some ("StubServer$RequestLine", mm_T6, 1) = some q from h)
    exact ⟨1, ey_1 (i := 85) rfl⟩
  | 7, h =>
    cases (show some ("StubServer$Request", mm_T7, 6) = some q from h)
    exact ⟨6, ey_1 (i := 97) rfl⟩
  | 8, h =>
    cases (show some ("StubServer$Part", mm_T8, 2) = some q from h)
    exact ⟨2, ey_1 (i := 129) rfl⟩
  | 9, h =>
    cases (show some ("StubServer$Matcher", mm_T9, 5) = some q from h)
    exact ⟨5, ey_5 (i := 55) rfl⟩
  | 10, h =>
    cases (show some ("StubServer$Pattern", mm_T10, 9) = some q from h)
    exact ⟨9, ey_4 (i := 114) rfl⟩
  | 11, h =>
    cases (show some ("StubServer$Template", mm_T11, 1) = some q from h)
    exact ⟨1, ey_4 (i := 201) rfl⟩
  | 12, h =>
    cases (show some ("StubServer$Stub", mm_T12, 6) = some q from h)
    exact ⟨6, ey_5 (i := 139) rfl⟩
  | 13, h =>
    cases (show some ("StubServer$Scene", mm_T13, 3) = some q from h)
    exact ⟨3, ey_5 (i := 192) rfl⟩
  | 14, h =>
    cases (show some ("StubServerModel", mm_T14, 43) = some q from h)
    exact ⟨43, ey_6 (i := 12) rfl⟩
  | ci + 15, h => exact absurd (show (none : Option vw_C) = some q from h) (by simp)
theorem ey_cl {s : State} {args : Array Value} (hts : ∀ w ∈ lw_tbl, w.before args s = true) : ∃ D : va_G, ∀ (c : Nat) (q : vw_C), mm_Cl[c]? = some q → u_Kn s q.1 q.2.1 q.2.2 (D.1 c) (D.2 c) := by
  have h0 : ∀ c : Nat, ∃ d : ClassId × (Nat → Nat), ∀ q : vw_C, mm_Cl[c]? = some q → u_Kn s q.1 q.2.1 q.2.2 d.1 d.2 := by
    intro c
    cases hc : mm_Cl[c]? with
    | none => exact ⟨(default, fun _ => 0), fun q hq => by cases hq⟩
    | some q =>
      obtain ⟨C, T, N⟩ := q
      obtain ⟨ty, hin, -⟩ := mm_CK hc
      obtain ⟨n, hn⟩ := ey_in hc
      obtain ⟨cC, iS, hK⟩ := u_known (mm_hts hts) hin (ey_w hts hn)
      exact ⟨(cC, iS), fun q hq => by cases hq; exact hK⟩
  obtain ⟨d, hd⟩ := Classical.axiomOfChoice h0
  exact ⟨(fun c => (d c).1, fun c => (d c).2), fun c q hq => hd c q hq⟩
theorem ey_rP {s : State} {args : Array Value} {ty : FieldType} (h : (Cond.arrayClass ty).before args s = true) (hp : ∀ cA : ClassId, va_RA s cA ty = (s.vm.findClass ("[" ++ ty.toString) = some cA)) : ∃ cA : ClassId, ArrOfT s cA ty ∧ va_RA s cA ty := by
  obtain ⟨cA, kA, comp, h1, h2, h3⟩ := Cond.arrayClass_spec h
  exact ⟨cA, fun n z => ⟨fun k h => (by cases h), kA, h2, comp, h3⟩, by rw [hp]; exact h1⟩
theorem ey_rO {s : State} {args : Array Value} {C : String} (h : (Cond.arrayOver (.object C)).before args s = true) : ∃ cA : ClassId, ArrOfT s cA (.object C) ∧ va_RA s cA (.object C) := by
  obtain ⟨comp, cA, kA, h1, h2, h3, h4, h5⟩ := Cond.arrayOver_spec h
  exact ⟨cA, fun n z => ⟨fun k h => (by cases h), kA, h3, comp, h4⟩, kA, comp, h3, h4, h1, h5⟩
theorem ey_ty (t : Nat) : mm_ty t = .int ∨ mm_ty t = .byte ∨ mm_ty t = .char ∨ mm_ty t = .boolean ∨ mm_ty t = .object "java/lang/Object" ∨ mm_ty t = .object "StubServer$Connection" := by
  unfold mm_ty
  split <;> simp
theorem ey_r0 {s : State} {args : Array Value} (hts : ∀ w ∈ lw_tbl, w.before args s = true) (t : Nat) : ∃ cA : ClassId, ArrOfT s cA (mm_ty t) ∧ va_RA s cA (mm_ty t) := by
  rcases ey_ty t with h | h | h | h | h | h <;> rw [h]
  · exact ey_rP (ey_w hts (ey_2 (i := 14) rfl)) (fun _ => rfl)
  · exact ey_rP (ey_w hts (ey_1 (i := 83) rfl)) (fun _ => rfl)
  · exact ey_rP (ey_w hts (ey_5 (i := 5) rfl)) (fun _ => rfl)
  · exact ey_rP (ey_w hts (ey_6 (i := 147) rfl)) (fun _ => rfl)
  · exact ey_rO (ey_w hts (ey_3 (i := 184) rfl))
  · exact ey_rO (ey_w hts (ey_1 (i := 39) rfl))
theorem ey_rw {s : State} {args : Array Value} (hts : ∀ w ∈ lw_tbl, w.before args s = true) : ∃ r : Nat → ClassId, ∀ t : Nat, ArrOfT s (r t) (mm_ty t) ∧ va_RA s (r t) (mm_ty t) := Classical.axiomOfChoice (ey_r0 hts)
/-- what the statement gives of the start -/
def ey_fl : List Cond := flatC (Jvm.Cond.and given_1 narrow_1)
set_option maxRecDepth 20000 in
theorem ey_m1 : (ey_fl.drop 16).take 100 = (List.range 100).map fun j => Cond.eq (.elem (.static "java/lang/Integer" "DigitOnes" "[B") (.int (Int32.ofNat j))) (.int (nI (48 + j % 10))) := by decide +kernel
set_option maxRecDepth 20000 in
theorem ey_m2 : (ey_fl.drop 119).take 100 = (List.range 100).map fun j => Cond.eq (.elem (.static "java/lang/Integer" "DigitTens" "[B") (.int (Int32.ofNat j))) (.int (nI (48 + j / 10))) := by decide +kernel
theorem ey_d1 (j : Nat) (hj : j < 100) : Cond.eq (.elem (.static "java/lang/Integer" "DigitOnes" "[B") (.int (Int32.ofNat j))) (.int (nI (48 + j % 10))) ∈ ey_fl :=
  List.mem_of_mem_drop (List.mem_of_mem_take (by rw [ey_m1]; exact List.mem_map.mpr ⟨j, List.mem_range.mpr hj, rfl⟩))
theorem ey_d2 (j : Nat) (hj : j < 100) : Cond.eq (.elem (.static "java/lang/Integer" "DigitTens" "[B") (.int (Int32.ofNat j))) (.int (nI (48 + j / 10))) ∈ ey_fl :=
  List.mem_of_mem_drop (List.mem_of_mem_take (by rw [ey_m2]; exact List.mem_map.mpr ⟨j, List.mem_range.mpr hj, rfl⟩))
def ey_tm (i : Nat) : Term := ([.string "StubServer$Request" 21, .string "StubServer$RequestLine" 26, .string "StubServer$Reader" 180, .string "StubServer$Reader" 185, .string "StubServer$Reader" 193, .string "StubServer$Request" 62, .string "StubServer$Request" 67] : List Term).getD i (.int 0)
def ey_len : List Nat := [0, 3, 3, 7, 3, 4, 5]
def ey_byt : List (List Int32) := [[], [32, 72, 49], [108, 101, 110], [99, 104, 117, 110, 107, 101, 100], [121, 101, 115], [99, 111, 110, 110], [99, 108, 111, 115, 101]]
theorem ey_t1 (i : Nat) (hi : i < 7) : Cond.exactly (ey_tm i) "java/lang/String" ∈ ey_fl := List.mem_of_getElem? ((by decide +kernel : ∀ i : Nat, i < 7 → ey_fl[([235, 239, 277, 290, 308, 350, 369] : List Nat).getD i 0]? = some (Cond.exactly (ey_tm i) "java/lang/String")) i hi)
theorem ey_t2 (i : Nat) (hi : i < 7) : Cond.eq (.field (ey_tm i) "java/lang/String" "coder" "B") (.int 0) ∈ ey_fl := List.mem_of_getElem? ((by decide +kernel : ∀ i : Nat, i < 7 → ey_fl[([236, 240, 278, 291, 309, 351, 370] : List Nat).getD i 0]? = some (Cond.eq (.field (ey_tm i) "java/lang/String" "coder" "B") (.int 0))) i hi)
theorem ey_t3 (i : Nat) (hi : i < 7) : Cond.arrayOf (.field (ey_tm i) "java/lang/String" "value" "[B") .byte ∈ ey_fl := List.mem_of_getElem? ((by decide +kernel : ∀ i : Nat, i < 7 → ey_fl[([237, 241, 279, 292, 310, 352, 371] : List Nat).getD i 0]? = some (Cond.arrayOf (.field (ey_tm i) "java/lang/String" "value" "[B") .byte)) i hi)
theorem ey_t4 (i : Nat) (hi : i < 7) : Cond.eq (.length (.field (ey_tm i) "java/lang/String" "value" "[B")) (.int (Int32.ofNat (ey_len.getD i 0))) ∈ ey_fl := List.mem_of_getElem? ((by decide +kernel : ∀ i : Nat, i < 7 → ey_fl[([238, 242, 280, 293, 311, 353, 372] : List Nat).getD i 0]? = some (Cond.eq (.length (.field (ey_tm i) "java/lang/String" "value" "[B")) (.int (Int32.ofNat (ey_len.getD i 0))))) i hi)
theorem ey_t5 (i : Nat) (hi : i < 7) (j : Nat) (hj : j < ey_len.getD i 0) : Cond.eq (.elem (.field (ey_tm i) "java/lang/String" "value" "[B") (.int (Int32.ofNat j))) (.int ((ey_byt.getD i []).getD j 0)) ∈ ey_fl := List.mem_of_getElem? ((by decide +kernel : ∀ i : Nat, i < 7 → ∀ j : Nat, j < ey_len.getD i 0 → ey_fl[([0, 243, 281, 294, 312, 354, 373] : List Nat).getD i 0 + j]? = some (Cond.eq (.elem (.field (ey_tm i) "java/lang/String" "value" "[B") (.int (Int32.ofNat j))) (.int ((ey_byt.getD i []).getD j 0)))) i hi j hj)
theorem ey_t6a (i : Nat) (hi : i < 7) (j : Nat) (hj : j < 7) (hij : i < j) : Cond.not (Cond.eq (ey_tm i) (ey_tm j)) ∈ ey_fl := List.mem_of_getElem? ((by decide +kernel : ∀ i : Nat, i < 7 → ∀ j : Nat, j < 7 → i < j → ey_fl[(([[0, 246, 284, 301, 315, 358, 378], [0, 0, 285, 302, 316, 359, 379], [0, 0, 0, 307, 321, 364, 384], [0, 0, 0, 0, 322, 365, 385], [0, 0, 0, 0, 0, 366, 386], [0, 0, 0, 0, 0, 0, 389], [0, 0, 0, 0, 0, 0, 0]] : List (List Nat)).getD i []).getD j 0]? = some (Cond.not (Cond.eq (ey_tm i) (ey_tm j)))) i hi j hj hij)
theorem ey_t6 (i : Nat) (hi : i < 7) (j : Nat) (hj : j < 7) (hij : i ≠ j) : Cond.not (Cond.eq (ey_tm i) (ey_tm j)) ∈ ey_fl ∨ Cond.not (Cond.eq (ey_tm j) (ey_tm i)) ∈ ey_fl :=
  (Nat.lt_or_gt_of_ne hij).imp (ey_t6a i hi j hj) (ey_t6a j hj i hi)
theorem ey_t7 : ∀ i : Nat, i < 7 → ey_len.getD i 0 < 2 ^ 31 := by decide +kernel
theorem ey_txt {s : State} {args : Array Value} {A : Nat → Prop} (hg : ∀ w ∈ ey_fl, w.before args s = true) (hA : ∀ a : Nat, a < s.heap.size → ¬ A a) : ∃ adK adV : Nat → Nat, vk_S 7 ey_len ey_byt adK adV A s s.heap ∧ ∀ i : Nat, i < 7 → (ey_tm i).eval args s none [] s = some (.ref (adK i)) :=
  vk_Sof (tm := ey_tm) ey_t7 (fun i hi => hg _ (ey_t1 i hi)) (fun i hi => hg _ (ey_t2 i hi)) (fun i hi => hg _ (ey_t3 i hi)) (fun i hi => hg _ (ey_t4 i hi)) (fun i hi j hj => hg _ (ey_t5 i hi j hj))
    (fun i j hi hj hij => (ey_t6 i hi j hj hij).imp (hg _) (hg _)) hA
theorem ey_dig {s : State} {args : Array Value} {A : Nat → Prop} (hg : ∀ w ∈ ey_fl, w.before args s = true) (hA : ∀ a : Nat, a < s.heap.size → ¬ A a) : ∃ d1 d2 : Nat, (Term.static "java/lang/Integer" "DigitOnes" "[B").eval args s none [] s = some (.ref d1) ∧ va_T .byte d1 100 (fun j => .int (nI (48 + j % 10))) A s s.heap ∧ (Term.static "java/lang/Integer" "DigitTens" "[B").eval args s none [] s = some (.ref d2) ∧ va_T .byte d2 100 (fun j => .int (nI (48 + j / 10))) A s s.heap := by
  obtain ⟨d1, h1, h2⟩ := va_Tof (f := fun j => .int (nI (48 + j % 10))) (N := 100) (A := A) (by decide) (hg (Cond.arrayOf (.static "java/lang/Integer" "DigitOnes" "[B") .byte) (by decide +kernel)) (va_eqt (hg (Cond.eq (.length (.static "java/lang/Integer" "DigitOnes" "[B")) (.int (Int32.ofNat 100))) (by decide +kernel))) (fun j hj => va_eqt (hg _ (ey_d1 j hj))) hA
  obtain ⟨d2, h3, h4⟩ := va_Tof (f := fun j => .int (nI (48 + j / 10))) (N := 100) (A := A) (by decide) (hg (Cond.arrayOf (.static "java/lang/Integer" "DigitTens" "[B") .byte) (by decide +kernel)) (va_eqt (hg (Cond.eq (.length (.static "java/lang/Integer" "DigitTens" "[B")) (.int (Int32.ofNat 100))) (by decide +kernel))) (fun j hj => va_eqt (hg _ (ey_d2 j hj))) hA
  exact ⟨d1, d2, h1, h2, h3, h4⟩
theorem ey_emp {s : State} {args : Array Value} {A : Nat → Prop} (hg : ∀ w ∈ ey_fl, w.before args s = true) (hA : ∀ a : Nat, a < s.heap.size → ¬ A a) : ∃ d : Nat, (Term.static "java/util/ArrayList" "DEFAULTCAPACITY_EMPTY_ELEMENTDATA" "[Ljava/lang/Object;").eval args s none [] s = some (.ref d) ∧ va_T (.object "java/lang/Object") d 0 (fun _ => .null) A s s.heap :=
  va_Tof (f := fun _ => .null) (N := 0) (by decide) (hg (Cond.arrayOf (.static "java/util/ArrayList" "DEFAULTCAPACITY_EMPTY_ELEMENTDATA" "[Ljava/lang/Object;") (.object "java/lang/Object")) (by decide +kernel)) (va_eqt (hg (Cond.eq (.length (.static "java/util/ArrayList" "DEFAULTCAPACITY_EMPTY_ELEMENTDATA" "[Ljava/lang/Object;")) (.int (Int32.ofNat 0))) (by decide +kernel))) (fun j hj => absurd hj (by omega)) hA
/-- the addresses -/
def ey_ad (b : Nat) (adK adV : Nat → Nat) (d1 d2 d3 d4 : Nat) (k : Nat) : Nat := ([b, adK 0, adK 1, adK 2, adK 3, adK 4, adK 5, adK 6, adV 0, adV 1, adV 2, adV 3, adV 4, adV 5, adV 6, d1, d2, d3, d4] : List Nat).getD k b
def ey_G (D : va_G) (r : Nat → ClassId) (b : Nat) (adK adV : Nat → Nat) (d1 d2 d3 d4 sz : Nat) (xs : List Int32) : mm_G := (D, r, ey_ad b adK adV d1 d2 d3 d4, sz, xs)
theorem ey_adK {b : Nat} {adK adV : Nat → Nat} {d1 d2 d3 d4 i : Nat} (h0 : 0 < i) (h8 : i < 8) : ey_ad b adK adV d1 d2 d3 d4 i = adK (i - 1) := by
  rcases (show i = 1 ∨ i = 2 ∨ i = 3 ∨ i = 4 ∨ i = 5 ∨ i = 6 ∨ i = 7 by omega) with rfl | rfl | rfl | rfl | rfl | rfl | rfl <;> rfl
theorem ey_fmt {s : State} {args : Array Value} {b : Nat} (hg : ∀ w ∈ ey_fl, w.before args s = true) (hb : b < s.heap.size) : ∃ d4 : Nat, d4 < s.heap.size ∧ ∃ v : Value, (Term.static "jdk/internal/util/Preconditions" "SIOOBE_FORMATTER" "Ljava/util/function/BiFunction;").eval args s none [] s = some v ∧ (v = .null ∨ v = .ref d4 ∨ ∃ a : Nat, s.heap.size ≤ a ∧ v = .ref a) := by
  obtain ⟨v, hv, hr⟩ := Cond.isRef_spec (hg (Cond.isRef (.static "jdk/internal/util/Preconditions" "SIOOBE_FORMATTER" "Ljava/util/function/BiFunction;")) (by decide +kernel))
  cases v with
  | null => exact ⟨b, hb, _, hv, Or.inl rfl⟩
  | ref a =>
    by_cases ha : a < s.heap.size
    · exact ⟨a, ha, _, hv, Or.inr (Or.inl rfl)⟩
    · exact ⟨b, hb, _, hv, Or.inr (Or.inr ⟨a, Nat.le_of_not_lt ha, rfl⟩)⟩
  | _ => cases hr
theorem ey_old {s : State} {D : va_G} {r : Nat → ClassId} {b : Nat} {adK adV : Nat → Nat} {d1 d2 d3 d4 : Nat} {xs : List Int32} (hX : va_X b xs.length (fun j => xs.getD j 0) s s.heap) (hK : vk_S 7 ey_len ey_byt adK adV (fun q => s.heap.size ≤ q) s s.heap) (t1 : va_T .byte d1 100 (fun j => .int (nI (48 + j % 10))) (fun q => s.heap.size ≤ q) s s.heap) (t2 : va_T .byte d2 100 (fun j => .int (nI (48 + j / 10))) (fun q => s.heap.size ≤ q) s s.heap) (t3 : va_T (.object "java/lang/Object") d3 0 (fun _ => .null) (fun q => s.heap.size ≤ q) s s.heap) (k : Nat) (e : mm_E) (he : (mm_Ol xs)[k]? = some e) : mm_Ok (ey_G D r b adK adV d1 d2 d3 d4 s.heap.size xs) s s.heap k e := by
  match k, he with
  | 0, he =>
    cases (show some (.inl (8, xs.length, .inl (fun j => xs.getD j 0)) : mm_E) = some e from he)
    obtain ⟨scr, x1, x2, x3, x4, x5⟩ := hX
    exact ⟨scr, x1, x2, x3, Nat.le_of_eq x4.symm, (congrArg Nat.toInt32 x4), x5, fun z => Nat.not_le_of_lt (Array.getElem?_eq_some_iff.mp x1).1 z⟩
  | 1, he =>
    cases (show some (.inr (0, [.ref 8, .int 0]) : mm_E) = some e from he)
    exact ⟨(hK.1 0 (by omega)).1, (hK.1 0 (by omega)).2.2.1, (hK.1 0 (by omega)).2.1⟩
  | 2, he =>
    cases (show some (.inr (0, [.ref 9, .int 0]) : mm_E) = some e from he)
    exact ⟨(hK.1 1 (by omega)).1, (hK.1 1 (by omega)).2.2.1, (hK.1 1 (by omega)).2.1⟩
  | 3, he =>
    cases (show some (.inr (0, [.ref 10, .int 0]) : mm_E) = some e from he)
    exact ⟨(hK.1 2 (by omega)).1, (hK.1 2 (by omega)).2.2.1, (hK.1 2 (by omega)).2.1⟩
  | 4, he =>
    cases (show some (.inr (0, [.ref 11, .int 0]) : mm_E) = some e from he)
    exact ⟨(hK.1 3 (by omega)).1, (hK.1 3 (by omega)).2.2.1, (hK.1 3 (by omega)).2.1⟩
  | 5, he =>
    cases (show some (.inr (0, [.ref 12, .int 0]) : mm_E) = some e from he)
    exact ⟨(hK.1 4 (by omega)).1, (hK.1 4 (by omega)).2.2.1, (hK.1 4 (by omega)).2.1⟩
  | 6, he =>
    cases (show some (.inr (0, [.ref 13, .int 0]) : mm_E) = some e from he)
    exact ⟨(hK.1 5 (by omega)).1, (hK.1 5 (by omega)).2.2.1, (hK.1 5 (by omega)).2.1⟩
  | 7, he =>
    cases (show some (.inr (0, [.ref 14, .int 0]) : mm_E) = some e from he)
    exact ⟨(hK.1 6 (by omega)).1, (hK.1 6 (by omega)).2.2.1, (hK.1 6 (by omega)).2.1⟩
  | 8, he =>
    cases (show some (.inl (9, 0, .inl (fun j => ([] : List Int32).getD j 0)) : mm_E) = some e from he)
    exact (hK.1 0 (by omega)).2.2.2
  | 9, he =>
    cases (show some (.inl (9, 3, .inl (fun j => ([32, 72, 49] : List Int32).getD j 0)) : mm_E) = some e from he)
    exact (hK.1 1 (by omega)).2.2.2
  | 10, he =>
    cases (show some (.inl (9, 3, .inl (fun j => ([108, 101, 110] : List Int32).getD j 0)) : mm_E) = some e from he)
    exact (hK.1 2 (by omega)).2.2.2
  | 11, he =>
    cases (show some (.inl (9, 7, .inl (fun j => ([99, 104, 117, 110, 107, 101, 100] : List Int32).getD j 0)) : mm_E) = some e from he)
    exact (hK.1 3 (by omega)).2.2.2
  | 12, he =>
    cases (show some (.inl (9, 3, .inl (fun j => ([121, 101, 115] : List Int32).getD j 0)) : mm_E) = some e from he)
    exact (hK.1 4 (by omega)).2.2.2
  | 13, he =>
    cases (show some (.inl (9, 4, .inl (fun j => ([99, 111, 110, 110] : List Int32).getD j 0)) : mm_E) = some e from he)
    exact (hK.1 5 (by omega)).2.2.2
  | 14, he =>
    cases (show some (.inl (9, 5, .inl (fun j => ([99, 108, 111, 115, 101] : List Int32).getD j 0)) : mm_E) = some e from he)
    exact (hK.1 6 (by omega)).2.2.2
  | 15, he =>
    cases (show some (.inl (9, 100, .inl (fun j => nI (48 + j % 10))) : mm_E) = some e from he)
    exact t1
  | 16, he =>
    cases (show some (.inl (9, 100, .inl (fun j => nI (48 + j / 10))) : mm_E) = some e from he)
    exact t2
  | 17, he =>
    cases (show some (.inl (12, 0, .inr (.inr (.inr (.inr (fun _ => none))))) : mm_E) = some e from he)
    exact t3
  | k + 18, he => exact absurd (show (none : Option mm_E) = some e from he) (by simp)
theorem ey_st {s : State} {args : Array Value} {D : va_G} {r : Nat → ClassId} {b : Nat} {adK adV : Nat → Nat} {d1 d2 d3 d4 : Nat} {xs : List Int32} (hts : ∀ w ∈ lw_tbl, w.before args s = true) (hg : ∀ w ∈ ey_fl, w.before args s = true) (e1 : (Term.static "java/lang/Integer" "DigitOnes" "[B").eval args s none [] s = some (.ref d1)) (e2 : (Term.static "java/lang/Integer" "DigitTens" "[B").eval args s none [] s = some (.ref d2)) (e3 : (Term.static "java/util/ArrayList" "DEFAULTCAPACITY_EMPTY_ELEMENTDATA" "[Ljava/lang/Object;").eval args s none [] s = some (.ref d3)) : ∀ q ∈ mm_sts, va_Z q.1 q.2.1 q.2.2.1 (mm_v (ey_G D r b adK adV d1 d2 d3 d4 s.heap.size xs) q.2.2.2) (mm_A (ey_G D r b adK adV d1 d2 d3 d4 s.heap.size xs)) s s.heap := by
  have hA : ∀ a : Nat, a < s.heap.size → ¬ (fun q => s.heap.size ≤ q) a := fun a h1 h2 => Nat.not_le_of_lt h1 h2
  intro q hq
  simp only [mm_sts, List.mem_cons, List.not_mem_nil, or_false] at hq
  rcases hq with rfl | rfl | rfl | rfl | rfl
  · show va_Z "java/lang/String" "COMPACT_STRINGS" "Z" (.int 1) (fun q => s.heap.size ≤ q) s s.heap
    exact va_Zof (ey_w hts (ey_1 (i := 61) rfl)) (ey_w hts (ey_1 (i := 6) rfl)) (va_eqt (hg (Cond.eq (.static "java/lang/String" "COMPACT_STRINGS" "Z") (.int 1)) (by decide +kernel))) hA
  · show va_Z "java/lang/StringUTF16" "$assertionsDisabled" "Z" (.int 1) (fun q => s.heap.size ≤ q) s s.heap
    exact va_Zof (ey_w hts (ey_2 (i := 129) rfl)) (ey_w hts (ey_1 (i := 7) rfl)) (va_eqt (hg (Cond.eq (.static "java/lang/StringUTF16" "$assertionsDisabled" "Z") (.int 1)) (by decide +kernel))) hA
  · show va_Z "java/lang/Integer" "DigitOnes" "[B" (.ref d1) (fun q => s.heap.size ≤ q) s s.heap
    exact va_Zof (ey_w hts (ey_4 (i := 143) rfl)) (ey_w hts (ey_1 (i := 24) rfl)) e1 hA
  · show va_Z "java/lang/Integer" "DigitTens" "[B" (.ref d2) (fun q => s.heap.size ≤ q) s s.heap
    exact va_Zof (ey_w hts (ey_4 (i := 145) rfl)) (ey_w hts (ey_1 (i := 24) rfl)) e2 hA
  · show va_Z "java/util/ArrayList" "DEFAULTCAPACITY_EMPTY_ELEMENTDATA" "[Ljava/lang/Object;" (.ref d3) (fun q => s.heap.size ≤ q) s s.heap
    exact va_Zof (ey_w hts (ey_1 (i := 115) rfl)) (ey_w hts (ey_1 (i := 12) rfl)) e3 hA
theorem ey_str {s : State} {args : Array Value} {D : va_G} {r : Nat → ClassId} {b : Nat} {adK adV : Nat → Nat} {d1 d2 d3 d4 : Nat} {xs : List Int32} (hts : ∀ w ∈ lw_tbl, w.before args s = true) (hg : ∀ w ∈ ey_fl, w.before args s = true) (hKe : ∀ i : Nat, i < 7 → (ey_tm i).eval args s none [] s = some (.ref (adK i))) : ∀ q ∈ mm_strs, vk_R q.1 q.2.1 q.2.2.1 (mm_f (ey_G D r b adK adV d1 d2 d3 d4 s.heap.size xs) q.2.2.2) s := by
  intro q hq
  simp only [mm_strs, List.mem_cons, List.not_mem_nil, or_false] at hq
  rcases hq with rfl | rfl | rfl | rfl | rfl | rfl | rfl | rfl | rfl | rfl | rfl | rfl | rfl | rfl | rfl
  · show vk_R "StubServer$Request" 21 "" (adK 0) s
    exact vk_R.of (A := args) (ey_w hts (ey_1 (i := 130) rfl)) (hKe 0 (by omega))
  · show vk_R "StubServer$RequestLine" 26 " H1" (adK 1) s
    exact vk_R.of (A := args) (ey_w hts (ey_3 (i := 55) rfl)) (hKe 1 (by omega))
  · show vk_R "java/lang/StringLatin1" 151 "" (adK 0) s
    exact vk_R.of (A := args) (ey_w hts (ey_3 (i := 85) rfl)) (va_eqR (hg (Cond.eq (.string "StubServer$Request" 21) (.string "java/lang/StringLatin1" 151)) (List.mem_of_getElem? (i := 251) (by decide +kernel))) (hKe 0 (by omega)))
  · show vk_R "java/lang/StringUTF16" 295 "" (adK 0) s
    exact vk_R.of (A := args) (ey_w hts (ey_3 (i := 94) rfl)) (va_eqR (hg (Cond.eq (.string "StubServer$Request" 21) (.string "java/lang/StringUTF16" 295)) (List.mem_of_getElem? (i := 257) (by decide +kernel))) (hKe 0 (by omega)))
  · show vk_R "StubServer$RequestLine" 57 "" (adK 0) s
    exact vk_R.of (A := args) (ey_w hts (ey_3 (i := 124) rfl)) (va_eqR (hg (Cond.eq (.string "StubServer$Request" 21) (.string "StubServer$RequestLine" 57)) (List.mem_of_getElem? (i := 264) (by decide +kernel))) (hKe 0 (by omega)))
  · show vk_R "java/lang/String" 7 "" (adK 0) s
    exact vk_R.of (A := args) (ey_w hts (ey_3 (i := 236) rfl)) (va_eqR (hg (Cond.eq (.string "StubServer$Request" 21) (.string "java/lang/String" 7)) (List.mem_of_getElem? (i := 272) (by decide +kernel))) (hKe 0 (by omega)))
  · show vk_R "StubServer$Reader" 180 "len" (adK 2) s
    exact vk_R.of (A := args) (ey_w hts (ey_4 (i := 20) rfl)) (hKe 2 (by omega))
  · show vk_R "StubServer$Reader" 185 "chunked" (adK 3) s
    exact vk_R.of (A := args) (ey_w hts (ey_4 (i := 22) rfl)) (hKe 3 (by omega))
  · show vk_R "StubServer$Reader" 193 "yes" (adK 4) s
    exact vk_R.of (A := args) (ey_w hts (ey_4 (i := 31) rfl)) (hKe 4 (by omega))
  · show vk_R "StubServer$Reader" 62 "" (adK 0) s
    exact vk_R.of (A := args) (ey_w hts (ey_4 (i := 61) rfl)) (va_eqR (hg (Cond.eq (.string "StubServer$Request" 21) (.string "StubServer$Reader" 62)) (List.mem_of_getElem? (i := 327) (by decide +kernel))) (hKe 0 (by omega)))
  · show vk_R "StubServer" 184 "" (adK 0) s
    exact vk_R.of (A := args) (ey_w hts (ey_4 (i := 123) rfl)) (va_eqR (hg (Cond.eq (.string "StubServer$Request" 21) (.string "StubServer" 184)) (List.mem_of_getElem? (i := 340) (by decide +kernel))) (hKe 0 (by omega)))
  · show vk_R "StubServer$Request" 62 "conn" (adK 5) s
    exact vk_R.of (A := args) (ey_w hts (ey_4 (i := 237) rfl)) (hKe 5 (by omega))
  · show vk_R "StubServer$Request" 67 "close" (adK 6) s
    exact vk_R.of (A := args) (ey_w hts (ey_4 (i := 238) rfl)) (hKe 6 (by omega))
  · show vk_R "StubServer$Connection" 34 "" (adK 0) s
    exact vk_R.of (A := args) (ey_w hts (ey_5 (i := 3) rfl)) (va_eqR (hg (Cond.eq (.string "StubServer$Request" 21) (.string "StubServer$Connection" 34)) (List.mem_of_getElem? (i := 394) (by decide +kernel))) (hKe 0 (by omega)))
  · show vk_R "StubServer$Matcher" 29 "" (adK 0) s
    exact vk_R.of (A := args) (ey_w hts (ey_5 (i := 50) rfl)) (va_eqR (hg (Cond.eq (.string "StubServer$Request" 21) (.string "StubServer$Matcher" 29)) (List.mem_of_getElem? (i := 411) (by decide +kernel))) (hKe 0 (by omega)))
theorem ey_ao {s : State} {args : Array Value} (hts : ∀ w ∈ lw_tbl, w.before args s = true) : ∀ C ∈ mm_aos, va_AO C s := by
  intro q hq
  simp only [mm_aos, List.mem_cons, List.not_mem_nil, or_false] at hq
  rcases hq with rfl | rfl
  · exact va_AO.of (A := args) (ey_w hts (ey_1 (i := 39) rfl))
  · exact va_AO.of (A := args) (ey_w hts (ey_3 (i := 184) rfl))
theorem ey_ca {s : State} {args : Array Value} (hts : ∀ w ∈ lw_tbl, w.before args s = true) : ∀ q ∈ mm_casts, va_Nw (.castable q.1 q.2) s := by
  intro q hq
  simp only [mm_casts, List.mem_cons, List.not_mem_nil, or_false] at hq
  rcases hq with rfl | rfl | rfl | rfl | rfl | rfl | rfl | rfl | rfl | rfl | rfl | rfl | rfl | rfl | rfl | rfl | rfl | rfl
  · exact va_Nw.of (A := args) rfl (ey_w hts (ey_2 (i := 85) rfl))
  · exact va_Nw.of (A := args) rfl (ey_w hts (ey_7 (i := 179) rfl))
  · exact va_Nw.of (A := args) rfl (ey_w hts (ey_7 (i := 180) rfl))
  · exact va_Nw.of (A := args) rfl (ey_w hts (ey_7 (i := 181) rfl))
  · exact va_Nw.of (A := args) rfl (ey_w hts (ey_7 (i := 182) rfl))
  · exact va_Nw.of (A := args) rfl (ey_w hts (ey_7 (i := 186) rfl))
  · exact va_Nw.of (A := args) rfl (ey_w hts (ey_7 (i := 187) rfl))
  · exact va_Nw.of (A := args) rfl (ey_w hts (ey_7 (i := 188) rfl))
  · exact va_Nw.of (A := args) rfl (ey_w hts (ey_7 (i := 189) rfl))
  · exact va_Nw.of (A := args) rfl (ey_w hts (ey_7 (i := 190) rfl))
  · exact va_Nw.of (A := args) rfl (ey_w hts (ey_7 (i := 191) rfl))
  · exact va_Nw.of (A := args) rfl (ey_w hts (ey_7 (i := 192) rfl))
  · exact va_Nw.of (A := args) rfl (ey_w hts (ey_7 (i := 193) rfl))
  · exact va_Nw.of (A := args) rfl (ey_w hts (ey_7 (i := 194) rfl))
  · exact va_Nw.of (A := args) rfl (ey_w hts (ey_7 (i := 195) rfl))
  · exact va_Nw.of (A := args) rfl (ey_w hts (ey_7 (i := 196) rfl))
  · exact va_Nw.of (A := args) rfl (ey_w hts (ey_7 (i := 197) rfl))
  · exact va_Nw.of (A := args) rfl (ey_w hts (ey_7 (i := 198) rfl))
theorem ey_ne {s : State} {args : Array Value} (hts : ∀ w ∈ lw_tbl, w.before args s = true) : ∀ q ∈ mm_nests, va_Nw (.methodLinkNest q.1 q.2.1 q.2.2.1 q.2.2.2) s := by
  intro q hq
  simp only [mm_nests, List.mem_cons, List.not_mem_nil, or_false] at hq
  rcases hq with rfl | rfl | rfl | rfl
  · exact va_Nw.of (A := args) rfl (ey_w hts (ey_1 (i := 41) rfl))
  · exact va_Nw.of (A := args) rfl (ey_w hts (ey_1 (i := 47) rfl))
  · exact va_Nw.of (A := args) rfl (ey_w hts (ey_1 (i := 86) rfl))
  · exact va_Nw.of (A := args) rfl (ey_w hts (ey_1 (i := 98) rfl))
theorem ey_tl {A : Nat → Prop} {ty : FieldType} {t N : Nat} {f : Nat → Value} {s : State} (h : va_T ty t N f A s s.heap) : t < s.heap.size := by
  obtain ⟨cell, h1, -⟩ := h
  exact (Array.getElem?_eq_some_iff.mp h1).1
theorem ey_F {s : State} {args : Array Value} {b : Nat} {xs : List Int32} (hts : ∀ w ∈ lw_tbl, w.before args s = true) (hg : ∀ w ∈ ey_fl, w.before args s = true) (hX : va_X b xs.length (fun j => xs.getD j 0) s s.heap) : ∃ G : mm_G, mm_F G s ∧ G.2.2.1 0 = b ∧ G.2.2.2.1 = s.heap.size ∧ G.2.2.2.2 = xs := by
  have hA : ∀ a : Nat, a < s.heap.size → ¬ (fun q => s.heap.size ≤ q) a := fun a h1 h2 => Nat.not_le_of_lt h1 h2
  have hb : b < s.heap.size := by
    obtain ⟨scr, x1, -⟩ := hX
    exact (Array.getElem?_eq_some_iff.mp x1).1
  obtain ⟨D, hD⟩ := ey_cl hts
  obtain ⟨r, hr⟩ := ey_rw hts
  obtain ⟨adK, adV, hK, hKe⟩ := ey_txt hg hA
  obtain ⟨d1, d2, e1, t1, e2, t2⟩ := ey_dig hg hA
  obtain ⟨d3, e3, t3⟩ := ey_emp hg hA
  obtain ⟨d4, l4, v, e4, hv⟩ := ey_fmt hg hb
  have lK : ∀ i, i < 7 → adK i < s.heap.size := fun i hi => by
    obtain ⟨cell, h1, -⟩ := (hK.1 i hi).1
    exact (Array.getElem?_eq_some_iff.mp h1).1
  have lV : ∀ i, i < 7 → adV i < s.heap.size := fun i hi => ey_tl (hK.1 i hi).2.2.2
  have hz := va_Zof (A := fun q => s.heap.size ≤ q) (ey_w hts (ey_2 (i := 121) rfl)) (ey_w hts (ey_1 (i := 21) rfl)) e4 hA
  refine ⟨ey_G D r b adK adV d1 d2 d3 d4 s.heap.size xs, ⟨⟨hD, ?_⟩, ?_, ey_st hts hg e1 e2 e3, ey_str hts hg hKe, ey_ao hts, ey_ca hts, Nat.le_refl _, ?_, ey_ne hts, ?_, ?_⟩, rfl, rfl, rfl⟩
  · intro k q hq
    have hm := List.mem_of_getElem? hq
    rw [mm_tys, List.mem_map] at hm
    obtain ⟨t, -, rfl⟩ := hm
    exact hr t
  · intro k e _ he
    exact ey_old hX hK t1 t2 t3 k e he
  · intro k _
    have hall : ∀ a ∈ [b, adK 0, adK 1, adK 2, adK 3, adK 4, adK 5, adK 6, adV 0, adV 1, adV 2, adV 3, adV 4, adV 5, adV 6, d1, d2, d3, d4], a < s.heap.size := by
      intro a ha
      simp only [List.mem_cons, List.not_mem_nil, or_false] at ha
      rcases ha with rfl | rfl | rfl | rfl | rfl | rfl | rfl | rfl | rfl | rfl | rfl | rfl | rfl | rfl | rfl | rfl | rfl | rfl | rfl
      · exact hb
      · exact lK 0 (by omega)
      · exact lK 1 (by omega)
      · exact lK 2 (by omega)
      · exact lK 3 (by omega)
      · exact lK 4 (by omega)
      · exact lK 5 (by omega)
      · exact lK 6 (by omega)
      · exact lV 0 (by omega)
      · exact lV 1 (by omega)
      · exact lV 2 (by omega)
      · exact lV 3 (by omega)
      · exact lV 4 (by omega)
      · exact lV 5 (by omega)
      · exact lV 6 (by omega)
      · exact ey_tl t1
      · exact ey_tl t2
      · exact ey_tl t3
      · exact l4
    show ey_ad b adK adV d1 d2 d3 d4 k < s.heap.size
    rw [ey_ad, List.getD_eq_getElem?_getD]
    cases h : ([b, adK 0, adK 1, adK 2, adK 3, adK 4, adK 5, adK 6, adV 0, adV 1, adV 2, adV 3, adV 4, adV 5, adV 6, d1, d2, d3, d4] : List Nat)[k]? with
    | none => exact hb
    | some a => exact hall a (List.mem_of_getElem? h)
  · rcases hv with rfl | rfl | ⟨a, ha, rfl⟩
    · exact ⟨.null, Or.inl rfl, hz⟩
    · exact ⟨.ref 18, Or.inr ⟨18, rfl⟩, hz⟩
    · refine ⟨.ref (mm_K + (a - s.heap.size)), Or.inr ⟨_, rfl⟩, ?_⟩
      have : mm_v (ey_G D r b adK adV d1 d2 d3 d4 s.heap.size xs) (.ref (mm_K + (a - s.heap.size))) = .ref a := by
        show Value.ref (mm_f (ey_G D r b adK adV d1 d2 d3 d4 s.heap.size xs) (mm_K + (a - s.heap.size))) = _
        rw [mm_fK (Nat.le_add_right _ _)]
        show Value.ref (s.heap.size + (mm_K + (a - s.heap.size) - mm_K)) = _
        rw [Nat.add_sub_cancel_left, Nat.add_sub_cancel' ha]
      rw [this]
      exact hz
  · intro i j i0 i8 j0 j8 e
    have e' : ey_ad b adK adV d1 d2 d3 d4 i = ey_ad b adK adV d1 d2 d3 d4 j := e
    rw [ey_adK i0 i8, ey_adK j0 j8] at e'
    have := hK.2 (i - 1) (j - 1) (by omega) (by omega) e'
    omega
/-- the law's own run can begin -/
theorem ey_X {p : Program} {s : State} {m : MethodId} {meth : Method} {c : Code} {b : Nat} {xs : List Int32} (h1 : p.tables.exec = Jvm.exec) (h2 : c.code = code) (h3 : meth.sig.returnType = ret) (h4 : c.maxLocals = 4) (h5 : s.vm.findClass x.cls = some m.cls) (hts : ∀ w ∈ lw_tbl, w.before #[Value.ref b] s = true) (hX : va_X b xs.length (fun j => xs.getD j 0) s s.heap) (h6 : meth.locks = false) (h7 : meth.name = x.name) (hg : (Jvm.Cond.and given_1 narrow_1).before #[Value.ref b] s = true) : ∃ G : mm_G, mm_X G M_L_law p room_1 s m #[Value.ref b] meth c ∧ G.2.2.1 0 = b ∧ G.2.2.2.1 = s.heap.size ∧ G.2.2.2.2 = xs := by
  obtain ⟨G, hF, g1, g2, g3⟩ := ey_F hts (flat_of_before _ hg) hX
  exact ⟨G, ⟨h1, h2, h4, h5, mm_hts hts, hF, h3, h6, h7, by decide, by decide⟩, g1, g2, g3⟩
