abbrev mm_C : Type := (Nat → Int32) ⊕ (Nat → Int64) ⊕ (Nat → UInt32) ⊕ (Nat → UInt64) ⊕ (Nat → Option Nat)
/-- a cell of my heap: a row (its kind, length, contents) or an object (the number of its class, its fields) -/
abbrev mm_E : Type := (Nat × vp_A) ⊕ (Nat × List Value)
/-- my heap: cells by small addresses, and the first address that is free -/
abbrev mm_H : Type := (Nat → Option mm_E) × Nat
/-- the classes, the row classes by kind, the old cells' addresses, the heap's size at the law's start, the script -/
abbrev mm_G : Type := va_G × (Nat → ClassId) × (Nat → Nat) × Nat × List Int32
/-- a method: name, code, locals, what it returns, how deep it calls -/
abbrev mm_M : Type := MethodName × ByteArray × Nat × Option FieldType × Nat
/-- addresses below stand for cells that were there before the law began -/
def mm_K : Nat := 24
/-- AbstractStringBuilder's private methods, called on a StringBuilder -/
def mm_pv : List MethodName := [⟨"java/lang/AbstractStringBuilder", "ensureCapacityInternal", "(I)V"⟩, ⟨"java/lang/AbstractStringBuilder", "newCapacity", "(I)I"⟩, ⟨"java/lang/AbstractStringBuilder", "inflate", "()V"⟩, ⟨"java/lang/AbstractStringBuilder", "appendNull", "()Ljava/lang/AbstractStringBuilder;"⟩, ⟨"java/lang/AbstractStringBuilder", "putStringAt", "(ILjava/lang/String;)V"⟩, ⟨"java/lang/AbstractStringBuilder", "inflateIfNeededFor", "(Ljava/lang/String;)V"⟩]
def mm_s2 : List Cond := mm_pv.map fun y => Cond.selects "java/lang/StringBuilder" y y
def mm_all : List Cond := (mm_s2 ++ lw_tbl).filter goodWord
theorem mm_good (w : Cond) (h : w ∈ mm_all) : (w.onTables && w.keeps) = true ∨ ∃ ty, w = .arrayClass ty := good_of_word (List.mem_filter.mp h).2
theorem mm_wt {w : Cond} (h : w ∈ tables_1) (hg : goodWord w = true) : w ∈ mm_all := List.mem_filter.mpr ⟨List.mem_append_right _ (List.mem_append_right _ h), hg⟩
theorem mm_w9 {w : Cond} {i : Nat} (h : mm_s2[i]? = some w) (hg : goodWord w = true) : w ∈ mm_all := List.mem_filter.mpr ⟨List.mem_append_left _ (List.mem_of_getElem? h), hg⟩
theorem mm_w0 {w : Cond} {i : Nat} (h : (k2_sels lw_privs)[i]? = some w) (hg : goodWord w = true) : w ∈ mm_all := List.mem_filter.mpr ⟨List.mem_append_right _ (List.mem_append_left _ (List.mem_of_getElem? h)), hg⟩
theorem mm_w1 {w : Cond} {i : Nat} (h : tables_1_1[i]? = some w) (hg : goodWord w = true) : w ∈ mm_all := mm_wt (List.mem_append_left _ (List.mem_of_getElem? h)) hg
theorem mm_w2 {w : Cond} {i : Nat} (h : tables_1_2[i]? = some w) (hg : goodWord w = true) : w ∈ mm_all := mm_wt (List.mem_append_right _ (List.mem_append_left _ (List.mem_of_getElem? h))) hg
theorem mm_w3 {w : Cond} {i : Nat} (h : tables_1_3[i]? = some w) (hg : goodWord w = true) : w ∈ mm_all := mm_wt (List.mem_append_right _ (List.mem_append_right _ (List.mem_append_left _ (List.mem_of_getElem? h)))) hg
theorem mm_w4 {w : Cond} {i : Nat} (h : tables_1_4[i]? = some w) (hg : goodWord w = true) : w ∈ mm_all := mm_wt (List.mem_append_right _ (List.mem_append_right _ (List.mem_append_right _ (List.mem_append_left _ (List.mem_of_getElem? h))))) hg
theorem mm_w5 {w : Cond} {i : Nat} (h : tables_1_5[i]? = some w) (hg : goodWord w = true) : w ∈ mm_all := mm_wt (List.mem_append_right _ (List.mem_append_right _ (List.mem_append_right _ (List.mem_append_right _ (List.mem_append_left _ (List.mem_of_getElem? h)))))) hg
theorem mm_w6 {w : Cond} {i : Nat} (h : tables_1_6[i]? = some w) (hg : goodWord w = true) : w ∈ mm_all := mm_wt (List.mem_append_right _ (List.mem_append_right _ (List.mem_append_right _ (List.mem_append_right _ (List.mem_append_right _ (List.mem_append_left _ (List.mem_of_getElem? h))))))) hg
theorem mm_w7 {w : Cond} {i : Nat} (h : tables_1_7[i]? = some w) (hg : goodWord w = true) : w ∈ mm_all := mm_wt (List.mem_append_right _ (List.mem_append_right _ (List.mem_append_right _ (List.mem_append_right _ (List.mem_append_right _ (List.mem_append_right _ (List.mem_of_getElem? h))))))) hg
theorem mm_selp {C : String} {y y0 : MethodName} {s : State} {args : Array Value} (hy : y.cls ≠ "java/lang/invoke/MethodHandle" ∧ y.cls ≠ "java/lang/invoke/VarHandle") (h0 : y0.cls = y.cls) (hsel0 : (Cond.selects C y0 y0).before args s = true) (hpriv : (Cond.privateMethod y).before args s = true) (hinst : (Cond.instanceMethod y).before args s = true) : (Cond.selects C y y).before args s = true := by
  obtain ⟨c, r2, m2, q1, q2, q3, q4, kP, hkP, hkPi⟩ := Cond.selects_spec hsel0
  obtain ⟨mk, methM, hnamed, hmethM, -, -⟩ := Cond.instanceMethod_spec hinst
  have hfound := State.methodFound?_of_named hnamed hy
  have hcl : m2.cls = mk.cls := by
    have h1 := findClass_of_methodNamed q3
    have h2 := findClass_of_methodNamed hnamed
    rw [h0] at h1
    exact Option.some.inj (h1.symm.trans h2)
  have hsel : selectMethod {} s.vm c mk = .method mk := selectMethod_private hmethM (Cond.privateMethod_at hpriv mk methM hnamed hmethM)
  rw [hcl] at hkP
  simp only [Cond.before, Cond.holds, Cond.value, q1, hfound, hnamed, hsel, hkP]
  simp
  exact hkPi
theorem mm_hts {s : State} {args : Array Value} (hts : ∀ w ∈ lw_tbl, w.before args s = true) : ∀ w ∈ mm_all, w.before args s = true := by
  intro w hw
  rcases List.mem_append.mp (List.mem_filter.mp hw).1 with hw | hw
  · obtain ⟨y, hy, rfl⟩ := List.mem_map.mp hw
    have h0 := hts (Jvm.Cond.selects "java/lang/StringBuilder" ({ cls := "java/lang/AbstractStringBuilder", name := "isLatin1", desc := "()Z" } : Jvm.MethodName) ({ cls := "java/lang/AbstractStringBuilder", name := "isLatin1", desc := "()Z" } : Jvm.MethodName)) (List.mem_append_right _ (List.mem_append_right _ (List.mem_append_left _ (List.mem_of_getElem? (i := 96) rfl))))
    simp only [mm_pv, List.mem_cons, List.not_mem_nil, or_false] at hy
    rcases hy with hy | hy | hy | hy | hy | hy
    · subst hy
      exact mm_selp (y0 := ({ cls := "java/lang/AbstractStringBuilder", name := "isLatin1", desc := "()Z" } : Jvm.MethodName)) (by decide) rfl h0 (hts (Jvm.Cond.privateMethod ({ cls := "java/lang/AbstractStringBuilder", name := "ensureCapacityInternal", desc := "(I)V" } : Jvm.MethodName)) (List.mem_append_right _ (List.mem_append_right _ (List.mem_append_left _ (List.mem_of_getElem? (i := 59) rfl))))) (hts (Jvm.Cond.instanceMethod ({ cls := "java/lang/AbstractStringBuilder", name := "ensureCapacityInternal", desc := "(I)V" } : Jvm.MethodName)) (List.mem_append_right _ (List.mem_append_right _ (List.mem_append_left _ (List.mem_of_getElem? (i := 60) rfl)))))
    · subst hy
      exact mm_selp (y0 := ({ cls := "java/lang/AbstractStringBuilder", name := "isLatin1", desc := "()Z" } : Jvm.MethodName)) (by decide) rfl h0 (hts (Jvm.Cond.privateMethod ({ cls := "java/lang/AbstractStringBuilder", name := "newCapacity", desc := "(I)I" } : Jvm.MethodName)) (List.mem_append_right _ (List.mem_append_right _ (List.mem_append_left _ (List.mem_of_getElem? (i := 63) rfl))))) (hts (Jvm.Cond.instanceMethod ({ cls := "java/lang/AbstractStringBuilder", name := "newCapacity", desc := "(I)I" } : Jvm.MethodName)) (List.mem_append_right _ (List.mem_append_right _ (List.mem_append_left _ (List.mem_of_getElem? (i := 64) rfl)))))
    · subst hy
      exact mm_selp (y0 := ({ cls := "java/lang/AbstractStringBuilder", name := "isLatin1", desc := "()Z" } : Jvm.MethodName)) (by decide) rfl h0 (hts (Jvm.Cond.privateMethod ({ cls := "java/lang/AbstractStringBuilder", name := "inflate", desc := "()V" } : Jvm.MethodName)) (List.mem_append_right _ (List.mem_append_right _ (List.mem_append_left _ (List.mem_of_getElem? (i := 102) rfl))))) (hts (Jvm.Cond.instanceMethod ({ cls := "java/lang/AbstractStringBuilder", name := "inflate", desc := "()V" } : Jvm.MethodName)) (List.mem_append_right _ (List.mem_append_right _ (List.mem_append_left _ (List.mem_of_getElem? (i := 103) rfl)))))
    · subst hy
      exact mm_selp (y0 := ({ cls := "java/lang/AbstractStringBuilder", name := "isLatin1", desc := "()Z" } : Jvm.MethodName)) (by decide) rfl h0 (hts (Jvm.Cond.privateMethod ({ cls := "java/lang/AbstractStringBuilder", name := "appendNull", desc := "()Ljava/lang/AbstractStringBuilder;" } : Jvm.MethodName)) (List.mem_append_right _ (List.mem_append_right _ (List.mem_append_right _ (List.mem_append_right _ (List.mem_append_left _ (List.mem_of_getElem? (i := 164) rfl))))))) (hts (Jvm.Cond.instanceMethod ({ cls := "java/lang/AbstractStringBuilder", name := "appendNull", desc := "()Ljava/lang/AbstractStringBuilder;" } : Jvm.MethodName)) (List.mem_append_right _ (List.mem_append_right _ (List.mem_append_right _ (List.mem_append_right _ (List.mem_append_left _ (List.mem_of_getElem? (i := 165) rfl)))))))
    · subst hy
      exact mm_selp (y0 := ({ cls := "java/lang/AbstractStringBuilder", name := "isLatin1", desc := "()Z" } : Jvm.MethodName)) (by decide) rfl h0 (hts (Jvm.Cond.privateMethod ({ cls := "java/lang/AbstractStringBuilder", name := "putStringAt", desc := "(ILjava/lang/String;)V" } : Jvm.MethodName)) (List.mem_append_right _ (List.mem_append_right _ (List.mem_append_right _ (List.mem_append_right _ (List.mem_append_left _ (List.mem_of_getElem? (i := 172) rfl))))))) (hts (Jvm.Cond.instanceMethod ({ cls := "java/lang/AbstractStringBuilder", name := "putStringAt", desc := "(ILjava/lang/String;)V" } : Jvm.MethodName)) (List.mem_append_right _ (List.mem_append_right _ (List.mem_append_right _ (List.mem_append_right _ (List.mem_append_left _ (List.mem_of_getElem? (i := 173) rfl)))))))
    · subst hy
      exact mm_selp (y0 := ({ cls := "java/lang/AbstractStringBuilder", name := "isLatin1", desc := "()Z" } : Jvm.MethodName)) (by decide) rfl h0 (hts (Jvm.Cond.privateMethod ({ cls := "java/lang/AbstractStringBuilder", name := "inflateIfNeededFor", desc := "(Ljava/lang/String;)V" } : Jvm.MethodName)) (List.mem_append_right _ (List.mem_append_right _ (List.mem_append_right _ (List.mem_append_right _ (List.mem_append_left _ (List.mem_of_getElem? (i := 176) rfl))))))) (hts (Jvm.Cond.instanceMethod ({ cls := "java/lang/AbstractStringBuilder", name := "inflateIfNeededFor", desc := "(Ljava/lang/String;)V" } : Jvm.MethodName)) (List.mem_append_right _ (List.mem_append_right _ (List.mem_append_right _ (List.mem_append_right _ (List.mem_append_left _ (List.mem_of_getElem? (i := 177) rfl)))))))
  · exact hts w hw
def mm_T0 : u_T := fun k => match k with
  | 0 => ("java/lang/String", "value", "[B", true)
  | 1 => ("java/lang/String", "coder", "B", true)
  | 2 => ("java/lang/String", "hash", "I", false)
  | _ => ("java/lang/String", "hashIsZero", "Z", false)
def mm_t0 : Nat → FieldType := fun k => match k with
  | 0 => .array .byte
  | 1 => .byte
  | 2 => .int
  | _ => .boolean
def mm_T1 : u_T := fun k => match k with
  | 0 => ("java/lang/AbstractStringBuilder", "value", "[B", false)
  | 1 => ("java/lang/AbstractStringBuilder", "coder", "B", false)
  | 2 => ("java/lang/AbstractStringBuilder", "maybeLatin1", "Z", false)
  | _ => ("java/lang/AbstractStringBuilder", "count", "I", false)
def mm_t1 : Nat → FieldType := fun k => match k with
  | 0 => .array .byte
  | 1 => .byte
  | 2 => .boolean
  | _ => .int
def mm_T2 : u_T := fun k => match k with
  | 0 => ("java/util/ArrayList", "elementData", "[Ljava/lang/Object;", false)
  | 1 => ("java/util/ArrayList", "size", "I", false)
  | _ => ("java/util/AbstractList", "modCount", "I", false)
def mm_t2 : Nat → FieldType := fun k => match k with
  | 0 => .array (.object "java/lang/Object")
  | 1 => .int
  | _ => .int
def mm_T3 : u_T := fun k => match k with
  | 0 => ("StubServer", "connections", "[LStubServer$Connection;", true)
  | 1 => ("StubServer", "states", "[I", true)
  | 2 => ("StubServer", "typed", "Ljava/lang/StringBuilder;", true)
  | 3 => ("StubServer", "stubs", "Ljava/util/ArrayList;", true)
  | 4 => ("StubServer", "kept", "Ljava/util/ArrayList;", true)
  | 5 => ("StubServer", "draft", "Ljava/util/ArrayList;", false)
  | 6 => ("StubServer", "nextId", "I", false)
  | _ => ("StubServer", "servedSoFar", "I", false)
def mm_t3 : Nat → FieldType := fun k => match k with
  | 0 => .array (.object "StubServer$Connection")
  | 1 => .array .int
  | 2 => .object "java/lang/StringBuilder"
  | 3 => .object "java/util/ArrayList"
  | 4 => .object "java/util/ArrayList"
  | 5 => .object "java/util/ArrayList"
  | 6 => .int
  | _ => .int
def mm_T4 : u_T := fun k => match k with
  | 0 => ("StubServer$Connection", "reader", "LStubServer$Reader;", true)
  | 1 => ("StubServer$Connection", "response", "Ljava/lang/StringBuilder;", true)
  | _ => ("StubServer$Connection", "open", "Z", false)
def mm_t4 : Nat → FieldType := fun k => match k with
  | 0 => .object "StubServer$Reader"
  | 1 => .object "java/lang/StringBuilder"
  | _ => .boolean
def mm_T5 : u_T := fun k => match k with
  | 0 => ("StubServer$Reader", "line", "Ljava/lang/StringBuilder;", true)
  | 1 => ("StubServer$Reader", "body", "Ljava/lang/StringBuilder;", true)
  | 2 => ("StubServer$Reader", "requestLine", "LStubServer$RequestLine;", true)
  | 3 => ("StubServer$Reader", "request", "LStubServer$Request;", false)
  | 4 => ("StubServer$Reader", "phase", "I", false)
  | 5 => ("StubServer$Reader", "sawReturn", "Z", false)
  | 6 => ("StubServer$Reader", "sizeTold", "Z", false)
  | 7 => ("StubServer$Reader", "chunked", "Z", false)
  | 8 => ("StubServer$Reader", "wanted", "I", false)
  | 9 => ("StubServer$Reader", "sizeDigits", "I", false)
  | _ => ("StubServer$Reader", "sizeOfAll", "I", false)
def mm_t5 : Nat → FieldType := fun k => match k with
  | 0 => .object "java/lang/StringBuilder"
  | 1 => .object "java/lang/StringBuilder"
  | 2 => .object "StubServer$RequestLine"
  | 3 => .object "StubServer$Request"
  | 4 => .int
  | 5 => .boolean
  | 6 => .boolean
  | 7 => .boolean
  | 8 => .int
  | 9 => .int
  | _ => .int
def mm_T6 : u_T := fun k => match k with
  | _ => ("StubServer$RequestLine", "decoded", "Ljava/lang/StringBuilder;", true)
def mm_t6 : Nat → FieldType := fun k => match k with
  | _ => .object "java/lang/StringBuilder"
def mm_T7 : u_T := fun k => match k with
  | 0 => ("StubServer$Request", "parameters", "Ljava/util/ArrayList;", true)
  | 1 => ("StubServer$Request", "headers", "Ljava/util/ArrayList;", true)
  | 2 => ("StubServer$Request", "method", "LStubServer$Part;", false)
  | 3 => ("StubServer$Request", "path", "LStubServer$Part;", false)
  | 4 => ("StubServer$Request", "body", "LStubServer$Part;", false)
  | _ => ("StubServer$Request", "chosenId", "I", false)
def mm_t7 : Nat → FieldType := fun k => match k with
  | 0 => .object "java/util/ArrayList"
  | 1 => .object "java/util/ArrayList"
  | 2 => .object "StubServer$Part"
  | 3 => .object "StubServer$Part"
  | 4 => .object "StubServer$Part"
  | _ => .int
def mm_T8 : u_T := fun k => match k with
  | 0 => ("StubServer$Part", "name", "Ljava/lang/String;", true)
  | _ => ("StubServer$Part", "value", "Ljava/lang/String;", true)
def mm_t8 : Nat → FieldType := fun k => match k with
  | 0 => .object "java/lang/String"
  | _ => .object "java/lang/String"
def mm_T9 : u_T := fun k => match k with
  | 0 => ("StubServer$Matcher", "part", "I", true)
  | 1 => ("StubServer$Matcher", "way", "I", true)
  | 2 => ("StubServer$Matcher", "name", "Ljava/lang/String;", true)
  | 3 => ("StubServer$Matcher", "text", "Ljava/lang/String;", true)
  | _ => ("StubServer$Matcher", "pattern", "LStubServer$Pattern;", true)
def mm_t9 : Nat → FieldType := fun k => match k with
  | 0 => .int
  | 1 => .int
  | 2 => .object "java/lang/String"
  | 3 => .object "java/lang/String"
  | _ => .object "StubServer$Pattern"
def mm_T10 : u_T := fun k => match k with
  | 0 => ("StubServer$Pattern", "text", "Ljava/lang/String;", true)
  | 1 => ("StubServer$Pattern", "placeOfSign", "[I", true)
  | 2 => ("StubServer$Pattern", "places", "I", false)
  | 3 => ("StubServer$Pattern", "starts", "J", false)
  | 4 => ("StubServer$Pattern", "ends", "J", false)
  | 5 => ("StubServer$Pattern", "anyOnes", "J", false)
  | 6 => ("StubServer$Pattern", "leavable", "J", false)
  | 7 => ("StubServer$Pattern", "repeatable", "J", false)
  | _ => ("StubServer$Pattern", "good", "Z", true)
def mm_t10 : Nat → FieldType := fun k => match k with
  | 0 => .object "java/lang/String"
  | 1 => .array .int
  | 2 => .int
  | 3 => .long
  | 4 => .long
  | 5 => .long
  | 6 => .long
  | 7 => .long
  | _ => .boolean
def mm_T11 : u_T := fun k => match k with
  | _ => ("StubServer$Template", "text", "Ljava/lang/String;", true)
def mm_t11 : Nat → FieldType := fun k => match k with
  | _ => .object "java/lang/String"
def mm_T12 : u_T := fun k => match k with
  | 0 => ("StubServer$Stub", "id", "I", true)
  | 1 => ("StubServer$Stub", "priority", "I", true)
  | 2 => ("StubServer$Stub", "status", "I", true)
  | 3 => ("StubServer$Stub", "template", "LStubServer$Template;", true)
  | 4 => ("StubServer$Stub", "matchers", "Ljava/util/ArrayList;", true)
  | _ => ("StubServer$Stub", "scene", "LStubServer$Scene;", false)
def mm_t12 : Nat → FieldType := fun k => match k with
  | 0 => .int
  | 1 => .int
  | 2 => .int
  | 3 => .object "StubServer$Template"
  | 4 => .object "java/util/ArrayList"
  | _ => .object "StubServer$Scene"
def mm_T13 : u_T := fun k => match k with
  | 0 => ("StubServer$Scene", "scenario", "I", true)
  | 1 => ("StubServer$Scene", "need", "I", true)
  | _ => ("StubServer$Scene", "next", "I", true)
def mm_t13 : Nat → FieldType := fun k => match k with
  | 0 => .int
  | 1 => .int
  | _ => .int
def mm_T14 : u_T := fun k => match k with
  | 0 => ("StubServerModel", "bytes", "[I", true)
  | 1 => ("StubServerModel", "length", "[I", true)
  | 2 => ("StubServerModel", "closed", "[Z", true)
  | 3 => ("StubServerModel", "response", "[I", true)
  | 4 => ("StubServerModel", "answered", "[I", true)
  | 5 => ("StubServerModel", "journal", "I", false)
  | 6 => ("StubServerModel", "chosenIn", "[I", true)
  | 7 => ("StubServerModel", "served", "I", false)
  | 8 => ("StubServerModel", "states", "[I", true)
  | 9 => ("StubServerModel", "typed", "[I", true)
  | 10 => ("StubServerModel", "typedSize", "I", false)
  | 11 => ("StubServerModel", "part", "[I", true)
  | 12 => ("StubServerModel", "way", "[I", true)
  | 13 => ("StubServerModel", "named", "[I", true)
  | 14 => ("StubServerModel", "textSize", "[I", true)
  | 15 => ("StubServerModel", "text", "[I", true)
  | 16 => ("StubServerModel", "drafted", "I", false)
  | 17 => ("StubServerModel", "stubs", "I", false)
  | 18 => ("StubServerModel", "ids", "[I", true)
  | 19 => ("StubServerModel", "priority", "[I", true)
  | 20 => ("StubServerModel", "status", "[I", true)
  | 21 => ("StubServerModel", "matchers", "[I", true)
  | 22 => ("StubServerModel", "template", "[I", true)
  | 23 => ("StubServerModel", "templateSize", "[I", true)
  | 24 => ("StubServerModel", "scenario", "[I", true)
  | 25 => ("StubServerModel", "needs", "[I", true)
  | 26 => ("StubServerModel", "gives", "[I", true)
  | 27 => ("StubServerModel", "base", "I", false)
  | 28 => ("StubServerModel", "size", "I", false)
  | 29 => ("StubServerModel", "headers", "I", false)
  | 30 => ("StubServerModel", "headerAt", "[I", true)
  | 31 => ("StubServerModel", "headerEnd", "[I", true)
  | 32 => ("StubServerModel", "bodySize", "I", false)
  | 33 => ("StubServerModel", "body", "[I", true)
  | 34 => ("StubServerModel", "closes", "Z", false)
  | 35 => ("StubServerModel", "announced", "I", false)
  | 36 => ("StubServerModel", "inChunks", "Z", false)
  | 37 => ("StubServerModel", "sought", "[I", true)
  | 38 => ("StubServerModel", "soughtSize", "I", false)
  | 39 => ("StubServerModel", "found", "[I", true)
  | 40 => ("StubServerModel", "foundSize", "I", false)
  | 41 => ("StubServerModel", "made", "[I", true)
  | _ => ("StubServerModel", "madeSize", "I", false)
def mm_t14 : Nat → FieldType := fun k => match k with
  | 0 => .array .int
  | 1 => .array .int
  | 2 => .array .boolean
  | 3 => .array .int
  | 4 => .array .int
  | 5 => .int
  | 6 => .array .int
  | 7 => .int
  | 8 => .array .int
  | 9 => .array .int
  | 10 => .int
  | 11 => .array .int
  | 12 => .array .int
  | 13 => .array .int
  | 14 => .array .int
  | 15 => .array .int
  | 16 => .int
  | 17 => .int
  | 18 => .array .int
  | 19 => .array .int
  | 20 => .array .int
  | 21 => .array .int
  | 22 => .array .int
  | 23 => .array .int
  | 24 => .array .int
  | 25 => .array .int
  | 26 => .array .int
  | 27 => .int
  | 28 => .int
  | 29 => .int
  | 30 => .array .int
  | 31 => .array .int
  | 32 => .int
  | 33 => .array .int
  | 34 => .boolean
  | 35 => .int
  | 36 => .boolean
  | 37 => .array .int
  | 38 => .int
  | 39 => .array .int
  | 40 => .int
  | 41 => .array .int
  | _ => .int
def mm_Cl : List vw_C := [("java/lang/String", mm_T0, 4), ("java/lang/StringBuilder", mm_T1, 4), ("java/util/ArrayList", mm_T2, 3), ("StubServer", mm_T3, 8), ("StubServer$Connection", mm_T4, 3), ("StubServer$Reader", mm_T5, 11), ("StubServer$RequestLine", mm_T6, 1), ("StubServer$Request", mm_T7, 6), ("StubServer$Part", mm_T8, 2), ("StubServer$Matcher", mm_T9, 5), ("StubServer$Pattern", mm_T10, 9), ("StubServer$Template", mm_T11, 1), ("StubServer$Stub", mm_T12, 6), ("StubServer$Scene", mm_T13, 3), ("StubServerModel", mm_T14, 43)]
/-- the fields of a new object -/
def mm_df : Nat → List Value
  | 0 => [.null, .int 0, .int 0, .int 0]
  | 1 => [.null, .int 0, .int 0, .int 0]
  | 2 => [.null, .int 0, .int 0]
  | 3 => [.null, .null, .null, .null, .null, .null, .int 0, .int 0]
  | 4 => [.null, .null, .int 0]
  | 5 => [.null, .null, .null, .null, .int 0, .int 0, .int 0, .int 0, .int 0, .int 0, .int 0]
  | 6 => [.null]
  | 7 => [.null, .null, .null, .null, .null, .int 0]
  | 8 => [.null, .null]
  | 9 => [.int 0, .int 0, .null, .null, .null]
  | 10 => [.null, .null, .int 0, .long 0, .long 0, .long 0, .long 0, .long 0, .int 0]
  | 11 => [.null]
  | 12 => [.int 0, .int 0, .int 0, .null, .null, .null]
  | 13 => [.int 0, .int 0, .int 0]
  | 14 => [.null, .null, .null, .null, .null, .int 0, .null, .int 0, .null, .null, .int 0, .null, .null, .null, .null, .null, .int 0, .int 0, .null, .null, .null, .null, .null, .null, .null, .null, .null, .int 0, .int 0, .int 0, .null, .null, .int 0, .null, .int 0, .int 0, .int 0, .null, .int 0, .null, .int 0, .null, .int 0]
  | _ => []
theorem mm_ly0 : ∀ k, k < 4 → u_lay "java/lang/String" mm_T0 k ∈ mm_all := fun k hk => match k, hk with
  | 0, _ => mm_w2 (i := 195) rfl rfl
  | 1, _ => mm_w2 (i := 197) rfl rfl
  | 2, _ => mm_w2 (i := 199) rfl rfl
  | 3, _ => mm_w2 (i := 201) rfl rfl
  | k + 4, h => absurd h (by omega)
theorem mm_ck0 : ∃ ty : Nat → FieldType, (∀ w ∈ u_ws "java/lang/String" mm_T0 4, w ∈ mm_all) ∧ (∀ k, k < 4 → parseFieldDescriptor (mm_T0 k).2.2.1 = some (ty k)) ∧ (∀ a, a < 4 → ∀ b, b < 4 → a ≠ b → (mm_T0 a).2.1 ≠ (mm_T0 b).2.1) ∧ (∀ j, j < 4 → defaultValue (ty j) = vp_V (mm_df 0) j) ∧ (mm_df 0).length = 4 :=
  ⟨mm_t0, fun w hw => by
    obtain ⟨k, hk, rfl⟩ := List.mem_map.mp hw
    exact mm_ly0 k (List.mem_range.mp hk), by decide +kernel, by decide +kernel, by decide +kernel, rfl⟩
theorem mm_ly1 : ∀ k, k < 4 → u_lay "java/lang/StringBuilder" mm_T1 k ∈ mm_all := fun k hk => match k, hk with
  | 0, _ => mm_w1 (i := 74) rfl rfl
  | 1, _ => mm_w1 (i := 76) rfl rfl
  | 2, _ => mm_w1 (i := 78) rfl rfl
  | 3, _ => mm_w1 (i := 80) rfl rfl
  | k + 4, h => absurd h (by omega)
theorem mm_ck1 : ∃ ty : Nat → FieldType, (∀ w ∈ u_ws "java/lang/StringBuilder" mm_T1 4, w ∈ mm_all) ∧ (∀ k, k < 4 → parseFieldDescriptor (mm_T1 k).2.2.1 = some (ty k)) ∧ (∀ a, a < 4 → ∀ b, b < 4 → a ≠ b → (mm_T1 a).2.1 ≠ (mm_T1 b).2.1) ∧ (∀ j, j < 4 → defaultValue (ty j) = vp_V (mm_df 1) j) ∧ (mm_df 1).length = 4 :=
  ⟨mm_t1, fun w hw => by
    obtain ⟨k, hk, rfl⟩ := List.mem_map.mp hw
    exact mm_ly1 k (List.mem_range.mp hk), by decide +kernel, by decide +kernel, by decide +kernel, rfl⟩
theorem mm_ly2 : ∀ k, k < 3 → u_lay "java/util/ArrayList" mm_T2 k ∈ mm_all := fun k hk => match k, hk with
  | 0, _ => mm_w1 (i := 121) rfl rfl
  | 1, _ => mm_w1 (i := 123) rfl rfl
  | 2, _ => mm_w1 (i := 125) rfl rfl
  | k + 3, h => absurd h (by omega)
theorem mm_ck2 : ∃ ty : Nat → FieldType, (∀ w ∈ u_ws "java/util/ArrayList" mm_T2 3, w ∈ mm_all) ∧ (∀ k, k < 3 → parseFieldDescriptor (mm_T2 k).2.2.1 = some (ty k)) ∧ (∀ a, a < 3 → ∀ b, b < 3 → a ≠ b → (mm_T2 a).2.1 ≠ (mm_T2 b).2.1) ∧ (∀ j, j < 3 → defaultValue (ty j) = vp_V (mm_df 2) j) ∧ (mm_df 2).length = 3 :=
  ⟨mm_t2, fun w hw => by
    obtain ⟨k, hk, rfl⟩ := List.mem_map.mp hw
    exact mm_ly2 k (List.mem_range.mp hk), by decide +kernel, by decide +kernel, by decide +kernel, rfl⟩
theorem mm_ly3 : ∀ k, k < 8 → u_lay "StubServer" mm_T3 k ∈ mm_all := fun k hk => match k, hk with
  | 0, _ => mm_w1 (i := 237) rfl rfl
  | 1, _ => mm_w1 (i := 239) rfl rfl
  | 2, _ => mm_w2 (i := 1) rfl rfl
  | 3, _ => mm_w2 (i := 3) rfl rfl
  | 4, _ => mm_w2 (i := 5) rfl rfl
  | 5, _ => mm_w2 (i := 7) rfl rfl
  | 6, _ => mm_w2 (i := 9) rfl rfl
  | 7, _ => mm_w2 (i := 11) rfl rfl
  | k + 8, h => absurd h (by omega)
theorem mm_ck3 : ∃ ty : Nat → FieldType, (∀ w ∈ u_ws "StubServer" mm_T3 8, w ∈ mm_all) ∧ (∀ k, k < 8 → parseFieldDescriptor (mm_T3 k).2.2.1 = some (ty k)) ∧ (∀ a, a < 8 → ∀ b, b < 8 → a ≠ b → (mm_T3 a).2.1 ≠ (mm_T3 b).2.1) ∧ (∀ j, j < 8 → defaultValue (ty j) = vp_V (mm_df 3) j) ∧ (mm_df 3).length = 8 :=
  ⟨mm_t3, fun w hw => by
    obtain ⟨k, hk, rfl⟩ := List.mem_map.mp hw
    exact mm_ly3 k (List.mem_range.mp hk), by decide +kernel, by decide +kernel, by decide +kernel, rfl⟩
theorem mm_ly4 : ∀ k, k < 3 → u_lay "StubServer$Connection" mm_T4 k ∈ mm_all := fun k hk => match k, hk with
  | 0, _ => mm_w1 (i := 218) rfl rfl
  | 1, _ => mm_w1 (i := 220) rfl rfl
  | 2, _ => mm_w1 (i := 222) rfl rfl
  | k + 3, h => absurd h (by omega)
theorem mm_ck4 : ∃ ty : Nat → FieldType, (∀ w ∈ u_ws "StubServer$Connection" mm_T4 3, w ∈ mm_all) ∧ (∀ k, k < 3 → parseFieldDescriptor (mm_T4 k).2.2.1 = some (ty k)) ∧ (∀ a, a < 3 → ∀ b, b < 3 → a ≠ b → (mm_T4 a).2.1 ≠ (mm_T4 b).2.1) ∧ (∀ j, j < 3 → defaultValue (ty j) = vp_V (mm_df 4) j) ∧ (mm_df 4).length = 3 :=
  ⟨mm_t4, fun w hw => by
    obtain ⟨k, hk, rfl⟩ := List.mem_map.mp hw
    exact mm_ly4 k (List.mem_range.mp hk), by decide +kernel, by decide +kernel, by decide +kernel, rfl⟩
theorem mm_ly5 : ∀ k, k < 11 → u_lay "StubServer$Reader" mm_T5 k ∈ mm_all := fun k hk => match k, hk with
  | 0, _ => mm_w1 (i := 187) rfl rfl
  | 1, _ => mm_w1 (i := 189) rfl rfl
  | 2, _ => mm_w1 (i := 191) rfl rfl
  | 3, _ => mm_w1 (i := 193) rfl rfl
  | 4, _ => mm_w1 (i := 195) rfl rfl
  | 5, _ => mm_w1 (i := 197) rfl rfl
  | 6, _ => mm_w1 (i := 199) rfl rfl
  | 7, _ => mm_w1 (i := 201) rfl rfl
  | 8, _ => mm_w1 (i := 203) rfl rfl
  | 9, _ => mm_w1 (i := 205) rfl rfl
  | 10, _ => mm_w1 (i := 207) rfl rfl
  | k + 11, h => absurd h (by omega)
theorem mm_ck5 : ∃ ty : Nat → FieldType, (∀ w ∈ u_ws "StubServer$Reader" mm_T5 11, w ∈ mm_all) ∧ (∀ k, k < 11 → parseFieldDescriptor (mm_T5 k).2.2.1 = some (ty k)) ∧ (∀ a, a < 11 → ∀ b, b < 11 → a ≠ b → (mm_T5 a).2.1 ≠ (mm_T5 b).2.1) ∧ (∀ j, j < 11 → defaultValue (ty j) = vp_V (mm_df 5) j) ∧ (mm_df 5).length = 11 :=
  ⟨mm_t5, fun w hw => by
    obtain ⟨k, hk, rfl⟩ := List.mem_map.mp hw
    exact mm_ly5 k (List.mem_range.mp hk), by decide +kernel, by decide +kernel, by decide +kernel, rfl⟩
theorem mm_ly6 : ∀ k, k < 1 → u_lay "StubServer$RequestLine" mm_T6 k ∈ mm_all := fun k hk => match k, hk with
  | 0, _ => mm_w1 (i := 93) rfl rfl
  | k + 1, h => absurd h (by omega)
theorem mm_ck6 : ∃ ty : Nat → FieldType, (∀ w ∈ u_ws "StubServer$RequestLine" mm_T6 1, w ∈ mm_all) ∧ (∀ k, k < 1 → parseFieldDescriptor (mm_T6 k).2.2.1 = some (ty k)) ∧ (∀ a, a < 1 → ∀ b, b < 1 → a ≠ b → (mm_T6 a).2.1 ≠ (mm_T6 b).2.1) ∧ (∀ j, j < 1 → defaultValue (ty j) = vp_V (mm_df 6) j) ∧ (mm_df 6).length = 1 :=
  ⟨mm_t6, fun w hw => by
    obtain ⟨k, hk, rfl⟩ := List.mem_map.mp hw
    exact mm_ly6 k (List.mem_range.mp hk), by decide +kernel, by decide +kernel, by decide +kernel, rfl⟩
theorem mm_ly7 : ∀ k, k < 6 → u_lay "StubServer$Request" mm_T7 k ∈ mm_all := fun k hk => match k, hk with
  | 0, _ => mm_w1 (i := 163) rfl rfl
  | 1, _ => mm_w1 (i := 165) rfl rfl
  | 2, _ => mm_w1 (i := 167) rfl rfl
  | 3, _ => mm_w1 (i := 169) rfl rfl
  | 4, _ => mm_w1 (i := 171) rfl rfl
  | 5, _ => mm_w1 (i := 173) rfl rfl
  | k + 6, h => absurd h (by omega)
theorem mm_ck7 : ∃ ty : Nat → FieldType, (∀ w ∈ u_ws "StubServer$Request" mm_T7 6, w ∈ mm_all) ∧ (∀ k, k < 6 → parseFieldDescriptor (mm_T7 k).2.2.1 = some (ty k)) ∧ (∀ a, a < 6 → ∀ b, b < 6 → a ≠ b → (mm_T7 a).2.1 ≠ (mm_T7 b).2.1) ∧ (∀ j, j < 6 → defaultValue (ty j) = vp_V (mm_df 7) j) ∧ (mm_df 7).length = 6 :=
  ⟨mm_t7, fun w hw => by
    obtain ⟨k, hk, rfl⟩ := List.mem_map.mp hw
    exact mm_ly7 k (List.mem_range.mp hk), by decide +kernel, by decide +kernel, by decide +kernel, rfl⟩
theorem mm_ly8 : ∀ k, k < 2 → u_lay "StubServer$Part" mm_T8 k ∈ mm_all := fun k hk => match k, hk with
  | 0, _ => mm_w1 (i := 143) rfl rfl
  | 1, _ => mm_w1 (i := 145) rfl rfl
  | k + 2, h => absurd h (by omega)
theorem mm_ck8 : ∃ ty : Nat → FieldType, (∀ w ∈ u_ws "StubServer$Part" mm_T8 2, w ∈ mm_all) ∧ (∀ k, k < 2 → parseFieldDescriptor (mm_T8 k).2.2.1 = some (ty k)) ∧ (∀ a, a < 2 → ∀ b, b < 2 → a ≠ b → (mm_T8 a).2.1 ≠ (mm_T8 b).2.1) ∧ (∀ j, j < 2 → defaultValue (ty j) = vp_V (mm_df 8) j) ∧ (mm_df 8).length = 2 :=
  ⟨mm_t8, fun w hw => by
    obtain ⟨k, hk, rfl⟩ := List.mem_map.mp hw
    exact mm_ly8 k (List.mem_range.mp hk), by decide +kernel, by decide +kernel, by decide +kernel, rfl⟩
theorem mm_ly9 : ∀ k, k < 5 → u_lay "StubServer$Matcher" mm_T9 k ∈ mm_all := fun k hk => match k, hk with
  | 0, _ => mm_w5 (i := 65) rfl rfl
  | 1, _ => mm_w5 (i := 67) rfl rfl
  | 2, _ => mm_w5 (i := 69) rfl rfl
  | 3, _ => mm_w5 (i := 71) rfl rfl
  | 4, _ => mm_w5 (i := 73) rfl rfl
  | k + 5, h => absurd h (by omega)
theorem mm_ck9 : ∃ ty : Nat → FieldType, (∀ w ∈ u_ws "StubServer$Matcher" mm_T9 5, w ∈ mm_all) ∧ (∀ k, k < 5 → parseFieldDescriptor (mm_T9 k).2.2.1 = some (ty k)) ∧ (∀ a, a < 5 → ∀ b, b < 5 → a ≠ b → (mm_T9 a).2.1 ≠ (mm_T9 b).2.1) ∧ (∀ j, j < 5 → defaultValue (ty j) = vp_V (mm_df 9) j) ∧ (mm_df 9).length = 5 :=
  ⟨mm_t9, fun w hw => by
    obtain ⟨k, hk, rfl⟩ := List.mem_map.mp hw
    exact mm_ly9 k (List.mem_range.mp hk), by decide +kernel, by decide +kernel, by decide +kernel, rfl⟩
theorem mm_ly10 : ∀ k, k < 9 → u_lay "StubServer$Pattern" mm_T10 k ∈ mm_all := fun k hk => match k, hk with
  | 0, _ => mm_w5 (i := 106) rfl rfl
  | 1, _ => mm_w5 (i := 108) rfl rfl
  | 2, _ => mm_w5 (i := 110) rfl rfl
  | 3, _ => mm_w5 (i := 112) rfl rfl
  | 4, _ => mm_w5 (i := 114) rfl rfl
  | 5, _ => mm_w5 (i := 116) rfl rfl
  | 6, _ => mm_w5 (i := 118) rfl rfl
  | 7, _ => mm_w5 (i := 120) rfl rfl
  | 8, _ => mm_w5 (i := 122) rfl rfl
  | k + 9, h => absurd h (by omega)
theorem mm_ck10 : ∃ ty : Nat → FieldType, (∀ w ∈ u_ws "StubServer$Pattern" mm_T10 9, w ∈ mm_all) ∧ (∀ k, k < 9 → parseFieldDescriptor (mm_T10 k).2.2.1 = some (ty k)) ∧ (∀ a, a < 9 → ∀ b, b < 9 → a ≠ b → (mm_T10 a).2.1 ≠ (mm_T10 b).2.1) ∧ (∀ j, j < 9 → defaultValue (ty j) = vp_V (mm_df 10) j) ∧ (mm_df 10).length = 9 :=
  ⟨mm_t10, fun w hw => by
    obtain ⟨k, hk, rfl⟩ := List.mem_map.mp hw
    exact mm_ly10 k (List.mem_range.mp hk), by decide +kernel, by decide +kernel, by decide +kernel, rfl⟩
theorem mm_ly11 : ∀ k, k < 1 → u_lay "StubServer$Template" mm_T11 k ∈ mm_all := fun k hk => match k, hk with
  | 0, _ => mm_w5 (i := 150) rfl rfl
  | k + 1, h => absurd h (by omega)
theorem mm_ck11 : ∃ ty : Nat → FieldType, (∀ w ∈ u_ws "StubServer$Template" mm_T11 1, w ∈ mm_all) ∧ (∀ k, k < 1 → parseFieldDescriptor (mm_T11 k).2.2.1 = some (ty k)) ∧ (∀ a, a < 1 → ∀ b, b < 1 → a ≠ b → (mm_T11 a).2.1 ≠ (mm_T11 b).2.1) ∧ (∀ j, j < 1 → defaultValue (ty j) = vp_V (mm_df 11) j) ∧ (mm_df 11).length = 1 :=
  ⟨mm_t11, fun w hw => by
    obtain ⟨k, hk, rfl⟩ := List.mem_map.mp hw
    exact mm_ly11 k (List.mem_range.mp hk), by decide +kernel, by decide +kernel, by decide +kernel, rfl⟩
theorem mm_ly12 : ∀ k, k < 6 → u_lay "StubServer$Stub" mm_T12 k ∈ mm_all := fun k hk => match k, hk with
  | 0, _ => mm_w5 (i := 164) rfl rfl
  | 1, _ => mm_w5 (i := 166) rfl rfl
  | 2, _ => mm_w5 (i := 168) rfl rfl
  | 3, _ => mm_w5 (i := 170) rfl rfl
  | 4, _ => mm_w5 (i := 172) rfl rfl
  | 5, _ => mm_w5 (i := 174) rfl rfl
  | k + 6, h => absurd h (by omega)
theorem mm_ck12 : ∃ ty : Nat → FieldType, (∀ w ∈ u_ws "StubServer$Stub" mm_T12 6, w ∈ mm_all) ∧ (∀ k, k < 6 → parseFieldDescriptor (mm_T12 k).2.2.1 = some (ty k)) ∧ (∀ a, a < 6 → ∀ b, b < 6 → a ≠ b → (mm_T12 a).2.1 ≠ (mm_T12 b).2.1) ∧ (∀ j, j < 6 → defaultValue (ty j) = vp_V (mm_df 12) j) ∧ (mm_df 12).length = 6 :=
  ⟨mm_t12, fun w hw => by
    obtain ⟨k, hk, rfl⟩ := List.mem_map.mp hw
    exact mm_ly12 k (List.mem_range.mp hk), by decide +kernel, by decide +kernel, by decide +kernel, rfl⟩
theorem mm_ly13 : ∀ k, k < 3 → u_lay "StubServer$Scene" mm_T13 k ∈ mm_all := fun k hk => match k, hk with
  | 0, _ => mm_w5 (i := 203) rfl rfl
  | 1, _ => mm_w5 (i := 205) rfl rfl
  | 2, _ => mm_w5 (i := 207) rfl rfl
  | k + 3, h => absurd h (by omega)
theorem mm_ck13 : ∃ ty : Nat → FieldType, (∀ w ∈ u_ws "StubServer$Scene" mm_T13 3, w ∈ mm_all) ∧ (∀ k, k < 3 → parseFieldDescriptor (mm_T13 k).2.2.1 = some (ty k)) ∧ (∀ a, a < 3 → ∀ b, b < 3 → a ≠ b → (mm_T13 a).2.1 ≠ (mm_T13 b).2.1) ∧ (∀ j, j < 3 → defaultValue (ty j) = vp_V (mm_df 13) j) ∧ (mm_df 13).length = 3 :=
  ⟨mm_t13, fun w hw => by
    obtain ⟨k, hk, rfl⟩ := List.mem_map.mp hw
    exact mm_ly13 k (List.mem_range.mp hk), by decide +kernel, by decide +kernel, by decide +kernel, rfl⟩
theorem mm_ly14 : ∀ k, k < 43 → u_lay "StubServerModel" mm_T14 k ∈ mm_all := fun k hk => match k, hk with
  | 0, _ => mm_w6 (i := 60) rfl rfl
  | 1, _ => mm_w6 (i := 62) rfl rfl
  | 2, _ => mm_w6 (i := 64) rfl rfl
  | 3, _ => mm_w6 (i := 66) rfl rfl
  | 4, _ => mm_w6 (i := 68) rfl rfl
  | 5, _ => mm_w6 (i := 70) rfl rfl
  | 6, _ => mm_w6 (i := 72) rfl rfl
  | 7, _ => mm_w6 (i := 74) rfl rfl
  | 8, _ => mm_w6 (i := 76) rfl rfl
  | 9, _ => mm_w6 (i := 78) rfl rfl
  | 10, _ => mm_w6 (i := 80) rfl rfl
  | 11, _ => mm_w6 (i := 82) rfl rfl
  | 12, _ => mm_w6 (i := 84) rfl rfl
  | 13, _ => mm_w6 (i := 86) rfl rfl
  | 14, _ => mm_w6 (i := 88) rfl rfl
  | 15, _ => mm_w6 (i := 90) rfl rfl
  | 16, _ => mm_w6 (i := 92) rfl rfl
  | 17, _ => mm_w6 (i := 94) rfl rfl
  | 18, _ => mm_w6 (i := 96) rfl rfl
  | 19, _ => mm_w6 (i := 98) rfl rfl
  | 20, _ => mm_w6 (i := 100) rfl rfl
  | 21, _ => mm_w6 (i := 102) rfl rfl
  | 22, _ => mm_w6 (i := 104) rfl rfl
  | 23, _ => mm_w6 (i := 106) rfl rfl
  | 24, _ => mm_w6 (i := 108) rfl rfl
  | 25, _ => mm_w6 (i := 110) rfl rfl
  | 26, _ => mm_w6 (i := 112) rfl rfl
  | 27, _ => mm_w6 (i := 114) rfl rfl
  | 28, _ => mm_w6 (i := 116) rfl rfl
  | 29, _ => mm_w6 (i := 118) rfl rfl
  | 30, _ => mm_w6 (i := 120) rfl rfl
  | 31, _ => mm_w6 (i := 122) rfl rfl
  | 32, _ => mm_w6 (i := 124) rfl rfl
  | 33, _ => mm_w6 (i := 126) rfl rfl
  | 34, _ => mm_w6 (i := 128) rfl rfl
  | 35, _ => mm_w6 (i := 130) rfl rfl
  | 36, _ => mm_w6 (i := 132) rfl rfl
  | 37, _ => mm_w6 (i := 134) rfl rfl
  | 38, _ => mm_w6 (i := 136) rfl rfl
  | 39, _ => mm_w6 (i := 138) rfl rfl
  | 40, _ => mm_w6 (i := 140) rfl rfl
  | 41, _ => mm_w6 (i := 142) rfl rfl
  | 42, _ => mm_w6 (i := 144) rfl rfl
  | k + 43, h => absurd h (by omega)
theorem mm_ck14 : ∃ ty : Nat → FieldType, (∀ w ∈ u_ws "StubServerModel" mm_T14 43, w ∈ mm_all) ∧ (∀ k, k < 43 → parseFieldDescriptor (mm_T14 k).2.2.1 = some (ty k)) ∧ (∀ a, a < 43 → ∀ b, b < 43 → a ≠ b → (mm_T14 a).2.1 ≠ (mm_T14 b).2.1) ∧ (∀ j, j < 43 → defaultValue (ty j) = vp_V (mm_df 14) j) ∧ (mm_df 14).length = 43 :=
  ⟨mm_t14, fun w hw => by
    obtain ⟨k, hk, rfl⟩ := List.mem_map.mp hw
    exact mm_ly14 k (List.mem_range.mp hk), by decide +kernel, by decide +kernel, by decide +kernel, rfl⟩
theorem mm_CK {ci N : Nat} {C : String} {T : u_T} (h : mm_Cl[ci]? = some (C, T, N)) : ∃ ty : Nat → FieldType, (∀ w ∈ u_ws C T N, w ∈ mm_all) ∧ (∀ k, k < N → parseFieldDescriptor (T k).2.2.1 = some (ty k)) ∧ (∀ a, a < N → ∀ b, b < N → a ≠ b → (T a).2.1 ≠ (T b).2.1) ∧ (∀ j, j < N → defaultValue (ty j) = vp_V (mm_df ci) j) ∧ (mm_df ci).length = N := by
  match ci, h with
  | 0, h =>
    cases (show some ("java/lang/String", mm_T0, 4) = some (C, T, N) from h)
    exact mm_ck0
  | 1, h =>
    cases (show some ("java/lang/StringBuilder", mm_T1, 4) = some (C, T, N) from h)
    exact mm_ck1
  | 2, h =>
    cases (show some ("java/util/ArrayList", mm_T2, 3) = some (C, T, N) from h)
    exact mm_ck2
  | 3, h =>
    cases (show some ("StubServer", mm_T3, 8) = some (C, T, N) from h)
    exact mm_ck3
  | 4, h =>
    cases (show some ("StubServer$Connection", mm_T4, 3) = some (C, T, N) from h)
    exact mm_ck4
  | 5, h =>
    cases (show some ("StubServer$Reader", mm_T5, 11) = some (C, T, N) from h)
    exact mm_ck5
  | 6, h =>
    cases (show some ("StubServer$RequestLine", mm_T6, 1) = some (C, T, N) from h)
    exact mm_ck6
  | 7, h =>
    cases (show some ("StubServer$Request", mm_T7, 6) = some (C, T, N) from h)
    exact mm_ck7
  | 8, h =>
    cases (show some ("StubServer$Part", mm_T8, 2) = some (C, T, N) from h)
    exact mm_ck8
  | 9, h =>
    cases (show some ("StubServer$Matcher", mm_T9, 5) = some (C, T, N) from h)
    exact mm_ck9
  | 10, h =>
    cases (show some ("StubServer$Pattern", mm_T10, 9) = some (C, T, N) from h)
    exact mm_ck10
  | 11, h =>
    cases (show some ("StubServer$Template", mm_T11, 1) = some (C, T, N) from h)
    exact mm_ck11
  | 12, h =>
    cases (show some ("StubServer$Stub", mm_T12, 6) = some (C, T, N) from h)
    exact mm_ck12
  | 13, h =>
    cases (show some ("StubServer$Scene", mm_T13, 3) = some (C, T, N) from h)
    exact mm_ck13
  | 14, h =>
    cases (show some ("StubServerModel", mm_T14, 43) = some (C, T, N) from h)
    exact mm_ck14
  | ci + 15, h =>
    exact absurd (show (none : Option vw_C) = some (C, T, N) from h) (by simp)
/-- kinds of rows: 0 int, 1 byte, 2 char, 3 boolean, 4 Object, 5 Connection; the same from 8 on, for those that are read only -/
def mm_ty (t : Nat) : FieldType := match t % 8 with
  | 1 => .byte
  | 2 => .char
  | 3 => .boolean
  | 4 => .object "java/lang/Object"
  | 5 => .object "StubServer$Connection"
  | _ => .int
/-- java/lang/String's number -/
def mm_sc : Nat := 0
theorem mm_scAt : mm_Cl[mm_sc]? = some ("java/lang/String", mm_T0, 4) := rfl
/-- what stood before the law began: 0 the script, 1 to 7 texts, 8 to 14 their bytes, 15 and 16 the digits, 17 ArrayList's empty row -/
def mm_Ol (xs : List Int32) : List mm_E := [.inl (8, xs.length, .inl (fun j => xs.getD j 0)),
  .inr (0, [.ref 8, .int 0]),
  .inr (0, [.ref 9, .int 0]),
  .inr (0, [.ref 10, .int 0]),
  .inr (0, [.ref 11, .int 0]),
  .inr (0, [.ref 12, .int 0]),
  .inr (0, [.ref 13, .int 0]),
  .inr (0, [.ref 14, .int 0]),
  .inl (9, 0, .inl (fun j => ([] : List Int32).getD j 0)),
  .inl (9, 3, .inl (fun j => ([32, 72, 49] : List Int32).getD j 0)),
  .inl (9, 3, .inl (fun j => ([108, 101, 110] : List Int32).getD j 0)),
  .inl (9, 7, .inl (fun j => ([99, 104, 117, 110, 107, 101, 100] : List Int32).getD j 0)),
  .inl (9, 3, .inl (fun j => ([121, 101, 115] : List Int32).getD j 0)),
  .inl (9, 4, .inl (fun j => ([99, 111, 110, 110] : List Int32).getD j 0)),
  .inl (9, 5, .inl (fun j => ([99, 108, 111, 115, 101] : List Int32).getD j 0)),
  .inl (9, 100, .inl (fun j => nI (48 + j % 10))),
  .inl (9, 100, .inl (fun j => nI (48 + j / 10))),
  .inl (12, 0, .inr (.inr (.inr (.inr (fun _ => none)))))]
def mm_O (xs : List Int32) (k : Nat) : Option mm_E := (mm_Ol xs)[k]?
theorem mm_Oo {xs : List Int32} {k ci : Nat} {fs : List Value} (h : mm_O xs k = some (.inr (ci, fs))) : ci = mm_sc ∧ fs.length = 2 := by
  have hm := List.mem_of_getElem? h
  simp only [mm_Ol, List.mem_cons, List.not_mem_nil, or_false] at hm
  rcases hm with hm | hm | hm | hm | hm | hm | hm | hm | hm | hm | hm | hm | hm | hm | hm | hm | hm | hm <;> first | (cases hm; done) | (cases hm; exact ⟨rfl, rfl⟩)
theorem mm_Oa {xs : List Int32} {k t n : Nat} {x : mm_C} (h : mm_O xs k = some (.inl (t, n, x))) : 8 ≤ t ∧ t < 16 := by
  have hm := List.mem_of_getElem? h
  simp only [mm_Ol, List.mem_cons, List.not_mem_nil, or_false] at hm
  rcases hm with hm | hm | hm | hm | hm | hm | hm | hm | hm | hm | hm | hm | hm | hm | hm | hm | hm | hm <;> first | (cases hm; done) | (cases hm; omega)
def mm_sts : List (String × String × String × Value) := [("java/lang/String", "COMPACT_STRINGS", "Z", .int 1), ("java/lang/StringUTF16", "$assertionsDisabled", "Z", .int 1), ("java/lang/Integer", "DigitOnes", "[B", .ref 15), ("java/lang/Integer", "DigitTens", "[B", .ref 16), ("java/util/ArrayList", "DEFAULTCAPACITY_EMPTY_ELEMENTDATA", "[Ljava/lang/Object;", .ref 17)]
def mm_strs : List (String × Nat × String × Nat) := [("StubServer$Request", 21, "", 1), ("StubServer$RequestLine", 26, " H1", 2), ("java/lang/StringLatin1", 151, "", 1), ("java/lang/StringUTF16", 295, "", 1), ("StubServer$RequestLine", 57, "", 1), ("java/lang/String", 7, "", 1), ("StubServer$Reader", 180, "len", 3), ("StubServer$Reader", 185, "chunked", 4), ("StubServer$Reader", 193, "yes", 5), ("StubServer$Reader", 62, "", 1), ("StubServer", 184, "", 1), ("StubServer$Request", 62, "conn", 6), ("StubServer$Request", 67, "close", 7), ("StubServer$Connection", 34, "", 1), ("StubServer$Matcher", 29, "", 1)]
def mm_aos : List String := ["StubServer$Connection", "java/lang/Object"]
def mm_casts : List (String × String) := [("[B", "java/lang/Cloneable"), ("StubServer$Stub", "StubServer$Stub"), ("StubServer$Matcher", "StubServer$Matcher"), ("StubServer$Part", "StubServer$Part"), ("StubServer$Request", "StubServer$Request"), ("StubServer", "java/lang/Object"), ("StubServer$Connection", "java/lang/Object"), ("StubServer$Reader", "java/lang/Object"), ("StubServer$RequestLine", "java/lang/Object"), ("StubServer$Request", "java/lang/Object"), ("StubServer$Part", "java/lang/Object"), ("StubServerModel", "java/lang/Object"), ("java/lang/String", "java/lang/Object"), ("StubServer$Matcher", "java/lang/Object"), ("StubServer$Pattern", "java/lang/Object"), ("StubServer$Stub", "java/lang/Object"), ("StubServer$Template", "java/lang/Object"), ("StubServer$Scene", "java/lang/Object")]
def mm_nests : List (String × Nat × MethodName × String) := [("StubServer", 15, ⟨"StubServer$Connection", "<init>", "()V"⟩, "StubServer"), ("StubServer$Connection", 9, ⟨"StubServer$Reader", "<init>", "()V"⟩, "StubServer"), ("StubServer$Reader", 21, ⟨"StubServer$RequestLine", "<init>", "()V"⟩, "StubServer"), ("StubServer$Reader", 28, ⟨"StubServer$Request", "<init>", "()V"⟩, "StubServer")]
theorem mm_dv0 (ty : FieldType) (f : Value → Value) (h0 : f .null = .null) (h1 : ∀ x, f (.int x) = .int x) (h2 : ∀ x, f (.long x) = .long x) (h3 : ∀ x, f (.float x) = .float x) (h4 : ∀ x, f (.double x) = .double x) : defaultValue ty = f (defaultValue ty) := by
  cases ty <;> simp [defaultValue, h0, h1, h2, h3, h4]
