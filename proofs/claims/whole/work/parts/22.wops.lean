/-! What a step asks of the view, and the rows that walk by it. A reference is an Option Nat. -/
theorem wr_cat (r : Option Nat) : (va_rf r).category = 1 := by cases r <;> rfl
theorem wr_rv (r : Option Nat) : va_rf r = .null ∨ ∃ a, va_rf r = .ref a := by
  cases r with
  | none => exact Or.inl rfl
  | some a => exact Or.inr ⟨a, rfl⟩
theorem wn_O (r : Option Nat) (n : String) (G : mm_G) : narrow (.object n) (mm_v G (va_rf r)) = mm_v G (va_rf r) ∧ fits (.object n) (mm_v G (va_rf r)) = true := by cases r <;> exact ⟨rfl, rfl⟩
theorem wn_A (r : Option Nat) (n : FieldType) (G : mm_G) : narrow (.array n) (mm_v G (va_rf r)) = mm_v G (va_rf r) ∧ fits (.array n) (mm_v G (va_rf r)) = true := by cases r <;> exact ⟨rfl, rfl⟩
theorem wn_I (x : Int32) (G : mm_G) : narrow .int (mm_v G (.int x)) = mm_v G (.int x) ∧ fits .int (mm_v G (.int x)) = true := ⟨rfl, rfl⟩
theorem wn_J (x : Int64) (G : mm_G) : narrow .long (mm_v G (.long x)) = mm_v G (.long x) ∧ fits .long (mm_v G (.long x)) = true := ⟨rfl, rfl⟩
theorem wn_Z {x : Int32} (hx : x = 0 ∨ x = 1) (G : mm_G) : narrow .boolean (mm_v G (.int x)) = mm_v G (.int x) ∧ fits .boolean (mm_v G (.int x)) = true := by rcases hx with rfl | rfl <;> exact ⟨rfl, rfl⟩
theorem wn_b {x : Int32} (hx : x = 0 ∨ x = 1) : narrow .boolean (.int x) = .int x := by rcases hx with rfl | rfl <;> rfl
/-- a number gets a name -/
def wL {α : Type} (e : α) (K : α → Prop) : Prop := K e
theorem wL.x {α : Type} {e : α} {K : α → Prop} (h : wL e K) : K e := h
def wD (r : Option Nat) (K : Nat → Prop) : Prop := ∃ a, r = some a ∧ K a
def wC (A : ab_H) (r : Option Nat) (ci : Nat) (K : Nat → Prop) : Prop := ∃ a fs, r = some a ∧ A a = some (oR (.inr (ci, fs))) ∧ K a
def wB (x : Int32) (K : Prop) : Prop := (x = 0 ∨ x = 1) ∧ K
def wX {α : Type} (kc ks : Nat) (W : Nat → Nat → (α → ab_H → Prop) → Prop) (K : α → ab_H → Nat → Nat → Prop) : Prop := ∃ c s, c ≤ kc ∧ s ≤ ks ∧ W c s (fun v A => K v A (kc - c) (ks - s))
def wXV (kc ks : Nat) (W : Nat → Nat → (ab_H → Prop) → Prop) (K : ab_H → Nat → Nat → Prop) : Prop := ∃ c s, c ≤ kc ∧ s ≤ ks ∧ W c s (fun A => K A (kc - c) (ks - s))
def wQI (G : mm_G) (Q : Int32 → ab_H → Prop) : Option Value → mm_H → Prop := fun r h' => ∃ v A', r = some (.int v) ∧ Vw G h' A' ∧ Q v A'
def wQJ (G : mm_G) (Q : Int64 → ab_H → Prop) : Option Value → mm_H → Prop := fun r h' => ∃ v A', r = some (.long v) ∧ Vw G h' A' ∧ Q v A'
def wQR (G : mm_G) (Q : Option Nat → ab_H → Prop) : Option Value → mm_H → Prop := fun r h' => ∃ v A', r = some (va_rf v) ∧ Vw G h' A' ∧ Q v A'
def wQV (G : mm_G) (Q : ab_H → Prop) : Option Value → mm_H → Prop := fun r h' => ∃ A', r = none ∧ Vw G h' A' ∧ Q A'
def wu (x y : Int32) : Int32 := (x.toUInt32 >>> (y.toUInt32 &&& Int32.toUInt32 31)).toInt32
def wch (x : Int32) : Int32 := (x.toUInt32 % 65536).toInt32
def wsl (x : Int64) (y : Int32) : Int64 := x <<< (y.toInt64 &&& 63)
def wsr (x : Int64) (y : Int32) : Int64 := x >>> (y.toInt64 &&& 63)
/-- less is known of the locals -/
def mm_le : List (Option Value) → List (Option Value) → Prop
  | [], [] => True
  | none :: L, _ :: L' => mm_le L L'
  | some v :: L, x :: L' => x = some v ∧ mm_le L L'
  | _, _ => False
theorem mm_le.at : ∀ {L L' : List (Option Value)}, mm_le L L' → L.length = L'.length ∧ ∀ (i : Nat) (v : Value), L[i]? = some (some v) → L'[i]? = some (some v)
  | [], [], _ => ⟨rfl, fun i v q => by simp at q⟩
  | [], _ :: _, q => absurd q id
  | none :: _, [], q => absurd q id
  | some _ :: _, [], q => absurd q id
  | none :: L, x :: L', q => by
    obtain ⟨h1, h2⟩ := mm_le.at (L := L) (L' := L') q
    refine ⟨by simp [h1], fun i v hi => ?_⟩
    cases i with
    | zero => simp at hi
    | succ i =>
      simp only [List.getElem?_cons_succ] at hi ⊢
      exact h2 i v hi
  | some w :: L, x :: L', q => by
    obtain ⟨h1, h2⟩ := mm_le.at (L := L) (L' := L') q.2
    refine ⟨by simp [h1], fun i v hi => ?_⟩
    cases i with
    | zero =>
      simp only [List.getElem?_cons_zero, Option.some.injEq] at hi ⊢
      rw [q.1, hi]
    | succ i =>
      simp only [List.getElem?_cons_succ] at hi ⊢
      exact h2 i v hi
theorem mm_drop {l : Launch} {G : mm_G} {M : mm_M} {kc ks pc : Nat} {L L' : List (Option Value)} {st : List Value} {h : mm_H} {Q : Option Value → mm_H → Prop} (hle : mm_le L' L) (k : mm_V l G M kc ks pc L' st h Q) : mm_V l G M kc ks pc L st h Q := by
  intro p e R s m args below meth c H locs cells slots ls hX hR hS hl hc hs
  obtain ⟨e1, e2⟩ := hle.at
  refine k p e R s m args below meth c H locs cells slots ls hX hR hS ⟨hl.1, hl.2.1, ?_, fun i v hi => ?_⟩ hc hs
  · have := hl.2.2.1
    rw [List.length_map] at this ⊢
    rw [e1]
    exact this
  · refine hl.2.2.2 i v ?_
    rw [List.getElem?_map] at hi ⊢
    cases hL : L'[i]? with
    | none =>
      rw [hL] at hi
      cases hi
    | some x =>
      cases x with
      | none =>
        rw [hL] at hi
        cases hi
      | some w =>
        rw [e2 i w hL]
        rw [hL] at hi
        exact hi
section WO
variable {l : Launch} {G : mm_G} {M : mm_M} {kc ks pc pc' index : Nat} {L : List (Option Value)} {st : List Value} {h : mm_H} {Q : Option Value → mm_H → Prop} {A : ab_H} {r : Option Nat}
theorem wr_aload_n {q : Fin 4} {i : Nat} (r : Option Nat) (hd : decode M.2.1 pc = .ok (.aload_n q, 1)) (hp : pc + 1 = pc') (hi : (q : Nat) = i) (hv : L[i]? = some (some (va_rf r))) (k : mm_V l G M kc ks pc' L (va_rf r :: st) h Q) : mm_V l G M kc ks pc L st h Q := by
  cases r with
  | none => exact mm_aload_nN hd hp hi hv k
  | some a => exact mm_aload_n hd hp hi hv k
theorem wr_aload {i : Nat} (r : Option Nat) (hd : decode M.2.1 pc = .ok (.aload i, 2)) (hp : pc + 2 = pc') (hv : L[i]? = some (some (va_rf r))) (k : mm_V l G M kc ks pc' L (va_rf r :: st) h Q) : mm_V l G M kc ks pc L st h Q := by
  cases r with
  | none => exact mm_aloadN hd hp hv k
  | some a => exact mm_aload hd hp hv k
theorem wr_astore_n {q : Fin 4} {i : Nat} (r : Option Nat) (hd : decode M.2.1 pc = .ok (.astore_n q, 1)) (hp : pc + 1 = pc') (hi : (q : Nat) = i) (hn : i < M.2.2.1) (L' : List (Option Value)) (hL : mm_st L i (va_rf r) = L') (k : mm_V l G M kc ks pc' L' st h Q) : mm_V l G M kc ks pc L (va_rf r :: st) h Q := by
  subst hL
  cases r with
  | none => exact mm_astore_nN hd hp hi hn k
  | some a => exact mm_astore_n hd hp hi hn k
theorem wr_astore {i : Nat} (r : Option Nat) (hd : decode M.2.1 pc = .ok (.astore i, 2)) (hp : pc + 2 = pc') (hn : i < M.2.2.1) (L' : List (Option Value)) (hL : mm_st L i (va_rf r) = L') (k : mm_V l G M kc ks pc' L' st h Q) : mm_V l G M kc ks pc L (va_rf r :: st) h Q := by
  subst hL
  cases r with
  | none => exact mm_astoreN hd hp hn k
  | some a => exact mm_astore hd hp hn k
theorem wr_null (hd : decode M.2.1 pc = .ok (.aconst_null, 1)) (hp : pc + 1 = pc') (k : mm_V l G M kc ks pc' L (va_rf none :: st) h Q) : mm_V l G M kc ks pc L st h Q := mm_null hd hp k
theorem wr_ldcS {k : Nat} {tx : String} (hd : decode M.2.1 pc = .ok (.ldc index, 2)) (hp : pc + 2 = pc') (hg : (M.1.cls, index, tx, k) ∈ mm_strs) (kk : mm_V l G M kc ks pc' L (va_rf (some k) :: st) h Q) : mm_V l G M kc ks pc L st h Q := mm_ldcS hd hp hg kk
theorem mm_ldc2 {v : Int64} (hd : decode M.2.1 pc = .ok (.ldc2_w index, 3)) (hp : pc + 3 = pc') (hg : Cond.constantLong M.1.cls index v ∈ mm_all) (kk : mm_V l G M kc ks pc' L (.long v :: st) h Q) : mm_V l G M kc ks pc L st h Q := by
  intro p e R s m args below meth c H locs cells slots ls hX hR hS hl hc hs
  subst hp
  exact lv_ldc2 hX.1 hX.2.1 hX.2.2.2.1 (hX.2.2.2.2.1 _ hg) hd (kk p e R s m args below meth c H locs cells slots ls hX hR hS hl hc hs)
theorem wr_ifnull {off : Int} {tgt : Nat} {T F : Prop} (hw : if r = none then T else F) (hd : decode M.2.1 pc = .ok (.ifnull off, 3)) (hp : pc + 3 = pc') (ht : (pc : Int) + off = (tgt : Int)) (kt : T → mm_V l G M kc ks tgt L st h Q) (kf : F → mm_V l G M kc ks pc' L st h Q) : mm_V l G M kc ks pc L (va_rf r :: st) h Q := by
  cases r with
  | none => exact mm_ifnullN hd ht (kt (by rw [if_pos rfl] at hw; exact hw))
  | some a => exact mm_ifnull hd hp (kf (by rw [if_neg (fun q => by cases q)] at hw; exact hw))
theorem wr_ifnonnull {off : Int} {tgt : Nat} {T F : Prop} (hw : if r = none then F else T) (hd : decode M.2.1 pc = .ok (.ifnonnull off, 3)) (hp : pc + 3 = pc') (ht : (pc : Int) + off = (tgt : Int)) (kt : T → mm_V l G M kc ks tgt L st h Q) (kf : F → mm_V l G M kc ks pc' L st h Q) : mm_V l G M kc ks pc L (va_rf r :: st) h Q := by
  cases r with
  | none => exact mm_ifnonnullN hd hp (kf (by rw [if_pos rfl] at hw; exact hw))
  | some a => exact mm_ifnonnull hd ht (kt (by rw [if_neg (fun q => by cases q)] at hw; exact hw))
theorem wr_iret {QI : Int32 → ab_H → Prop} {x : Int32} {ty : FieldType} (hV : Vw G h A) (hd : decode M.2.1 pc = .ok (.ireturn, 1)) (hr : M.2.2.2.1 = some ty) (hn : narrow ty (.int x) = .int x) (hw : QI x A) : mm_V l G M kc ks pc L [.int x] h (wQI G QI) := mm_iret hd hr hn ⟨x, A, rfl, hV, hw⟩
theorem wr_lret {QI : Int64 → ab_H → Prop} {x : Int64} (hV : Vw G h A) (hd : decode M.2.1 pc = .ok (.lreturn, 1)) (hr : M.2.2.2.1 = some .long) (hw : QI x A) : mm_V l G M kc ks pc L [.long x] h (wQJ G QI) := mm_lret hd hr ⟨x, A, rfl, hV, hw⟩
theorem wr_aret {QI : Option Nat → ab_H → Prop} {rt : FieldType} (hV : Vw G h A) (hd : decode M.2.1 pc = .ok (.areturn, 1)) (hr : M.2.2.2.1 = some rt) (hrt : (∃ n, rt = .object n) ∨ ∃ t, rt = .array t) (hw : QI r A) : mm_V l G M kc ks pc L [va_rf r] h (wQR G QI) := mm_aret hd hr hrt (wr_rv r) ⟨r, A, rfl, hV, hw⟩
theorem wr_vret {QI : ab_H → Prop} (hV : Vw G h A) (hd : decode M.2.1 pc = .ok (.return_, 1)) (hr : M.2.2.2.1 = none) (hw : QI A) : mm_V l G M kc ks pc L [] h (wQV G QI) := mm_vret hd hr ⟨A, rfl, hV, hw⟩
theorem wr_if_eq {x : Int32} {off : Int} {tgt : Nat} {T F : Prop} (hw : if x = 0 then T else F) (hd : decode M.2.1 pc = .ok (.ifCond .eq off, 3)) (hp : pc + 3 = pc') (ht : (pc : Int) + off = (tgt : Int)) (kt : T → mm_V l G M kc ks tgt L st h Q) (kf : F → mm_V l G M kc ks pc' L st h Q) : mm_V l G M kc ks pc L (.int x :: st) h Q :=
  mm_if_eq hd hp ht (fun q => kt (by rw [if_pos q] at hw; exact hw)) (fun q => kf (by rw [if_neg q] at hw; exact hw))
theorem wr_if_lt {x : Int32} {off : Int} {tgt : Nat} {T F : Prop} (hw : if x < 0 then T else F) (hd : decode M.2.1 pc = .ok (.ifCond .lt off, 3)) (hp : pc + 3 = pc') (ht : (pc : Int) + off = (tgt : Int)) (kt : T → mm_V l G M kc ks tgt L st h Q) (kf : F → mm_V l G M kc ks pc' L st h Q) : mm_V l G M kc ks pc L (.int x :: st) h Q :=
  mm_if_lt hd hp ht (fun q => kt (by rw [if_pos q] at hw; exact hw)) (fun q => kf (by rw [if_neg q] at hw; exact hw))
theorem wr_if_ge {x : Int32} {off : Int} {tgt : Nat} {T F : Prop} (hw : if 0 ≤ x then T else F) (hd : decode M.2.1 pc = .ok (.ifCond .ge off, 3)) (hp : pc + 3 = pc') (ht : (pc : Int) + off = (tgt : Int)) (kt : T → mm_V l G M kc ks tgt L st h Q) (kf : F → mm_V l G M kc ks pc' L st h Q) : mm_V l G M kc ks pc L (.int x :: st) h Q :=
  mm_if_ge hd hp ht (fun q => kt (by rw [if_pos q] at hw; exact hw)) (fun q => kf (by rw [if_neg q] at hw; exact hw))
theorem wr_if_gt {x : Int32} {off : Int} {tgt : Nat} {T F : Prop} (hw : if 0 < x then T else F) (hd : decode M.2.1 pc = .ok (.ifCond .gt off, 3)) (hp : pc + 3 = pc') (ht : (pc : Int) + off = (tgt : Int)) (kt : T → mm_V l G M kc ks tgt L st h Q) (kf : F → mm_V l G M kc ks pc' L st h Q) : mm_V l G M kc ks pc L (.int x :: st) h Q :=
  mm_if_gt hd hp ht (fun q => kt (by rw [if_pos q] at hw; exact hw)) (fun q => kf (by rw [if_neg q] at hw; exact hw))
theorem wr_if_le {x : Int32} {off : Int} {tgt : Nat} {T F : Prop} (hw : if x ≤ 0 then T else F) (hd : decode M.2.1 pc = .ok (.ifCond .le off, 3)) (hp : pc + 3 = pc') (ht : (pc : Int) + off = (tgt : Int)) (kt : T → mm_V l G M kc ks tgt L st h Q) (kf : F → mm_V l G M kc ks pc' L st h Q) : mm_V l G M kc ks pc L (.int x :: st) h Q :=
  mm_if_le hd hp ht (fun q => kt (by rw [if_pos q] at hw; exact hw)) (fun q => kf (by rw [if_neg q] at hw; exact hw))
theorem wr_icmp_eq {x y : Int32} {off : Int} {tgt : Nat} {T F : Prop} (hw : if x = y then T else F) (hd : decode M.2.1 pc = .ok (.if_icmp .eq off, 3)) (hp : pc + 3 = pc') (ht : (pc : Int) + off = (tgt : Int)) (kt : T → mm_V l G M kc ks tgt L st h Q) (kf : F → mm_V l G M kc ks pc' L st h Q) : mm_V l G M kc ks pc L (.int y :: .int x :: st) h Q :=
  mm_icmp_eq hd hp ht (fun q => kt (by rw [if_pos q] at hw; exact hw)) (fun q => kf (by rw [if_neg q] at hw; exact hw))
theorem wr_icmp_lt {x y : Int32} {off : Int} {tgt : Nat} {T F : Prop} (hw : if x < y then T else F) (hd : decode M.2.1 pc = .ok (.if_icmp .lt off, 3)) (hp : pc + 3 = pc') (ht : (pc : Int) + off = (tgt : Int)) (kt : T → mm_V l G M kc ks tgt L st h Q) (kf : F → mm_V l G M kc ks pc' L st h Q) : mm_V l G M kc ks pc L (.int y :: .int x :: st) h Q :=
  mm_icmp_lt hd hp ht (fun q => kt (by rw [if_pos q] at hw; exact hw)) (fun q => kf (by rw [if_neg q] at hw; exact hw))
theorem wr_icmp_ge {x y : Int32} {off : Int} {tgt : Nat} {T F : Prop} (hw : if y ≤ x then T else F) (hd : decode M.2.1 pc = .ok (.if_icmp .ge off, 3)) (hp : pc + 3 = pc') (ht : (pc : Int) + off = (tgt : Int)) (kt : T → mm_V l G M kc ks tgt L st h Q) (kf : F → mm_V l G M kc ks pc' L st h Q) : mm_V l G M kc ks pc L (.int y :: .int x :: st) h Q :=
  mm_icmp_ge hd hp ht (fun q => kt (by rw [if_pos q] at hw; exact hw)) (fun q => kf (by rw [if_neg q] at hw; exact hw))
theorem wr_icmp_gt {x y : Int32} {off : Int} {tgt : Nat} {T F : Prop} (hw : if y < x then T else F) (hd : decode M.2.1 pc = .ok (.if_icmp .gt off, 3)) (hp : pc + 3 = pc') (ht : (pc : Int) + off = (tgt : Int)) (kt : T → mm_V l G M kc ks tgt L st h Q) (kf : F → mm_V l G M kc ks pc' L st h Q) : mm_V l G M kc ks pc L (.int y :: .int x :: st) h Q :=
  mm_icmp_gt hd hp ht (fun q => kt (by rw [if_pos q] at hw; exact hw)) (fun q => kf (by rw [if_neg q] at hw; exact hw))
theorem wr_icmp_le {x y : Int32} {off : Int} {tgt : Nat} {T F : Prop} (hw : if x ≤ y then T else F) (hd : decode M.2.1 pc = .ok (.if_icmp .le off, 3)) (hp : pc + 3 = pc') (ht : (pc : Int) + off = (tgt : Int)) (kt : T → mm_V l G M kc ks tgt L st h Q) (kf : F → mm_V l G M kc ks pc' L st h Q) : mm_V l G M kc ks pc L (.int y :: .int x :: st) h Q :=
  mm_icmp_le hd hp ht (fun q => kt (by rw [if_pos q] at hw; exact hw)) (fun q => kf (by rw [if_neg q] at hw; exact hw))
theorem wr_if_ne {x : Int32} {off : Int} {tgt : Nat} {T F : Prop} (hw : if x = 0 then F else T) (hd : decode M.2.1 pc = .ok (.ifCond .ne off, 3)) (hp : pc + 3 = pc') (ht : (pc : Int) + off = (tgt : Int)) (kt : T → mm_V l G M kc ks tgt L st h Q) (kf : F → mm_V l G M kc ks pc' L st h Q) : mm_V l G M kc ks pc L (.int x :: st) h Q :=
  mm_if_ne hd hp ht (fun q => kt (by rw [if_neg q] at hw; exact hw)) (fun q => kf (by rw [if_pos q] at hw; exact hw))
theorem wr_icmp_ne {x y : Int32} {off : Int} {tgt : Nat} {T F : Prop} (hw : if x = y then F else T) (hd : decode M.2.1 pc = .ok (.if_icmp .ne off, 3)) (hp : pc + 3 = pc') (ht : (pc : Int) + off = (tgt : Int)) (kt : T → mm_V l G M kc ks tgt L st h Q) (kf : F → mm_V l G M kc ks pc' L st h Q) : mm_V l G M kc ks pc L (.int y :: .int x :: st) h Q :=
  mm_icmp_ne hd hp ht (fun q => kt (by rw [if_neg q] at hw; exact hw)) (fun q => kf (by rw [if_pos q] at hw; exact hw))
theorem wr_ite {c : Prop} [Decidable c] {T F : Prop} (hw : if c then T else F) {P : Prop} (kt : c → T → P) (kf : ¬ c → F → P) : P := by
  by_cases q : c
  · rw [if_pos q] at hw
    exact kt q hw
  · rw [if_neg q] at hw
    exact kf q hw
theorem wr_toInt {x : Int32} {n : Int32} (q : ¬ x = n) : x.toInt ≠ n.toInt := fun z => q (Int32.toInt_inj.mp z)
def wgI (A : ab_H) (r : Option Nat) (ci k : Nat) (K : Int32 → Prop) : Prop := ∃ a fs x, r = some a ∧ A a = some (oR (.inr (ci, fs))) ∧ fs[k]? = some (.int x) ∧ K x
theorem wr_getI {ci k : Nat} {K : Int32 → Prop} (hV : Vw G h A) (hw : wgI A r ci k K) (hd : decode M.2.1 pc = .ok (.getfield index, 3)) (hp : pc + 3 = pc') (hf : mm_FL M.1.cls index ci k) (kk : ∀ x, K x → mm_V l G M kc ks pc' L (.int x :: st) h Q) : mm_V l G M kc ks pc L (va_rf r :: st) h Q := by
  obtain ⟨a, fs, x, rfl, hA, hk, hw⟩ := hw
  exact mm_getfield hd hp hf (hV.raw hA) hk (kk x hw)
def wgJ (A : ab_H) (r : Option Nat) (ci k : Nat) (K : Int64 → Prop) : Prop := ∃ a fs x, r = some a ∧ A a = some (oR (.inr (ci, fs))) ∧ fs[k]? = some (.long x) ∧ K x
theorem wr_getJ {ci k : Nat} {K : Int64 → Prop} (hV : Vw G h A) (hw : wgJ A r ci k K) (hd : decode M.2.1 pc = .ok (.getfield index, 3)) (hp : pc + 3 = pc') (hf : mm_FL M.1.cls index ci k) (kk : ∀ x, K x → mm_V l G M kc ks pc' L (.long x :: st) h Q) : mm_V l G M kc ks pc L (va_rf r :: st) h Q := by
  obtain ⟨a, fs, x, rfl, hA, hk, hw⟩ := hw
  exact mm_getfield hd hp hf (hV.raw hA) hk (kk x hw)
def wgR (A : ab_H) (r : Option Nat) (ci k : Nat) (K : Option Nat → Prop) : Prop := ∃ a fs x, r = some a ∧ A a = some (oR (.inr (ci, fs))) ∧ fs[k]? = some (va_rf x) ∧ K x
theorem wr_getR {ci k : Nat} {K : Option Nat → Prop} (hV : Vw G h A) (hw : wgR A r ci k K) (hd : decode M.2.1 pc = .ok (.getfield index, 3)) (hp : pc + 3 = pc') (hf : mm_FL M.1.cls index ci k) (kk : ∀ x, K x → mm_V l G M kc ks pc' L (va_rf x :: st) h Q) : mm_V l G M kc ks pc L (va_rf r :: st) h Q := by
  obtain ⟨a, fs, x, rfl, hA, hk, hw⟩ := hw
  exact mm_getfield hd hp hf (hV.raw hA) hk (kk x hw)
def wp (A : ab_H) (r : Option Nat) (ci k : Nat) (v : Value) (K : ab_H → Prop) : Prop := ∃ a fs, r = some a ∧ A a = some (oR (.inr (ci, fs))) ∧ k < fs.length ∧ K (ab_u A a (oR (.inr (ci, fs.set k v))))
theorem wr_put {ci k : Nat} {v : Value} {K : ab_H → Prop} {ty : FieldType} (hV : Vw G h A) (hw : wp A r ci k v K) (hd : decode M.2.1 pc = .ok (.putfield index, 3)) (hp : pc + 3 = pc') (hf : mm_PL M index ci k ty) (hci : 3 ≤ ci) (hn : ∀ G : mm_G, narrow ty (mm_v G v) = mm_v G v ∧ fits ty (mm_v G v) = true) (kk : ∀ h' A', Vw G h' A' → K A' → mm_V l G M kc ks pc' L st h' Q) : mm_V l G M kc ks pc L (v :: va_rf r :: st) h Q := by
  obtain ⟨a, fs, rfl, hA, hk, hw⟩ := hw
  have hK := hV.ge hA (by omega)
  exact mm_putfield hd hp hf hn (hV.raw hA) (Or.inr hK) hk (kk _ _ (hV.set hA hK (Or.inl hci) (fun ci' fs' q => by cases q; exact ⟨_, rfl⟩)) hw)
def wNew (A : ab_H) (kc ks ci n : Nat) (K : Nat → ab_H → Nat → Nat → Prop) : Prop := 1 ≤ kc ∧ n ≤ ks ∧ ∀ a, mm_K ≤ a → A a = none → K a (ab_u A a (oR (.inr (ci, mm_df ci)))) (kc - 1) (ks - n)
theorem wr_new {ci n : Nat} {K : Nat → ab_H → Nat → Nat → Prop} (hV : Vw G h A) (hw : wNew A kc ks ci n K) (hd : decode M.2.1 pc = .ok (.new index, 3)) (hp : pc + 3 = pc') (hg : mm_NL M.1.cls index ci) (hn : (mm_df ci).length = n) (kk : ∀ a h' A' kc' ks', Vw G h' A' → K a A' kc' ks' → mm_V l G M kc' ks' pc' L (va_rf (some a) :: st) h' Q) : mm_V l G M kc ks pc L st h Q := by
  obtain ⟨h1, h2, hw⟩ := hw
  exact mm_newo hd hp hg hn h1 h2 (kk _ _ _ _ _ (hV.new (Or.inr rfl)) (hw h.2 hV.wf.2 (hV.no (Nat.le_refl _))))
def wAI (A : ab_H) (r : Option Nat) (i : Int32) (K : Int32 → Prop) : Prop := ∃ a t n f, r = some a ∧ A a = some (oR (.inl (t, n, .inl f))) ∧ (t = 0 ∨ t = 8) ∧ vp_in i n ∧ K (f i.toNatClampNeg)
theorem wr_aldI {i : Int32} {K : Int32 → Prop} (hV : Vw G h A) (hw : wAI A r i K) (hd : decode M.2.1 pc = .ok (.iaload, 1)) (hp : pc + 1 = pc') (kk : ∀ x, K x → mm_V l G M kc ks pc' L (.int x :: st) h Q) : mm_V l G M kc ks pc L (.int i :: va_rf r :: st) h Q := by
  obtain ⟨a, t, n, f, rfl, hA, ht, hi, hw⟩ := hw
  rcases ht with rfl | rfl
  · exact mm_iald hd hp (Nat.le_of_ble_eq_true rfl) rfl (hV.raw hA) hi (kk _ hw)
  · exact mm_iald hd hp (Nat.le_of_ble_eq_true rfl) rfl (hV.raw hA) hi (kk _ hw)
def wAZ (A : ab_H) (r : Option Nat) (i : Int32) (K : Int32 → Prop) : Prop := ∃ a t n f, r = some a ∧ A a = some (oR (.inl (t, n, .inl f))) ∧ t = 3 ∧ vp_in i n ∧ K (f i.toNatClampNeg)
theorem wr_aldZ {i : Int32} {K : Int32 → Prop} (hV : Vw G h A) (hw : wAZ A r i K) (hd : decode M.2.1 pc = .ok (.baload, 1)) (hp : pc + 1 = pc') (kk : ∀ x, K x → mm_V l G M kc ks pc' L (.int x :: st) h Q) : mm_V l G M kc ks pc L (.int i :: va_rf r :: st) h Q := by
  obtain ⟨a, t, n, f, rfl, hA, ht, hi, hw⟩ := hw
  rcases ht with rfl
  · exact mm_zald hd hp (Nat.le_of_ble_eq_true rfl) rfl (hV.raw hA) hi (kk _ hw)
def wAC (A : ab_H) (r : Option Nat) (i : Int32) (K : Int32 → Prop) : Prop := ∃ a t n f, r = some a ∧ A a = some (oR (.inl (t, n, .inl f))) ∧ t = 2 ∧ vp_in i n ∧ K (f i.toNatClampNeg)
theorem wr_aldC {i : Int32} {K : Int32 → Prop} (hV : Vw G h A) (hw : wAC A r i K) (hd : decode M.2.1 pc = .ok (.caload, 1)) (hp : pc + 1 = pc') (kk : ∀ x, K x → mm_V l G M kc ks pc' L (.int x :: st) h Q) : mm_V l G M kc ks pc L (.int i :: va_rf r :: st) h Q := by
  obtain ⟨a, t, n, f, rfl, hA, ht, hi, hw⟩ := hw
  rcases ht with rfl
  · exact mm_cald hd hp (Nat.le_of_ble_eq_true rfl) rfl (hV.raw hA) hi (kk _ hw)
def wAO (A : ab_H) (r : Option Nat) (i : Int32) (K : Option Nat → Prop) : Prop := ∃ a n f, r = some a ∧ A a = some (oR (.inl (5, n, .inr (.inr (.inr (.inr f)))))) ∧ vp_in i n ∧ K (f i.toNatClampNeg)
theorem wr_aldO {i : Int32} {K : Option Nat → Prop} (hV : Vw G h A) (hw : wAO A r i K) (hd : decode M.2.1 pc = .ok (.aaload, 1)) (hp : pc + 1 = pc') (kk : ∀ x, K x → mm_V l G M kc ks pc' L (va_rf x :: st) h Q) : mm_V l G M kc ks pc L (.int i :: va_rf r :: st) h Q := by
  obtain ⟨a, n, f, rfl, hA, hi, hw⟩ := hw
  exact mm_aald (t := 5) hd hp (Nat.le_of_ble_eq_true rfl) rfl (hV.raw hA) hi (kk _ hw)
def wSI (A : ab_H) (r : Option Nat) (i x : Int32) (K : ab_H → Prop) : Prop := ∃ a n f, r = some a ∧ A a = some (oR (.inl (0, n, .inl f))) ∧ vp_in i n ∧ K (ab_u A a (oR (.inl (0, n, .inl (upd f i.toNatClampNeg x)))))
theorem wr_astI {i x : Int32} {K : ab_H → Prop} (hV : Vw G h A) (hw : wSI A r i x K) (hd : decode M.2.1 pc = .ok (.iastore, 1)) (hp : pc + 1 = pc') (kk : ∀ h' A', Vw G h' A' → K A' → mm_V l G M kc ks pc' L st h' Q) : mm_V l G M kc ks pc L (.int x :: .int i :: va_rf r :: st) h Q := by
  obtain ⟨a, n, f, rfl, hA, hi, hw⟩ := hw
  exact mm_iast (t := 0) hd hp (Nat.le_of_ble_eq_true rfl) rfl (hV.raw hA) hi (kk _ _ (hV.set hA (hV.geA hA (Nat.le_of_ble_eq_true rfl)) (Or.inl rfl) (fun ci' fs' q => by cases q)) hw)
def wSZ (A : ab_H) (r : Option Nat) (i x : Int32) (K : ab_H → Prop) : Prop := ∃ a n f, r = some a ∧ A a = some (oR (.inl (3, n, .inl f))) ∧ vp_in i n ∧ (x = 0 ∨ x = 1) ∧ K (ab_u A a (oR (.inl (3, n, .inl (upd f i.toNatClampNeg x)))))
theorem wr_astZ {i x : Int32} {K : ab_H → Prop} (hV : Vw G h A) (hw : wSZ A r i x K) (hd : decode M.2.1 pc = .ok (.bastore, 1)) (hp : pc + 1 = pc') (kk : ∀ h' A', Vw G h' A' → K A' → mm_V l G M kc ks pc' L st h' Q) : mm_V l G M kc ks pc L (.int x :: .int i :: va_rf r :: st) h Q := by
  obtain ⟨a, n, f, rfl, hA, hi, hx, hw⟩ := hw
  exact mm_zast (t := 3) hd hp (Nat.le_of_ble_eq_true rfl) rfl (wn_b hx) (hV.raw hA) hi (kk _ _ (hV.set hA (hV.geA hA (Nat.le_of_ble_eq_true rfl)) (Or.inr (Or.inr (Or.inl rfl))) (fun ci' fs' q => by cases q)) hw)
def wSC (A : ab_H) (r : Option Nat) (i x : Int32) (K : ab_H → Prop) : Prop := ∃ a n f, r = some a ∧ A a = some (oR (.inl (2, n, .inl f))) ∧ vp_in i n ∧ narrow .char (.int x) = .int x ∧ K (ab_u A a (oR (.inl (2, n, .inl (upd f i.toNatClampNeg x)))))
theorem wr_astC {i x : Int32} {K : ab_H → Prop} (hV : Vw G h A) (hw : wSC A r i x K) (hd : decode M.2.1 pc = .ok (.castore, 1)) (hp : pc + 1 = pc') (kk : ∀ h' A', Vw G h' A' → K A' → mm_V l G M kc ks pc' L st h' Q) : mm_V l G M kc ks pc L (.int x :: .int i :: va_rf r :: st) h Q := by
  obtain ⟨a, n, f, rfl, hA, hi, hx, hw⟩ := hw
  exact mm_cast (t := 2) hd hp (Nat.le_of_ble_eq_true rfl) rfl hx (hV.raw hA) hi (kk _ _ (hV.set hA (hV.geA hA (Nat.le_of_ble_eq_true rfl)) (Or.inr (Or.inl rfl)) (fun ci' fs' q => by cases q)) hw)
def wSO (A : ab_H) (r : Option Nat) (i : Int32) (x : Option Nat) (K : ab_H → Prop) : Prop := ∃ a n f b fs, r = some a ∧ A a = some (oR (.inl (5, n, .inr (.inr (.inr (.inr f)))))) ∧ vp_in i n ∧ x = some b ∧ A b = some (oR (.inr (4, fs))) ∧ K (ab_u A a (oR (.inl (5, n, .inr (.inr (.inr (.inr (va_up f i.toNatClampNeg (some b)))))))))
theorem wr_astO {i : Int32} {x : Option Nat} {K : ab_H → Prop} (hV : Vw G h A) (hw : wSO A r i x K) (hd : decode M.2.1 pc = .ok (.aastore, 1)) (hp : pc + 1 = pc') (kk : ∀ h' A', Vw G h' A' → K A' → mm_V l G M kc ks pc' L st h' Q) : mm_V l G M kc ks pc L (va_rf x :: .int i :: va_rf r :: st) h Q := by
  obtain ⟨a, n, f, b, fs, rfl, hA, hi, rfl, hB, hw⟩ := hw
  exact mm_aast (t := 5) hd hp (Nat.le_of_ble_eq_true rfl) rfl (hV.raw hA) hi (hV.raw hB) rfl (Or.inl rfl) (kk _ _ (hV.set hA (hV.geA hA (Nat.le_of_ble_eq_true rfl)) (Or.inr (Or.inr (Or.inr (Or.inl rfl)))) (fun ci' fs' q => by cases q)) hw)
def wLen (A : ab_H) (r : Option Nat) (K : Int32 → Prop) : Prop := ∃ a t n x, r = some a ∧ A a = some (oR (.inl (t, n, x))) ∧ t < 16 ∧ K (nI n)
theorem wr_len {K : Int32 → Prop} (hV : Vw G h A) (hw : wLen A r K) (hd : decode M.2.1 pc = .ok (.arraylength, 1)) (hp : pc + 1 = pc') (kk : ∀ x, K x → mm_V l G M kc ks pc' L (.int x :: st) h Q) : mm_V l G M kc ks pc L (va_rf r :: st) h Q := by
  obtain ⟨a, t, n, x, rfl, hA, ht, hw⟩ := hw
  exact mm_alen hd hp ht (hV.raw hA) rfl (kk _ hw)
def wNA (A : ab_H) (kc ks t : Nat) (n : Int32) (K : Nat → ab_H → Nat → Nat → Prop) : Prop := ¬ n < 0 ∧ n.toNatClampNeg ≤ 100000 ∧ 1 ≤ kc ∧ n.toNatClampNeg ≤ ks ∧ ∀ a, mm_K ≤ a → A a = none → K a (ab_u A a (oR (.inl (t, n.toNatClampNeg, .inl (fun _ => 0))))) (kc - 1) (ks - n.toNatClampNeg)
theorem wr_newarrI {n : Int32} {K : Nat → ab_H → Nat → Nat → Prop} (hV : Vw G h A) (hw : wNA A kc ks 0 n K) (hd : decode M.2.1 pc = .ok (.newarray .int, 2)) (hp : pc + 2 = pc') (hg : Cond.arrayClass (newarray.typeOf .int) ∈ mm_all) (kk : ∀ a h' A' kc' ks', Vw G h' A' → K a A' kc' ks' → mm_V l G M kc' ks' pc' L (va_rf (some a) :: st) h' Q) : mm_V l G M kc ks pc L (.int n :: st) h Q := by
  obtain ⟨h1, h2, h3, h4, hw⟩ := hw
  exact mm_newarr (t := 0) hd hp (Nat.le_of_ble_eq_true rfl) rfl hg rfl h1 rfl (Nat.le_trans (Nat.mul_le_mul_right _ h2) (by decide)) h3 h4 (kk _ _ _ _ _ (hV.new (Or.inl rfl)) (hw h.2 hV.wf.2 (hV.no (Nat.le_refl _))))
theorem wr_newarrZ {n : Int32} {K : Nat → ab_H → Nat → Nat → Prop} (hV : Vw G h A) (hw : wNA A kc ks 3 n K) (hd : decode M.2.1 pc = .ok (.newarray .boolean, 2)) (hp : pc + 2 = pc') (hg : Cond.arrayClass (newarray.typeOf .boolean) ∈ mm_all) (kk : ∀ a h' A' kc' ks', Vw G h' A' → K a A' kc' ks' → mm_V l G M kc' ks' pc' L (va_rf (some a) :: st) h' Q) : mm_V l G M kc ks pc L (.int n :: st) h Q := by
  obtain ⟨h1, h2, h3, h4, hw⟩ := hw
  exact mm_newarr (t := 3) hd hp (Nat.le_of_ble_eq_true rfl) rfl hg rfl h1 rfl (Nat.le_trans (Nat.mul_le_mul_right _ h2) (by decide)) h3 h4 (kk _ _ _ _ _ (hV.new (Or.inr (Or.inr (Or.inl rfl)))) (hw h.2 hV.wf.2 (hV.no (Nat.le_refl _))))
def wNO (A : ab_H) (kc ks : Nat) (n : Int32) (K : Nat → ab_H → Nat → Nat → Prop) : Prop := ¬ n < 0 ∧ n.toNatClampNeg ≤ 100000 ∧ 1 ≤ kc ∧ n.toNatClampNeg ≤ ks ∧ ∀ a, mm_K ≤ a → A a = none → K a (ab_u A a (oR (.inl (5, n.toNatClampNeg, .inr (.inr (.inr (.inr (fun _ => none)))))))) (kc - 1) (ks - n.toNatClampNeg)
theorem wr_anewarr {n : Int32} {K : Nat → ab_H → Nat → Nat → Prop} (hV : Vw G h A) (hw : wNO A kc ks n K) (hd : decode M.2.1 pc = .ok (.anewarray index, 3)) (hp : pc + 3 = pc') (hg : Cond.classLink M.1.cls index "StubServer$Connection" ∈ mm_all) (kk : ∀ a h' A' kc' ks', Vw G h' A' → K a A' kc' ks' → mm_V l G M kc' ks' pc' L (va_rf (some a) :: st) h' Q) : mm_V l G M kc ks pc L (.int n :: st) h Q := by
  obtain ⟨h1, h2, h3, h4, hw⟩ := hw
  exact mm_anewarr (t := 5) hd hp (Nat.le_of_ble_eq_true rfl) rfl hg (by decide) h1 rfl (Nat.le_trans (Nat.mul_le_mul_right _ h2) (by decide)) h3 h4 (kk _ _ _ _ _ (hV.new (Or.inr (Or.inr (Or.inr (Or.inl rfl))))) (hw h.2 hV.wf.2 (hV.no (Nat.le_refl _))))
theorem wr_cast {C : String} {T : u_T} {N ci : Nat} {K : Nat → Prop} (hV : Vw G h A) (hw : wC A r ci K) (hd : decode M.2.1 pc = .ok (.checkcast index, 3)) (hp : pc + 3 = pc') (hc1 : mm_Cl[ci]? = some (C, T, N)) (hg : Cond.classLink M.1.cls index C ∈ mm_all) (kk : ∀ a, K a → mm_V l G M kc ks pc' L (va_rf (some a) :: st) h Q) : mm_V l G M kc ks pc L (va_rf r :: st) h Q := by
  obtain ⟨a, fs, rfl, hA, hw⟩ := hw
  exact mm_cast1 hd hp hc1 hg (hV.raw hA) (kk a hw)
theorem wr_objInit (hw : ∃ b, r = some b) (hd : decode M.2.1 pc = .ok (.invokespecial index, 3)) (hp : pc + 3 = pc') (hg : Cond.methodLink M.1.cls index Lib.objectInit ∈ mm_all ∧ Cond.instanceMethod Lib.objectInit ∈ mm_all ∧ Cond.code Lib.objectInit ⟨#[0xb1]⟩ 1 none ∈ mm_all) (hfr : 1 ≤ M.2.2.2.2) (h8 : (st.map fun v => v.category).sum ≤ 8) (kk : mm_V l G M kc ks pc' L st h Q) : mm_V l G M kc ks pc L (va_rf r :: st) h Q := by
  obtain ⟨b, rfl⟩ := hw
  exact mm_objInit hd hp hg hfr h8 kk
theorem Vw.sObj (hV : Vw G h A) {a : Nat} {bs : List Nat} (ha : A a = some (oS bs)) : ∃ fs, h.1 a = some (.inr (0, fs)) := by
  obtain ⟨iv, V⟩ := hV
  obtain ⟨t, f, ⟨⟨fs, hh⟩, -⟩, -⟩ := V.2.2.2.2.1 a _ ha
  exact ⟨_, hh⟩
theorem Vw.bObj (hV : Vw G h A) {a cap : Nat} {bs : List Nat} (ha : A a = some (oB bs cap)) : ∃ fs, h.1 a = some (.inr (1, fs)) := by
  obtain ⟨iv, V⟩ := hV
  obtain ⟨ml, f, hb, -⟩ := V.2.2.2.2.1 a _ ha
  exact ⟨_, hb.1⟩
theorem Vw.lObj (hV : Vw G h A) {a cap : Nat} {ys : List Nat} (ha : A a = some (oL ys cap)) : ∃ fs, h.1 a = some (.inr (2, fs)) := by
  obtain ⟨iv, V⟩ := hV
  obtain ⟨mc, f, hb, -⟩ := V.2.2.2.2.1 a _ ha
  exact ⟨_, hb.1⟩
def wj_SB_init (A : ab_H) (kc ks : Nat) (r : Option Nat) (K : ab_H → Nat → Nat → Prop) : Prop := ∃ a, r = some a ∧ A a = some (oR (.inr (1, [.null, .int 0, .int 0, .int 0]))) ∧ 1 ≤ kc ∧ 16 ≤ ks ∧ K (ab_u A a (oB [] 16)) (kc - 1) (ks - 16)
theorem wr_SB_init {K : ab_H → Nat → Nat → Prop} (hV : Vw G h A) (hw : wj_SB_init A kc ks r  K) (hd : decode M.2.1 pc = .ok (.invokespecial index, 3)) (hp : pc + 3 = pc') (hc : mm_CB M.1.cls index M_SB_init 0 ∧ M_SB_init.1.name = "<init>" ∧ Cond.instanceMethod M_SB_init.1 ∈ mm_all) (hfr : M_SB_init.2.2.2.2 + 1 ≤ M.2.2.2.2) (h8 : (st.map fun v => v.category).sum ≤ 8) (kk : ∀ h' A' kc' ks', Vw G h' A' → K A' kc' ks' → mm_V l G M kc' ks' pc' L (st) h' Q) : mm_V l G M kc ks pc L (va_rf r :: st) h Q := by
  obtain ⟨a, rfl, hA, h1, h2, hw⟩ := hw
  refine mm_callI (as := []) (st := st) hd hp hc rfl (vb_init hV hA) rfl rfl hfr h8 h1 h2 (fun v h' hq => ?_)
  obtain ⟨rfl, hV⟩ := hq
  exact kk _ _ _ _ hV hw
def wj_SB_length (A : ab_H) (r : Option Nat) (K : Int32 → Prop) : Prop := ∃ a bs cap, r = some a ∧ A a = some (oB bs cap) ∧ K (nI bs.length)
theorem wr_SB_length {K : Int32 → Prop} (hV : Vw G h A) (hw : wj_SB_length A r  K) (hd : decode M.2.1 pc = .ok (.invokevirtual index, 3)) (hp : pc + 3 = pc') (hc : mm_CB M.1.cls index M_SB_length 0 ∧ Cond.instanceMethod M_SB_length.1 ∈ mm_all ∧ Cond.selects M_SB_length.1.cls M_SB_length.1 M_SB_length.1 ∈ mm_all) (hfr : M_SB_length.2.2.2.2 + 1 ≤ M.2.2.2.2) (h8 : (st.map fun v => v.category).sum ≤ 8) (kk : ∀ x, K x → mm_V l G M kc ks pc' L (.int x :: st) h Q) : mm_V l G M kc ks pc L (va_rf r :: st) h Q := by
  obtain ⟨a, bs, cap, rfl, hA, hw⟩ := hw
  obtain ⟨fs, hh⟩ := hV.bObj hA
  refine mm_callV (as := []) (st := st) hd hp hc hh rfl (vb_len hV hA) rfl rfl hfr h8 (Nat.zero_le _) (Nat.zero_le _) (fun v h' hq => ?_)
  obtain ⟨rfl, rfl⟩ := hq
  exact kk _ hw
def wj_SB_charAt (A : ab_H) (r : Option Nat) (i : Int32) (K : Int32 → Prop) : Prop := ∃ a bs cap j, r = some a ∧ A a = some (oB bs cap) ∧ i = nI j ∧ j < bs.length ∧ K (nI (bs.getD j 0))
theorem wr_SB_charAt {i : Int32} {K : Int32 → Prop} (hV : Vw G h A) (hw : wj_SB_charAt A r i K) (hd : decode M.2.1 pc = .ok (.invokevirtual index, 3)) (hp : pc + 3 = pc') (hc : mm_CB M.1.cls index M_SB_charAt 1 ∧ Cond.instanceMethod M_SB_charAt.1 ∈ mm_all ∧ Cond.selects M_SB_charAt.1.cls M_SB_charAt.1 M_SB_charAt.1 ∈ mm_all) (hfr : M_SB_charAt.2.2.2.2 + 1 ≤ M.2.2.2.2) (h8 : (st.map fun v => v.category).sum ≤ 8) (kk : ∀ x, K x → mm_V l G M kc ks pc' L (.int x :: st) h Q) : mm_V l G M kc ks pc L (.int i :: va_rf r :: st) h Q := by
  obtain ⟨a, bs, cap, j, rfl, hA, rfl, hj, hw⟩ := hw
  obtain ⟨fs, hh⟩ := hV.bObj hA
  refine mm_callV (as := [.int (nI j)]) (st := st) hd hp hc hh rfl (vb_at hV hA hj) rfl rfl hfr h8 (Nat.zero_le _) (Nat.zero_le _) (fun v h' hq => ?_)
  obtain ⟨rfl, rfl⟩ := hq
  exact kk _ hw
def wj_SB_append_C (A : ab_H) (kc ks : Nat) (r : Option Nat) (x : Int32) (K : Option Nat → ab_H → Nat → Nat → Prop) : Prop := ∃ a bs cap n, r = some a ∧ A a = some (oB bs cap) ∧ x = nI n ∧ n < 256 ∧ bs.length < 140 ∧ 1 ≤ kc ∧ bu_ks cap (bs.length + 1) ≤ ks ∧ K (some a) (ab_u A a (oB (bs ++ [n]) (bu_gr cap (bs.length + 1)))) (kc - 1) (ks - bu_ks cap (bs.length + 1))
theorem wr_SB_append_C {x : Int32} {K : Option Nat → ab_H → Nat → Nat → Prop} (hV : Vw G h A) (hw : wj_SB_append_C A kc ks r x K) (hd : decode M.2.1 pc = .ok (.invokevirtual index, 3)) (hp : pc + 3 = pc') (hc : mm_CB M.1.cls index M_SB_append_C 1 ∧ Cond.instanceMethod M_SB_append_C.1 ∈ mm_all ∧ Cond.selects M_SB_append_C.1.cls M_SB_append_C.1 M_SB_append_C.1 ∈ mm_all) (hfr : M_SB_append_C.2.2.2.2 + 1 ≤ M.2.2.2.2) (h8 : (st.map fun v => v.category).sum ≤ 8) (kk : ∀ x h' A' kc' ks', Vw G h' A' → K x A' kc' ks' → mm_V l G M kc' ks' pc' L (va_rf x :: st) h' Q) : mm_V l G M kc ks pc L (.int x :: va_rf r :: st) h Q := by
  obtain ⟨a, bs, cap, n, rfl, hA, rfl, hn, hl, h1, h2, hw⟩ := hw
  obtain ⟨fs, hh⟩ := hV.bObj hA
  refine mm_callV (as := [.int (nI n)]) (st := st) hd hp hc hh rfl (vb_appc hV hA hn hl) rfl rfl hfr h8 h1 h2 (fun v h' hq => ?_)
  obtain ⟨rfl, hV⟩ := hq
  exact kk _ _ _ _ _ hV hw
def wj_SB_append_I (A : ab_H) (kc ks : Nat) (r : Option Nat) (x : Int32) (K : Option Nat → ab_H → Nat → Nat → Prop) : Prop := ∃ a bs cap n, r = some a ∧ A a = some (oB bs cap) ∧ x = nI n ∧ n < 10000 ∧ bs.length + 4 ≤ 140 ∧ 1 ≤ kc ∧ bu_ks cap (bs.length + (dc_l n).length) ≤ ks ∧ K (some a) (ab_u A a (oB (bs ++ dc_l n) (bu_gr cap (bs.length + (dc_l n).length)))) (kc - 1) (ks - bu_ks cap (bs.length + (dc_l n).length))
theorem wr_SB_append_I {x : Int32} {K : Option Nat → ab_H → Nat → Nat → Prop} (hV : Vw G h A) (hw : wj_SB_append_I A kc ks r x K) (hd : decode M.2.1 pc = .ok (.invokevirtual index, 3)) (hp : pc + 3 = pc') (hc : mm_CB M.1.cls index M_SB_append_I 1 ∧ Cond.instanceMethod M_SB_append_I.1 ∈ mm_all ∧ Cond.selects M_SB_append_I.1.cls M_SB_append_I.1 M_SB_append_I.1 ∈ mm_all) (hfr : M_SB_append_I.2.2.2.2 + 1 ≤ M.2.2.2.2) (h8 : (st.map fun v => v.category).sum ≤ 8) (kk : ∀ x h' A' kc' ks', Vw G h' A' → K x A' kc' ks' → mm_V l G M kc' ks' pc' L (va_rf x :: st) h' Q) : mm_V l G M kc ks pc L (.int x :: va_rf r :: st) h Q := by
  obtain ⟨a, bs, cap, n, rfl, hA, rfl, hn, hl, h1, h2, hw⟩ := hw
  obtain ⟨fs, hh⟩ := hV.bObj hA
  refine mm_callV (as := [.int (nI n)]) (st := st) hd hp hc hh rfl (vb_appi hV hA hn hl) rfl rfl hfr h8 h1 h2 (fun v h' hq => ?_)
  obtain ⟨rfl, hV⟩ := hq
  exact kk _ _ _ _ _ hV hw
def wj_SB_append_S (A : ab_H) (kc ks : Nat) (r : Option Nat) (s : Option Nat) (K : Option Nat → ab_H → Nat → Nat → Prop) : Prop := ∃ a bs cap b cs, r = some a ∧ A a = some (oB bs cap) ∧ s = some b ∧ A b = some (oS cs) ∧ bs.length + cs.length ≤ 140 ∧ 1 ≤ kc ∧ bu_ks cap (bs.length + cs.length) ≤ ks ∧ K (some a) (ab_u A a (oB (bs ++ cs) (bu_gr cap (bs.length + cs.length)))) (kc - 1) (ks - bu_ks cap (bs.length + cs.length))
theorem wr_SB_append_S {s : Option Nat} {K : Option Nat → ab_H → Nat → Nat → Prop} (hV : Vw G h A) (hw : wj_SB_append_S A kc ks r s K) (hd : decode M.2.1 pc = .ok (.invokevirtual index, 3)) (hp : pc + 3 = pc') (hc : mm_CB M.1.cls index M_SB_append_S 1 ∧ Cond.instanceMethod M_SB_append_S.1 ∈ mm_all ∧ Cond.selects M_SB_append_S.1.cls M_SB_append_S.1 M_SB_append_S.1 ∈ mm_all) (hfr : M_SB_append_S.2.2.2.2 + 1 ≤ M.2.2.2.2) (h8 : (st.map fun v => v.category).sum ≤ 8) (kk : ∀ x h' A' kc' ks', Vw G h' A' → K x A' kc' ks' → mm_V l G M kc' ks' pc' L (va_rf x :: st) h' Q) : mm_V l G M kc ks pc L (va_rf s :: va_rf r :: st) h Q := by
  obtain ⟨a, bs, cap, b, cs, rfl, hA, rfl, hB, hl, h1, h2, hw⟩ := hw
  obtain ⟨fs, hh⟩ := hV.bObj hA
  refine mm_callV (as := [.ref b]) (st := st) hd hp hc hh rfl (vb_apps hV hA hB hl) rfl rfl hfr h8 h1 h2 (fun v h' hq => ?_)
  obtain ⟨rfl, hV⟩ := hq
  exact kk _ _ _ _ _ hV hw
def wj_SB_setLength (A : ab_H) (kc ks : Nat) (r : Option Nat) (i : Int32) (K : ab_H → Nat → Nat → Prop) : Prop := ∃ a bs cap k, r = some a ∧ A a = some (oB bs cap) ∧ i = nI k ∧ k ≤ bs.length ∧ k ≤ 140 ∧ 1 ≤ kc ∧ K (ab_u A a (oB (bs.take k) cap)) (kc - 1) ks
theorem wr_SB_setLength {i : Int32} {K : ab_H → Nat → Nat → Prop} (hV : Vw G h A) (hw : wj_SB_setLength A kc ks r i K) (hd : decode M.2.1 pc = .ok (.invokevirtual index, 3)) (hp : pc + 3 = pc') (hc : mm_CB M.1.cls index M_SB_setLength 1 ∧ Cond.instanceMethod M_SB_setLength.1 ∈ mm_all ∧ Cond.selects M_SB_setLength.1.cls M_SB_setLength.1 M_SB_setLength.1 ∈ mm_all) (hfr : M_SB_setLength.2.2.2.2 + 1 ≤ M.2.2.2.2) (h8 : (st.map fun v => v.category).sum ≤ 8) (kk : ∀ h' A' kc' ks', Vw G h' A' → K A' kc' ks' → mm_V l G M kc' ks' pc' L (st) h' Q) : mm_V l G M kc ks pc L (.int i :: va_rf r :: st) h Q := by
  obtain ⟨a, bs, cap, k, rfl, hA, rfl, hk, hk2, h1, hw⟩ := hw
  obtain ⟨fs, hh⟩ := hV.bObj hA
  refine mm_callV (as := [.int (nI k)]) (st := st) hd hp hc hh rfl (vb_setl hV hA hk hk2) rfl rfl hfr h8 h1 (Nat.zero_le _) (fun v h' hq => ?_)
  obtain ⟨rfl, hV⟩ := hq
  exact kk _ _ _ _ hV hw
def wj_SB_toString (A : ab_H) (kc ks : Nat) (r : Option Nat) (K : Option Nat → ab_H → Nat → Nat → Prop) : Prop := ∃ a bs cap, r = some a ∧ A a = some (oB bs cap) ∧ 2 ≤ kc ∧ 4 + bs.length ≤ ks ∧ ∀ s, A s = none → K (some s) (ab_u A s (oS bs)) (kc - 2) (ks - (4 + bs.length))
theorem wr_SB_toString {K : Option Nat → ab_H → Nat → Nat → Prop} (hV : Vw G h A) (hw : wj_SB_toString A kc ks r  K) (hd : decode M.2.1 pc = .ok (.invokevirtual index, 3)) (hp : pc + 3 = pc') (hc : mm_CB M.1.cls index M_SB_toString 0 ∧ Cond.instanceMethod M_SB_toString.1 ∈ mm_all ∧ Cond.selects M_SB_toString.1.cls M_SB_toString.1 M_SB_toString.1 ∈ mm_all) (hfr : M_SB_toString.2.2.2.2 + 1 ≤ M.2.2.2.2) (h8 : (st.map fun v => v.category).sum ≤ 8) (kk : ∀ x h' A' kc' ks', Vw G h' A' → K x A' kc' ks' → mm_V l G M kc' ks' pc' L (va_rf x :: st) h' Q) : mm_V l G M kc ks pc L (va_rf r :: st) h Q := by
  obtain ⟨a, bs, cap, rfl, hA, h1, h2, hw⟩ := hw
  obtain ⟨fs, hh⟩ := hV.bObj hA
  refine mm_callV (as := []) (st := st) hd hp hc hh rfl (vb_str hV hA) rfl rfl hfr h8 h1 h2 (fun v h' hq => ?_)
  obtain ⟨s, hs, rfl, hV⟩ := hq
  exact kk _ _ _ _ _ hV (hw s hs)
def wj_ST_length (A : ab_H) (r : Option Nat) (K : Int32 → Prop) : Prop := ∃ a bs, r = some a ∧ A a = some (oS bs) ∧ K (nI bs.length)
theorem wr_ST_length {K : Int32 → Prop} (hV : Vw G h A) (hw : wj_ST_length A r  K) (hd : decode M.2.1 pc = .ok (.invokevirtual index, 3)) (hp : pc + 3 = pc') (hc : mm_CB M.1.cls index M_ST_length 0 ∧ Cond.instanceMethod M_ST_length.1 ∈ mm_all ∧ Cond.selects M_ST_length.1.cls M_ST_length.1 M_ST_length.1 ∈ mm_all) (hfr : M_ST_length.2.2.2.2 + 1 ≤ M.2.2.2.2) (h8 : (st.map fun v => v.category).sum ≤ 8) (kk : ∀ x, K x → mm_V l G M kc ks pc' L (.int x :: st) h Q) : mm_V l G M kc ks pc L (va_rf r :: st) h Q := by
  obtain ⟨a, bs, rfl, hA, hw⟩ := hw
  obtain ⟨fs, hh⟩ := hV.sObj hA
  refine mm_callV (as := []) (st := st) hd hp hc hh rfl (vs_len hV hA) rfl rfl hfr h8 (Nat.zero_le _) (Nat.zero_le _) (fun v h' hq => ?_)
  obtain ⟨rfl, rfl⟩ := hq
  exact kk _ hw
def wj_ST_isEmpty (A : ab_H) (r : Option Nat) (K : Int32 → Prop) : Prop := ∃ a bs, r = some a ∧ A a = some (oS bs) ∧ K (if bs = [] then 1 else 0)
theorem wr_ST_isEmpty {K : Int32 → Prop} (hV : Vw G h A) (hw : wj_ST_isEmpty A r  K) (hd : decode M.2.1 pc = .ok (.invokevirtual index, 3)) (hp : pc + 3 = pc') (hc : mm_CB M.1.cls index M_ST_isEmpty 0 ∧ Cond.instanceMethod M_ST_isEmpty.1 ∈ mm_all ∧ Cond.selects M_ST_isEmpty.1.cls M_ST_isEmpty.1 M_ST_isEmpty.1 ∈ mm_all) (hfr : M_ST_isEmpty.2.2.2.2 + 1 ≤ M.2.2.2.2) (h8 : (st.map fun v => v.category).sum ≤ 8) (kk : ∀ x, K x → mm_V l G M kc ks pc' L (.int x :: st) h Q) : mm_V l G M kc ks pc L (va_rf r :: st) h Q := by
  obtain ⟨a, bs, rfl, hA, hw⟩ := hw
  obtain ⟨fs, hh⟩ := hV.sObj hA
  refine mm_callV (as := []) (st := st) hd hp hc hh rfl (vs_empty hV hA) rfl rfl hfr h8 (Nat.zero_le _) (Nat.zero_le _) (fun v h' hq => ?_)
  obtain ⟨rfl, rfl⟩ := hq
  exact kk _ hw
def wj_ST_charAt (A : ab_H) (r : Option Nat) (i : Int32) (K : Int32 → Prop) : Prop := ∃ a bs j, r = some a ∧ A a = some (oS bs) ∧ i = nI j ∧ j < bs.length ∧ K (nI (bs.getD j 0))
theorem wr_ST_charAt {i : Int32} {K : Int32 → Prop} (hV : Vw G h A) (hw : wj_ST_charAt A r i K) (hd : decode M.2.1 pc = .ok (.invokevirtual index, 3)) (hp : pc + 3 = pc') (hc : mm_CB M.1.cls index M_ST_charAt 1 ∧ Cond.instanceMethod M_ST_charAt.1 ∈ mm_all ∧ Cond.selects M_ST_charAt.1.cls M_ST_charAt.1 M_ST_charAt.1 ∈ mm_all) (hfr : M_ST_charAt.2.2.2.2 + 1 ≤ M.2.2.2.2) (h8 : (st.map fun v => v.category).sum ≤ 8) (kk : ∀ x, K x → mm_V l G M kc ks pc' L (.int x :: st) h Q) : mm_V l G M kc ks pc L (.int i :: va_rf r :: st) h Q := by
  obtain ⟨a, bs, j, rfl, hA, rfl, hj, hw⟩ := hw
  obtain ⟨fs, hh⟩ := hV.sObj hA
  refine mm_callV (as := [.int (nI j)]) (st := st) hd hp hc hh rfl (vs_at hV hA hj) rfl rfl hfr h8 (Nat.zero_le _) (Nat.zero_le _) (fun v h' hq => ?_)
  obtain ⟨rfl, rfl⟩ := hq
  exact kk _ hw
def wj_ST_indexOf_I (A : ab_H) (r : Option Nat) (i : Int32) (K : Int32 → Prop) : Prop := ∃ a bs j, r = some a ∧ A a = some (oS bs) ∧ i = nI j ∧ j < 256 ∧ K (ix_l j bs 0)
theorem wr_ST_indexOf_I {i : Int32} {K : Int32 → Prop} (hV : Vw G h A) (hw : wj_ST_indexOf_I A r i K) (hd : decode M.2.1 pc = .ok (.invokevirtual index, 3)) (hp : pc + 3 = pc') (hc : mm_CB M.1.cls index M_ST_indexOf_I 1 ∧ Cond.instanceMethod M_ST_indexOf_I.1 ∈ mm_all ∧ Cond.selects M_ST_indexOf_I.1.cls M_ST_indexOf_I.1 M_ST_indexOf_I.1 ∈ mm_all) (hfr : M_ST_indexOf_I.2.2.2.2 + 1 ≤ M.2.2.2.2) (h8 : (st.map fun v => v.category).sum ≤ 8) (kk : ∀ x, K x → mm_V l G M kc ks pc' L (.int x :: st) h Q) : mm_V l G M kc ks pc L (.int i :: va_rf r :: st) h Q := by
  obtain ⟨a, bs, j, rfl, hA, rfl, hj, hw⟩ := hw
  obtain ⟨fs, hh⟩ := hV.sObj hA
  refine mm_callV (as := [.int (nI j)]) (st := st) hd hp hc hh rfl (vs_ix hV hA hj) rfl rfl hfr h8 (Nat.zero_le _) (Nat.zero_le _) (fun v h' hq => ?_)
  obtain ⟨rfl, rfl⟩ := hq
  exact kk _ hw
def wj_ST_equals (A : ab_H) (r : Option Nat) (s : Option Nat) (K : Int32 → Prop) : Prop := ∃ a bs b cs, r = some a ∧ A a = some (oS bs) ∧ s = some b ∧ A b = some (oS cs) ∧ K (if bs = cs then 1 else 0)
theorem wr_ST_equals {s : Option Nat} {K : Int32 → Prop} (hV : Vw G h A) (hw : wj_ST_equals A r s K) (hd : decode M.2.1 pc = .ok (.invokevirtual index, 3)) (hp : pc + 3 = pc') (hc : mm_CB M.1.cls index M_ST_equals 1 ∧ Cond.instanceMethod M_ST_equals.1 ∈ mm_all ∧ Cond.selects M_ST_equals.1.cls M_ST_equals.1 M_ST_equals.1 ∈ mm_all) (hfr : M_ST_equals.2.2.2.2 + 1 ≤ M.2.2.2.2) (h8 : (st.map fun v => v.category).sum ≤ 8) (kk : ∀ x, K x → mm_V l G M kc ks pc' L (.int x :: st) h Q) : mm_V l G M kc ks pc L (va_rf s :: va_rf r :: st) h Q := by
  obtain ⟨a, bs, b, cs, rfl, hA, rfl, hB, hw⟩ := hw
  obtain ⟨fs, hh⟩ := hV.sObj hA
  refine mm_callV (as := [.ref b]) (st := st) hd hp hc hh rfl (vs_eq hV hA hB) rfl rfl hfr h8 (Nat.zero_le _) (Nat.zero_le _) (fun v h' hq => ?_)
  obtain ⟨rfl, rfl⟩ := hq
  exact kk _ hw
def wj_ST_substring_II (A : ab_H) (kc ks : Nat) (r : Option Nat) (x y : Int32) (K : Option Nat → ab_H → Nat → Nat → Prop) : Prop := ∃ a bs i j, r = some a ∧ A a = some (oS bs) ∧ x = nI i ∧ y = nI j ∧ i ≤ j ∧ j ≤ bs.length ∧ 2 ≤ kc ∧ 4 + (j - i) ≤ ks ∧ ∀ s A', ab_tx A A' s ((bs.drop i).take (j - i)) → K (some s) A' (kc - 2) (ks - (4 + (j - i)))
theorem wr_ST_substring_II {x y : Int32} {K : Option Nat → ab_H → Nat → Nat → Prop} (hV : Vw G h A) (hw : wj_ST_substring_II A kc ks r x y K) (hd : decode M.2.1 pc = .ok (.invokevirtual index, 3)) (hp : pc + 3 = pc') (hc : mm_CB M.1.cls index M_ST_substring_II 2 ∧ Cond.instanceMethod M_ST_substring_II.1 ∈ mm_all ∧ Cond.selects M_ST_substring_II.1.cls M_ST_substring_II.1 M_ST_substring_II.1 ∈ mm_all) (hfr : M_ST_substring_II.2.2.2.2 + 1 ≤ M.2.2.2.2) (h8 : (st.map fun v => v.category).sum ≤ 8) (kk : ∀ x h' A' kc' ks', Vw G h' A' → K x A' kc' ks' → mm_V l G M kc' ks' pc' L (va_rf x :: st) h' Q) : mm_V l G M kc ks pc L (.int y :: .int x :: va_rf r :: st) h Q := by
  obtain ⟨a, bs, i, j, rfl, hA, rfl, rfl, hij, hj, h1, h2, hw⟩ := hw
  obtain ⟨fs, hh⟩ := hV.sObj hA
  refine mm_callV (as := [.int (nI i), .int (nI j)]) (st := st) hd hp hc hh rfl (vs_sub2 hV hA hij hj) rfl rfl hfr h8 h1 h2 (fun v h' hq => ?_)
  obtain ⟨s, A', rfl, hV, ht⟩ := hq
  exact kk _ _ _ _ _ hV (hw s A' ht)
def wj_ST_substring_I (A : ab_H) (kc ks : Nat) (r : Option Nat) (x : Int32) (K : Option Nat → ab_H → Nat → Nat → Prop) : Prop := ∃ a bs i, r = some a ∧ A a = some (oS bs) ∧ x = nI i ∧ i ≤ bs.length ∧ 2 ≤ kc ∧ 4 + (bs.length - i) ≤ ks ∧ ∀ s A', ab_tx A A' s (bs.drop i) → K (some s) A' (kc - 2) (ks - (4 + (bs.length - i)))
theorem wr_ST_substring_I {x : Int32} {K : Option Nat → ab_H → Nat → Nat → Prop} (hV : Vw G h A) (hw : wj_ST_substring_I A kc ks r x K) (hd : decode M.2.1 pc = .ok (.invokevirtual index, 3)) (hp : pc + 3 = pc') (hc : mm_CB M.1.cls index M_ST_substring_I 1 ∧ Cond.instanceMethod M_ST_substring_I.1 ∈ mm_all ∧ Cond.selects M_ST_substring_I.1.cls M_ST_substring_I.1 M_ST_substring_I.1 ∈ mm_all) (hfr : M_ST_substring_I.2.2.2.2 + 1 ≤ M.2.2.2.2) (h8 : (st.map fun v => v.category).sum ≤ 8) (kk : ∀ x h' A' kc' ks', Vw G h' A' → K x A' kc' ks' → mm_V l G M kc' ks' pc' L (va_rf x :: st) h' Q) : mm_V l G M kc ks pc L (.int x :: va_rf r :: st) h Q := by
  obtain ⟨a, bs, i, rfl, hA, rfl, hi, h1, h2, hw⟩ := hw
  obtain ⟨fs, hh⟩ := hV.sObj hA
  refine mm_callV (as := [.int (nI i)]) (st := st) hd hp hc hh rfl (vs_sub1 hV hA hi) rfl rfl hfr h8 h1 h2 (fun v h' hq => ?_)
  obtain ⟨s, A', rfl, hV, ht⟩ := hq
  exact kk _ _ _ _ _ hV (hw s A' ht)
def wj_ST_toCharArray (A : ab_H) (kc ks : Nat) (r : Option Nat) (K : Option Nat → ab_H → Nat → Nat → Prop) : Prop := ∃ a bs, r = some a ∧ A a = some (oS bs) ∧ 1 ≤ kc ∧ bs.length ≤ ks ∧ ∀ c g, A c = none → (∀ j, j < bs.length → g j = nI (bs.getD j 0)) → K (some c) (ab_u A c (oR (.inl (2, bs.length, .inl g)))) (kc - 1) (ks - bs.length)
theorem wr_ST_toCharArray {K : Option Nat → ab_H → Nat → Nat → Prop} (hV : Vw G h A) (hw : wj_ST_toCharArray A kc ks r  K) (hd : decode M.2.1 pc = .ok (.invokevirtual index, 3)) (hp : pc + 3 = pc') (hc : mm_CB M.1.cls index M_ST_toCharArray 0 ∧ Cond.instanceMethod M_ST_toCharArray.1 ∈ mm_all ∧ Cond.selects M_ST_toCharArray.1.cls M_ST_toCharArray.1 M_ST_toCharArray.1 ∈ mm_all) (hfr : M_ST_toCharArray.2.2.2.2 + 1 ≤ M.2.2.2.2) (h8 : (st.map fun v => v.category).sum ≤ 8) (kk : ∀ x h' A' kc' ks', Vw G h' A' → K x A' kc' ks' → mm_V l G M kc' ks' pc' L (va_rf x :: st) h' Q) : mm_V l G M kc ks pc L (va_rf r :: st) h Q := by
  obtain ⟨a, bs, rfl, hA, h1, h2, hw⟩ := hw
  obtain ⟨fs, hh⟩ := hV.sObj hA
  refine mm_callV (as := []) (st := st) hd hp hc hh rfl (vs_chars hV hA) rfl rfl hfr h8 h1 h2 (fun v h' hq => ?_)
  obtain ⟨c, g, hc2, rfl, hV, hg⟩ := hq
  exact kk _ _ _ _ _ hV (hw c g hc2 hg)
def wj_ST_init_aC (A : ab_H) (kc ks : Nat) (r : Option Nat) (c : Option Nat) (K : ab_H → Nat → Nat → Prop) : Prop := ∃ s b g bs, r = some s ∧ A s = some (oR (.inr (0, [.null, .int 0, .int 0, .int 0]))) ∧ mm_K ≤ s ∧ c = some b ∧ A b = some (oR (.inl (2, List.length bs, .inl g))) ∧ bs.length ≤ 300 ∧ (∀ j, j < bs.length → bs.getD j 0 < 256 ∧ g j = nI (bs.getD j 0)) ∧ 1 ≤ kc ∧ bs.length ≤ ks ∧ K (ab_u A s (oS bs)) (kc - 1) (ks - bs.length)
theorem wr_ST_init_aC {c : Option Nat} {K : ab_H → Nat → Nat → Prop} (hV : Vw G h A) (hw : wj_ST_init_aC A kc ks r c K) (hd : decode M.2.1 pc = .ok (.invokespecial index, 3)) (hp : pc + 3 = pc') (hc : mm_CB M.1.cls index M_ST_init_aC 1 ∧ M_ST_init_aC.1.name = "<init>" ∧ Cond.instanceMethod M_ST_init_aC.1 ∈ mm_all) (hfr : M_ST_init_aC.2.2.2.2 + 1 ≤ M.2.2.2.2) (h8 : (st.map fun v => v.category).sum ≤ 8) (kk : ∀ h' A' kc' ks', Vw G h' A' → K A' kc' ks' → mm_V l G M kc' ks' pc' L (st) h' Q) : mm_V l G M kc ks pc L (va_rf c :: va_rf r :: st) h Q := by
  obtain ⟨s, b, g, bs, rfl, hS, hK, rfl, hC, hn, hg, h1, h2, hw⟩ := hw
  refine mm_callI (as := [.ref b]) (st := st) hd hp hc rfl (vs_init hV hS hK hC hn hg) rfl rfl hfr h8 h1 h2 (fun v h' hq => ?_)
  obtain ⟨rfl, hV⟩ := hq
  exact kk _ _ _ _ hV hw
def wj_AL_init (A : ab_H) (r : Option Nat) (K : ab_H → Prop) : Prop := ∃ a, r = some a ∧ A a = some (oR (.inr (2, [.null, .int 0, .int 0]))) ∧ K (ab_u A a (oL [] 0))
theorem wr_AL_init {K : ab_H → Prop} (hV : Vw G h A) (hw : wj_AL_init A r  K) (hd : decode M.2.1 pc = .ok (.invokespecial index, 3)) (hp : pc + 3 = pc') (hc : mm_CB M.1.cls index M_AL_init 0 ∧ M_AL_init.1.name = "<init>" ∧ Cond.instanceMethod M_AL_init.1 ∈ mm_all) (hfr : M_AL_init.2.2.2.2 + 1 ≤ M.2.2.2.2) (h8 : (st.map fun v => v.category).sum ≤ 8) (kk : ∀ h' A', Vw G h' A' → K A' → mm_V l G M kc ks pc' L (st) h' Q) : mm_V l G M kc ks pc L (va_rf r :: st) h Q := by
  obtain ⟨a, rfl, hA, hw⟩ := hw
  refine mm_callI (as := []) (st := st) hd hp hc rfl (vl_init hV hA) rfl rfl hfr h8 (Nat.zero_le _) (Nat.zero_le _) (fun v h' hq => ?_)
  obtain ⟨rfl, hV⟩ := hq
  exact kk _ _ hV hw
def wj_AL_size (A : ab_H) (r : Option Nat) (K : Int32 → Prop) : Prop := ∃ a ys cap, r = some a ∧ A a = some (oL ys cap) ∧ K (nI ys.length)
theorem wr_AL_size {K : Int32 → Prop} (hV : Vw G h A) (hw : wj_AL_size A r  K) (hd : decode M.2.1 pc = .ok (.invokevirtual index, 3)) (hp : pc + 3 = pc') (hc : mm_CB M.1.cls index M_AL_size 0 ∧ Cond.instanceMethod M_AL_size.1 ∈ mm_all ∧ Cond.selects M_AL_size.1.cls M_AL_size.1 M_AL_size.1 ∈ mm_all) (hfr : M_AL_size.2.2.2.2 + 1 ≤ M.2.2.2.2) (h8 : (st.map fun v => v.category).sum ≤ 8) (kk : ∀ x, K x → mm_V l G M kc ks pc' L (.int x :: st) h Q) : mm_V l G M kc ks pc L (va_rf r :: st) h Q := by
  obtain ⟨a, ys, cap, rfl, hA, hw⟩ := hw
  obtain ⟨fs, hh⟩ := hV.lObj hA
  refine mm_callV (as := []) (st := st) hd hp hc hh rfl (vl_size hV hA) rfl rfl hfr h8 (Nat.zero_le _) (Nat.zero_le _) (fun v h' hq => ?_)
  obtain ⟨rfl, rfl⟩ := hq
  exact kk _ hw
def wj_AL_get (A : ab_H) (r : Option Nat) (i : Int32) (K : Option Nat → Prop) : Prop := ∃ a ys cap j, r = some a ∧ A a = some (oL ys cap) ∧ i = nI j ∧ j < ys.length ∧ K (some (ys.getD j 0))
theorem wr_AL_get {i : Int32} {K : Option Nat → Prop} (hV : Vw G h A) (hw : wj_AL_get A r i K) (hd : decode M.2.1 pc = .ok (.invokevirtual index, 3)) (hp : pc + 3 = pc') (hc : mm_CB M.1.cls index M_AL_get 1 ∧ Cond.instanceMethod M_AL_get.1 ∈ mm_all ∧ Cond.selects M_AL_get.1.cls M_AL_get.1 M_AL_get.1 ∈ mm_all) (hfr : M_AL_get.2.2.2.2 + 1 ≤ M.2.2.2.2) (h8 : (st.map fun v => v.category).sum ≤ 8) (kk : ∀ x, K x → mm_V l G M kc ks pc' L (va_rf x :: st) h Q) : mm_V l G M kc ks pc L (.int i :: va_rf r :: st) h Q := by
  obtain ⟨a, ys, cap, j, rfl, hA, rfl, hj, hw⟩ := hw
  obtain ⟨fs, hh⟩ := hV.lObj hA
  refine mm_callV (as := [.int (nI j)]) (st := st) hd hp hc hh rfl (vl_get hV hA hj) rfl rfl hfr h8 (Nat.zero_le _) (Nat.zero_le _) (fun v h' hq => ?_)
  obtain ⟨rfl, rfl⟩ := hq
  exact kk _ hw
def wj_AL_add_O (A : ab_H) (kc ks : Nat) (r : Option Nat) (s : Option Nat) (K : Int32 → ab_H → Nat → Nat → Prop) : Prop := ∃ a ys cap b ci fs, r = some a ∧ A a = some (oL ys cap) ∧ s = some b ∧ A b = some (oR (.inr (ci, fs))) ∧ (ci = 7 ∨ ci = 8 ∨ ci = 9 ∨ ci = 12) ∧ ys.length < 10 ∧ 1 ≤ kc ∧ (if cap = 0 then 10 else 0) ≤ ks ∧ K 1 (ab_u A a (oL (ys ++ [b]) 10)) (kc - 1) (ks - (if cap = 0 then 10 else 0))
theorem wr_AL_add_O {s : Option Nat} {K : Int32 → ab_H → Nat → Nat → Prop} (hV : Vw G h A) (hw : wj_AL_add_O A kc ks r s K) (hd : decode M.2.1 pc = .ok (.invokevirtual index, 3)) (hp : pc + 3 = pc') (hc : mm_CB M.1.cls index M_AL_add_O 1 ∧ Cond.instanceMethod M_AL_add_O.1 ∈ mm_all ∧ Cond.selects M_AL_add_O.1.cls M_AL_add_O.1 M_AL_add_O.1 ∈ mm_all) (hfr : M_AL_add_O.2.2.2.2 + 1 ≤ M.2.2.2.2) (h8 : (st.map fun v => v.category).sum ≤ 8) (kk : ∀ x h' A' kc' ks', Vw G h' A' → K x A' kc' ks' → mm_V l G M kc' ks' pc' L (.int x :: st) h' Q) : mm_V l G M kc ks pc L (va_rf s :: va_rf r :: st) h Q := by
  obtain ⟨a, ys, cap, b, ci, fs2, rfl, hA, rfl, hB, hci, hl, h1, h2, hw⟩ := hw
  obtain ⟨fs, hh⟩ := hV.lObj hA
  refine mm_callV (as := [.ref b]) (st := st) hd hp hc hh rfl (vl_add hV hA hB hci hl) rfl rfl hfr h8 h1 h2 (fun v h' hq => ?_)
  obtain ⟨rfl, hV⟩ := hq
  exact kk _ _ _ _ _ hV hw
def wj_AL_remove (A : ab_H) (r : Option Nat) (i : Int32) (K : Option Nat → ab_H → Prop) : Prop := ∃ a ys cap j, r = some a ∧ A a = some (oL ys cap) ∧ i = nI j ∧ j < ys.length ∧ K (some (ys.getD j 0)) (ab_u A a (oL (ys.eraseIdx j) 10))
theorem wr_AL_remove {i : Int32} {K : Option Nat → ab_H → Prop} (hV : Vw G h A) (hw : wj_AL_remove A r i K) (hd : decode M.2.1 pc = .ok (.invokevirtual index, 3)) (hp : pc + 3 = pc') (hc : mm_CB M.1.cls index M_AL_remove 1 ∧ Cond.instanceMethod M_AL_remove.1 ∈ mm_all ∧ Cond.selects M_AL_remove.1.cls M_AL_remove.1 M_AL_remove.1 ∈ mm_all) (hfr : M_AL_remove.2.2.2.2 + 1 ≤ M.2.2.2.2) (h8 : (st.map fun v => v.category).sum ≤ 8) (kk : ∀ x h' A', Vw G h' A' → K x A' → mm_V l G M kc ks pc' L (va_rf x :: st) h' Q) : mm_V l G M kc ks pc L (.int i :: va_rf r :: st) h Q := by
  obtain ⟨a, ys, cap, j, rfl, hA, rfl, hj, hw⟩ := hw
  obtain ⟨fs, hh⟩ := hV.lObj hA
  refine mm_callV (as := [.int (nI j)]) (st := st) hd hp hc hh rfl (vl_rem hV hA hj) rfl rfl hfr h8 (Nat.zero_le _) (Nat.zero_le _) (fun v h' hq => ?_)
  obtain ⟨rfl, hV⟩ := hq
  exact kk _ _ _ hV hw
def wj_AL_clear (A : ab_H) (r : Option Nat) (K : ab_H → Prop) : Prop := ∃ a ys cap, r = some a ∧ A a = some (oL ys cap) ∧ K (ab_u A a (oL [] cap))
theorem wr_AL_clear {K : ab_H → Prop} (hV : Vw G h A) (hw : wj_AL_clear A r  K) (hd : decode M.2.1 pc = .ok (.invokevirtual index, 3)) (hp : pc + 3 = pc') (hc : mm_CB M.1.cls index M_AL_clear 0 ∧ Cond.instanceMethod M_AL_clear.1 ∈ mm_all ∧ Cond.selects M_AL_clear.1.cls M_AL_clear.1 M_AL_clear.1 ∈ mm_all) (hfr : M_AL_clear.2.2.2.2 + 1 ≤ M.2.2.2.2) (h8 : (st.map fun v => v.category).sum ≤ 8) (kk : ∀ h' A', Vw G h' A' → K A' → mm_V l G M kc ks pc' L (st) h' Q) : mm_V l G M kc ks pc L (va_rf r :: st) h Q := by
  obtain ⟨a, ys, cap, rfl, hA, hw⟩ := hw
  obtain ⟨fs, hh⟩ := hV.lObj hA
  refine mm_callV (as := []) (st := st) hd hp hc hh rfl (vl_clr hV hA) rfl rfl hfr h8 (Nat.zero_le _) (Nat.zero_le _) (fun v h' hq => ?_)
  obtain ⟨rfl, hV⟩ := hq
  exact kk _ _ hV hw
end WO
