/-! The reference without the heap: its numbers and its rows -/
abbrev RS : Type := (Nat → Int32) × (Nat → Nat → Int32)
def md_row (k : Nat) : Bool := match k with
  | 0 => true
  | 1 => true
  | 2 => true
  | 3 => true
  | 4 => true
  | 6 => true
  | 8 => true
  | 9 => true
  | 11 => true
  | 12 => true
  | 13 => true
  | 14 => true
  | 15 => true
  | 18 => true
  | 19 => true
  | 20 => true
  | 21 => true
  | 22 => true
  | 23 => true
  | 24 => true
  | 25 => true
  | 26 => true
  | 30 => true
  | 31 => true
  | 33 => true
  | 37 => true
  | 39 => true
  | 41 => true
  | _ => false
def md_ty (k : Nat) : Nat := match k with
  | 2 => 3
  | _ => 0
def md_len (k : Nat) : Nat := match k with
  | 0 => 4160
  | 1 => 8
  | 2 => 3
  | 3 => 240
  | 4 => 3
  | 6 => 8
  | 8 => 3
  | 9 => 40
  | 11 => 36
  | 12 => 36
  | 13 => 36
  | 14 => 36
  | 15 => 1440
  | 18 => 8
  | 19 => 8
  | 20 => 8
  | 21 => 8
  | 22 => 320
  | 23 => 8
  | 24 => 8
  | 25 => 8
  | 26 => 8
  | 30 => 5
  | 31 => 5
  | 33 => 64
  | 37 => 40
  | 39 => 64
  | 41 => 64
  | _ => 0
def md_fs (R : Nat → Nat) (s : RS) : List Value := (List.range 43).map fun k => if md_row k then .ref (R k) else .int (s.1 k)
def Md (A : ab_H) (a : Nat) (R : Nat → Nat) (s : RS) : Prop := A a = some (oR (.inr (14, md_fs R s))) ∧ ∀ k, md_row k = true → A (R k) = some (oR (.inl (md_ty k, md_len k, .inl (s.2 k))))
/-- the reference stands at a with its rows at R, in the state s; all else is as in A0 -/
def Me (A0 A : ab_H) (a : Nat) (R : Nat → Nat) (s : RS) : Prop := Md A a R s ∧ (∀ j k, md_row j = true → md_row k = true → R j = R k → j = k) ∧ ∀ b, b ≠ a → (∀ k, md_row k = true → b ≠ R k) → A b = A0 b
def sI (s : RS) (k : Nat) (v : Int32) : RS := (fun j => if j = k then v else s.1 j, s.2)
def sR (s : RS) (k i : Nat) (v : Int32) : RS := (s.1, fun j => if j = k then upd (s.2 k) i v else s.2 j)
def vP (s : RS) (k : Nat) (v : Int32) (K : RS → Prop) : Prop := K (sI s k v)
def vA (s : RS) (k : Nat) (i : Int32) (K : Int32 → Prop) : Prop := vp_in i (md_len k) ∧ K (s.2 k i.toNatClampNeg)
def vS (s : RS) (k : Nat) (i v : Int32) (K : RS → Prop) : Prop := vp_in i (md_len k) ∧ K (sR s k i.toNatClampNeg v)
theorem vl_let {α : Type} {e : α} {K Kv : α → Prop} (hv : wL e Kv) (kk : ∀ x, Kv x → K x) : wL e K := kk e hv
theorem me_if {c : Prop} [Decidable c] {T F T' F' : Prop} (hv : if c then T' else F') (kt : T' → T) (kf : F' → F) : if c then T else F := by
  by_cases q : c
  · rw [if_pos q] at hv ⊢
    exact kt hv
  · rw [if_neg q] at hv ⊢
    exact kf hv
theorem md_at {R : Nat → Nat} {s : RS} {k : Nat} (hk : k < 43) : (md_fs R s)[k]? = some (if md_row k then .ref (R k) else .int (s.1 k)) := by
  simp [md_fs, hk]
section ME
variable {A0 A : ab_H} {a : Nat} {R : Nat → Nat} {s : RS} {k : Nat}
theorem Me.ne (H : Me A0 A a R s) (hk : md_row k = true) : R k ≠ a := fun q => by
  have h1 := H.1.2 k hk
  rw [q, H.1.1] at h1
  cases h1
theorem me_gI {Kv K : Int32 → Prop} (H : Me A0 A a R s) (hr : md_row k = false) (hk : k < 43) (hv : wL (s.1 k) Kv) (kk : ∀ x, Kv x → K x) : wgI A (some a) 14 k K :=
  ⟨a, _, s.1 k, rfl, H.1.1, by rw [md_at hk, hr]; rfl, kk _ hv⟩
theorem me_gR {K : Option Nat → Prop} (H : Me A0 A a R s) (hr : md_row k = true) (hk : k < 43) (kk : K (some (R k))) : wgR A (some a) 14 k K :=
  ⟨a, _, some (R k), rfl, H.1.1, by rw [md_at hk, hr]; rfl, kk⟩
theorem me_c {K : Nat → Prop} (H : Me A0 A a R s) (kk : K a) : wC A (some a) 14 K := ⟨a, _, rfl, H.1.1, kk⟩
theorem md_setI {v : Int32} (hr : md_row k = false) : (md_fs R s).set k (.int v) = md_fs R (sI s k v) := by
  apply List.ext_getElem?
  intro i
  rw [List.getElem?_set]
  by_cases hik : k = i
  · subst hik
    rw [if_pos rfl]
    by_cases h43 : k < 43
    · rw [md_at h43, hr, if_pos (by simpa [md_fs] using h43)]
      simp [sI]
    · rw [if_neg (by simpa [md_fs] using h43)]
      simp [md_fs, h43]
  · rw [if_neg hik]
    by_cases h43 : i < 43
    · rw [md_at h43, md_at h43]
      simp [sI, show ¬ i = k from fun q => hik q.symm]
    · simp [md_fs, h43]
theorem me_p {v : Int32} {Kv : RS → Prop} {K : ab_H → Prop} (H : Me A0 A a R s) (hr : md_row k = false) (hk : k < 43) (hv : vP s k v Kv) (kk : ∀ A' s', Me A0 A' a R s' → Kv s' → K A') : wp A (some a) 14 k (.int v) K := by
  refine ⟨a, _, rfl, H.1.1, by simpa [md_fs] using hk, kk _ _ ⟨⟨?_, fun j hj => ?_⟩, H.2.1, fun b hb hbr => ?_⟩ hv⟩
  · rw [ab_us, md_setI hr]
  · rw [ab_un (H.ne hj)]
    exact H.1.2 j hj
  · rw [ab_un hb]
    exact H.2.2 b hb hbr
theorem me_l {i : Int32} {Kv K : Int32 → Prop} (H : Me A0 A a R s) (hr : md_row k = true) (ht : md_ty k = 0) (hv : vA s k i Kv) (kk : ∀ x, Kv x → K x) : wAI A (some (R k)) i K :=
  ⟨R k, _, _, _, rfl, H.1.2 k hr, Or.inl ht, hv.1, kk _ hv.2⟩
theorem me_lZ {i : Int32} {Kv K : Int32 → Prop} (H : Me A0 A a R s) (hr : md_row 2 = true) (hv : vA s 2 i Kv) (kk : ∀ x, Kv x → K x) : wAZ A (some (R 2)) i K :=
  ⟨R 2, _, _, _, rfl, H.1.2 2 hr, rfl, hv.1, kk _ hv.2⟩
theorem Me.row (H : Me A0 A a R s) (hr : md_row k = true) (i : Nat) (v : Int32) : Me A0 (ab_u A (R k) (oR (.inl (md_ty k, md_len k, .inl (upd (s.2 k) i v))))) a R (sR s k i v) := by
  refine ⟨⟨?_, fun j hj => ?_⟩, H.2.1, fun b hb hbr => ?_⟩
  · rw [ab_un (H.ne hr).symm]
    exact H.1.1
  · by_cases hjk : j = k
    · subst hjk
      rw [ab_us]
      simp [sR]
    · rw [ab_un (fun q => hjk (H.2.1 j k hj hr q)), H.1.2 j hj]
      simp [sR, hjk]
  · rw [ab_un (hbr k hr)]
    exact H.2.2 b hb hbr
theorem me_s {i v : Int32} {Kv : RS → Prop} {K : ab_H → Prop} (H : Me A0 A a R s) (hr : md_row k = true) (ht : md_ty k = 0) (hv : vS s k i v Kv) (kk : ∀ A' s', Me A0 A' a R s' → Kv s' → K A') : wSI A (some (R k)) i v K := by
  have h1 := H.1.2 k hr
  have h2 := H.row hr i.toNatClampNeg v
  rw [ht] at h1 h2
  exact ⟨R k, _, _, rfl, h1, hv.1, kk _ _ h2 hv.2⟩
theorem me_sZ {i v : Int32} {Kv : RS → Prop} {K : ab_H → Prop} (H : Me A0 A a R s) (hr : md_row 2 = true) (hb : v = 0 ∨ v = 1) (hv : vS s 2 i v Kv) (kk : ∀ A' s', Me A0 A' a R s' → Kv s' → K A') : wSZ A (some (R 2)) i v K :=
  ⟨R 2, _, _, rfl, H.1.2 2 hr, hv.1, hb, kk _ _ (H.row hr _ _) hv.2⟩
end ME
