/-! The reference, new -/
section MIN
variable {A0 A : ab_H} {a kc ks : Nat}
def mfs (R : Nat → Nat) (L : List Nat) : List Value := (List.range 43).map fun k => if k ∈ L then .ref (R k) else if md_row k then .null else .int 0
/-- the rows that stand so far -/
def MI (A0 A : ab_H) (a : Nat) (R : Nat → Nat) (L : List Nat) : Prop := A a = some (oR (.inr (14, mfs R L))) ∧ (∀ k ∈ L, A (R k) = some (oR (.inl (md_ty k, md_len k, .inl (fun _ => 0)))) ∧ A0 (R k) = none) ∧ (∀ j ∈ L, ∀ k ∈ L, R j = R k → j = k) ∧ A0 a = none ∧ Fw A0 A []
theorem mfs_set {R : Nat → Nat} {L : List Nat} {k b : Nat} (hk : k < 43) (hL : k ∉ L) : (mfs R L).set k (.ref b) = mfs (fun j => if j = k then b else R j) (k :: L) := by
  apply List.ext_getElem?
  intro i
  rw [List.getElem?_set]
  unfold mfs
  by_cases hik : k = i
  · subst hik
    rw [if_pos rfl, if_pos (by simpa using hk)]
    simp [hk]
  · rw [if_neg hik]
    by_cases h43 : i < 43
    · simp [h43, show ¬ i = k from fun q => hik q.symm]
    · simp [h43]
theorem mi_step {R : Nat → Nat} {L : List Nat} {k t m : Nat} {K : ab_H → Nat → Nat → Prop} (h : MI A0 A a R L) (hk : k < 43) (hL : k ∉ L) (ht : md_ty k = t) (hm : md_len k = m) (hm2 : m ≤ 5000) (h1 : 1 ≤ kc) (h2 : m ≤ ks) (hK : ∀ B R', MI A0 B a R' (k :: L) → K B (kc - 1) (ks - m)) : wNA A kc ks t (iI m) (fun b A kc ks => wp A (some a) 14 k (va_rf (some b)) (fun A => K A kc ks)) := by
  obtain ⟨m1, m2, m3, m4, m5⟩ := h
  have hc : (iI (m : Int)).toNatClampNeg = m := by rw [iI_clamp (by omega) (by omega)]; rfl
  refine ⟨by rw [show (0 : Int32) = iI 0 from rfl, iI_lt (by omega) (by omega) (by omega) (by omega)]; omega, by rw [hc]; omega, h1, by rw [hc]; exact h2, fun b _ hb => ?_⟩
  rw [hc]
  have f1 : Fw A (ab_u A b (oR (.inl (t, m, .inl (fun _ => 0))))) [] := Fw.w hb
  have e1 : ab_u A b (oR (.inl (t, m, .inl (fun _ => 0)))) b = some (oR (.inl (t, m, .inl (fun _ => 0)))) := ab_us
  generalize ab_u A b (oR (.inl (t, m, .inl (fun _ => 0)))) = A1 at *
  have a1 := f1.e m1
  refine wpu a1 (by unfold mfs; simpa using hk) (fun B b1 b2 => hK B (fun j => if j = k then b else R j) ⟨?_, fun j hj => ?_, fun i hi j hj hij => ?_, m4, ?_⟩)
  · rw [b1, show va_rf (some b) = Value.ref b from rfl, mfs_set hk hL]
  · rcases List.mem_cons.mp hj with z | z
    · subst z
      dsimp only
      rw [if_pos rfl, ht, hm]
      refine ⟨b2.k e1 a1 (fun e => by cases e), ?_⟩
      exact nn_f hb m5
    · have hjk : j ≠ k := fun e => hL (by rw [← e]; exact z)
      dsimp only
      rw [if_neg hjk]
      obtain ⟨q1, q2⟩ := m2 j z
      exact ⟨b2.k (f1.e q1) a1 (fun e => by cases e), q2⟩
  · dsimp only at hij
    have ne : ∀ i, i ∈ L → R i ≠ b := fun i hi e => by
      have := (m2 i hi).1
      rw [e, hb] at this
      cases this
    rcases List.mem_cons.mp hi with z | z <;> rcases List.mem_cons.mp hj with w | w
    · rw [z, w]
    · have hjk : j ≠ k := fun e => hL (by rw [← e]; exact w)
      rw [if_pos z, if_neg hjk] at hij
      exact absurd hij.symm (ne j w)
    · have hik : i ≠ k := fun e => hL (by rw [← e]; exact z)
      rw [if_neg hik, if_pos w] at hij
      exact absurd hij (ne i z)
    · have hjk : j ≠ k := fun e => hL (by rw [← e]; exact w)
      have hik : i ≠ k := fun e => hL (by rw [← e]; exact z)
      rw [if_neg hik, if_neg hjk] at hij
      exact m3 i z j w hij
  · exact (m5.tr f1 (by simp)).tr b2 (fun x hx => Or.inr (by simp at hx; rw [hx]; exact m4))
def s00 : RS := (fun _ => 0, fun _ _ => 0)
def s0M : RS := (fun _ => 0, fun k => if k = 18 then fun i => if i < 8 then iI (-1) else 0 else fun _ => 0)
def rwL : List Nat := [41, 39, 37, 33, 31, 30, 26, 25, 24, 23, 22, 21, 20, 19, 18, 15, 14, 13, 12, 11, 9, 8, 6, 4, 3, 2, 1, 0]
theorem rwL_m {k : Nat} : k ∈ rwL ↔ md_row k = true := by
  constructor
  · intro h
    unfold rwL at h
    simp only [List.mem_cons, List.not_mem_nil, or_false] at h
    rcases h with h | h | h | h | h | h | h | h | h | h | h | h | h | h | h | h | h | h | h | h | h | h | h | h | h | h | h | h <;> rw [h] <;> rfl
  · intro h
    unfold md_row at h
    unfold rwL
    split at h <;> first | (simp; done) | (simp at h; done)
theorem MI.md {R : Nat → Nat} (h : MI A0 A a R rwL) : Md A a R s00 := by
  obtain ⟨m1, m2, -⟩ := h
  refine ⟨?_, fun k hk => (m2 k (rwL_m.mpr hk)).1⟩
  rw [m1]
  congr 4
end MIN
