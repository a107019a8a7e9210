/-! The law: class and reference side by side -/
def g8 (A : ab_H) (T : Nat → Nat) : ab_H := fun x => if T x = 8 then A x else none
section LAW
variable {G A B : ab_H} {T T' : Nat → Nat} {sv a inp n : Nat} {R : Nat → Nat} {s s' : RS} {S S' : St} {f : Nat → Int32}
theorem g8_i {x : Nat} {o : ab_O} (h : A x = some o) (ht : T x = 8) : g8 A T x = some o := by
  unfold g8
  rw [if_pos ht]
  exact h
theorem g8_o {x : Nat} {o : ab_O} (h : g8 A T x = some o) : A x = some o ∧ T x = 8 := by
  unfold g8 at h
  by_cases q : T x = 8
  · rw [if_pos q] at h
    exact ⟨h, q⟩
  · rw [if_neg q] at h
    cases h
theorem Inv.g (h : Inv G A T sv S) : Inv (g8 A T) A T sv S := by
  obtain ⟨ca, sa, ty, sl, kl, dl, i1, i2, i3⟩ := h
  exact ⟨ca, sa, ty, sl, kl, dl, i1, ⟨i2.1, fun x o hx => g8_o hx⟩, i3⟩
/-- a step of the other one -/
theorem Inv.t8 (h : Inv G A T sv S) (hF : Tf A T B T' [8]) : Inv (g8 B T') B T' sv S := by
  obtain ⟨ca, sa, ty, sl, kl, dl, i1, i2, i3, i4, i5, i6, i7, i8, i9⟩ := h
  exact ⟨ca, sa, ty, sl, kl, dl, hF.2.2, ⟨i2.1.f0 (hF.z (by decide)), fun x o hx => g8_o hx⟩, ⟨hF.c i3.2 (by decide) i3.1, hF.t2 i1 i3.2 (by omega) (by decide)⟩, i4.tf hF i1 (by decide) (by decide) (fun i j1 j2 => by simp; omega), i5.tf hF i1 (by decide) (by decide), i6.tf hF i1 (by decide), i7.tf hF i1 (by decide), i8.tf hF i1 (by decide) (by decide), i9.tf hF i1 (by decide) (by decide) (fun i hi => by simp; omega)⟩
/-- where the law stands: its input, the server, the reference, in one state -/
def Lw (A : ab_H) (T : Nat → Nat) (sv a inp n : Nat) (f : Nat → Int32) (R : Nat → Nat) (s : RS) (S : St) : Prop := Inv (g8 A T) A T sv S ∧ Md A a R s ∧ (∀ j k, md_row j = true → md_row k = true → R j = R k → j = k) ∧ T a = 8 ∧ (∀ k, md_row k = true → T (R k) = 8) ∧ (T inp = 8 ∧ inp ≠ a ∧ ∀ k, md_row k = true → inp ≠ R k) ∧ A inp = some (oR (.inl (8, n, .inl f)))
/-- the same, between the class's step and the reference's: the states differ -/
theorem Lw.cls (h : Lw A T sv a inp n f R s S) (hI : Inv (g8 A T) B T' sv S') : Lw B T' sv a inp n f R s S' := by
  obtain ⟨-, h2, h3, h4, h5, h6, h7⟩ := h
  have k8 : ∀ x o, A x = some o → T x = 8 → B x = some o ∧ T' x = 8 := fun x o hx ht => by
    obtain ⟨ca, sa, ty, sl, kl, dl, i1, i2, i3⟩ := hI
    exact i2.2 x o (g8_i hx ht)
  refine ⟨hI.g, ⟨(k8 a _ h2.1 h4).1, fun k hk => (k8 _ _ (h2.2 k hk) (h5 k hk)).1⟩, h3, (k8 a _ h2.1 h4).2, fun k hk => (k8 _ _ (h2.2 k hk) (h5 k hk)).2, ⟨(k8 _ _ h7 h6.1).2, h6.2⟩, (k8 _ _ h7 h6.1).1⟩
theorem Lw.me (h : Lw A T sv a inp n f R s S) : Me A A a R s := ⟨h.2.1, h.2.2.1, fun _ _ _ => rfl⟩
theorem Lw.ref (h : Lw A T sv a inp n f R s S) (hM : Me A B a R s') : Lw B T sv a inp n f R s' S := by
  obtain ⟨h1, h2, h3, h4, h5, h6, h7⟩ := h
  obtain ⟨m1, m2, m3⟩ := hM
  have hH : Hm A T := by
    obtain ⟨_, _, _, _, _, _, i1, -⟩ := h1
    exact i1
  have hT : Tf A T B T [8] := by
    refine ⟨fun x o hx hn => ?_, fun _ _ _ _ => rfl, fun x hx => ?_⟩
    · rw [m3 x (fun e => hn (by rw [e, h4]; simp)) (fun k hk e => hn (by rw [e, h5 k hk]; simp))]
      exact hx
    · by_cases e : x = a
      · rw [e]
        exact ⟨_, m1.1, rfl⟩
      · by_cases e2 : ∃ k, md_row k = true ∧ x = R k
        · obtain ⟨k, hk, e3⟩ := e2
          rw [e3]
          exact ⟨_, m1.2 k hk, rfl⟩
        · rw [m3 x e (fun k hk e3 => e2 ⟨k, hk, e3⟩)]
          exact hH x hx
  refine ⟨h1.t8 hT, m1, h3, h4, h5, h6, ?_⟩
  rw [m3 inp h6.2.1 h6.2.2]
  exact h7
theorem Rl.b8 (h : Rl s S) : ∀ d, d < 3 → ∀ y ∈ (S.1 d).2.1, y < 256 := fun d hd y hy => by
  obtain ⟨-, -, -, hB⟩ := (h.1 d hd).1
  obtain ⟨i, hi⟩ := List.mem_iff_getElem?.mp hy
  have hl : i < (S.1 d).2.1.length := (List.getElem?_eq_some_iff.mp hi).1
  have := (hB i hl).1
  rw [List.getD_eq_getElem?_getD, hi] at this
  exact this
theorem Rl.id (h : Rl s S) : ∀ x ∈ S.2.2.2.2.2.2.1, sbI x < S.2.2.2.2.2.2.2 := h.2.2.2.2.2.2.2.2
end LAW
