/-! The class: the server's cells -/
/-- what no step rewrites stands, and so do these -/
def Kp (A C : ab_H) (W : List Nat) : Prop := ∀ x o, A x = some o → (mtb o = false ∨ x ∈ W) → C x = some o
section KPS
variable {A C : ab_H} {W : List Nat}
theorem PtAt.kp {y : Nat} {x : List Nat × List Nat} (h : PtAt A y x) (k : Kp A C W) : PtAt C y x := by
  obtain ⟨sn, sv, h1, h2, h3⟩ := h
  exact ⟨sn, sv, k _ _ h1 (Or.inl rfl), k _ _ h2 (Or.inl rfl), k _ _ h3 (Or.inl rfl)⟩
theorem PtsAt.kp {ys : List Nat} {L : List (List Nat × List Nat)} (h : PtsAt A ys L) (k : Kp A C W) : PtsAt C ys L := ⟨h.1, fun j y x h1 h2 => (h.2 j y x h1 h2).kp k⟩
variable {rd ln bd rl dc rq pl hl : Nat}
theorem Rb.kp {L D : List Nat} (h : Rb A ln bd rl dc L D) (k : Kp A C W) (h1 : ln ∈ W) (h2 : bd ∈ W) (h3 : dc ∈ W) : Rb C ln bd rl dc L D := by
  obtain ⟨⟨c1, a1, a2⟩, ⟨c2, b1, b2⟩, d, ⟨Z, c3, e1, e2⟩, f⟩ := h
  exact ⟨⟨c1, k _ _ a1 (Or.inr h1), a2⟩, ⟨c2, k _ _ b1 (Or.inr h2), b2⟩, k _ _ d (Or.inl rfl), ⟨Z, c3, k _ _ e1 (Or.inr h3), e2⟩, f⟩
theorem RqX.kp {X : List Nat} {H : List (List Nat × List Nat)} (h : RqX A rq pl hl X H) (k : Kp A C W) (h1 : rq ∈ W) (h2 : pl ∈ W) (h3 : hl ∈ W) : RqX C rq pl hl X H := by
  obtain ⟨⟨mp, pp, bp, e1, e2, e3⟩, ⟨ys, cp, e4, e5⟩, ⟨zs, cz, e6, e7⟩, e8⟩ := h
  exact ⟨⟨mp, pp, bp, k _ _ e1 (Or.inr h1), e2.kp k, e3.kp k⟩, ⟨ys, cp, k _ _ e4 (Or.inr h2), e5.kp k⟩, ⟨zs, cz, k _ _ e6 (Or.inr h3), e7.kp k⟩, e8⟩
theorem Rq0.kp (h : Rq0 A rq pl hl) (k : Kp A C W) (h1 : rq ∈ W) (h2 : pl ∈ W) (h3 : hl ∈ W) : Rq0 C rq pl hl := by
  obtain ⟨⟨mp, pp, bp, e1⟩, ⟨cp, e4⟩, ⟨cz, e6⟩, e8⟩ := h
  exact ⟨⟨mp, pp, bp, k _ _ e1 (Or.inr h1)⟩, ⟨cp, k _ _ e4 (Or.inr h2)⟩, ⟨cz, k _ _ e6 (Or.inr h3)⟩, e8⟩
theorem Ph.kp {B : List Nat} (h : Ph A rd ln bd rl dc rq pl hl B) (k : Kp A C [rd, ln, bd, dc, rq, pl, hl]) : Ph C rd ln bd rl dc rq pl hl B := by
  have m1 : rd ∈ [rd, ln, bd, dc, rq, pl, hl] := by simp
  have m2 : ln ∈ [rd, ln, bd, dc, rq, pl, hl] := by simp
  have m3 : bd ∈ [rd, ln, bd, dc, rq, pl, hl] := by simp
  have m4 : dc ∈ [rd, ln, bd, dc, rq, pl, hl] := by simp
  have m5 : rq ∈ [rd, ln, bd, dc, rq, pl, hl] := by simp
  have m6 : pl ∈ [rd, ln, bd, dc, rq, pl, hl] := by simp
  have m7 : hl ∈ [rd, ln, bd, dc, rq, pl, hl] := by simp
  rcases h with h | h | h | h | h | h
  · obtain ⟨L, sr, p1, p2, p3, p4⟩ := h
    exact Or.inl ⟨L, sr, k _ _ p1 (Or.inr m1), p2.kp k m2 m3 m4, p3.kp k m5 m6 m7, p4⟩
  · obtain ⟨P, an, ic, hs, X, H, L, sr, p1, p2, p3, p4⟩ := h
    exact Or.inr (Or.inl ⟨P, an, ic, hs, X, H, L, sr, k _ _ p1 (Or.inr m1), p2.kp k m2 m3 m4, p3.kp k m5 m6 m7, p4⟩)
  · obtain ⟨P, an, hs, X, H, D, tl, p1, p2, p3, p4⟩ := h
    exact Or.inr (Or.inr (Or.inl ⟨P, an, hs, X, H, D, tl, k _ _ p1 (Or.inr m1), p2.kp k m2 m3 m4, p3.kp k m5 m6 m7, p4⟩))
  · obtain ⟨P, n, tot, body, hs, X, H, ds, sr, tl, p1, p2, p3, p4⟩ := h
    exact Or.inr (Or.inr (Or.inr (Or.inl ⟨P, n, tot, body, hs, X, H, ds, sr, tl, k _ _ p1 (Or.inr m1), p2.kp k m2 m3 m4, p3.kp k m5 m6 m7, p4⟩)))
  · obtain ⟨P, n, tot, body, hs, X, H, ds, D, tl, p1, p2, p3, p4⟩ := h
    exact Or.inr (Or.inr (Or.inr (Or.inr (Or.inl ⟨P, n, tot, body, hs, X, H, ds, D, tl, k _ _ p1 (Or.inr m1), p2.kp k m2 m3 m4, p3.kp k m5 m6 m7, p4⟩))))
  · obtain ⟨P, n, tot, body, hs, X, H, ds, D, sr, tl, p1, p2, p3, p4⟩ := h
    exact Or.inr (Or.inr (Or.inr (Or.inr (Or.inr ⟨P, n, tot, body, hs, X, H, ds, D, sr, tl, k _ _ p1 (Or.inr m1), p2.kp k m2 m3 m4, p3.kp k m5 m6 m7, p4⟩))))
theorem Rs.kp (h : Rs A rd ln bd rl dc) (k : Kp A C W) (h0 : rd ∈ W) (h1 : ln ∈ W) (h2 : bd ∈ W) (h3 : dc ∈ W) : Rs C rd ln bd rl dc := by
  obtain ⟨⟨rq0, v4, v5, v6, v7, v8, v9, v10, r1⟩, ⟨L, c1, a1, a2⟩, ⟨D, c2, b1, b2⟩, d, ⟨Z, c3, e1, e2⟩, f⟩ := h
  exact ⟨⟨rq0, v4, v5, v6, v7, v8, v9, v10, k _ _ r1 (Or.inr h0)⟩, ⟨L, c1, k _ _ a1 (Or.inr h1), a2⟩, ⟨D, c2, k _ _ b1 (Or.inr h2), b2⟩, k _ _ d (Or.inl rfl), ⟨Z, c3, k _ _ e1 (Or.inr h3), e2⟩, f⟩
theorem Ph.rs {B : List Nat} (h : Ph A rd ln bd rl dc rq pl hl B) : Rs A rd ln bd rl dc := by
  rcases h with h | h | h | h | h | h
  · obtain ⟨L, sr, p1, p2, p3, p4⟩ := h
    exact p2.rs p1
  · obtain ⟨P, an, ic, hs, X, H, L, sr, p1, p2, p3, p4⟩ := h
    exact p2.rs p1
  · obtain ⟨P, an, hs, X, H, D, tl, p1, p2, p3, p4⟩ := h
    exact p2.rs p1
  · obtain ⟨P, n, tot, body, hs, X, H, ds, sr, tl, p1, p2, p3, p4⟩ := h
    exact p2.rs p1
  · obtain ⟨P, n, tot, body, hs, X, H, ds, D, tl, p1, p2, p3, p4⟩ := h
    exact p2.rs p1
  · obtain ⟨P, n, tot, body, hs, X, H, ds, D, sr, tl, p1, p2, p3, p4⟩ := h
    exact p2.rs p1
end KPS
/-! Marks: 0 what is never written again, the others what may be, and whose it is -/
def Zf (A : ab_H) (T : Nat → Nat) : ab_H := fun x => if T x = 0 then A x else none
def Hm (A : ab_H) (T : Nat → Nat) : Prop := ∀ x, T x ≠ 0 → ∃ o, A x = some o ∧ mtb o = true
/-- a step that touches these marks alone -/
def Tf (A : ab_H) (T : Nat → Nat) (B : ab_H) (T' : Nat → Nat) (I : List Nat) : Prop := (∀ x o, A x = some o → T x ∉ I → B x = some o) ∧ (∀ x o, A x = some o → T x ∉ I → T' x = T x) ∧ Hm B T'
section FRS
variable {A B C : ab_H} {T T' T'' : Nat → Nat} {I I' : List Nat}
theorem Zf.le (A : ab_H) (T : Nat → Nat) : Fw (Zf A T) A [] := fun x o h _ => by
  unfold Zf at h
  by_cases q : T x = 0
  · rw [if_pos q] at h
    exact h
  · rw [if_neg q] at h
    cases h
theorem Zf.i {x : Nat} {o : ab_O} (h : A x = some o) (ht : T x = 0) : Zf A T x = some o := by
  unfold Zf
  rw [if_pos ht]
  exact h
theorem Zf.o {x : Nat} {o : ab_O} (h : Zf A T x = some o) : A x = some o ∧ T x = 0 := by
  unfold Zf at h
  by_cases q : T x = 0
  · rw [if_pos q] at h
    exact ⟨h, q⟩
  · rw [if_neg q] at h
    cases h
theorem Hm.z {x : Nat} {o : ab_O} (h : Hm A T) (hx : A x = some o) (ho : mtb o = false) : T x = 0 := by
  rcases Nat.eq_zero_or_pos (T x) with z | z
  · exact z
  · obtain ⟨o', h1, h2⟩ := h x (by omega)
    rw [hx] at h1
    cases h1
    rw [ho] at h2
    cases h2
theorem Hm.n {x : Nat} (h : Hm A T) (hx : A x = none) : T x = 0 := by
  rcases Nat.eq_zero_or_pos (T x) with z | z
  · exact z
  · obtain ⟨o', h1, h2⟩ := h x (by omega)
    rw [hx] at h1
    cases h1
theorem Tf.tr (h : Tf A T B T' I) (g : Tf B T' C T'' I) : Tf A T C T'' I :=
  ⟨fun x o hx hn => g.1 x o (h.1 x o hx hn) (by rw [h.2.1 x o hx hn]; exact hn), fun x o hx hn => by rw [g.2.1 x o (h.1 x o hx hn) (by rw [h.2.1 x o hx hn]; exact hn), h.2.1 x o hx hn], g.2.2⟩
theorem Tf.mo (h : Tf A T B T' I) (hI : ∀ i ∈ I, i ∈ I') : Tf A T B T' I' := ⟨fun x o hx hn => h.1 x o hx (fun z => hn (hI _ z)), fun x o hx hn => h.2.1 x o hx (fun z => hn (hI _ z)), h.2.2⟩
theorem Tf.z (h : Tf A T B T' I) (h0 : 0 ∉ I) : Fw (Zf A T) (Zf B T') [] := fun x o hx _ => by
  obtain ⟨h1, h2⟩ := Zf.o hx
  refine Zf.i (h.1 x o h1 (by rw [h2]; exact h0)) ?_
  rw [h.2.1 x o h1 (by rw [h2]; exact h0)]
  exact h2
/-- the marks stand -/
theorem Tf.w {W : List Nat} (hT : Hm A T) (hF : Fw A B W) (hW : ∀ w ∈ W, A w = none ∨ (T w ∈ I ∧ ∃ o, B w = some o ∧ mtb o = true)) : Tf A T B T I := by
  refine ⟨fun x o hx hn => hF x o hx (fun z => ?_), fun _ _ _ _ => rfl, fun x hx => ?_⟩
  · rcases hW x z with y | y
    · rw [y] at hx
      cases hx
    · exact hn y.1
  · obtain ⟨o, h1, h2⟩ := hT x hx
    by_cases q : x ∈ W
    · rcases hW x q with y | y
      · rw [y] at h1
        cases h1
      · exact y.2
    · exact ⟨o, hF x o h1 q, h2⟩
theorem Tf.kp {W : List Nat} (h : Tf A T B T' I) (hA : Hm A T) (h0 : 0 ∉ I) (hW : ∀ w ∈ W, T w ∉ I) : Kp A B W := fun x o hx hw => h.1 x o hx (by
  rcases hw with z | z
  · rw [hA.z hx z]
    exact h0
  · exact hW x z)
end FRS
