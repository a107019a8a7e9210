/-! The law over the machine -/
theorem law_1 {l : Launch} {G : mm_G} {h : mm_H} {A : ab_H} (hV : Vw G h A) (hx : G.2.2.2.2.length ≤ 2560) : mm_S l G M_L_law [va_rf (some 0)] h 408000 6670000 (wQI G (fun v _ => v = iI 1)) := by
  have hK : ∀ k, k < 8 → A k = ab_old G.2.2.2.2 k := fun k hk => by
    obtain ⟨iv, -, -, h3, -⟩ := hV
    exact h3 k (Nat.lt_of_lt_of_le hk (show 8 ≤ mm_K by decide))
  have hL : Li A := ⟨hK 1 (by omega), hK 2 (by omega), hK 3 (by omega), hK 4 (by omega), hK 5 (by omega), hK 6 (by omega), hK 7 (by omega)⟩
  exact sd_L_law hV (c_law (inp := 0) hL (hK 0 (by omega)) hx (Nat.le_refl _) (Nat.le_refl _) (fun B => rfl))
/-- what stands at the law's entry, as the class sees it -/
def A00 (xs : List Int32) : ab_H := fun k => if k < mm_K then ab_old xs k else none
def h00 (xs : List Int32) : mm_H := (fun k => mm_O xs k, mm_K)
theorem A00_lt {xs : List Int32} {a : Nat} {o : ab_O} (h : A00 xs a = some o) : a < 8 := by
  unfold A00 at h
  by_cases q : a < mm_K
  · rw [if_pos q] at h
    match a with
    | 0 => omega
    | 1 => omega
    | 2 => omega
    | 3 => omega
    | 4 => omega
    | 5 => omega
    | 6 => omega
    | 7 => omega
    | n + 8 => cases h
  · rw [if_neg q] at h
    cases h
theorem Vw_0 (G : mm_G) : Vw G (h00 G.2.2.2.2) (A00 G.2.2.2.2) := by
  refine ⟨fun a => a + 7, ⟨fun k e hk => ?_, Nat.le_refl _⟩, fun k _ => rfl, fun k hk => if_pos hk, fun a ys cap h => ?_, fun a o h => ?_, fun a o h hi => ?_, fun a b oa ob h1 h2 hn hm hi => ?_⟩
  · have h1 : (mm_Ol G.2.2.2.2)[k]? = some e := hk
    have := (List.getElem?_eq_some_iff.mp h1).1
    have h2 : (mm_Ol G.2.2.2.2).length = 18 := rfl
    show k < 24
    omega
  · have hl := A00_lt h
    match a with
    | 0 => cases h
    | 1 => cases h
    | 2 => cases h
    | 3 => cases h
    | 4 => cases h
    | 5 => cases h
    | 6 => cases h
    | 7 => cases h
    | n + 8 => omega
  · have hl := A00_lt h
    match a with
    | 0 =>
      cases h
      exact ⟨rfl, Or.inr (Or.inr (Or.inr (Or.inr rfl)))⟩
    | 1 =>
      cases h
      exact ⟨9, _, ⟨⟨[], rfl⟩, rfl, Or.inr rfl, by decide, by decide⟩, (by unfold ab_b; decide), fun _ => ⟨by decide, by decide⟩⟩
    | 2 =>
      cases h
      exact ⟨9, _, ⟨⟨[], rfl⟩, rfl, Or.inr rfl, by decide, by decide⟩, (by unfold ab_b; decide), fun _ => ⟨by decide, by decide⟩⟩
    | 3 =>
      cases h
      exact ⟨9, _, ⟨⟨[], rfl⟩, rfl, Or.inr rfl, by decide, by decide⟩, (by unfold ab_b; decide), fun _ => ⟨by decide, by decide⟩⟩
    | 4 =>
      cases h
      exact ⟨9, _, ⟨⟨[], rfl⟩, rfl, Or.inr rfl, by decide, by decide⟩, (by unfold ab_b; decide), fun _ => ⟨by decide, by decide⟩⟩
    | 5 =>
      cases h
      exact ⟨9, _, ⟨⟨[], rfl⟩, rfl, Or.inr rfl, by decide, by decide⟩, (by unfold ab_b; decide), fun _ => ⟨by decide, by decide⟩⟩
    | 6 =>
      cases h
      exact ⟨9, _, ⟨⟨[], rfl⟩, rfl, Or.inr rfl, by decide, by decide⟩, (by unfold ab_b; decide), fun _ => ⟨by decide, by decide⟩⟩
    | 7 =>
      cases h
      exact ⟨9, _, ⟨⟨[], rfl⟩, rfl, Or.inr rfl, by decide, by decide⟩, (by unfold ab_b; decide), fun _ => ⟨by decide, by decide⟩⟩
    | n + 8 => omega
  · have hl := A00_lt h
    match a with
    | 0 =>
      cases h
      exact absurd hi id
    | 1 => rfl
    | 2 => rfl
    | 3 => rfl
    | 4 => rfl
    | 5 => rfl
    | 6 => rfl
    | 7 => rfl
    | n + 8 => omega
  · have hl := A00_lt h1
    exfalso
    match a with
    | 0 => cases h1; exact hm
    | 1 => cases h1; exact hm
    | 2 => cases h1; exact hm
    | 3 => cases h1; exact hm
    | 4 => cases h1; exact hm
    | 5 => cases h1; exact hm
    | 6 => cases h1; exact hm
    | 7 => cases h1; exact hm
    | n + 8 => omega
