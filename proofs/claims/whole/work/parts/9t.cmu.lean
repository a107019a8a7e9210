/-! The law, from its first step -/
theorem Rl_0 : Rl (sMi 8) S0 := by
  have j0 : (jd []).1 = 0 := by decide
  refine ⟨fun c hc => ⟨⟨by omega, by simp [S0], rfl, fun j hj => by simp [S0] at hj⟩, rfl, ⟨by simp [S0], rfl, fun j hj => by simp [S0] at hj⟩, j0⟩, ⟨⟨by simp [S0], rfl, fun q y hy => by simp [S0] at hy⟩, fun y hy => by simp [S0] at hy⟩, rfl, fun k hk => ⟨Nat.zero_le _, rfl⟩, ⟨by simp [S0], rfl, fun j hj => by simp [S0] at hj⟩, ⟨by simp [S0], rfl, fun k x hx => by simp [S0] at hx⟩, ⟨[], rfl, ?_⟩, rfl, fun x hx => by simp [S0] at hx⟩
  exact ⟨fun z hz => (by cases hz), List.Pairwise.nil, fun z hz => (by cases hz), fun z hz => (by cases hz), fun k hk _ => show (if k < 8 then iI (-1) else 0) = iI (-1) from if_pos hk, List.Pairwise.nil⟩
theorem c_law {A : ab_H} {inp n kc ks : Nat} {f : Nat → Int32} {Q : Int32 → ab_H → Prop} (hL : Li A) (hi : A inp = some (oR (.inl (8, n, .inl f)))) (hn : n ≤ 2560) (h1 : 408000 ≤ kc) (h2 : 6670000 ≤ ks) (hQ : ∀ B, Q (iI 1) B) : wp_L_law (some inp) A kc ks Q := by
  unfold wp_L_law
  refine wnw (by omega) (by omega) (fun sv A1 _ n1 e1 f1 => wD.i (wXV.i 60 400 (by omega) (by omega) ?_))
  refine c_Sinit (hL.f0 f1) e1 (f1.e hi) rfl (ne_no hi n1) (Nat.le_refl _) (Nat.le_refl _) (fun B T hI => ?_)
  obtain ⟨ib, tb⟩ : B inp = some (oR (.inl (8, n, .inl f))) ∧ T inp = 8 := by
    obtain ⟨_, _, _, _, _, _, _, i2, -⟩ := hI
    exact i2.2 inp _ (if_pos rfl)
  have hH : Hm B T := by
    obtain ⟨_, _, _, _, _, _, i1, -⟩ := hI
    exact i1
  refine wnw (by omega) (by omega) (fun a A2 _ n2 e2 f2 => wD.i (wXV.i 28 6675 (by omega) (by omega) ?_))
  refine c_Minit e2 n2 f2 (Nat.le_refl _) (Nat.le_refl _) (fun C R m1 m2 m3 F => ?_)
  have hT : Tf B T C (fun x => if x = a ∨ x ∈ rwL.map R then 8 else T x) [8] := by
    have nn : ∀ x o, B x = some o → ¬ (x = a ∨ x ∈ rwL.map R) := fun x o hx z => by
      rcases z with z | z
      · rw [z, n2] at hx
        cases hx
      · obtain ⟨k, hk, e⟩ := List.mem_map.mp z
        rw [← e, m3 k (rwL_m.mp hk)] at hx
        cases hx
    refine ⟨fun x o hx _ => F.e hx, fun x o hx _ => if_neg (nn x o hx), fun x hx => ?_⟩
    dsimp only at hx
    by_cases z : x = a ∨ x ∈ rwL.map R
    · rcases z with z | z
      · rw [z]
        exact ⟨_, m1.1, rfl⟩
      · obtain ⟨k, hk, e⟩ := List.mem_map.mp z
        rw [← e]
        exact ⟨_, m1.2 k (rwL_m.mp hk), rfl⟩
    · rw [if_neg z] at hx
      obtain ⟨o, q1, q2⟩ := hH x hx
      exact ⟨o, F.e q1, q2⟩
  have hW : Lw C (fun x => if x = a ∨ x ∈ rwL.map R then 8 else T x) sv a inp n f R (sMi 8) S0 := by
    refine ⟨hI.t8 hT, m1, m2, if_pos (Or.inl rfl), fun k hk => if_pos (Or.inr (List.mem_map_of_mem (rwL_m.mpr hk))), ⟨?_, ne_no ib n2, fun k hk e => ?_⟩, F.e ib⟩
    · dsimp only
      split
      · rfl
      · exact tb
    · rw [e, m3 k hk] at ib
      cases ib
  exact ⟨_, cl_law hn hQ 512 0 0 C _ _ S0 _ _ (by omega) rfl (by omega) hW Rl_0 (Nat.le_refl _) (Nat.le_refl _) (by omega) (by omega)⟩
