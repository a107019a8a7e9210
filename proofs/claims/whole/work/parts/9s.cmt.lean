/-! The reference, new: its constructor -/
section MIO
variable {A0 A : ab_H} {a kc ks : Nat} {Q : ab_H → Prop}
def sMi (i : Nat) : RS := (fun _ => 0, fun k => if k = 18 then fun x => if x < i then iI (-1) else 0 else fun _ => 0)
theorem cl_Min {R : Nat → Nat} (hR : ∀ j k, md_row j = true → md_row k = true → R j = R k → j = k) (n0 : A0 a = none) (hn : ∀ k, md_row k = true → A0 (R k) = none) (hQ : ∀ B, Md B a R (sMi 8) → Fw A0 B [] → Q B) : ∀ (j i : Nat) (A : ab_H) (kc ks : Nat), i + j = 8 → Md A a R (sMi i) → Fw A0 A [] → wq_M_init_229 a Q (j + 1) (iI i) A kc ks := by
  intro j
  induction j with
  | zero =>
    intro i A kc ks hi hM hF
    show wb_M_init_229 _ _ _ _ _ _ _
    unfold wb_M_init_229
    rw [if_pos (by simp (disch := omega) only [iI_lit, iI_add, iI_sub, iI_mul, iI_neg, iI_lt, iI_le, iI_eq] <;> omega)]
    rw [show i = 8 by omega] at hM
    exact hQ A hM hF
  | succ j ih =>
    intro i A kc ks hi hM hF
    show wb_M_init_229 _ _ _ _ _ _ _
    unfold wb_M_init_229
    rw [if_neg (by simp (disch := omega) only [iI_lit, iI_add, iI_sub, iI_mul, iI_neg, iI_lt, iI_le, iI_eq] <;> omega)]
    refine wgR.i (x := some (R 18)) hM.1 (by rw [md_at (by omega)]; rfl) ?_
    have h18 : A (R 18) = some (oR (.inl (0, 8, .inl (fun x => if x < i then iI (-1) else 0)))) := hM.2 18 rfl
    refine wSI.i h18 (by omega) (by omega) (fun B b1 b2 => ?_)
    rw [show iI (i : Int) + 1 = iI ((i + 1 : Nat) : Int) from iI_add _ 1]
    refine ih (i + 1) B _ _ (by omega) ⟨b2.k hM.1 h18 (fun e => by cases e), fun k hk => ?_⟩ (hF.tr b2 (fun x hx => Or.inr (by simp at hx; rw [hx]; exact hn 18 rfl)))
    by_cases e : k = 18
    · subst e
      rw [b1]
      show some (oR (.inl (0, 8, .inl _))) = some (oR (.inl (0, 8, .inl (fun x => if x < i + 1 then iI (-1) else 0))))
      suffices ef : upd (fun x => if x < i then iI (-1) else 0) i (-1) = (fun x => if x < i + 1 then iI (-1) else (0 : Int32)) by rw [ef]
      funext x
      by_cases q : x = i
      · rw [q, pk_us, if_pos (by omega)]
        rfl
      · rw [pk_un q]
        by_cases q2 : x < i
        · rw [if_pos q2, if_pos (by omega)]
        · rw [if_neg q2, if_neg (by omega)]
    · have := hM.2 k hk
      have hne : R k ≠ R 18 := fun z => e (hR k 18 hk rfl z)
      rw [b2.n this hne]
      unfold sMi
      dsimp only
      rw [if_neg e, if_neg e]
set_option maxHeartbeats 4000000 in
theorem c_Minit (h : A a = some (oR (.inr (14, mm_df 14)))) (n0 : A0 a = none) (F0 : Fw A0 A []) (h1 : 28 ≤ kc) (h2 : 6675 ≤ ks) (hQ : ∀ B R, Md B a R (sMi 8) → (∀ j k, md_row j = true → md_row k = true → R j = R k → j = k) → (∀ k, md_row k = true → A0 (R k) = none) → Fw A0 B [] → Q B) : wp_M_init a A kc ks Q := by
  have m0 : MI A0 A a (fun _ => 0) [] := ⟨by rw [h]; rfl, (fun k hk => by cases hk), (fun j hj => by cases hj), n0, F0⟩
  refine ⟨⟨a, rfl⟩, ?_⟩
  refine mi_step (k := 0) (m := 4160) m0 (by omega) (by decide) rfl rfl (by omega) (by omega) (by omega) (fun A1 R1 m1 => ?_)
  refine mi_step (k := 1) (m := 8) m1 (by omega) (by decide) rfl rfl (by omega) (by omega) (by omega) (fun A2 R2 m2 => ?_)
  refine mi_step (k := 2) (m := 3) m2 (by omega) (by decide) rfl rfl (by omega) (by omega) (by omega) (fun A3 R3 m3 => ?_)
  refine mi_step (k := 3) (m := 240) m3 (by omega) (by decide) rfl rfl (by omega) (by omega) (by omega) (fun A4 R4 m4 => ?_)
  refine mi_step (k := 4) (m := 3) m4 (by omega) (by decide) rfl rfl (by omega) (by omega) (by omega) (fun A5 R5 m5 => ?_)
  refine mi_step (k := 6) (m := 8) m5 (by omega) (by decide) rfl rfl (by omega) (by omega) (by omega) (fun A6 R6 m6 => ?_)
  refine mi_step (k := 8) (m := 3) m6 (by omega) (by decide) rfl rfl (by omega) (by omega) (by omega) (fun A7 R7 m7 => ?_)
  refine mi_step (k := 9) (m := 40) m7 (by omega) (by decide) rfl rfl (by omega) (by omega) (by omega) (fun A8 R8 m8 => ?_)
  refine mi_step (k := 11) (m := 36) m8 (by omega) (by decide) rfl rfl (by omega) (by omega) (by omega) (fun A9 R9 m9 => ?_)
  refine mi_step (k := 12) (m := 36) m9 (by omega) (by decide) rfl rfl (by omega) (by omega) (by omega) (fun A10 R10 m10 => ?_)
  refine mi_step (k := 13) (m := 36) m10 (by omega) (by decide) rfl rfl (by omega) (by omega) (by omega) (fun A11 R11 m11 => ?_)
  refine mi_step (k := 14) (m := 36) m11 (by omega) (by decide) rfl rfl (by omega) (by omega) (by omega) (fun A12 R12 m12 => ?_)
  refine mi_step (k := 15) (m := 1440) m12 (by omega) (by decide) rfl rfl (by omega) (by omega) (by omega) (fun A13 R13 m13 => ?_)
  refine mi_step (k := 18) (m := 8) m13 (by omega) (by decide) rfl rfl (by omega) (by omega) (by omega) (fun A14 R14 m14 => ?_)
  refine mi_step (k := 19) (m := 8) m14 (by omega) (by decide) rfl rfl (by omega) (by omega) (by omega) (fun A15 R15 m15 => ?_)
  refine mi_step (k := 20) (m := 8) m15 (by omega) (by decide) rfl rfl (by omega) (by omega) (by omega) (fun A16 R16 m16 => ?_)
  refine mi_step (k := 21) (m := 8) m16 (by omega) (by decide) rfl rfl (by omega) (by omega) (by omega) (fun A17 R17 m17 => ?_)
  refine mi_step (k := 22) (m := 320) m17 (by omega) (by decide) rfl rfl (by omega) (by omega) (by omega) (fun A18 R18 m18 => ?_)
  refine mi_step (k := 23) (m := 8) m18 (by omega) (by decide) rfl rfl (by omega) (by omega) (by omega) (fun A19 R19 m19 => ?_)
  refine mi_step (k := 24) (m := 8) m19 (by omega) (by decide) rfl rfl (by omega) (by omega) (by omega) (fun A20 R20 m20 => ?_)
  refine mi_step (k := 25) (m := 8) m20 (by omega) (by decide) rfl rfl (by omega) (by omega) (by omega) (fun A21 R21 m21 => ?_)
  refine mi_step (k := 26) (m := 8) m21 (by omega) (by decide) rfl rfl (by omega) (by omega) (by omega) (fun A22 R22 m22 => ?_)
  refine mi_step (k := 30) (m := 5) m22 (by omega) (by decide) rfl rfl (by omega) (by omega) (by omega) (fun A23 R23 m23 => ?_)
  refine mi_step (k := 31) (m := 5) m23 (by omega) (by decide) rfl rfl (by omega) (by omega) (by omega) (fun A24 R24 m24 => ?_)
  refine mi_step (k := 33) (m := 64) m24 (by omega) (by decide) rfl rfl (by omega) (by omega) (by omega) (fun A25 R25 m25 => ?_)
  refine mi_step (k := 37) (m := 40) m25 (by omega) (by decide) rfl rfl (by omega) (by omega) (by omega) (fun A26 R26 m26 => ?_)
  refine mi_step (k := 39) (m := 64) m26 (by omega) (by decide) rfl rfl (by omega) (by omega) (by omega) (fun A27 R27 m27 => ?_)
  refine mi_step (k := 41) (m := 64) m27 (by omega) (by decide) rfl rfl (by omega) (by omega) (by omega) (fun A28 R28 m28 => ?_)
  have mF : MI A0 A28 a R28 rwL := m28
  have hR : ∀ j k, md_row j = true → md_row k = true → R28 j = R28 k → j = k := fun j k hj hk e => mF.2.2.1 j (rwL_m.mpr hj) k (rwL_m.mpr hk) e
  have hn : ∀ k, md_row k = true → A0 (R28 k) = none := fun k hk => (mF.2.1 k (rwL_m.mpr hk)).2
  refine ⟨_, cl_Min hR n0 hn (fun B b1 b2 => hQ B R28 b1 hR hn b2) 8 0 A28 _ _ (by omega) ?_ mF.2.2.2.2⟩
  have := mF.md
  refine ⟨this.1, fun k hk => ?_⟩
  rw [this.2 k hk]
  unfold s00 sMi
  dsimp only
  by_cases e : k = 18
  · rw [if_pos e]
    rfl
  · rw [if_neg e]
end MIO
