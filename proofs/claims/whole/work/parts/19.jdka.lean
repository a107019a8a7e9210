theorem d_AL_clear_0 : decode prog_29_method_40_code 0 = .ok (.aload_n 0, 1) := by decide +kernel
theorem d_AL_clear_1 : decode prog_29_method_40_code 1 = .ok (.dup, 1) := by decide +kernel
theorem d_AL_clear_2 : decode prog_29_method_40_code 2 = .ok (.getfield 63, 3) := by decide +kernel
theorem d_AL_clear_5 : decode prog_29_method_40_code 5 = .ok (.iconst 1, 1) := by decide +kernel
theorem d_AL_clear_6 : decode prog_29_method_40_code 6 = .ok (.iadd, 1) := by decide +kernel
theorem d_AL_clear_7 : decode prog_29_method_40_code 7 = .ok (.putfield 63, 3) := by decide +kernel
theorem d_AL_clear_10 : decode prog_29_method_40_code 10 = .ok (.aload_n 0, 1) := by decide +kernel
theorem d_AL_clear_11 : decode prog_29_method_40_code 11 = .ok (.getfield 9, 3) := by decide +kernel
theorem d_AL_clear_14 : decode prog_29_method_40_code 14 = .ok (.astore_n 1, 1) := by decide +kernel
theorem d_AL_clear_15 : decode prog_29_method_40_code 15 = .ok (.aload_n 0, 1) := by decide +kernel
theorem d_AL_clear_16 : decode prog_29_method_40_code 16 = .ok (.getfield 48, 3) := by decide +kernel
theorem d_AL_clear_19 : decode prog_29_method_40_code 19 = .ok (.istore_n 2, 1) := by decide +kernel
theorem d_AL_clear_20 : decode prog_29_method_40_code 20 = .ok (.aload_n 0, 1) := by decide +kernel
theorem d_AL_clear_21 : decode prog_29_method_40_code 21 = .ok (.iconst 0, 1) := by decide +kernel
theorem d_AL_clear_22 : decode prog_29_method_40_code 22 = .ok (.dup_x1, 1) := by decide +kernel
theorem d_AL_clear_23 : decode prog_29_method_40_code 23 = .ok (.putfield 48, 3) := by decide +kernel
theorem d_AL_clear_26 : decode prog_29_method_40_code 26 = .ok (.istore_n 3, 1) := by decide +kernel
theorem d_AL_clear_27 : decode prog_29_method_40_code 27 = .ok (.iload_n 3, 1) := by decide +kernel
theorem d_AL_clear_28 : decode prog_29_method_40_code 28 = .ok (.iload_n 2, 1) := by decide +kernel
theorem d_AL_clear_29 : decode prog_29_method_40_code 29 = .ok (.if_icmp .ge 13, 3) := by decide +kernel
theorem d_AL_clear_32 : decode prog_29_method_40_code 32 = .ok (.aload_n 1, 1) := by decide +kernel
theorem d_AL_clear_33 : decode prog_29_method_40_code 33 = .ok (.iload_n 3, 1) := by decide +kernel
theorem d_AL_clear_34 : decode prog_29_method_40_code 34 = .ok (.aconst_null, 1) := by decide +kernel
theorem d_AL_clear_35 : decode prog_29_method_40_code 35 = .ok (.aastore, 1) := by decide +kernel
theorem d_AL_clear_36 : decode prog_29_method_40_code 36 = .ok (.iinc 3 1, 3) := by decide +kernel
theorem d_AL_clear_39 : decode prog_29_method_40_code 39 = .ok (.goto (-12), 3) := by decide +kernel
theorem d_AL_clear_42 : decode prog_29_method_40_code 42 = .ok (.return_, 1) := by decide +kernel
theorem d_AL_fastRemove_0 : decode prog_29_method_39_code 0 = .ok (.aload_n 0, 1) := by decide +kernel
theorem d_AL_fastRemove_1 : decode prog_29_method_39_code 1 = .ok (.dup, 1) := by decide +kernel
theorem d_AL_fastRemove_2 : decode prog_29_method_39_code 2 = .ok (.getfield 63, 3) := by decide +kernel
theorem d_AL_fastRemove_5 : decode prog_29_method_39_code 5 = .ok (.iconst 1, 1) := by decide +kernel
theorem d_AL_fastRemove_6 : decode prog_29_method_39_code 6 = .ok (.iadd, 1) := by decide +kernel
theorem d_AL_fastRemove_7 : decode prog_29_method_39_code 7 = .ok (.putfield 63, 3) := by decide +kernel
theorem d_AL_fastRemove_10 : decode prog_29_method_39_code 10 = .ok (.aload_n 0, 1) := by decide +kernel
theorem d_AL_fastRemove_11 : decode prog_29_method_39_code 11 = .ok (.getfield 48, 3) := by decide +kernel
theorem d_AL_fastRemove_14 : decode prog_29_method_39_code 14 = .ok (.iconst 1, 1) := by decide +kernel
theorem d_AL_fastRemove_15 : decode prog_29_method_39_code 15 = .ok (.isub, 1) := by decide +kernel
theorem d_AL_fastRemove_16 : decode prog_29_method_39_code 16 = .ok (.dup, 1) := by decide +kernel
theorem d_AL_fastRemove_17 : decode prog_29_method_39_code 17 = .ok (.istore_n 3, 1) := by decide +kernel
theorem d_AL_fastRemove_18 : decode prog_29_method_39_code 18 = .ok (.iload_n 2, 1) := by decide +kernel
theorem d_AL_fastRemove_19 : decode prog_29_method_39_code 19 = .ok (.if_icmp .le 15, 3) := by decide +kernel
theorem d_AL_fastRemove_22 : decode prog_29_method_39_code 22 = .ok (.aload_n 1, 1) := by decide +kernel
theorem d_AL_fastRemove_23 : decode prog_29_method_39_code 23 = .ok (.iload_n 2, 1) := by decide +kernel
theorem d_AL_fastRemove_24 : decode prog_29_method_39_code 24 = .ok (.iconst 1, 1) := by decide +kernel
theorem d_AL_fastRemove_25 : decode prog_29_method_39_code 25 = .ok (.iadd, 1) := by decide +kernel
theorem d_AL_fastRemove_26 : decode prog_29_method_39_code 26 = .ok (.aload_n 1, 1) := by decide +kernel
theorem d_AL_fastRemove_27 : decode prog_29_method_39_code 27 = .ok (.iload_n 2, 1) := by decide +kernel
theorem d_AL_fastRemove_28 : decode prog_29_method_39_code 28 = .ok (.iload_n 3, 1) := by decide +kernel
theorem d_AL_fastRemove_29 : decode prog_29_method_39_code 29 = .ok (.iload_n 2, 1) := by decide +kernel
theorem d_AL_fastRemove_30 : decode prog_29_method_39_code 30 = .ok (.isub, 1) := by decide +kernel
theorem d_AL_fastRemove_31 : decode prog_29_method_39_code 31 = .ok (.invokestatic 112, 3) := by decide +kernel
theorem d_AL_fastRemove_34 : decode prog_29_method_39_code 34 = .ok (.aload_n 1, 1) := by decide +kernel
theorem d_AL_fastRemove_35 : decode prog_29_method_39_code 35 = .ok (.aload_n 0, 1) := by decide +kernel
theorem d_AL_fastRemove_36 : decode prog_29_method_39_code 36 = .ok (.iload_n 3, 1) := by decide +kernel
theorem d_AL_fastRemove_37 : decode prog_29_method_39_code 37 = .ok (.dup_x1, 1) := by decide +kernel
theorem d_AL_fastRemove_38 : decode prog_29_method_39_code 38 = .ok (.putfield 48, 3) := by decide +kernel
theorem d_AL_fastRemove_41 : decode prog_29_method_39_code 41 = .ok (.aconst_null, 1) := by decide +kernel
theorem d_AL_fastRemove_42 : decode prog_29_method_39_code 42 = .ok (.aastore, 1) := by decide +kernel
theorem d_AL_fastRemove_43 : decode prog_29_method_39_code 43 = .ok (.return_, 1) := by decide +kernel
theorem d_AL_remove_0 : decode prog_29_method_29_code 0 = .ok (.iload_n 1, 1) := by decide +kernel
theorem d_AL_remove_1 : decode prog_29_method_29_code 1 = .ok (.aload_n 0, 1) := by decide +kernel
theorem d_AL_remove_2 : decode prog_29_method_29_code 2 = .ok (.getfield 48, 3) := by decide +kernel
theorem d_AL_remove_5 : decode prog_29_method_29_code 5 = .ok (.invokestatic 118, 3) := by decide +kernel
theorem d_AL_remove_8 : decode prog_29_method_29_code 8 = .ok (.pop, 1) := by decide +kernel
theorem d_AL_remove_9 : decode prog_29_method_29_code 9 = .ok (.aload_n 0, 1) := by decide +kernel
theorem d_AL_remove_10 : decode prog_29_method_29_code 10 = .ok (.getfield 9, 3) := by decide +kernel
theorem d_AL_remove_13 : decode prog_29_method_29_code 13 = .ok (.astore_n 2, 1) := by decide +kernel
theorem d_AL_remove_14 : decode prog_29_method_29_code 14 = .ok (.aload_n 2, 1) := by decide +kernel
theorem d_AL_remove_15 : decode prog_29_method_29_code 15 = .ok (.iload_n 1, 1) := by decide +kernel
theorem d_AL_remove_16 : decode prog_29_method_29_code 16 = .ok (.aaload, 1) := by decide +kernel
theorem d_AL_remove_17 : decode prog_29_method_29_code 17 = .ok (.astore_n 3, 1) := by decide +kernel
theorem d_AL_remove_18 : decode prog_29_method_29_code 18 = .ok (.aload_n 0, 1) := by decide +kernel
theorem d_AL_remove_19 : decode prog_29_method_29_code 19 = .ok (.aload_n 2, 1) := by decide +kernel
theorem d_AL_remove_20 : decode prog_29_method_29_code 20 = .ok (.iload_n 1, 1) := by decide +kernel
theorem d_AL_remove_21 : decode prog_29_method_29_code 21 = .ok (.invokevirtual 144, 3) := by decide +kernel
theorem d_AL_remove_24 : decode prog_29_method_29_code 24 = .ok (.aload_n 3, 1) := by decide +kernel
theorem d_AL_remove_25 : decode prog_29_method_29_code 25 = .ok (.areturn, 1) := by decide +kernel
theorem ls_ob.set {h : mm_H} {a y ci : Nat} {fs fs' : List Value} (hh : h.1 a = some (.inr (ci, fs))) (hy : ls_ob h y) : ls_ob (mm_set h a (.inr (ci, fs'))) y := by
  obtain ⟨ci2, fs2, C, T, N, hyo, hcl, hca⟩ := hy
  by_cases hya : y = a
  · subst hya
    rw [hh] at hyo
    cases hyo
    exact ⟨ci, _, C, T, N, mm_setSelf, hcl, hca⟩
  · exact ⟨ci2, fs2, C, T, N, by rw [mm_setNe hya]; exact hyo, hcl, hca⟩
section JA
variable {l : Launch} {G : mm_G} {h : mm_H}
set_option maxHeartbeats 1000000 in
theorem sp_AL_fastRemove (hw : mm_wf h) {a v n : Nat} {mc : Int32} {f : Nat → Option Nat} (hb : ls_at h a v n mc 10 f) {i : Nat} (hi : i < n) (hel : ∀ j, j < n → ∀ y, f j = some y → ls_ob h y) : mm_S l G M_AL_fastRemove [.ref a, .ref v, .int (nI i)] h 0 0 (fun r h' => r = none ∧ ∃ f', ls_at h' a v (n - 1) (mc + 1) 10 f' ∧ bu_fr h h' a v v ∧ (∀ j, j < i → f' j = f j) ∧ ∀ j, i ≤ j → j < n - 1 → f' j = f (j + 1)) := by
  refine mm_start rfl (Nat.le_of_ble_eq_true rfl) ?_
  show mm_V l G M_AL_fastRemove 0 0 0 [some (.ref a), some (.ref v), some (.int (nI i)), none] [] h _
  have hh := hb.1
  have hv : h.1 v = some (.inl (4, 10, .inr (.inr (.inr (.inr f))))) := by
    rcases hb.2.2 with ⟨h0, -⟩ | ⟨-, h1⟩
    · exact absurd h0 (by decide)
    · exact h1
  have hn10 := hb.2.1
  have hva := mm_oi hh hv
  refine mm_aload_n (pc' := 1) d_AL_fastRemove_0 rfl rfl rfl ?_
  refine mm_dup (pc' := 2) d_AL_fastRemove_1 rfl rfl ?_
  refine mm_getfield (pc' := 5) d_AL_fastRemove_2 rfl fl_AL_63 hh rfl ?_
  refine mm_iconst (v := 1) (pc' := 6) d_AL_fastRemove_5 rfl (by decide) ?_
  refine mm_iadd (pc' := 7) d_AL_fastRemove_6 rfl ?_
  refine mm_putfield (pc' := 10) d_AL_fastRemove_7 rfl pl_AL_fastRemove_63 (fun _ => ⟨rfl, rfl⟩) hh (Or.inl (by decide)) (Nat.le_of_ble_eq_true rfl) ?_
  have hh1 : (mm_set h a (.inr (2, ([.ref v, .int (nI n), .int mc] : List Value).set 2 (.int (mc + 1))))).1 a = some (.inr (2, [.ref v, .int (nI n), .int (mc + 1)])) := mm_setSelf
  have hv1 : (mm_set h a (.inr (2, ([.ref v, .int (nI n), .int mc] : List Value).set 2 (.int (mc + 1))))).1 v = some (.inl (4, 10, .inr (.inr (.inr (.inr f))))) := by rw [mm_setNe hva]; exact hv
  have hel1 : ∀ j, j < n → ∀ y, f j = some y → ls_ob (mm_set h a (.inr (2, ([.ref v, .int (nI n), .int mc] : List Value).set 2 (.int (mc + 1))))) y := fun j hj y hy => (hel j hj y hy).set hh
  have hfr : bu_fr h (mm_set h a (.inr (2, ([.ref v, .int (nI n), .int mc] : List Value).set 2 (.int (mc + 1))))) a v v := bu_fr.set1 hw hh
  generalize mm_set h a (.inr (2, ([.ref v, .int (nI n), .int mc] : List Value).set 2 (.int (mc + 1)))) = h1 at hh1 hv1 hel1 hfr ⊢
  refine mm_aload_n (pc' := 11) d_AL_fastRemove_10 rfl rfl rfl ?_
  refine mm_getfield (pc' := 14) d_AL_fastRemove_11 rfl fl_AL_48 hh1 rfl ?_
  refine mm_iconst (v := 1) (pc' := 15) d_AL_fastRemove_14 rfl (by decide) ?_
  refine mm_isub (pc' := 16) d_AL_fastRemove_15 rfl ?_
  rw [show (1 : Int32) = nI 1 from rfl, pk_sub (by omega)]
  refine mm_dup (pc' := 17) d_AL_fastRemove_16 rfl rfl ?_
  refine mm_ist3 (pc' := 18) d_AL_fastRemove_17 rfl rfl (Nat.le_of_ble_eq_true rfl) ?_
  refine mm_iload_n (pc' := 19) d_AL_fastRemove_18 rfl rfl rfl ?_
  refine mm_icmp_le (pc' := 22) (tgt := 34) d_AL_fastRemove_19 rfl rfl (fun hc => ?_) (fun hc => ?_)
  · have hin : n - 1 = i := by
      have := (nI_leI (by omega) (by omega)).mp hc
      omega
    refine mm_aload_n (pc' := 35) d_AL_fastRemove_34 rfl rfl rfl ?_
    refine mm_aload_n (pc' := 36) d_AL_fastRemove_35 rfl rfl rfl ?_
    refine mm_iload_n (pc' := 37) d_AL_fastRemove_36 rfl rfl rfl ?_
    refine mm_dup_x1 (pc' := 38) d_AL_fastRemove_37 rfl rfl rfl ?_
    refine mm_putfield (pc' := 41) d_AL_fastRemove_38 rfl pl_AL_fastRemove_48 (fun _ => ⟨rfl, rfl⟩) hh1 (Or.inl (by decide)) (Nat.le_of_ble_eq_true rfl) ?_
    refine mm_null (pc' := 42) d_AL_fastRemove_41 rfl ?_
    refine mm_aastN (pc' := 43) (t := 4) d_AL_fastRemove_42 rfl (Nat.le_of_ble_eq_true rfl) rfl (by rw [mm_setNe hva]; exact hv1) (vp_in_nI (by omega) (by omega)) ?_
    rw [nI_clamp (by omega)]
    refine mm_vret d_AL_fastRemove_43 rfl ⟨rfl, va_up f (n - 1) none, ⟨by rw [mm_setNe hva.symm]; exact mm_setSelf, by omega, Or.inr ⟨rfl, mm_setSelf⟩⟩, ?_, fun j hj => ?_, fun j h1 h2 => ?_⟩
    · exact hfr.tr (bu_fr.set2 hfr.1 hh1 hv1 hva)
    · exact va_up_ne _ _ (by omega)
    · omega
  · have hin : i < n - 1 := Nat.lt_of_not_le fun q => hc (nI_le q (by omega))
    refine mm_aload_n (pc' := 23) d_AL_fastRemove_22 rfl rfl rfl ?_
    refine mm_iload_n (pc' := 24) d_AL_fastRemove_23 rfl rfl rfl ?_
    refine mm_iconst (v := 1) (pc' := 25) d_AL_fastRemove_24 rfl (by decide) ?_
    refine mm_iadd (pc' := 26) d_AL_fastRemove_25 rfl ?_
    rw [nI_1]
    refine mm_aload_n (pc' := 27) d_AL_fastRemove_26 rfl rfl rfl ?_
    refine mm_iload_n (pc' := 28) d_AL_fastRemove_27 rfl rfl rfl ?_
    refine mm_iload_n (pc' := 29) d_AL_fastRemove_28 rfl rfl rfl ?_
    refine mm_iload_n (pc' := 30) d_AL_fastRemove_29 rfl rfl rfl ?_
    refine mm_isub (pc' := 31) d_AL_fastRemove_30 rfl ?_
    rw [pk_sub (by omega)]
    have c1 : (nI (i + 1)).toNatClampNeg = i + 1 := nI_clamp (by omega)
    have c2 : (nI i).toNatClampNeg = i := nI_clamp (by omega)
    have c3 : (nI (n - 1 - i)).toNatClampNeg = n - 1 - i := nI_clamp (by omega)
    refine mm_copyq (pc' := 34) (t := 4) (n1 := 10) d_AL_fastRemove_31 rfl ac_AL_112 (Nat.le_of_ble_eq_true rfl) rfl hv1 (nI_pos (by omega)) (nI_pos (by omega)) (nI_pos (by omega)) (by rw [c1, c3]; omega) (by rw [c2, c3]; omega) (fun q hq y hy => by
      rw [c3] at hq
      rw [c1] at hy
      obtain ⟨ci, fs, C, T, N, z1, z2, z3⟩ := hel1 _ (by omega) y hy
      exact ⟨ci, fs, C, T, N, z1, z2, Or.inr z3⟩) (Nat.le_of_ble_eq_true rfl) (Nat.le_of_ble_eq_true rfl) ?_
    rw [c1, c2, c3]
    refine mm_aload_n (pc' := 35) d_AL_fastRemove_34 rfl rfl rfl ?_
    refine mm_aload_n (pc' := 36) d_AL_fastRemove_35 rfl rfl rfl ?_
    refine mm_iload_n (pc' := 37) d_AL_fastRemove_36 rfl rfl rfl ?_
    refine mm_dup_x1 (pc' := 38) d_AL_fastRemove_37 rfl rfl rfl ?_
    refine mm_putfield (pc' := 41) d_AL_fastRemove_38 rfl pl_AL_fastRemove_48 (fun _ => ⟨rfl, rfl⟩) (by rw [mm_setNe hva.symm]; exact hh1) (Or.inl (by decide)) (Nat.le_of_ble_eq_true rfl) ?_
    refine mm_null (pc' := 42) d_AL_fastRemove_41 rfl ?_
    refine mm_aastN (pc' := 43) (t := 4) d_AL_fastRemove_42 rfl (Nat.le_of_ble_eq_true rfl) rfl (by rw [mm_setNe hva]; exact mm_setSelf) (vp_in_nI (by omega) (by omega)) ?_
    rw [nI_clamp (by omega)]
    refine mm_vret d_AL_fastRemove_43 rfl ⟨rfl, va_up (va_cpy f f (i + 1) i (n - 1 - i)) (n - 1) none, ⟨by rw [mm_setNe hva.symm]; exact mm_setSelf, by omega, Or.inr ⟨rfl, mm_setSelf⟩⟩, ?_, fun j hj => ?_, fun j h1 h2 => ?_⟩
    · have w2 := hfr.1.set (e := .inl (4, 10, .inr (.inr (.inr (.inr (va_cpy f f (i + 1) i (n - 1 - i))))))) hv1
      have w3 := w2.set (a := a) (e := .inr (2, ([.ref v, .int (nI n), .int (mc + 1)] : List Value).set 1 (.int (nI (n - 1))))) (e0 := .inr (2, [.ref v, .int (nI n), .int (mc + 1)])) (by rw [mm_setNe hva.symm]; exact hh1)
      refine hfr.tr ⟨w3.set (e0 := .inl (4, 10, .inr (.inr (.inr (.inr (va_cpy f f (i + 1) i (n - 1 - i))))))) (by rw [mm_setNe hva]; exact mm_setSelf), Nat.le_refl _, Or.inl rfl, fun b h1 h2 _ => ?_⟩
      rw [mm_setNe h2, mm_setNe h1, mm_setNe h2]
    · rw [va_up_ne _ _ (by omega), pk_cpy_out (by omega)]
    · rw [va_up_ne _ _ (by omega), pk_cpy_in (by omega) (by omega)]
      congr 1
      omega
set_option maxHeartbeats 1000000 in
theorem sp_AL_remove (hw : mm_wf h) {a v n cap : Nat} {mc : Int32} {f : Nat → Option Nat} (hb : ls_at h a v n mc cap f) {i y0 : Nat} (hi : i < n) (hy0 : f i = some y0) (hel : ∀ j, j < n → ∀ y, f j = some y → ls_ob h y) : mm_S l G M_AL_remove [.ref a, .int (nI i)] h 0 0 (fun r h' => r = some (.ref y0) ∧ ∃ f', ls_at h' a v (n - 1) (mc + 1) 10 f' ∧ bu_fr h h' a v v ∧ (∀ j, j < i → f' j = f j) ∧ ∀ j, i ≤ j → j < n - 1 → f' j = f (j + 1)) := by
  refine mm_start rfl (Nat.le_of_ble_eq_true rfl) ?_
  show mm_V l G M_AL_remove 0 0 0 [some (.ref a), some (.int (nI i)), none, none] [] h _
  have hh := hb.1
  have hcap : cap = 10 := by
    have := hb.2.1
    rcases hb.2.2 with ⟨h0, -⟩ | ⟨h0, -⟩ <;> omega
  subst hcap
  have hv : h.1 v = some (.inl (4, 10, .inr (.inr (.inr (.inr f))))) := by
    rcases hb.2.2 with ⟨h0, -⟩ | ⟨-, h1⟩
    · exact absurd h0 (by decide)
    · exact h1
  have hn10 := hb.2.1
  refine mm_iload_n (pc' := 1) d_AL_remove_0 rfl rfl rfl ?_
  refine mm_aload_n (pc' := 2) d_AL_remove_1 rfl rfl rfl ?_
  refine mm_getfield (pc' := 5) d_AL_remove_2 rfl fl_AL_48 hh rfl ?_
  refine mm_callS (pc' := 8) (as := [.int (nI i), .int (nI n)]) (st := []) d_AL_remove_5 rfl cs_AL_118 (sp_OS_checkIndex (nI_pos (by omega)) (nI_lt hi (by omega))) rfl rfl (Nat.le_of_ble_eq_true rfl) (Nat.le_of_ble_eq_true rfl) (Nat.zero_le _) (Nat.zero_le _) (fun v h1 hq => ?_)
  obtain ⟨rfl, rfl⟩ := hq
  refine mm_pop (pc' := 9) d_AL_remove_8 rfl rfl ?_
  refine mm_aload_n (pc' := 10) d_AL_remove_9 rfl rfl rfl ?_
  refine mm_getfield (pc' := 13) d_AL_remove_10 rfl fl_AL_9 hh rfl ?_
  refine mm_ast2 (pc' := 14) d_AL_remove_13 rfl rfl (Nat.le_of_ble_eq_true rfl) ?_
  refine mm_aload_n (pc' := 15) d_AL_remove_14 rfl rfl rfl ?_
  refine mm_iload_n (pc' := 16) d_AL_remove_15 rfl rfl rfl ?_
  refine mm_aald (pc' := 17) (t := 4) d_AL_remove_16 rfl (Nat.le_of_ble_eq_true rfl) rfl hv (vp_in_nI (by omega) (by omega)) ?_
  rw [nI_clamp (by omega), hy0]
  refine mm_ast3 (pc' := 18) (a := y0) d_AL_remove_17 rfl rfl (Nat.le_of_ble_eq_true rfl) ?_
  refine mm_aload_n (pc' := 19) d_AL_remove_18 rfl rfl rfl ?_
  refine mm_aload_n (pc' := 20) d_AL_remove_19 rfl rfl rfl ?_
  refine mm_iload_n (pc' := 21) d_AL_remove_20 rfl rfl rfl ?_
  refine mm_callV (pc' := 24) (as := [.ref v, .int (nI i)]) (st := []) d_AL_remove_21 rfl cs_AL_144 hh rfl (sp_AL_fastRemove hw hb hi hel) rfl rfl (Nat.le_of_ble_eq_true rfl) (Nat.le_of_ble_eq_true rfl) (Nat.zero_le _) (Nat.zero_le _) (fun v h1 hq => ?_)
  obtain ⟨rfl, hq⟩ := hq
  refine mm_aload_n (pc' := 25) d_AL_remove_24 rfl rfl rfl ?_
  exact mm_aret d_AL_remove_25 rfl (by first | exact Or.inl ⟨_, rfl⟩ | exact Or.inr ⟨_, rfl⟩) (Or.inr ⟨_, rfl⟩) ⟨rfl, hq⟩
set_option maxHeartbeats 1000000 in
theorem lp_AL_clear {a v n : Nat} {Q : Option Value → mm_H → Prop} (hn : n ≤ 10) : ∀ k (h : mm_H) i f, i + k = n → h.1 v = some (.inl (4, 10, .inr (.inr (.inr (.inr f))))) → (∀ f', Q none (mm_set h v (.inl (4, 10, .inr (.inr (.inr (.inr f'))))))) → mm_V l G M_AL_clear 0 0 27 [some (.ref a), some (.ref v), some (.int (nI n)), some (.int (nI i))] [] h Q := by
  intro k
  induction k with
  | zero =>
    intro h i f hik hv hQ
    refine mm_iload_n (pc' := 28) d_AL_clear_27 rfl rfl rfl ?_
    refine mm_iload_n (pc' := 29) d_AL_clear_28 rfl rfl rfl ?_
    refine mm_icmp_ge (pc' := 32) (tgt := 42) d_AL_clear_29 rfl rfl (fun _ => ?_) (fun q => absurd (nI_le (by omega) (by omega)) q)
    refine mm_vret d_AL_clear_42 rfl ?_
    have h9 := hQ f
    rw [mm_setSame hv] at h9
    exact h9
  | succ k ih =>
    intro h i f hik hv hQ
    refine mm_iload_n (pc' := 28) d_AL_clear_27 rfl rfl rfl ?_
    refine mm_iload_n (pc' := 29) d_AL_clear_28 rfl rfl rfl ?_
    refine mm_icmp_ge (pc' := 32) (tgt := 42) d_AL_clear_29 rfl rfl (fun q => absurd q (nI_ge (by omega) (by omega))) (fun _ => ?_)
    refine mm_aload_n (pc' := 33) d_AL_clear_32 rfl rfl rfl ?_
    refine mm_iload_n (pc' := 34) d_AL_clear_33 rfl rfl rfl ?_
    refine mm_null (pc' := 35) d_AL_clear_34 rfl ?_
    refine mm_aastN (pc' := 36) (t := 4) d_AL_clear_35 rfl (Nat.le_of_ble_eq_true rfl) rfl hv (vp_in_nI (by omega) (by omega)) ?_
    refine mm_iinc3 (v := _ + 1) (pc' := 39) d_AL_clear_36 rfl rfl rfl (Nat.le_of_ble_eq_true rfl) ?_
    refine mm_goto (tgt := 27) d_AL_clear_39 rfl ?_
    rw [nI_1]
    refine ih _ (i + 1) _ (by omega) mm_setSelf (fun f' => ?_)
    rw [mm_set2]
    exact hQ f'
set_option maxHeartbeats 1000000 in
theorem sp_AL_clear (hw : mm_wf h) {a v n cap : Nat} {mc : Int32} {f : Nat → Option Nat} (hb : ls_at h a v n mc cap f) : mm_S l G M_AL_clear [.ref a] h 0 0 (fun r h' => r = none ∧ ∃ f', ls_at h' a v 0 (mc + 1) cap f' ∧ bu_fr h h' a v v) := by
  refine mm_start rfl (Nat.le_of_ble_eq_true rfl) ?_
  show mm_V l G M_AL_clear 0 0 0 [some (.ref a), none, none, none] [] h _
  have hh := hb.1
  refine mm_aload_n (pc' := 1) d_AL_clear_0 rfl rfl rfl ?_
  refine mm_dup (pc' := 2) d_AL_clear_1 rfl rfl ?_
  refine mm_getfield (pc' := 5) d_AL_clear_2 rfl fl_AL_63 hh rfl ?_
  refine mm_iconst (v := 1) (pc' := 6) d_AL_clear_5 rfl (by decide) ?_
  refine mm_iadd (pc' := 7) d_AL_clear_6 rfl ?_
  refine mm_putfield (pc' := 10) d_AL_clear_7 rfl pl_AL_clear_63 (fun _ => ⟨rfl, rfl⟩) hh (Or.inl (by decide)) (Nat.le_of_ble_eq_true rfl) ?_
  refine mm_aload_n (pc' := 11) d_AL_clear_10 rfl rfl rfl ?_
  refine mm_getfield (pc' := 14) d_AL_clear_11 rfl fl_AL_9 mm_setSelf rfl ?_
  refine mm_ast1 (pc' := 15) d_AL_clear_14 rfl rfl (Nat.le_of_ble_eq_true rfl) ?_
  refine mm_aload_n (pc' := 16) d_AL_clear_15 rfl rfl rfl ?_
  refine mm_getfield (pc' := 19) d_AL_clear_16 rfl fl_AL_48 mm_setSelf rfl ?_
  refine mm_ist2 (pc' := 20) d_AL_clear_19 rfl rfl (Nat.le_of_ble_eq_true rfl) ?_
  refine mm_aload_n (pc' := 21) d_AL_clear_20 rfl rfl rfl ?_
  refine mm_iconst (v := 0) (pc' := 22) d_AL_clear_21 rfl (by decide) ?_
  refine mm_dup_x1 (pc' := 23) d_AL_clear_22 rfl rfl rfl ?_
  refine mm_putfield (pc' := 26) d_AL_clear_23 rfl pl_AL_clear_48 (fun _ => ⟨rfl, rfl⟩) mm_setSelf (Or.inl (by decide)) (Nat.le_of_ble_eq_true rfl) ?_
  rw [mm_set2]
  refine mm_ist3 (pc' := 27) d_AL_clear_26 rfl rfl (Nat.le_of_ble_eq_true rfl) ?_
  rcases hb.2.2 with ⟨h0, h1, h2⟩ | ⟨h0, h1⟩
  · have hn0 : n = 0 := by
      have := hb.2.1
      omega
    subst hn0
    refine mm_iload_n (pc' := 28) d_AL_clear_27 rfl rfl rfl ?_
    refine mm_iload_n (pc' := 29) d_AL_clear_28 rfl rfl rfl ?_
    refine mm_icmp_ge (pc' := 32) (tgt := 42) d_AL_clear_29 rfl rfl (fun _ => ?_) (fun q => absurd (by decide) q)
    exact mm_vret d_AL_clear_42 rfl ⟨rfl, f, ⟨mm_setSelf, Nat.zero_le _, Or.inl ⟨h0, h1, by rw [mm_setNe (mm_oi hh h2)]; exact h2⟩⟩, bu_fr.set1 hw hh⟩
  · have hva := mm_oi hh h1
    have hn10 : n ≤ 10 := by
      have := hb.2.1
      omega
    refine lp_AL_clear hn10 n _ 0 f (by omega) (by rw [mm_setNe hva]; exact h1) (fun f' => ⟨rfl, f', ⟨by rw [mm_setNe hva.symm]; exact mm_setSelf, Nat.zero_le _, Or.inr ⟨h0, mm_setSelf⟩⟩, bu_fr.set2 hw hh h1 hva⟩)
end JA
