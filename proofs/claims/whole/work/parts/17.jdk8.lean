theorem d_AB_append_I_0 : decode prog_16_method_32_code 0 = .ok (.aload_n 0, 1) := by decide +kernel
theorem d_AB_append_I_1 : decode prog_16_method_32_code 1 = .ok (.getfield 79, 3) := by decide +kernel
theorem d_AB_append_I_4 : decode prog_16_method_32_code 4 = .ok (.istore_n 2, 1) := by decide +kernel
theorem d_AB_append_I_5 : decode prog_16_method_32_code 5 = .ok (.iload_n 2, 1) := by decide +kernel
theorem d_AB_append_I_6 : decode prog_16_method_32_code 6 = .ok (.iload_n 1, 1) := by decide +kernel
theorem d_AB_append_I_7 : decode prog_16_method_32_code 7 = .ok (.invokestatic 245, 3) := by decide +kernel
theorem d_AB_append_I_10 : decode prog_16_method_32_code 10 = .ok (.iadd, 1) := by decide +kernel
theorem d_AB_append_I_11 : decode prog_16_method_32_code 11 = .ok (.istore_n 3, 1) := by decide +kernel
theorem d_AB_append_I_12 : decode prog_16_method_32_code 12 = .ok (.aload_n 0, 1) := by decide +kernel
theorem d_AB_append_I_13 : decode prog_16_method_32_code 13 = .ok (.iload_n 3, 1) := by decide +kernel
theorem d_AB_append_I_14 : decode prog_16_method_32_code 14 = .ok (.invokevirtual 100, 3) := by decide +kernel
theorem d_AB_append_I_17 : decode prog_16_method_32_code 17 = .ok (.aload_n 0, 1) := by decide +kernel
theorem d_AB_append_I_18 : decode prog_16_method_32_code 18 = .ok (.invokevirtual 83, 3) := by decide +kernel
theorem d_AB_append_I_21 : decode prog_16_method_32_code 21 = .ok (.ifCond .eq 16, 3) := by decide +kernel
theorem d_AB_append_I_24 : decode prog_16_method_32_code 24 = .ok (.iload_n 1, 1) := by decide +kernel
theorem d_AB_append_I_25 : decode prog_16_method_32_code 25 = .ok (.iload_n 3, 1) := by decide +kernel
theorem d_AB_append_I_26 : decode prog_16_method_32_code 26 = .ok (.aload_n 0, 1) := by decide +kernel
theorem d_AB_append_I_27 : decode prog_16_method_32_code 27 = .ok (.getfield 15, 3) := by decide +kernel
theorem d_AB_append_I_30 : decode prog_16_method_32_code 30 = .ok (.invokestatic 248, 3) := by decide +kernel
theorem d_AB_append_I_33 : decode prog_16_method_32_code 33 = .ok (.pop, 1) := by decide +kernel
theorem d_AB_append_I_34 : decode prog_16_method_32_code 34 = .ok (.goto 14, 3) := by decide +kernel
theorem d_AB_append_I_48 : decode prog_16_method_32_code 48 = .ok (.aload_n 0, 1) := by decide +kernel
theorem d_AB_append_I_49 : decode prog_16_method_32_code 49 = .ok (.iload_n 3, 1) := by decide +kernel
theorem d_AB_append_I_50 : decode prog_16_method_32_code 50 = .ok (.putfield 79, 3) := by decide +kernel
theorem d_AB_append_I_53 : decode prog_16_method_32_code 53 = .ok (.aload_n 0, 1) := by decide +kernel
theorem d_AB_append_I_54 : decode prog_16_method_32_code 54 = .ok (.areturn, 1) := by decide +kernel
theorem d_IN_getChars_0 : decode prog_19_method_12_code 0 = .ok (.iload_n 1, 1) := by decide +kernel
theorem d_IN_getChars_1 : decode prog_19_method_12_code 1 = .ok (.istore 5, 2) := by decide +kernel
theorem d_IN_getChars_3 : decode prog_19_method_12_code 3 = .ok (.iload_n 0, 1) := by decide +kernel
theorem d_IN_getChars_4 : decode prog_19_method_12_code 4 = .ok (.ifCond .ge 7, 3) := by decide +kernel
theorem d_IN_getChars_11 : decode prog_19_method_12_code 11 = .ok (.iconst 0, 1) := by decide +kernel
theorem d_IN_getChars_12 : decode prog_19_method_12_code 12 = .ok (.istore 6, 2) := by decide +kernel
theorem d_IN_getChars_14 : decode prog_19_method_12_code 14 = .ok (.iload 6, 2) := by decide +kernel
theorem d_IN_getChars_16 : decode prog_19_method_12_code 16 = .ok (.ifCond .ne 6, 3) := by decide +kernel
theorem d_IN_getChars_19 : decode prog_19_method_12_code 19 = .ok (.iload_n 0, 1) := by decide +kernel
theorem d_IN_getChars_20 : decode prog_19_method_12_code 20 = .ok (.ineg, 1) := by decide +kernel
theorem d_IN_getChars_21 : decode prog_19_method_12_code 21 = .ok (.istore_n 0, 1) := by decide +kernel
theorem d_IN_getChars_22 : decode prog_19_method_12_code 22 = .ok (.iload_n 0, 1) := by decide +kernel
theorem d_IN_getChars_23 : decode prog_19_method_12_code 23 = .ok (.bipush (-100), 2) := by decide +kernel
theorem d_IN_getChars_25 : decode prog_19_method_12_code 25 = .ok (.if_icmp .gt 47, 3) := by decide +kernel
theorem d_IN_getChars_28 : decode prog_19_method_12_code 28 = .ok (.iload_n 0, 1) := by decide +kernel
theorem d_IN_getChars_29 : decode prog_19_method_12_code 29 = .ok (.bipush 100, 2) := by decide +kernel
theorem d_IN_getChars_31 : decode prog_19_method_12_code 31 = .ok (.idiv, 1) := by decide +kernel
theorem d_IN_getChars_32 : decode prog_19_method_12_code 32 = .ok (.istore_n 3, 1) := by decide +kernel
theorem d_IN_getChars_33 : decode prog_19_method_12_code 33 = .ok (.iload_n 3, 1) := by decide +kernel
theorem d_IN_getChars_34 : decode prog_19_method_12_code 34 = .ok (.bipush 100, 2) := by decide +kernel
theorem d_IN_getChars_36 : decode prog_19_method_12_code 36 = .ok (.imul, 1) := by decide +kernel
theorem d_IN_getChars_37 : decode prog_19_method_12_code 37 = .ok (.iload_n 0, 1) := by decide +kernel
theorem d_IN_getChars_38 : decode prog_19_method_12_code 38 = .ok (.isub, 1) := by decide +kernel
theorem d_IN_getChars_39 : decode prog_19_method_12_code 39 = .ok (.istore 4, 2) := by decide +kernel
theorem d_IN_getChars_41 : decode prog_19_method_12_code 41 = .ok (.iload_n 3, 1) := by decide +kernel
theorem d_IN_getChars_42 : decode prog_19_method_12_code 42 = .ok (.istore_n 0, 1) := by decide +kernel
theorem d_IN_getChars_43 : decode prog_19_method_12_code 43 = .ok (.aload_n 2, 1) := by decide +kernel
theorem d_IN_getChars_44 : decode prog_19_method_12_code 44 = .ok (.iinc 5 (-1), 3) := by decide +kernel
theorem d_IN_getChars_47 : decode prog_19_method_12_code 47 = .ok (.iload 5, 2) := by decide +kernel
theorem d_IN_getChars_49 : decode prog_19_method_12_code 49 = .ok (.getstatic 83, 3) := by decide +kernel
theorem d_IN_getChars_52 : decode prog_19_method_12_code 52 = .ok (.iload 4, 2) := by decide +kernel
theorem d_IN_getChars_54 : decode prog_19_method_12_code 54 = .ok (.baload, 1) := by decide +kernel
theorem d_IN_getChars_55 : decode prog_19_method_12_code 55 = .ok (.bastore, 1) := by decide +kernel
theorem d_IN_getChars_56 : decode prog_19_method_12_code 56 = .ok (.aload_n 2, 1) := by decide +kernel
theorem d_IN_getChars_57 : decode prog_19_method_12_code 57 = .ok (.iinc 5 (-1), 3) := by decide +kernel
theorem d_IN_getChars_60 : decode prog_19_method_12_code 60 = .ok (.iload 5, 2) := by decide +kernel
theorem d_IN_getChars_62 : decode prog_19_method_12_code 62 = .ok (.getstatic 87, 3) := by decide +kernel
theorem d_IN_getChars_65 : decode prog_19_method_12_code 65 = .ok (.iload 4, 2) := by decide +kernel
theorem d_IN_getChars_67 : decode prog_19_method_12_code 67 = .ok (.baload, 1) := by decide +kernel
theorem d_IN_getChars_68 : decode prog_19_method_12_code 68 = .ok (.bastore, 1) := by decide +kernel
theorem d_IN_getChars_69 : decode prog_19_method_12_code 69 = .ok (.goto (-47), 3) := by decide +kernel
theorem d_IN_getChars_72 : decode prog_19_method_12_code 72 = .ok (.aload_n 2, 1) := by decide +kernel
theorem d_IN_getChars_73 : decode prog_19_method_12_code 73 = .ok (.iinc 5 (-1), 3) := by decide +kernel
theorem d_IN_getChars_76 : decode prog_19_method_12_code 76 = .ok (.iload 5, 2) := by decide +kernel
theorem d_IN_getChars_78 : decode prog_19_method_12_code 78 = .ok (.getstatic 83, 3) := by decide +kernel
theorem d_IN_getChars_81 : decode prog_19_method_12_code 81 = .ok (.iload_n 0, 1) := by decide +kernel
theorem d_IN_getChars_82 : decode prog_19_method_12_code 82 = .ok (.ineg, 1) := by decide +kernel
theorem d_IN_getChars_83 : decode prog_19_method_12_code 83 = .ok (.baload, 1) := by decide +kernel
theorem d_IN_getChars_84 : decode prog_19_method_12_code 84 = .ok (.bastore, 1) := by decide +kernel
theorem d_IN_getChars_85 : decode prog_19_method_12_code 85 = .ok (.iload_n 0, 1) := by decide +kernel
theorem d_IN_getChars_86 : decode prog_19_method_12_code 86 = .ok (.bipush (-9), 2) := by decide +kernel
theorem d_IN_getChars_88 : decode prog_19_method_12_code 88 = .ok (.if_icmp .ge 16, 3) := by decide +kernel
theorem d_IN_getChars_91 : decode prog_19_method_12_code 91 = .ok (.aload_n 2, 1) := by decide +kernel
theorem d_IN_getChars_92 : decode prog_19_method_12_code 92 = .ok (.iinc 5 (-1), 3) := by decide +kernel
theorem d_IN_getChars_95 : decode prog_19_method_12_code 95 = .ok (.iload 5, 2) := by decide +kernel
theorem d_IN_getChars_97 : decode prog_19_method_12_code 97 = .ok (.getstatic 87, 3) := by decide +kernel
theorem d_IN_getChars_100 : decode prog_19_method_12_code 100 = .ok (.iload_n 0, 1) := by decide +kernel
theorem d_IN_getChars_101 : decode prog_19_method_12_code 101 = .ok (.ineg, 1) := by decide +kernel
theorem d_IN_getChars_102 : decode prog_19_method_12_code 102 = .ok (.baload, 1) := by decide +kernel
theorem d_IN_getChars_103 : decode prog_19_method_12_code 103 = .ok (.bastore, 1) := by decide +kernel
theorem d_IN_getChars_104 : decode prog_19_method_12_code 104 = .ok (.iload 6, 2) := by decide +kernel
theorem d_IN_getChars_106 : decode prog_19_method_12_code 106 = .ok (.ifCond .eq 12, 3) := by decide +kernel
theorem d_IN_getChars_118 : decode prog_19_method_12_code 118 = .ok (.iload 5, 2) := by decide +kernel
theorem d_IN_getChars_120 : decode prog_19_method_12_code 120 = .ok (.ireturn, 1) := by decide +kernel
theorem d_SB_append_I_0 : decode prog_23_method_15_code 0 = .ok (.aload_n 0, 1) := by decide +kernel
theorem d_SB_append_I_1 : decode prog_23_method_15_code 1 = .ok (.iload_n 1, 1) := by decide +kernel
theorem d_SB_append_I_2 : decode prog_23_method_15_code 2 = .ok (.invokespecial 53, 3) := by decide +kernel
theorem d_SB_append_I_5 : decode prog_23_method_15_code 5 = .ok (.pop, 1) := by decide +kernel
theorem d_SB_append_I_6 : decode prog_23_method_15_code 6 = .ok (.aload_n 0, 1) := by decide +kernel
theorem d_SB_append_I_7 : decode prog_23_method_15_code 7 = .ok (.areturn, 1) := by decide +kernel
theorem nd_0 : ∀ q, q < 100 → ∀ r, r < 100 → -(nI (100 * q + r)) / 100 = -(nI q) ∧ -(nI q) * 100 - -(nI (100 * q + r)) = nI r := by decide +kernel
theorem nd_div (n : Nat) (h : n < 10000) : -(nI n) / 100 = -(nI (n / 100)) := by
  have h1 := (nd_0 (n / 100) (by omega) (n % 100) (by omega)).1
  rw [Nat.div_add_mod] at h1
  exact h1
theorem nd_mod (n : Nat) (h : n < 10000) : -(nI (n / 100)) * 100 - -(nI n) = nI (n % 100) := by
  have h1 := (nd_0 (n / 100) (by omega) (n % 100) (by omega)).2
  rw [Nat.div_add_mod] at h1
  exact h1
theorem nI_m1 {k : Nat} (h : 0 < k) : nI k + Int32.ofInt (-1) = nI (k - 1) := by
  rw [mm_dec, show (1 : Int32) = nI 1 from rfl, pk_sub h]
/-- g is f, with the digits of n written so that they end at k -/
def dc_w (f g : Nat → Int32) (n k : Nat) : Prop := (∀ j, (k ≤ j ∨ j + (dc_l n).length < k) → g j = f j) ∧ ∀ j, j < (dc_l n).length → g (k - (dc_l n).length + j) = by_b ((dc_l n).getD j 0)
def dc_o (h : mm_H) : Prop := h.1 15 = some (.inl (9, 100, .inl (fun j => nI (48 + j % 10)))) ∧ h.1 16 = some (.inl (9, 100, .inl (fun j => nI (48 + j / 10))))
theorem dc_o.set {h : mm_H} {v cap : Nat} {f : Nat → Int32} {e : mm_E} (ho : dc_o h) (hv : h.1 v = some (.inl (1, cap, .inl f))) : dc_o (mm_set h v e) := by
  have h1 : (15 : Nat) ≠ v := fun q => by
    rw [← q, ho.1] at hv
    cases hv
  have h2 : (16 : Nat) ≠ v := fun q => by
    rw [← q, ho.2] at hv
    cases hv
  exact ⟨by rw [mm_setNe h1]; exact ho.1, by rw [mm_setNe h2]; exact ho.2⟩
theorem dc_len (n : Nat) : 0 < (dc_l n).length ∧ (dc_l n).length ≤ 4 := by
  unfold dc_l
  split
  · exact ⟨by simp, by simp⟩
  · split
    · exact ⟨by simp, by simp⟩
    · split
      · exact ⟨by simp, by simp⟩
      · exact ⟨by simp, by simp⟩
section J8
variable {l : Launch} {G : mm_G} {h : mm_H}
set_option maxHeartbeats 1000000 in
theorem lp_IN_getChars {v cap n k : Nat} {f : Nat → Int32} {x1 x3 x4 : Option Value} {Q : Option Value → mm_H → Prop} (h2a : mm_2 x4 = false) (ho : dc_o h) (hv : h.1 v = some (.inl (1, cap, .inl f))) (hn : n < 100) (hk : (dc_l n).length ≤ k) (hkc : k ≤ cap) (hcap : cap ≤ 300) (hQ : ∀ g, dc_w f g n k → Q (some (.int (nI (k - (dc_l n).length)))) (mm_set h v (.inl (1, cap, .inl g)))) : mm_V l G M_IN_getChars 0 0 22 [some (.int (-(nI n))), x1, some (.ref v), x3, x4, some (.int (nI k)), some (.int 0)] [] h Q := by
  have hk1 : 1 ≤ k := by
    by_cases h10 : n < 10
    · rw [dc_1 h10] at hk
      exact hk
    · rw [dc_2 (by omega) hn] at hk
      exact Nat.le_trans (show 1 ≤ 2 by decide) hk
  refine mm_iload_n (pc' := 23) d_IN_getChars_22 rfl rfl rfl ?_
  refine mm_bipush (v := (-100)) (pc' := 25) d_IN_getChars_23 rfl (by decide) ?_
  rw [show (-100 : Int32) = -(nI 100) from by decide]
  refine mm_icmp_gt (pc' := 28) (tgt := 72) d_IN_getChars_25 rfl rfl (fun _ => ?_) (fun q => absurd ((ng_lt (by omega) (by omega)).mpr hn) q)
  refine mm_aload_n (pc' := 73) d_IN_getChars_72 rfl rfl rfl ?_
  refine mm_iinc5 (pc' := 76) (v := nI (k - 1)) d_IN_getChars_73 rfl h2a (nI_m1 (by omega)) (Nat.le_of_ble_eq_true rfl) ?_
  refine mm_iload (pc' := 78) d_IN_getChars_76 rfl rfl ?_
  refine mm_getstatic (pc' := 81) d_IN_getChars_78 rfl gl_IN_83 ?_
  refine mm_iload_n (pc' := 82) d_IN_getChars_81 rfl rfl rfl ?_
  refine mm_ineg (pc' := 83) d_IN_getChars_82 rfl ?_
  rw [Int32.neg_neg]
  refine mm_bald (pc' := 84) (t := 9) d_IN_getChars_83 rfl (Nat.le_of_ble_eq_true rfl) rfl ho.1 (vp_in_nI (by omega) (by omega)) ?_
  rw [nI_clamp (by omega)]
  refine mm_bast (pc' := 85) (t := 1) d_IN_getChars_84 rfl (Nat.le_of_ble_eq_true rfl) rfl hv (vp_in_nI (by omega) (by omega)) ?_
  rw [nI_clamp (by omega)]
  refine mm_iload_n (pc' := 86) d_IN_getChars_85 rfl rfl rfl ?_
  refine mm_bipush (v := (-9)) (pc' := 88) d_IN_getChars_86 rfl (by decide) ?_
  rw [show (-9 : Int32) = -(nI 9) from by decide]
  refine mm_icmp_ge (pc' := 91) (tgt := 104) d_IN_getChars_88 rfl rfl (fun hc => ?_) (fun hc => ?_)
  · have h9 : n ≤ 9 := (ng_le (by omega) (by omega)).mp hc
    have h10 : n < 10 := by omega
    rw [dc_1 h10] at hQ
    refine mm_iload (pc' := 106) d_IN_getChars_104 rfl rfl ?_
    refine mm_if_eq (pc' := 109) (tgt := 118) d_IN_getChars_106 rfl rfl (fun _ => ?_) (fun q => absurd rfl q)
    refine mm_iload (pc' := 120) d_IN_getChars_118 rfl rfl ?_
    refine mm_iret d_IN_getChars_120 rfl rfl (hQ _ ⟨fun j hj => ?_, fun j hj => ?_⟩)
    · rw [dc_1 h10] at hj
      have hj' : k ≤ j ∨ j + 1 < k := hj
      rw [pk_un (by omega)]
    · rw [dc_1 h10] at hj ⊢
      have hj' : j < 1 := hj
      have : j = 0 := by omega
      subst this
      show upd f (k - 1) _ (k - 1 + 0) = _
      rw [Nat.add_zero, pk_us]
      show by_b (48 + n % 10) = by_b (48 + n)
      rw [Nat.mod_eq_of_lt h10]
  · have h10 : 10 ≤ n := by
      have : ¬ n ≤ 9 := fun q => hc ((ng_le (by omega) (by omega)).mpr q)
      omega
    have hk2 : 2 ≤ k := by
      rw [dc_2 h10 hn] at hk
      exact hk
    rw [dc_2 h10 hn] at hQ
    have ho2 := ho.set (e := .inl (1, cap, .inl (upd f (k - 1) (nI (48 + n % 10)).toInt8.toInt32))) hv
    refine mm_aload_n (pc' := 92) d_IN_getChars_91 rfl rfl rfl ?_
    refine mm_iinc5 (pc' := 95) (v := nI ((k - 1) - 1)) d_IN_getChars_92 rfl h2a (nI_m1 (by omega)) (Nat.le_of_ble_eq_true rfl) ?_
    refine mm_iload (pc' := 97) d_IN_getChars_95 rfl rfl ?_
    refine mm_getstatic (pc' := 100) d_IN_getChars_97 rfl gl_IN_87 ?_
    refine mm_iload_n (pc' := 101) d_IN_getChars_100 rfl rfl rfl ?_
    refine mm_ineg (pc' := 102) d_IN_getChars_101 rfl ?_
    rw [Int32.neg_neg]
    refine mm_bald (pc' := 103) (t := 9) d_IN_getChars_102 rfl (Nat.le_of_ble_eq_true rfl) rfl ho2.2 (vp_in_nI (by omega) (by omega)) ?_
    rw [nI_clamp (by omega)]
    refine mm_bast (pc' := 104) (t := 1) d_IN_getChars_103 rfl (Nat.le_of_ble_eq_true rfl) rfl mm_setSelf (vp_in_nI (by omega) (by omega)) ?_
    rw [nI_clamp (by omega)]
    rw [mm_set2]
    refine mm_iload (pc' := 106) d_IN_getChars_104 rfl rfl ?_
    refine mm_if_eq (pc' := 109) (tgt := 118) d_IN_getChars_106 rfl rfl (fun _ => ?_) (fun q => absurd rfl q)
    refine mm_iload (pc' := 120) d_IN_getChars_118 rfl rfl ?_
    rw [show k - 1 - 1 = k - 2 by omega]
    refine mm_iret d_IN_getChars_120 rfl rfl (hQ _ ⟨fun j hj => ?_, fun j hj => ?_⟩)
    · rw [dc_2 h10 hn] at hj
      have hj' : k ≤ j ∨ j + 2 < k := hj
      rw [pk_un (by omega), pk_un (by omega)]
    · rw [dc_2 h10 hn] at hj ⊢
      have hj' : j < 2 := hj
      match j, hj' with
      | 0, _ =>
        show upd (upd f (k - 1) _) (k - 2) _ (k - 2 + 0) = _
        rw [Nat.add_zero, pk_us]
        rfl
      | 1, _ =>
        show upd (upd f (k - 1) _) (k - 2) _ (k - 2 + 1) = _
        rw [pk_un (by omega), show k - 2 + 1 = k - 1 by omega, pk_us]
        rfl
set_option maxHeartbeats 1000000 in
theorem sp_IN_getChars {v cap n k : Nat} {f : Nat → Int32} (ho : dc_o h) (hv : h.1 v = some (.inl (1, cap, .inl f))) (hn : n < 10000) (hk : (dc_l n).length ≤ k) (hkc : k ≤ cap) (hcap : cap ≤ 300) : mm_S l G M_IN_getChars [.int (nI n), .int (nI k), .ref v] h 0 0 (fun r h' => r = some (.int (nI (k - (dc_l n).length))) ∧ ∃ g, h' = mm_set h v (.inl (1, cap, .inl g)) ∧ dc_w f g n k) := by
  refine mm_start rfl (Nat.le_of_ble_eq_true rfl) ?_
  show mm_V l G M_IN_getChars 0 0 0 [some (.int (nI n)), some (.int (nI k)), some (.ref v), none, none, none, none] [] h _
  refine mm_iload_n (pc' := 1) d_IN_getChars_0 rfl rfl rfl ?_
  refine mm_ist5 (pc' := 3) d_IN_getChars_1 rfl rfl (Nat.le_of_ble_eq_true rfl) ?_
  refine mm_iload_n (pc' := 4) d_IN_getChars_3 rfl rfl rfl ?_
  refine mm_if_ge (pc' := 7) (tgt := 11) d_IN_getChars_4 rfl rfl (fun _ => ?_) (fun q => absurd (nI_pos' (by omega)) q)
  refine mm_iconst (v := 0) (pc' := 12) d_IN_getChars_11 rfl (by decide) ?_
  refine mm_ist6 (pc' := 14) d_IN_getChars_12 rfl rfl (Nat.le_of_ble_eq_true rfl) ?_
  refine mm_iload (pc' := 16) d_IN_getChars_14 rfl rfl ?_
  refine mm_if_ne (pc' := 19) (tgt := 22) d_IN_getChars_16 rfl rfl (fun q => absurd rfl q) (fun _ => ?_)
  refine mm_iload_n (pc' := 20) d_IN_getChars_19 rfl rfl rfl ?_
  refine mm_ineg (pc' := 21) d_IN_getChars_20 rfl ?_
  refine mm_ist0 (pc' := 22) d_IN_getChars_21 rfl rfl (Nat.le_of_ble_eq_true rfl) ?_
  by_cases h100 : n < 100
  · exact lp_IN_getChars rfl ho hv h100 hk hkc hcap (fun g hg => ⟨rfl, g, rfl, hg⟩)
  · have hlen : (dc_l n).length = (dc_l (n / 100)).length + 2 := by
      by_cases h1000 : n < 1000
      · rw [dc_3 (by omega) h1000, dc_1 (show n / 100 < 10 by omega)]
        rfl
      · rw [dc_4 (by omega), dc_2 (show 10 ≤ n / 100 by omega) (by omega)]
        rfl
    refine mm_iload_n (pc' := 23) d_IN_getChars_22 rfl rfl rfl ?_
    refine mm_bipush (v := (-100)) (pc' := 25) d_IN_getChars_23 rfl (by decide) ?_
    rw [show (-100 : Int32) = -(nI 100) from by decide]
    refine mm_icmp_gt (pc' := 28) (tgt := 72) d_IN_getChars_25 rfl rfl (fun q => absurd q (fun q => h100 ((ng_lt (by omega) (by omega)).mp q))) (fun _ => ?_)
    refine mm_iload_n (pc' := 29) d_IN_getChars_28 rfl rfl rfl ?_
    refine mm_bipush (v := 100) (pc' := 31) d_IN_getChars_29 rfl (by decide) ?_
    refine mm_idiv (pc' := 32) d_IN_getChars_31 rfl (by decide) ?_
    rw [nd_div n hn]
    refine mm_ist3 (pc' := 33) d_IN_getChars_32 rfl rfl (Nat.le_of_ble_eq_true rfl) ?_
    refine mm_iload_n (pc' := 34) d_IN_getChars_33 rfl rfl rfl ?_
    refine mm_bipush (v := 100) (pc' := 36) d_IN_getChars_34 rfl (by decide) ?_
    refine mm_imul (pc' := 37) d_IN_getChars_36 rfl ?_
    refine mm_iload_n (pc' := 38) d_IN_getChars_37 rfl rfl rfl ?_
    refine mm_isub (pc' := 39) d_IN_getChars_38 rfl ?_
    rw [nd_mod n hn]
    refine mm_ist4 (pc' := 41) d_IN_getChars_39 rfl rfl (Nat.le_of_ble_eq_true rfl) ?_
    refine mm_iload_n (pc' := 42) d_IN_getChars_41 rfl rfl rfl ?_
    refine mm_ist0 (pc' := 43) d_IN_getChars_42 rfl rfl (Nat.le_of_ble_eq_true rfl) ?_
    refine mm_aload_n (pc' := 44) d_IN_getChars_43 rfl rfl rfl ?_
    refine mm_iinc5 (pc' := 47) (v := nI (k - 1)) d_IN_getChars_44 rfl rfl (nI_m1 (by omega)) (Nat.le_of_ble_eq_true rfl) ?_
    refine mm_iload (pc' := 49) d_IN_getChars_47 rfl rfl ?_
    refine mm_getstatic (pc' := 52) d_IN_getChars_49 rfl gl_IN_83 ?_
    refine mm_iload (pc' := 54) d_IN_getChars_52 rfl rfl ?_
    refine mm_bald (pc' := 55) (t := 9) d_IN_getChars_54 rfl (Nat.le_of_ble_eq_true rfl) rfl ho.1 (vp_in_nI (by omega) (by omega)) ?_
    rw [nI_clamp (by omega)]
    refine mm_bast (pc' := 56) (t := 1) d_IN_getChars_55 rfl (Nat.le_of_ble_eq_true rfl) rfl hv (vp_in_nI (by omega) (by omega)) ?_
    rw [nI_clamp (by omega)]
    have ho2 := ho.set (e := .inl (1, cap, .inl (upd f (k - 1) (nI (48 + n % 100 % 10)).toInt8.toInt32))) hv
    refine mm_aload_n (pc' := 57) d_IN_getChars_56 rfl rfl rfl ?_
    refine mm_iinc5 (pc' := 60) (v := nI ((k - 1) - 1)) d_IN_getChars_57 rfl rfl (nI_m1 (by omega)) (Nat.le_of_ble_eq_true rfl) ?_
    refine mm_iload (pc' := 62) d_IN_getChars_60 rfl rfl ?_
    refine mm_getstatic (pc' := 65) d_IN_getChars_62 rfl gl_IN_87 ?_
    refine mm_iload (pc' := 67) d_IN_getChars_65 rfl rfl ?_
    refine mm_bald (pc' := 68) (t := 9) d_IN_getChars_67 rfl (Nat.le_of_ble_eq_true rfl) rfl ho2.2 (vp_in_nI (by omega) (by omega)) ?_
    rw [nI_clamp (by omega)]
    refine mm_bast (pc' := 69) (t := 1) d_IN_getChars_68 rfl (Nat.le_of_ble_eq_true rfl) rfl mm_setSelf (vp_in_nI (by omega) (by omega)) ?_
    rw [nI_clamp (by omega)]
    rw [mm_set2]
    have ho3 := ho.set (e := .inl (1, cap, .inl (upd (upd f (k - 1) (nI (48 + n % 100 % 10)).toInt8.toInt32) (k - 1 - 1) (nI (48 + n % 100 / 10)).toInt8.toInt32))) hv
    refine mm_goto (tgt := 22) d_IN_getChars_69 rfl ?_
    refine lp_IN_getChars rfl ho3 mm_setSelf (by omega) (by omega) (by omega) hcap (fun g hg => ?_)
    rw [mm_set2]
    refine ⟨by rw [hlen]; congr 3; omega, g, rfl, fun j hj => ?_, fun j hj => ?_⟩
    · rw [hg.1 j (by omega), pk_un (by omega), pk_un (by omega)]
    · by_cases hj2 : j < (dc_l (n / 100)).length
      · have h5 := hg.2 j hj2
        rw [show k - (dc_l n).length + j = k - 1 - 1 - (dc_l (n / 100)).length + j by omega, h5]
        by_cases h1000 : n < 1000
        · rw [dc_1 (show n / 100 < 10 by omega)] at hj2 ⊢
          rw [dc_3 (by omega) h1000]
          have : j = 0 := by
            have : j < 1 := hj2
            omega
          subst this
          rfl
        · rw [dc_2 (show 10 ≤ n / 100 by omega) (by omega)] at hj2 ⊢
          rw [dc_4 (by omega)]
          have hj3 : j < 2 := hj2
          match j, hj3 with
          | 0, _ =>
            show by_b (48 + n / 100 / 10) = by_b (48 + n / 1000)
            rw [Nat.div_div_eq_div_mul]
          | 1, _ => rfl
      · have hjj : j = (dc_l (n / 100)).length ∨ j = (dc_l (n / 100)).length + 1 := by omega
        have hgd : (dc_l n).getD (dc_l (n / 100)).length 0 = 48 + n / 10 % 10 ∧ (dc_l n).getD ((dc_l (n / 100)).length + 1) 0 = 48 + n % 10 := by
          by_cases h1000 : n < 1000
          · rw [dc_3 (by omega) h1000, dc_1 (show n / 100 < 10 by omega)]
            exact ⟨rfl, rfl⟩
          · rw [dc_4 (by omega), dc_2 (show 10 ≤ n / 100 by omega) (by omega)]
            exact ⟨rfl, rfl⟩
        rcases hjj with hjj | hjj
        · rw [hg.1 _ (by omega), hjj, hgd.1, show k - (dc_l n).length + (dc_l (n / 100)).length = k - 1 - 1 by omega, pk_us]
          show by_b (48 + n % 100 / 10) = _
          congr 1
          omega
        · rw [hg.1 _ (by omega), hjj, hgd.2, pk_un (by omega), show k - (dc_l n).length + ((dc_l (n / 100)).length + 1) = k - 1 by omega, pk_us]
          show by_b (48 + n % 100 % 10) = _
          congr 1
          omega
set_option maxHeartbeats 1000000 in
theorem sp_AB_append_I (hw : mm_wf h) {a v cap n : Nat} {ml : Int32} {f : Nat → Int32} (hb : bu_at h a v cap n ml f) {i : Nat} (hi : i < 10000) (hn : n + 4 ≤ 140) (ho : dc_o h) : mm_S l G M_AB_append_I [.ref a, .int (nI i)] h 1 (bu_ks cap (n + (dc_l i).length)) (fun r h' => r = some (.ref a) ∧ ∃ v' f', bu_at h' a v' (bu_gr cap (n + (dc_l i).length)) (n + (dc_l i).length) ml f' ∧ bu_fr h h' a v v' ∧ (∀ j, j < n → f' j = f j) ∧ ∀ j, j < (dc_l i).length → f' (n + j) = by_b ((dc_l i).getD j 0)) := by
  refine mm_start rfl (Nat.le_of_ble_eq_true rfl) ?_
  show mm_V l G M_AB_append_I 1 (bu_ks cap (n + (dc_l i).length)) 0 [some (.ref a), some (.int (nI i)), none, none] [] h _
  obtain ⟨hl1, hl2⟩ := dc_len i
  obtain ⟨hh, hv, hnc, hc3, hfit⟩ := id hb
  refine mm_aload_n (pc' := 1) d_AB_append_I_0 rfl rfl rfl ?_
  refine mm_getfield (pc' := 4) d_AB_append_I_1 rfl fl_AB_79 hh rfl ?_
  refine mm_ist2 (pc' := 5) d_AB_append_I_4 rfl rfl (Nat.le_of_ble_eq_true rfl) ?_
  refine mm_iload_n (pc' := 6) d_AB_append_I_5 rfl rfl rfl ?_
  refine mm_iload_n (pc' := 7) d_AB_append_I_6 rfl rfl rfl ?_
  refine mm_callS (pc' := 10) (as := [.int (nI i)]) (st := [_]) d_AB_append_I_7 rfl cs_AB_245 (sp_IN_stringSize hi) rfl rfl (Nat.le_of_ble_eq_true rfl) (Nat.le_of_ble_eq_true rfl) (Nat.zero_le _) (Nat.zero_le _) (fun v h1 hq => ?_)
  obtain ⟨rfl, hqe⟩ := hq
  rw [hqe]
  refine mm_iadd (pc' := 11) d_AB_append_I_10 rfl ?_
  rw [nI_add]
  refine mm_ist3 (pc' := 12) d_AB_append_I_11 rfl rfl (Nat.le_of_ble_eq_true rfl) ?_
  refine mm_aload_n (pc' := 13) d_AB_append_I_12 rfl rfl rfl ?_
  refine mm_iload_n (pc' := 14) d_AB_append_I_13 rfl rfl rfl ?_
  refine mm_callU (pc' := 17) (as := [.int (nI (n + (dc_l i).length))]) (st := []) d_AB_append_I_14 rfl cs_AB_100 hh rfl (sq_ensure hw hb (by omega)) rfl rfl (Nat.le_of_ble_eq_true rfl) (Nat.le_of_ble_eq_true rfl) (Nat.le_refl _) (Nat.le_refl _) (fun r2 h3 hq => ?_)
  obtain ⟨rfl, v1, f1, hb1, hf1, hff⟩ := hq
  obtain ⟨hh1, hv1, hnc1, hc31, hfit1⟩ := id hb1
  have hle : n + (dc_l i).length ≤ bu_gr cap (n + (dc_l i).length) := by
    unfold bu_gr
    split <;> omega
  have hk15 : ∀ q, q < 24 → q < h.2 := fun q hq => Nat.lt_of_lt_of_le hq hw.2
  have h15 : ∀ q e, h.1 q = some (.inl (9, 100, .inl e)) → q ≠ a ∧ q ≠ v := fun q e hq => ⟨mm_oi hh hq, fun z => by
    rw [z, hv] at hq
    cases hq⟩
  have ho1 : dc_o h3 := ⟨by rw [hf1.2.2.2 15 (h15 _ _ ho.1).1 (h15 _ _ ho.1).2 (hk15 15 (by decide))]; exact ho.1, by rw [hf1.2.2.2 16 (h15 _ _ ho.2).1 (h15 _ _ ho.2).2 (hk15 16 (by decide))]; exact ho.2⟩
  refine mm_aload_n (pc' := 18) d_AB_append_I_17 rfl rfl rfl ?_
  refine mm_callU (pc' := 21) (as := []) (st := []) d_AB_append_I_18 rfl cs_AB_83 hh1 rfl (sp_AB_isLatin1 hh1) rfl rfl (Nat.le_of_ble_eq_true rfl) (Nat.le_of_ble_eq_true rfl) (Nat.zero_le _) (Nat.zero_le _) (fun v h2 hq => ?_)
  obtain ⟨rfl, rfl⟩ := hq
  refine mm_if_eq (pc' := 24) (tgt := 37) d_AB_append_I_21 rfl rfl (fun q => absurd q (by decide)) (fun _ => ?_)
  refine mm_iload_n (pc' := 25) d_AB_append_I_24 rfl rfl rfl ?_
  refine mm_iload_n (pc' := 26) d_AB_append_I_25 rfl rfl rfl ?_
  refine mm_aload_n (pc' := 27) d_AB_append_I_26 rfl rfl rfl ?_
  refine mm_getfield (pc' := 30) d_AB_append_I_27 rfl fl_AB_15 hh1 rfl ?_
  refine mm_callS (pc' := 33) (as := [.int (nI i), .int (nI (n + (dc_l i).length)), .ref v1]) (st := []) d_AB_append_I_30 rfl cs_AB_248 (sp_IN_getChars ho1 hv1 hi (by omega) hle hc31) rfl rfl (Nat.le_of_ble_eq_true rfl) (Nat.le_of_ble_eq_true rfl) (Nat.zero_le _) (Nat.zero_le _) (fun v h2 hq => ?_)
  obtain ⟨rfl, g, rfl, hg⟩ := hq
  have hva := mm_oi hh1 hv1
  have hh5 := (mm_setNe (e := .inl (1, bu_gr cap (n + (dc_l i).length), .inl g)) hva.symm).trans hh1
  refine mm_pop (pc' := 34) d_AB_append_I_33 rfl rfl ?_
  refine mm_goto (tgt := 48) d_AB_append_I_34 rfl ?_
  refine mm_aload_n (pc' := 49) d_AB_append_I_48 rfl rfl rfl ?_
  refine mm_iload_n (pc' := 50) d_AB_append_I_49 rfl rfl rfl ?_
  refine mm_putfield (pc' := 53) d_AB_append_I_50 rfl pl_AB_append_I_79 (fun _ => ⟨rfl, rfl⟩) hh5 (Or.inl (by decide)) (Nat.le_of_ble_eq_true rfl) ?_
  refine mm_aload_n (pc' := 54) d_AB_append_I_53 rfl rfl rfl ?_
  refine mm_aret d_AB_append_I_54 rfl (by first | exact Or.inl ⟨_, rfl⟩ | exact Or.inr ⟨_, rfl⟩) (Or.inr ⟨_, rfl⟩) ⟨rfl, v1, g, ⟨mm_setSelf, ?_, hle, hc31, fun j hj => ?_⟩, ?_, fun j hj => ?_, fun j hj => ?_⟩
  · rw [mm_setNe hva, mm_setSelf]
  · by_cases hj2 : n ≤ j ∧ j < n + (dc_l i).length
    · have h5 := hg.2 (j - n) (by omega)
      rw [show n + (dc_l i).length - (dc_l i).length + (j - n) = j by omega] at h5
      rw [h5]
      exact by_fit _
    · rw [hg.1 j (by omega)]
      exact hfit1 j hj
  · refine hf1.tr ⟨(hf1.1.set hv1).set hh5, Nat.le_refl _, Or.inl rfl, fun b h1 h2 _ => ?_⟩
    rw [mm_setNe h1, mm_setNe h2]
  · rw [hg.1 j (by omega)]
    exact hff j (by omega)
  · have h5 := hg.2 j hj
    rw [show n + (dc_l i).length - (dc_l i).length + j = n + j by omega] at h5
    exact h5
set_option maxHeartbeats 1000000 in
theorem sp_SB_append_I (hw : mm_wf h) {a v cap n : Nat} {ml : Int32} {f : Nat → Int32} (hb : bu_at h a v cap n ml f) {i : Nat} (hi : i < 10000) (hn : n + 4 ≤ 140) (ho : dc_o h) : mm_S l G M_SB_append_I [.ref a, .int (nI i)] h 1 (bu_ks cap (n + (dc_l i).length)) (fun r h' => r = some (.ref a) ∧ ∃ v' f', bu_at h' a v' (bu_gr cap (n + (dc_l i).length)) (n + (dc_l i).length) ml f' ∧ bu_fr h h' a v v' ∧ (∀ j, j < n → f' j = f j) ∧ ∀ j, j < (dc_l i).length → f' (n + j) = by_b ((dc_l i).getD j 0)) := by
  refine mm_start rfl (Nat.le_of_ble_eq_true rfl) ?_
  show mm_V l G M_SB_append_I 1 (bu_ks cap (n + (dc_l i).length)) 0 [some (.ref a), some (.int (nI i))] [] h _
  refine mm_aload_n (pc' := 1) d_SB_append_I_0 rfl rfl rfl ?_
  refine mm_iload_n (pc' := 2) d_SB_append_I_1 rfl rfl rfl ?_
  refine mm_callP (pc' := 5) (as := [.int (nI i)]) (st := []) d_SB_append_I_2 rfl cs_SB_53 hb.1 rfl (sp_AB_append_I hw hb hi hn ho) rfl rfl (Nat.le_of_ble_eq_true rfl) (Nat.le_of_ble_eq_true rfl) (Nat.le_refl _) (Nat.le_refl _) (fun r1 h1 hq => ?_)
  obtain ⟨rfl, hq⟩ := hq
  refine mm_pop (pc' := 6) d_SB_append_I_5 rfl rfl ?_
  refine mm_aload_n (pc' := 7) d_SB_append_I_6 rfl rfl rfl ?_
  exact mm_aret d_SB_append_I_7 rfl (by first | exact Or.inl ⟨_, rfl⟩ | exact Or.inr ⟨_, rfl⟩) (Or.inr ⟨_, rfl⟩) ⟨rfl, hq⟩
end J8
