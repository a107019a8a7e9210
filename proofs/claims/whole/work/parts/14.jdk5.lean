theorem d_L1_charAt_0 : decode prog_24_method_2_code 0 = .ok (.iload_n 1, 1) := by decide +kernel
theorem d_L1_charAt_1 : decode prog_24_method_2_code 1 = .ok (.aload_n 0, 1) := by decide +kernel
theorem d_L1_charAt_2 : decode prog_24_method_2_code 2 = .ok (.arraylength, 1) := by decide +kernel
theorem d_L1_charAt_3 : decode prog_24_method_2_code 3 = .ok (.invokestatic 9, 3) := by decide +kernel
theorem d_L1_charAt_6 : decode prog_24_method_2_code 6 = .ok (.aload_n 0, 1) := by decide +kernel
theorem d_L1_charAt_7 : decode prog_24_method_2_code 7 = .ok (.iload_n 1, 1) := by decide +kernel
theorem d_L1_charAt_8 : decode prog_24_method_2_code 8 = .ok (.baload, 1) := by decide +kernel
theorem d_L1_charAt_9 : decode prog_24_method_2_code 9 = .ok (.sipush 255, 3) := by decide +kernel
theorem d_L1_charAt_12 : decode prog_24_method_2_code 12 = .ok (.iand, 1) := by decide +kernel
theorem d_L1_charAt_13 : decode prog_24_method_2_code 13 = .ok (.i2c, 1) := by decide +kernel
theorem d_L1_charAt_14 : decode prog_24_method_2_code 14 = .ok (.ireturn, 1) := by decide +kernel
theorem d_L1_equals_0 : decode prog_24_method_13_code 0 = .ok (.aload_n 0, 1) := by decide +kernel
theorem d_L1_equals_1 : decode prog_24_method_13_code 1 = .ok (.arraylength, 1) := by decide +kernel
theorem d_L1_equals_2 : decode prog_24_method_13_code 2 = .ok (.aload_n 1, 1) := by decide +kernel
theorem d_L1_equals_3 : decode prog_24_method_13_code 3 = .ok (.arraylength, 1) := by decide +kernel
theorem d_L1_equals_4 : decode prog_24_method_13_code 4 = .ok (.if_icmp .ne 30, 3) := by decide +kernel
theorem d_L1_equals_7 : decode prog_24_method_13_code 7 = .ok (.iconst 0, 1) := by decide +kernel
theorem d_L1_equals_8 : decode prog_24_method_13_code 8 = .ok (.istore_n 2, 1) := by decide +kernel
theorem d_L1_equals_9 : decode prog_24_method_13_code 9 = .ok (.iload_n 2, 1) := by decide +kernel
theorem d_L1_equals_10 : decode prog_24_method_13_code 10 = .ok (.aload_n 0, 1) := by decide +kernel
theorem d_L1_equals_11 : decode prog_24_method_13_code 11 = .ok (.arraylength, 1) := by decide +kernel
theorem d_L1_equals_12 : decode prog_24_method_13_code 12 = .ok (.if_icmp .ge 20, 3) := by decide +kernel
theorem d_L1_equals_15 : decode prog_24_method_13_code 15 = .ok (.aload_n 0, 1) := by decide +kernel
theorem d_L1_equals_16 : decode prog_24_method_13_code 16 = .ok (.iload_n 2, 1) := by decide +kernel
theorem d_L1_equals_17 : decode prog_24_method_13_code 17 = .ok (.baload, 1) := by decide +kernel
theorem d_L1_equals_18 : decode prog_24_method_13_code 18 = .ok (.aload_n 1, 1) := by decide +kernel
theorem d_L1_equals_19 : decode prog_24_method_13_code 19 = .ok (.iload_n 2, 1) := by decide +kernel
theorem d_L1_equals_20 : decode prog_24_method_13_code 20 = .ok (.baload, 1) := by decide +kernel
theorem d_L1_equals_21 : decode prog_24_method_13_code 21 = .ok (.if_icmp .eq 5, 3) := by decide +kernel
theorem d_L1_equals_24 : decode prog_24_method_13_code 24 = .ok (.iconst 0, 1) := by decide +kernel
theorem d_L1_equals_25 : decode prog_24_method_13_code 25 = .ok (.ireturn, 1) := by decide +kernel
theorem d_L1_equals_26 : decode prog_24_method_13_code 26 = .ok (.iinc 2 1, 3) := by decide +kernel
theorem d_L1_equals_29 : decode prog_24_method_13_code 29 = .ok (.goto (-20), 3) := by decide +kernel
theorem d_L1_equals_32 : decode prog_24_method_13_code 32 = .ok (.iconst 1, 1) := by decide +kernel
theorem d_L1_equals_33 : decode prog_24_method_13_code 33 = .ok (.ireturn, 1) := by decide +kernel
theorem d_L1_equals_34 : decode prog_24_method_13_code 34 = .ok (.iconst 0, 1) := by decide +kernel
theorem d_L1_equals_35 : decode prog_24_method_13_code 35 = .ok (.ireturn, 1) := by decide +kernel
theorem d_L1_indexOf_0 : decode prog_24_method_22_code 0 = .ok (.iload_n 1, 1) := by decide +kernel
theorem d_L1_indexOf_1 : decode prog_24_method_22_code 1 = .ok (.invokestatic 88, 3) := by decide +kernel
theorem d_L1_indexOf_4 : decode prog_24_method_22_code 4 = .ok (.ifCond .ne 5, 3) := by decide +kernel
theorem d_L1_indexOf_9 : decode prog_24_method_22_code 9 = .ok (.iload_n 2, 1) := by decide +kernel
theorem d_L1_indexOf_10 : decode prog_24_method_22_code 10 = .ok (.iconst 0, 1) := by decide +kernel
theorem d_L1_indexOf_11 : decode prog_24_method_22_code 11 = .ok (.invokestatic 92, 3) := by decide +kernel
theorem d_L1_indexOf_14 : decode prog_24_method_22_code 14 = .ok (.istore_n 2, 1) := by decide +kernel
theorem d_L1_indexOf_15 : decode prog_24_method_22_code 15 = .ok (.iload_n 3, 1) := by decide +kernel
theorem d_L1_indexOf_16 : decode prog_24_method_22_code 16 = .ok (.aload_n 0, 1) := by decide +kernel
theorem d_L1_indexOf_17 : decode prog_24_method_22_code 17 = .ok (.arraylength, 1) := by decide +kernel
theorem d_L1_indexOf_18 : decode prog_24_method_22_code 18 = .ok (.invokestatic 38, 3) := by decide +kernel
theorem d_L1_indexOf_21 : decode prog_24_method_22_code 21 = .ok (.istore_n 3, 1) := by decide +kernel
theorem d_L1_indexOf_22 : decode prog_24_method_22_code 22 = .ok (.iload_n 2, 1) := by decide +kernel
theorem d_L1_indexOf_23 : decode prog_24_method_22_code 23 = .ok (.iload_n 3, 1) := by decide +kernel
theorem d_L1_indexOf_24 : decode prog_24_method_22_code 24 = .ok (.if_icmp .lt 5, 3) := by decide +kernel
theorem d_L1_indexOf_27 : decode prog_24_method_22_code 27 = .ok (.iconst (-1), 1) := by decide +kernel
theorem d_L1_indexOf_28 : decode prog_24_method_22_code 28 = .ok (.ireturn, 1) := by decide +kernel
theorem d_L1_indexOf_29 : decode prog_24_method_22_code 29 = .ok (.aload_n 0, 1) := by decide +kernel
theorem d_L1_indexOf_30 : decode prog_24_method_22_code 30 = .ok (.iload_n 1, 1) := by decide +kernel
theorem d_L1_indexOf_31 : decode prog_24_method_22_code 31 = .ok (.iload_n 2, 1) := by decide +kernel
theorem d_L1_indexOf_32 : decode prog_24_method_22_code 32 = .ok (.iload_n 3, 1) := by decide +kernel
theorem d_L1_indexOf_33 : decode prog_24_method_22_code 33 = .ok (.invokestatic 95, 3) := by decide +kernel
theorem d_L1_indexOf_36 : decode prog_24_method_22_code 36 = .ok (.ireturn, 1) := by decide +kernel
theorem d_L1_indexOfChar_0 : decode prog_24_method_23_code 0 = .ok (.iload_n 1, 1) := by decide +kernel
theorem d_L1_indexOfChar_1 : decode prog_24_method_23_code 1 = .ok (.i2b, 1) := by decide +kernel
theorem d_L1_indexOfChar_2 : decode prog_24_method_23_code 2 = .ok (.istore 4, 2) := by decide +kernel
theorem d_L1_indexOfChar_4 : decode prog_24_method_23_code 4 = .ok (.iload_n 2, 1) := by decide +kernel
theorem d_L1_indexOfChar_5 : decode prog_24_method_23_code 5 = .ok (.istore 5, 2) := by decide +kernel
theorem d_L1_indexOfChar_7 : decode prog_24_method_23_code 7 = .ok (.iload 5, 2) := by decide +kernel
theorem d_L1_indexOfChar_9 : decode prog_24_method_23_code 9 = .ok (.iload_n 3, 1) := by decide +kernel
theorem d_L1_indexOfChar_10 : decode prog_24_method_23_code 10 = .ok (.if_icmp .ge 21, 3) := by decide +kernel
theorem d_L1_indexOfChar_13 : decode prog_24_method_23_code 13 = .ok (.aload_n 0, 1) := by decide +kernel
theorem d_L1_indexOfChar_14 : decode prog_24_method_23_code 14 = .ok (.iload 5, 2) := by decide +kernel
theorem d_L1_indexOfChar_16 : decode prog_24_method_23_code 16 = .ok (.baload, 1) := by decide +kernel
theorem d_L1_indexOfChar_17 : decode prog_24_method_23_code 17 = .ok (.iload 4, 2) := by decide +kernel
theorem d_L1_indexOfChar_19 : decode prog_24_method_23_code 19 = .ok (.if_icmp .ne 6, 3) := by decide +kernel
theorem d_L1_indexOfChar_22 : decode prog_24_method_23_code 22 = .ok (.iload 5, 2) := by decide +kernel
theorem d_L1_indexOfChar_24 : decode prog_24_method_23_code 24 = .ok (.ireturn, 1) := by decide +kernel
theorem d_L1_indexOfChar_25 : decode prog_24_method_23_code 25 = .ok (.iinc 5 1, 3) := by decide +kernel
theorem d_L1_indexOfChar_28 : decode prog_24_method_23_code 28 = .ok (.goto (-21), 3) := by decide +kernel
theorem d_L1_indexOfChar_31 : decode prog_24_method_23_code 31 = .ok (.iconst (-1), 1) := by decide +kernel
theorem d_L1_indexOfChar_32 : decode prog_24_method_23_code 32 = .ok (.ireturn, 1) := by decide +kernel
theorem d_ST_charAt_0 : decode prog_22_method_56_code 0 = .ok (.aload_n 0, 1) := by decide +kernel
theorem d_ST_charAt_1 : decode prog_22_method_56_code 1 = .ok (.invokevirtual 492, 3) := by decide +kernel
theorem d_ST_charAt_4 : decode prog_22_method_56_code 4 = .ok (.ifCond .eq 12, 3) := by decide +kernel
theorem d_ST_charAt_7 : decode prog_22_method_56_code 7 = .ok (.aload_n 0, 1) := by decide +kernel
theorem d_ST_charAt_8 : decode prog_22_method_56_code 8 = .ok (.getfield 9, 3) := by decide +kernel
theorem d_ST_charAt_11 : decode prog_22_method_56_code 11 = .ok (.iload_n 1, 1) := by decide +kernel
theorem d_ST_charAt_12 : decode prog_22_method_56_code 12 = .ok (.invokestatic 495, 3) := by decide +kernel
theorem d_ST_charAt_15 : decode prog_22_method_56_code 15 = .ok (.ireturn, 1) := by decide +kernel
theorem d_ST_equals_0 : decode prog_22_method_66_code 0 = .ok (.aload_n 0, 1) := by decide +kernel
theorem d_ST_equals_1 : decode prog_22_method_66_code 1 = .ok (.aload_n 1, 1) := by decide +kernel
theorem d_ST_equals_2 : decode prog_22_method_66_code 2 = .ok (.if_acmp .ne 5, 3) := by decide +kernel
theorem d_ST_equals_5 : decode prog_22_method_66_code 5 = .ok (.iconst 1, 1) := by decide +kernel
theorem d_ST_equals_6 : decode prog_22_method_66_code 6 = .ok (.ireturn, 1) := by decide +kernel
theorem d_ST_equals_7 : decode prog_22_method_66_code 7 = .ok (.aload_n 1, 1) := by decide +kernel
theorem d_ST_equals_8 : decode prog_22_method_66_code 8 = .ok (.instanceof 10, 3) := by decide +kernel
theorem d_ST_equals_11 : decode prog_22_method_66_code 11 = .ok (.ifCond .eq 43, 3) := by decide +kernel
theorem d_ST_equals_14 : decode prog_22_method_66_code 14 = .ok (.aload_n 1, 1) := by decide +kernel
theorem d_ST_equals_15 : decode prog_22_method_66_code 15 = .ok (.checkcast 10, 3) := by decide +kernel
theorem d_ST_equals_18 : decode prog_22_method_66_code 18 = .ok (.astore_n 2, 1) := by decide +kernel
theorem d_ST_equals_19 : decode prog_22_method_66_code 19 = .ok (.getstatic 38, 3) := by decide +kernel
theorem d_ST_equals_22 : decode prog_22_method_66_code 22 = .ok (.ifCond .eq 14, 3) := by decide +kernel
theorem d_ST_equals_25 : decode prog_22_method_66_code 25 = .ok (.aload_n 0, 1) := by decide +kernel
theorem d_ST_equals_26 : decode prog_22_method_66_code 26 = .ok (.getfield 15, 3) := by decide +kernel
theorem d_ST_equals_29 : decode prog_22_method_66_code 29 = .ok (.aload_n 2, 1) := by decide +kernel
theorem d_ST_equals_30 : decode prog_22_method_66_code 30 = .ok (.getfield 15, 3) := by decide +kernel
theorem d_ST_equals_33 : decode prog_22_method_66_code 33 = .ok (.if_icmp .ne 21, 3) := by decide +kernel
theorem d_ST_equals_36 : decode prog_22_method_66_code 36 = .ok (.aload_n 0, 1) := by decide +kernel
theorem d_ST_equals_37 : decode prog_22_method_66_code 37 = .ok (.getfield 9, 3) := by decide +kernel
theorem d_ST_equals_40 : decode prog_22_method_66_code 40 = .ok (.aload_n 2, 1) := by decide +kernel
theorem d_ST_equals_41 : decode prog_22_method_66_code 41 = .ok (.getfield 9, 3) := by decide +kernel
theorem d_ST_equals_44 : decode prog_22_method_66_code 44 = .ok (.invokestatic 541, 3) := by decide +kernel
theorem d_ST_equals_47 : decode prog_22_method_66_code 47 = .ok (.ifCond .eq 7, 3) := by decide +kernel
theorem d_ST_equals_50 : decode prog_22_method_66_code 50 = .ok (.iconst 1, 1) := by decide +kernel
theorem d_ST_equals_51 : decode prog_22_method_66_code 51 = .ok (.goto 4, 3) := by decide +kernel
theorem d_ST_equals_54 : decode prog_22_method_66_code 54 = .ok (.iconst 0, 1) := by decide +kernel
theorem d_ST_equals_55 : decode prog_22_method_66_code 55 = .ok (.ireturn, 1) := by decide +kernel
theorem d_ST_indexOf_I_0 : decode prog_22_method_79_code 0 = .ok (.aload_n 0, 1) := by decide +kernel
theorem d_ST_indexOf_I_1 : decode prog_22_method_79_code 1 = .ok (.iload_n 1, 1) := by decide +kernel
theorem d_ST_indexOf_I_2 : decode prog_22_method_79_code 2 = .ok (.iconst 0, 1) := by decide +kernel
theorem d_ST_indexOf_I_3 : decode prog_22_method_79_code 3 = .ok (.invokevirtual 633, 3) := by decide +kernel
theorem d_ST_indexOf_I_6 : decode prog_22_method_79_code 6 = .ok (.ireturn, 1) := by decide +kernel
theorem d_ST_indexOf_II_0 : decode prog_22_method_80_code 0 = .ok (.aload_n 0, 1) := by decide +kernel
theorem d_ST_indexOf_II_1 : decode prog_22_method_80_code 1 = .ok (.invokevirtual 492, 3) := by decide +kernel
theorem d_ST_indexOf_II_4 : decode prog_22_method_80_code 4 = .ok (.ifCond .eq 19, 3) := by decide +kernel
theorem d_ST_indexOf_II_7 : decode prog_22_method_80_code 7 = .ok (.aload_n 0, 1) := by decide +kernel
theorem d_ST_indexOf_II_8 : decode prog_22_method_80_code 8 = .ok (.getfield 9, 3) := by decide +kernel
theorem d_ST_indexOf_II_11 : decode prog_22_method_80_code 11 = .ok (.iload_n 1, 1) := by decide +kernel
theorem d_ST_indexOf_II_12 : decode prog_22_method_80_code 12 = .ok (.iload_n 2, 1) := by decide +kernel
theorem d_ST_indexOf_II_13 : decode prog_22_method_80_code 13 = .ok (.aload_n 0, 1) := by decide +kernel
theorem d_ST_indexOf_II_14 : decode prog_22_method_80_code 14 = .ok (.invokevirtual 505, 3) := by decide +kernel
theorem d_ST_indexOf_II_17 : decode prog_22_method_80_code 17 = .ok (.invokestatic 637, 3) := by decide +kernel
theorem d_ST_indexOf_II_20 : decode prog_22_method_80_code 20 = .ok (.goto 16, 3) := by decide +kernel
theorem d_ST_indexOf_II_36 : decode prog_22_method_80_code 36 = .ok (.ireturn, 1) := by decide +kernel
theorem d_ST_substring_I_0 : decode prog_22_method_91_code 0 = .ok (.aload_n 0, 1) := by decide +kernel
theorem d_ST_substring_I_1 : decode prog_22_method_91_code 1 = .ok (.iload_n 1, 1) := by decide +kernel
theorem d_ST_substring_I_2 : decode prog_22_method_91_code 2 = .ok (.aload_n 0, 1) := by decide +kernel
theorem d_ST_substring_I_3 : decode prog_22_method_91_code 3 = .ok (.invokevirtual 505, 3) := by decide +kernel
theorem d_ST_substring_I_6 : decode prog_22_method_91_code 6 = .ok (.invokevirtual 681, 3) := by decide +kernel
theorem d_ST_substring_I_9 : decode prog_22_method_91_code 9 = .ok (.areturn, 1) := by decide +kernel
theorem d_ST_substring_II_0 : decode prog_22_method_92_code 0 = .ok (.aload_n 0, 1) := by decide +kernel
theorem d_ST_substring_II_1 : decode prog_22_method_92_code 1 = .ok (.invokevirtual 505, 3) := by decide +kernel
theorem d_ST_substring_II_4 : decode prog_22_method_92_code 4 = .ok (.istore_n 3, 1) := by decide +kernel
theorem d_ST_substring_II_5 : decode prog_22_method_92_code 5 = .ok (.iload_n 1, 1) := by decide +kernel
theorem d_ST_substring_II_6 : decode prog_22_method_92_code 6 = .ok (.iload_n 2, 1) := by decide +kernel
theorem d_ST_substring_II_7 : decode prog_22_method_92_code 7 = .ok (.iload_n 3, 1) := by decide +kernel
theorem d_ST_substring_II_8 : decode prog_22_method_92_code 8 = .ok (.invokestatic 521, 3) := by decide +kernel
theorem d_ST_substring_II_11 : decode prog_22_method_92_code 11 = .ok (.iload_n 1, 1) := by decide +kernel
theorem d_ST_substring_II_12 : decode prog_22_method_92_code 12 = .ok (.ifCond .ne 10, 3) := by decide +kernel
theorem d_ST_substring_II_15 : decode prog_22_method_92_code 15 = .ok (.iload_n 2, 1) := by decide +kernel
theorem d_ST_substring_II_16 : decode prog_22_method_92_code 16 = .ok (.iload_n 3, 1) := by decide +kernel
theorem d_ST_substring_II_17 : decode prog_22_method_92_code 17 = .ok (.if_icmp .ne 5, 3) := by decide +kernel
theorem d_ST_substring_II_20 : decode prog_22_method_92_code 20 = .ok (.aload_n 0, 1) := by decide +kernel
theorem d_ST_substring_II_21 : decode prog_22_method_92_code 21 = .ok (.areturn, 1) := by decide +kernel
theorem d_ST_substring_II_22 : decode prog_22_method_92_code 22 = .ok (.iload_n 2, 1) := by decide +kernel
theorem d_ST_substring_II_23 : decode prog_22_method_92_code 23 = .ok (.iload_n 1, 1) := by decide +kernel
theorem d_ST_substring_II_24 : decode prog_22_method_92_code 24 = .ok (.isub, 1) := by decide +kernel
theorem d_ST_substring_II_25 : decode prog_22_method_92_code 25 = .ok (.istore 4, 2) := by decide +kernel
theorem d_ST_substring_II_27 : decode prog_22_method_92_code 27 = .ok (.aload_n 0, 1) := by decide +kernel
theorem d_ST_substring_II_28 : decode prog_22_method_92_code 28 = .ok (.invokevirtual 492, 3) := by decide +kernel
theorem d_ST_substring_II_31 : decode prog_22_method_92_code 31 = .ok (.ifCond .eq 16, 3) := by decide +kernel
theorem d_ST_substring_II_34 : decode prog_22_method_92_code 34 = .ok (.aload_n 0, 1) := by decide +kernel
theorem d_ST_substring_II_35 : decode prog_22_method_92_code 35 = .ok (.getfield 9, 3) := by decide +kernel
theorem d_ST_substring_II_38 : decode prog_22_method_92_code 38 = .ok (.iload_n 1, 1) := by decide +kernel
theorem d_ST_substring_II_39 : decode prog_22_method_92_code 39 = .ok (.iload 4, 2) := by decide +kernel
theorem d_ST_substring_II_41 : decode prog_22_method_92_code 41 = .ok (.invokestatic 685, 3) := by decide +kernel
theorem d_ST_substring_II_44 : decode prog_22_method_92_code 44 = .ok (.goto 13, 3) := by decide +kernel
theorem d_ST_substring_II_57 : decode prog_22_method_92_code 57 = .ok (.areturn, 1) := by decide +kernel
theorem eq_x_self (f : Nat → Int32) : ∀ k i, eq_x f f k i = 1
  | 0, _ => rfl
  | k + 1, i => by simp [eq_x, eq_x_self f k (i + 1)]
theorem eq_x_01 (f g : Nat → Int32) : ∀ k i, eq_x f g k i = 1 ∨ eq_x f g k i = 0
  | 0, _ => Or.inl rfl
  | k + 1, i => by
    simp only [eq_x]
    split
    · exact eq_x_01 f g k (i + 1)
    · exact Or.inr rfl
section J5
variable {l : Launch} {G : mm_G} {h : mm_H}
set_option maxHeartbeats 1000000 in
theorem sp_L1_charAt {v t cap : Nat} {f : Nat → Int32} (hv : h.1 v = some (.inl (t, cap, .inl f))) (ht : t = 1 ∨ t = 9) (hcap : cap ≤ 300) {i : Nat} (hi : i < cap) {x : Nat} (hx : x < 256) (hfx : f i = by_b x) : mm_S l G M_L1_charAt [.ref v, .int (nI i)] h 0 0 (fun r h' => r = some (.int (nI x)) ∧ h' = h) := by
  refine mm_start rfl (Nat.le_of_ble_eq_true rfl) ?_
  show mm_V l G M_L1_charAt 0 0 0 [some (.ref v), some (.int (nI i))] [] h _
  obtain ⟨ht1, ht2⟩ := tx_t ht
  refine mm_iload_n (pc' := 1) d_L1_charAt_0 rfl rfl rfl ?_
  refine mm_aload_n (pc' := 2) d_L1_charAt_1 rfl rfl rfl ?_
  refine mm_alen (pc' := 3) d_L1_charAt_2 rfl ht1 hv rfl ?_
  refine mm_callS (pc' := 6) (as := [.int (nI i), .int (nI cap)]) (st := []) d_L1_charAt_3 rfl cs_L1_9 (sp_ST_checkIndex (nI_pos (by omega)) (nI_lt hi (by omega))) rfl rfl (Nat.le_of_ble_eq_true rfl) (Nat.le_of_ble_eq_true rfl) (Nat.zero_le _) (Nat.zero_le _) (fun v h1 hq => ?_)
  obtain ⟨rfl, rfl⟩ := hq
  refine mm_aload_n (pc' := 7) d_L1_charAt_6 rfl rfl rfl ?_
  refine mm_iload_n (pc' := 8) d_L1_charAt_7 rfl rfl rfl ?_
  refine mm_bald (pc' := 9) (t := t) d_L1_charAt_8 rfl ht1 ht2 hv (vp_in_nI (by omega) (by omega)) ?_
  rw [nI_clamp (by omega), hfx]
  refine mm_sipush (v := 255) (pc' := 12) d_L1_charAt_9 rfl (by decide) ?_
  refine mm_iand (pc' := 13) d_L1_charAt_12 rfl ?_
  rw [by_and x hx]
  refine mm_i2c (pc' := 14) d_L1_charAt_13 rfl (by_c (by omega)) ?_
  exact mm_iret d_L1_charAt_14 rfl (pk_charN (by omega)).1 ⟨rfl, rfl⟩
set_option maxHeartbeats 1000000 in
theorem sp_ST_charAt {a v t n : Nat} {f : Nat → Int32} (hb : tx_at h a v t n f) {i : Nat} (hi : i < n) {x : Nat} (hx : x < 256) (hfx : f i = by_b x) : mm_S l G M_ST_charAt [.ref a, .int (nI i)] h 0 0 (fun r h' => r = some (.int (nI x)) ∧ h' = h) := by
  refine mm_start rfl (Nat.le_of_ble_eq_true rfl) ?_
  show mm_V l G M_ST_charAt 0 0 0 [some (.ref a), some (.int (nI i))] [] h _
  obtain ⟨⟨fs, hh⟩, hv, ht, hn3, hfit⟩ := id hb
  obtain ⟨ht1, ht2⟩ := tx_t ht
  refine mm_aload_n (pc' := 1) d_ST_charAt_0 rfl rfl rfl ?_
  refine mm_callV (pc' := 4) (as := []) (st := []) d_ST_charAt_1 rfl cs_ST_492 hh rfl (sp_ST_isLatin1 hh) rfl rfl (Nat.le_of_ble_eq_true rfl) (Nat.le_of_ble_eq_true rfl) (Nat.zero_le _) (Nat.zero_le _) (fun v h1 hq => ?_)
  obtain ⟨rfl, rfl⟩ := hq
  refine mm_if_eq (pc' := 7) (tgt := 16) d_ST_charAt_4 rfl rfl (fun q => absurd q (by decide)) (fun _ => ?_)
  refine mm_aload_n (pc' := 8) d_ST_charAt_7 rfl rfl rfl ?_
  refine mm_getfield (pc' := 11) d_ST_charAt_8 rfl fl_ST_9 hh rfl ?_
  refine mm_iload_n (pc' := 12) d_ST_charAt_11 rfl rfl rfl ?_
  refine mm_callS (pc' := 15) (as := [.ref v, .int (nI i)]) (st := []) d_ST_charAt_12 rfl cs_ST_495 (sp_L1_charAt hv ht hn3 hi hx hfx) rfl rfl (Nat.le_of_ble_eq_true rfl) (Nat.le_of_ble_eq_true rfl) (Nat.zero_le _) (Nat.zero_le _) (fun v h1 hq => ?_)
  obtain ⟨rfl, rfl⟩ := hq
  exact mm_iret d_ST_charAt_15 rfl (pk_charN (by omega)).1 ⟨rfl, rfl⟩
set_option maxHeartbeats 1000000 in
theorem sp_ST_substring_II (hw : mm_wf h) {a v t n : Nat} {f : Nat → Int32} (hb : tx_at h a v t n f) {i j : Nat} (hij : i ≤ j) (hj : j ≤ n) : mm_S l G M_ST_substring_II [.ref a, .int (nI i), .int (nI j)] h 2 (4 + (j - i)) (fun r h' => (i = 0 ∧ j = n ∧ r = some (.ref a) ∧ h' = h) ∨ (i = j ∧ r = some (.ref 1) ∧ h' = h) ∨ (r = some (.ref h.2) ∧ ∃ g, tx_nw h h' (j - i) g ∧ ∀ q, q < j - i → g q = f (i + q))) := by
  refine mm_start rfl (Nat.le_of_ble_eq_true rfl) ?_
  show mm_V l G M_ST_substring_II 2 (4 + (j - i)) 0 [some (.ref a), some (.int (nI i)), some (.int (nI j)), none, none] [] h _
  obtain ⟨⟨fs, hh⟩, hv, ht, hn3, hfit⟩ := id hb
  obtain ⟨ht1, ht2⟩ := tx_t ht
  refine mm_aload_n (pc' := 1) d_ST_substring_II_0 rfl rfl rfl ?_
  refine mm_callV (pc' := 4) (as := []) (st := []) d_ST_substring_II_1 rfl cs_ST_505 hh rfl (sp_ST_length hh ht1 hv) rfl rfl (Nat.le_of_ble_eq_true rfl) (Nat.le_of_ble_eq_true rfl) (Nat.zero_le _) (Nat.zero_le _) (fun v h1 hq => ?_)
  obtain ⟨rfl, rfl⟩ := hq
  refine mm_ist3 (pc' := 5) d_ST_substring_II_4 rfl rfl (Nat.le_of_ble_eq_true rfl) ?_
  refine mm_iload_n (pc' := 6) d_ST_substring_II_5 rfl rfl rfl ?_
  refine mm_iload_n (pc' := 7) d_ST_substring_II_6 rfl rfl rfl ?_
  refine mm_iload_n (pc' := 8) d_ST_substring_II_7 rfl rfl rfl ?_
  refine mm_callS (pc' := 11) (as := [.int (nI i), .int (nI j), .int (nI n)]) (st := []) d_ST_substring_II_8 rfl cs_ST_521 (sp_ST_checkBoundsBeginEnd (nI_pos (by omega)) (nI_nlt hij (by omega)) (nI_le hj (by omega))) rfl rfl (Nat.le_of_ble_eq_true rfl) (Nat.le_of_ble_eq_true rfl) (Nat.zero_le _) (Nat.zero_le _) (fun v h1 hq => ?_)
  obtain ⟨rfl, rfl⟩ := hq
  refine mm_iload_n (pc' := 12) d_ST_substring_II_11 rfl rfl rfl ?_
  refine mm_if_ne (pc' := 15) (tgt := 22) d_ST_substring_II_12 rfl rfl (fun hc => ?_) (fun hc => ?_)
  · have hno : ¬ (i = 0 ∧ j - i = n) := fun q => hc (by rw [q.1]; rfl)
    refine mm_iload_n (pc' := 23) d_ST_substring_II_22 rfl rfl rfl ?_
    refine mm_iload_n (pc' := 24) d_ST_substring_II_23 rfl rfl rfl ?_
    refine mm_isub (pc' := 25) d_ST_substring_II_24 rfl ?_
    rw [pk_sub hij]
    refine mm_ist4 (pc' := 27) d_ST_substring_II_25 rfl rfl (Nat.le_of_ble_eq_true rfl) ?_
    refine mm_aload_n (pc' := 28) d_ST_substring_II_27 rfl rfl rfl ?_
    refine mm_callV (pc' := 31) (as := []) (st := []) d_ST_substring_II_28 rfl cs_ST_492 hh rfl (sp_ST_isLatin1 hh) rfl rfl (Nat.le_of_ble_eq_true rfl) (Nat.le_of_ble_eq_true rfl) (Nat.zero_le _) (Nat.zero_le _) (fun v h1 hq => ?_)
    obtain ⟨rfl, rfl⟩ := hq
    refine mm_if_eq (pc' := 34) (tgt := 47) d_ST_substring_II_31 rfl rfl (fun q => absurd q (by decide)) (fun _ => ?_)
    refine mm_aload_n (pc' := 35) d_ST_substring_II_34 rfl rfl rfl ?_
    refine mm_getfield (pc' := 38) d_ST_substring_II_35 rfl fl_ST_9 hh rfl ?_
    refine mm_iload_n (pc' := 39) d_ST_substring_II_38 rfl rfl rfl ?_
    refine mm_iload (pc' := 41) d_ST_substring_II_39 rfl rfl ?_
    refine mm_callS (pc' := 44) (as := [.ref v, .int (nI i), .int (nI (j - i))]) (st := []) d_ST_substring_II_41 rfl cs_ST_685 (sp_L1_newString hw hv ht hn3 hfit (by omega) (Or.inr hno)) rfl rfl (Nat.le_of_ble_eq_true rfl) (Nat.le_of_ble_eq_true rfl) (Nat.le_refl _) (Nat.le_refl _) (fun r1 h1 hq => ?_)
    rcases hq with ⟨hz, rfl, rfl⟩ | ⟨hz, rfl, hq⟩
    · refine mm_goto (tgt := 57) d_ST_substring_II_44 rfl ?_
      exact mm_aret d_ST_substring_II_57 rfl (by first | exact Or.inl ⟨_, rfl⟩ | exact Or.inr ⟨_, rfl⟩) (Or.inr ⟨_, rfl⟩) (Or.inr (Or.inl ⟨by omega, rfl, rfl⟩))
    · refine mm_goto (tgt := 57) d_ST_substring_II_44 rfl ?_
      exact mm_aret d_ST_substring_II_57 rfl (by first | exact Or.inl ⟨_, rfl⟩ | exact Or.inr ⟨_, rfl⟩) (Or.inr ⟨_, rfl⟩) (Or.inr (Or.inr ⟨rfl, hq⟩))
  · have hi0 : i = 0 := Nat.eq_zero_of_not_pos fun q => nI_ne0 q (by omega) hc
    refine mm_iload_n (pc' := 16) d_ST_substring_II_15 rfl rfl rfl ?_
    refine mm_iload_n (pc' := 17) d_ST_substring_II_16 rfl rfl rfl ?_
    refine mm_icmp_ne (pc' := 20) (tgt := 22) d_ST_substring_II_17 rfl rfl (fun hc2 => ?_) (fun hc2 => ?_)
    · have hno : ¬ (i = 0 ∧ j - i = n) := fun q => hc2 (by rw [show j = n by omega])
      refine mm_iload_n (pc' := 23) d_ST_substring_II_22 rfl rfl rfl ?_
      refine mm_iload_n (pc' := 24) d_ST_substring_II_23 rfl rfl rfl ?_
      refine mm_isub (pc' := 25) d_ST_substring_II_24 rfl ?_
      rw [pk_sub hij]
      refine mm_ist4 (pc' := 27) d_ST_substring_II_25 rfl rfl (Nat.le_of_ble_eq_true rfl) ?_
      refine mm_aload_n (pc' := 28) d_ST_substring_II_27 rfl rfl rfl ?_
      refine mm_callV (pc' := 31) (as := []) (st := []) d_ST_substring_II_28 rfl cs_ST_492 hh rfl (sp_ST_isLatin1 hh) rfl rfl (Nat.le_of_ble_eq_true rfl) (Nat.le_of_ble_eq_true rfl) (Nat.zero_le _) (Nat.zero_le _) (fun v h1 hq => ?_)
      obtain ⟨rfl, rfl⟩ := hq
      refine mm_if_eq (pc' := 34) (tgt := 47) d_ST_substring_II_31 rfl rfl (fun q => absurd q (by decide)) (fun _ => ?_)
      refine mm_aload_n (pc' := 35) d_ST_substring_II_34 rfl rfl rfl ?_
      refine mm_getfield (pc' := 38) d_ST_substring_II_35 rfl fl_ST_9 hh rfl ?_
      refine mm_iload_n (pc' := 39) d_ST_substring_II_38 rfl rfl rfl ?_
      refine mm_iload (pc' := 41) d_ST_substring_II_39 rfl rfl ?_
      refine mm_callS (pc' := 44) (as := [.ref v, .int (nI i), .int (nI (j - i))]) (st := []) d_ST_substring_II_41 rfl cs_ST_685 (sp_L1_newString hw hv ht hn3 hfit (by omega) (Or.inr hno)) rfl rfl (Nat.le_of_ble_eq_true rfl) (Nat.le_of_ble_eq_true rfl) (Nat.le_refl _) (Nat.le_refl _) (fun r1 h1 hq => ?_)
      rcases hq with ⟨hz, rfl, rfl⟩ | ⟨hz, rfl, hq⟩
      · refine mm_goto (tgt := 57) d_ST_substring_II_44 rfl ?_
        exact mm_aret d_ST_substring_II_57 rfl (by first | exact Or.inl ⟨_, rfl⟩ | exact Or.inr ⟨_, rfl⟩) (Or.inr ⟨_, rfl⟩) (Or.inr (Or.inl ⟨by omega, rfl, rfl⟩))
      · refine mm_goto (tgt := 57) d_ST_substring_II_44 rfl ?_
        exact mm_aret d_ST_substring_II_57 rfl (by first | exact Or.inl ⟨_, rfl⟩ | exact Or.inr ⟨_, rfl⟩) (Or.inr ⟨_, rfl⟩) (Or.inr (Or.inr ⟨rfl, hq⟩))
    · have hjn : j = n := (nI_eq (by omega) (by omega)).mp hc2
      refine mm_aload_n (pc' := 21) d_ST_substring_II_20 rfl rfl rfl ?_
      exact mm_aret d_ST_substring_II_21 rfl (by first | exact Or.inl ⟨_, rfl⟩ | exact Or.inr ⟨_, rfl⟩) (Or.inr ⟨_, rfl⟩) (Or.inl ⟨hi0, hjn, rfl, rfl⟩)
set_option maxHeartbeats 1000000 in
theorem sp_ST_substring_I (hw : mm_wf h) {a v t n : Nat} {f : Nat → Int32} (hb : tx_at h a v t n f) {i : Nat} (hi : i ≤ n) : mm_S l G M_ST_substring_I [.ref a, .int (nI i)] h 2 (4 + (n - i)) (fun r h' => (i = 0 ∧ n = n ∧ r = some (.ref a) ∧ h' = h) ∨ (i = n ∧ r = some (.ref 1) ∧ h' = h) ∨ (r = some (.ref h.2) ∧ ∃ g, tx_nw h h' (n - i) g ∧ ∀ q, q < n - i → g q = f (i + q))) := by
  refine mm_start rfl (Nat.le_of_ble_eq_true rfl) ?_
  show mm_V l G M_ST_substring_I 2 (4 + (n - i)) 0 [some (.ref a), some (.int (nI i))] [] h _
  obtain ⟨⟨fs, hh⟩, hv, ht, hn3, hfit⟩ := id hb
  obtain ⟨ht1, ht2⟩ := tx_t ht
  refine mm_aload_n (pc' := 1) d_ST_substring_I_0 rfl rfl rfl ?_
  refine mm_iload_n (pc' := 2) d_ST_substring_I_1 rfl rfl rfl ?_
  refine mm_aload_n (pc' := 3) d_ST_substring_I_2 rfl rfl rfl ?_
  refine mm_callV (pc' := 6) (as := []) (st := [_, _]) d_ST_substring_I_3 rfl cs_ST_505 hh rfl (sp_ST_length hh ht1 hv) rfl rfl (Nat.le_of_ble_eq_true rfl) (Nat.le_of_ble_eq_true rfl) (Nat.zero_le _) (Nat.zero_le _) (fun v h1 hq => ?_)
  obtain ⟨rfl, rfl⟩ := hq
  refine mm_callV (pc' := 9) (as := [.int (nI i), .int (nI n)]) (st := []) d_ST_substring_I_6 rfl cs_ST_681 hh rfl (sp_ST_substring_II hw hb hi (Nat.le_refl _)) rfl rfl (Nat.le_of_ble_eq_true rfl) (Nat.le_of_ble_eq_true rfl) (Nat.le_refl _) (Nat.le_refl _) (fun r1 h1 hq => ?_)
  rcases hq with ⟨hz, hz2, rfl, rfl⟩ | ⟨hz, rfl, rfl⟩ | ⟨rfl, hq⟩
  · exact mm_aret d_ST_substring_I_9 rfl (by first | exact Or.inl ⟨_, rfl⟩ | exact Or.inr ⟨_, rfl⟩) (Or.inr ⟨_, rfl⟩) (Or.inl ⟨hz, rfl, rfl, rfl⟩)
  · exact mm_aret d_ST_substring_I_9 rfl (by first | exact Or.inl ⟨_, rfl⟩ | exact Or.inr ⟨_, rfl⟩) (Or.inr ⟨_, rfl⟩) (Or.inr (Or.inl ⟨hz, rfl, rfl⟩))
  · exact mm_aret d_ST_substring_I_9 rfl (by first | exact Or.inl ⟨_, rfl⟩ | exact Or.inr ⟨_, rfl⟩) (Or.inr ⟨_, rfl⟩) (Or.inr (Or.inr ⟨rfl, hq⟩))
set_option maxHeartbeats 1000000 in
theorem lp_L1_indexOfChar {v t cap : Nat} {f : Nat → Int32} (hv : h.1 v = some (.inl (t, cap, .inl f))) (ht : t = 1 ∨ t = 9) (hcap : cap ≤ 300) {x : Nat} {Q : Option Value → mm_H → Prop} : ∀ k i, i + k = cap → Q (some (.int (fi_x f (by_b x) k i))) h → mm_V l G M_L1_indexOfChar 0 0 7 [some (.ref v), some (.int (nI x)), some (.int (nI 0)), some (.int (nI cap)), some (.int (by_b x)), some (.int (nI i))] [] h Q := by
  obtain ⟨ht1, ht2⟩ := tx_t ht
  intro k
  induction k with
  | zero =>
    intro i hik hQ
    refine mm_iload (pc' := 9) d_L1_indexOfChar_7 rfl rfl ?_
    refine mm_iload_n (pc' := 10) d_L1_indexOfChar_9 rfl rfl rfl ?_
    refine mm_icmp_ge (pc' := 13) (tgt := 31) d_L1_indexOfChar_10 rfl rfl (fun _ => ?_) (fun q => absurd (nI_le (by omega) (by omega)) q)
    refine mm_iconst (v := (-1)) (pc' := 32) d_L1_indexOfChar_31 rfl (by decide) ?_
    exact mm_iret d_L1_indexOfChar_32 rfl rfl hQ
  | succ k ih =>
    intro i hik hQ
    refine mm_iload (pc' := 9) d_L1_indexOfChar_7 rfl rfl ?_
    refine mm_iload_n (pc' := 10) d_L1_indexOfChar_9 rfl rfl rfl ?_
    refine mm_icmp_ge (pc' := 13) (tgt := 31) d_L1_indexOfChar_10 rfl rfl (fun q => absurd q (nI_ge (by omega) (by omega))) (fun _ => ?_)
    refine mm_aload_n (pc' := 14) d_L1_indexOfChar_13 rfl rfl rfl ?_
    refine mm_iload (pc' := 16) d_L1_indexOfChar_14 rfl rfl ?_
    refine mm_bald (pc' := 17) (t := t) d_L1_indexOfChar_16 rfl ht1 ht2 hv (vp_in_nI (by omega) (by omega)) ?_
    rw [nI_clamp (by omega)]
    refine mm_iload (pc' := 19) d_L1_indexOfChar_17 rfl rfl ?_
    refine mm_icmp_ne (pc' := 22) (tgt := 25) d_L1_indexOfChar_19 rfl rfl (fun hc => ?_) (fun hc => ?_)
    · refine mm_iinc5 (v := _ + 1) (pc' := 28) d_L1_indexOfChar_25 rfl rfl rfl (Nat.le_of_ble_eq_true rfl) ?_
      refine mm_goto (tgt := 7) d_L1_indexOfChar_28 rfl ?_
      rw [nI_1]
      refine ih (i + 1) (by omega) ?_
      simpa only [fi_x, if_neg hc] using hQ
    · refine mm_iload (pc' := 24) d_L1_indexOfChar_22 rfl rfl ?_
      exact mm_iret d_L1_indexOfChar_24 rfl rfl (by simpa only [fi_x, if_pos hc] using hQ)
set_option maxHeartbeats 1000000 in
theorem sp_L1_indexOfChar {v t cap : Nat} {f : Nat → Int32} (hv : h.1 v = some (.inl (t, cap, .inl f))) (ht : t = 1 ∨ t = 9) (hcap : cap ≤ 300) {x : Nat} : mm_S l G M_L1_indexOfChar [.ref v, .int (nI x), .int (nI 0), .int (nI cap)] h 0 0 (fun r h' => r = some (.int (fi_x f (by_b x) cap 0)) ∧ h' = h) := by
  refine mm_start rfl (Nat.le_of_ble_eq_true rfl) ?_
  show mm_V l G M_L1_indexOfChar 0 0 0 [some (.ref v), some (.int (nI x)), some (.int (nI 0)), some (.int (nI cap)), none, none] [] h _
  refine mm_iload_n (pc' := 1) d_L1_indexOfChar_0 rfl rfl rfl ?_
  refine mm_i2b (pc' := 2) d_L1_indexOfChar_1 rfl (show _ = by_b x from rfl) ?_
  refine mm_ist4 (pc' := 4) d_L1_indexOfChar_2 rfl rfl (Nat.le_of_ble_eq_true rfl) ?_
  refine mm_iload_n (pc' := 5) d_L1_indexOfChar_4 rfl rfl rfl ?_
  refine mm_ist5 (pc' := 7) d_L1_indexOfChar_5 rfl rfl (Nat.le_of_ble_eq_true rfl) ?_
  exact lp_L1_indexOfChar hv ht hcap cap 0 (by omega) ⟨rfl, rfl⟩
set_option maxHeartbeats 1000000 in
theorem sp_L1_indexOf {v t cap : Nat} {f : Nat → Int32} (hv : h.1 v = some (.inl (t, cap, .inl f))) (ht : t = 1 ∨ t = 9) (hcap : cap ≤ 300) {x : Nat} (hx : x < 256) : mm_S l G M_L1_indexOf [.ref v, .int (nI x), .int (nI 0), .int (nI cap)] h 0 0 (fun r h' => r = some (.int (fi_x f (by_b x) cap 0)) ∧ h' = h) := by
  refine mm_start rfl (Nat.le_of_ble_eq_true rfl) ?_
  show mm_V l G M_L1_indexOf 0 0 0 [some (.ref v), some (.int (nI x)), some (.int (nI 0)), some (.int (nI cap))] [] h _
  obtain ⟨ht1, ht2⟩ := tx_t ht
  refine mm_iload_n (pc' := 1) d_L1_indexOf_0 rfl rfl rfl ?_
  refine mm_callS (pc' := 4) (as := [.int (nI x)]) (st := []) d_L1_indexOf_1 rfl cs_L1_88 (sp_L1_canEncode_I (nI_pos (by omega)) (nI_nlt (a := 255) (b := x) (by omega) (by omega))) rfl rfl (Nat.le_of_ble_eq_true rfl) (Nat.le_of_ble_eq_true rfl) (Nat.zero_le _) (Nat.zero_le _) (fun v h1 hq => ?_)
  obtain ⟨rfl, rfl⟩ := hq
  refine mm_if_ne (pc' := 7) (tgt := 9) d_L1_indexOf_4 rfl rfl (fun _ => ?_) (fun q => absurd q (by decide))
  refine mm_iload_n (pc' := 10) d_L1_indexOf_9 rfl rfl rfl ?_
  refine mm_iconst (v := 0) (pc' := 11) d_L1_indexOf_10 rfl (by decide) ?_
  refine mm_max (pc' := 14) d_L1_indexOf_11 rfl cs_L1_92 (Nat.le_of_ble_eq_true rfl) (Nat.le_of_ble_eq_true rfl) ?_
  rw [show (if nI 0 < 0 then (0 : Int32) else nI 0) = nI 0 from by decide]
  refine mm_ist2 (pc' := 15) d_L1_indexOf_14 rfl rfl (Nat.le_of_ble_eq_true rfl) ?_
  refine mm_iload_n (pc' := 16) d_L1_indexOf_15 rfl rfl rfl ?_
  refine mm_aload_n (pc' := 17) d_L1_indexOf_16 rfl rfl rfl ?_
  refine mm_alen (pc' := 18) d_L1_indexOf_17 rfl ht1 hv rfl ?_
  refine mm_min (pc' := 21) d_L1_indexOf_18 rfl cs_L1_38 (Nat.le_of_ble_eq_true rfl) (Nat.le_of_ble_eq_true rfl) ?_
  rw [show Int32.ofNat cap = nI cap from rfl, ite_self]
  refine mm_ist3 (pc' := 22) d_L1_indexOf_21 rfl rfl (Nat.le_of_ble_eq_true rfl) ?_
  refine mm_iload_n (pc' := 23) d_L1_indexOf_22 rfl rfl rfl ?_
  refine mm_iload_n (pc' := 24) d_L1_indexOf_23 rfl rfl rfl ?_
  refine mm_icmp_lt (pc' := 27) (tgt := 29) d_L1_indexOf_24 rfl rfl (fun hc => ?_) (fun hc => ?_)
  · refine mm_aload_n (pc' := 30) d_L1_indexOf_29 rfl rfl rfl ?_
    refine mm_iload_n (pc' := 31) d_L1_indexOf_30 rfl rfl rfl ?_
    refine mm_iload_n (pc' := 32) d_L1_indexOf_31 rfl rfl rfl ?_
    refine mm_iload_n (pc' := 33) d_L1_indexOf_32 rfl rfl rfl ?_
    refine mm_callS (pc' := 36) (as := [.ref v, .int (nI x), .int (nI 0), .int (nI cap)]) (st := []) d_L1_indexOf_33 rfl cs_L1_95 (sp_L1_indexOfChar hv ht hcap) rfl rfl (Nat.le_of_ble_eq_true rfl) (Nat.le_of_ble_eq_true rfl) (Nat.zero_le _) (Nat.zero_le _) (fun v h1 hq => ?_)
    obtain ⟨rfl, rfl⟩ := hq
    exact mm_iret d_L1_indexOf_36 rfl rfl ⟨rfl, rfl⟩
  · have h0 : cap = 0 := Nat.eq_zero_of_not_pos fun q => hc (nI_lt q (by omega))
    subst h0
    refine mm_iconst (v := (-1)) (pc' := 28) d_L1_indexOf_27 rfl (by decide) ?_
    exact mm_iret d_L1_indexOf_28 rfl rfl ⟨rfl, rfl⟩
set_option maxHeartbeats 1000000 in
theorem sp_ST_indexOf_II {a v t n : Nat} {f : Nat → Int32} (hb : tx_at h a v t n f) {x : Nat} (hx : x < 256) : mm_S l G M_ST_indexOf_II [.ref a, .int (nI x), .int (nI 0)] h 0 0 (fun r h' => r = some (.int (fi_x f (by_b x) n 0)) ∧ h' = h) := by
  refine mm_start rfl (Nat.le_of_ble_eq_true rfl) ?_
  show mm_V l G M_ST_indexOf_II 0 0 0 [some (.ref a), some (.int (nI x)), some (.int (nI 0))] [] h _
  obtain ⟨⟨fs, hh⟩, hv, ht, hn3, hfit⟩ := id hb
  obtain ⟨ht1, ht2⟩ := tx_t ht
  refine mm_aload_n (pc' := 1) d_ST_indexOf_II_0 rfl rfl rfl ?_
  refine mm_callV (pc' := 4) (as := []) (st := []) d_ST_indexOf_II_1 rfl cs_ST_492 hh rfl (sp_ST_isLatin1 hh) rfl rfl (Nat.le_of_ble_eq_true rfl) (Nat.le_of_ble_eq_true rfl) (Nat.zero_le _) (Nat.zero_le _) (fun v h1 hq => ?_)
  obtain ⟨rfl, rfl⟩ := hq
  refine mm_if_eq (pc' := 7) (tgt := 23) d_ST_indexOf_II_4 rfl rfl (fun q => absurd q (by decide)) (fun _ => ?_)
  refine mm_aload_n (pc' := 8) d_ST_indexOf_II_7 rfl rfl rfl ?_
  refine mm_getfield (pc' := 11) d_ST_indexOf_II_8 rfl fl_ST_9 hh rfl ?_
  refine mm_iload_n (pc' := 12) d_ST_indexOf_II_11 rfl rfl rfl ?_
  refine mm_iload_n (pc' := 13) d_ST_indexOf_II_12 rfl rfl rfl ?_
  refine mm_aload_n (pc' := 14) d_ST_indexOf_II_13 rfl rfl rfl ?_
  refine mm_callV (pc' := 17) (as := []) (st := [_, _, _]) d_ST_indexOf_II_14 rfl cs_ST_505 hh rfl (sp_ST_length hh ht1 hv) rfl rfl (Nat.le_of_ble_eq_true rfl) (Nat.le_of_ble_eq_true rfl) (Nat.zero_le _) (Nat.zero_le _) (fun v h1 hq => ?_)
  obtain ⟨rfl, rfl⟩ := hq
  refine mm_callS (pc' := 20) (as := [.ref v, .int (nI x), .int (nI 0), .int (nI n)]) (st := []) d_ST_indexOf_II_17 rfl cs_ST_637 (sp_L1_indexOf hv ht hn3 hx) rfl rfl (Nat.le_of_ble_eq_true rfl) (Nat.le_of_ble_eq_true rfl) (Nat.zero_le _) (Nat.zero_le _) (fun v h1 hq => ?_)
  obtain ⟨rfl, rfl⟩ := hq
  refine mm_goto (tgt := 36) d_ST_indexOf_II_20 rfl ?_
  exact mm_iret d_ST_indexOf_II_36 rfl rfl ⟨rfl, rfl⟩
set_option maxHeartbeats 1000000 in
theorem sp_ST_indexOf_I {a v t n : Nat} {f : Nat → Int32} (hb : tx_at h a v t n f) {x : Nat} (hx : x < 256) : mm_S l G M_ST_indexOf_I [.ref a, .int (nI x)] h 0 0 (fun r h' => r = some (.int (fi_x f (by_b x) n 0)) ∧ h' = h) := by
  refine mm_start rfl (Nat.le_of_ble_eq_true rfl) ?_
  show mm_V l G M_ST_indexOf_I 0 0 0 [some (.ref a), some (.int (nI x))] [] h _
  obtain ⟨⟨fs, hh⟩, hv, ht, hn3, hfit⟩ := id hb
  obtain ⟨ht1, ht2⟩ := tx_t ht
  refine mm_aload_n (pc' := 1) d_ST_indexOf_I_0 rfl rfl rfl ?_
  refine mm_iload_n (pc' := 2) d_ST_indexOf_I_1 rfl rfl rfl ?_
  refine mm_iconst (v := 0) (pc' := 3) d_ST_indexOf_I_2 rfl (by decide) ?_
  refine mm_callV (pc' := 6) (as := [.int (nI x), .int (nI 0)]) (st := []) d_ST_indexOf_I_3 rfl cs_ST_633 hh rfl (sp_ST_indexOf_II hb hx) rfl rfl (Nat.le_of_ble_eq_true rfl) (Nat.le_of_ble_eq_true rfl) (Nat.zero_le _) (Nat.zero_le _) (fun v h1 hq => ?_)
  obtain ⟨rfl, rfl⟩ := hq
  exact mm_iret d_ST_indexOf_I_6 rfl rfl ⟨rfl, rfl⟩
set_option maxHeartbeats 1000000 in
theorem lp_L1_equals {v t cap : Nat} {f : Nat → Int32} (hv : h.1 v = some (.inl (t, cap, .inl f))) (ht : t = 1 ∨ t = 9) (hcap : cap ≤ 300) {w u : Nat} {g : Nat → Int32} (hw2 : h.1 w = some (.inl (u, cap, .inl g))) (hu : u = 1 ∨ u = 9) {Q : Option Value → mm_H → Prop} : ∀ k i, i + k = cap → Q (some (.int (eq_x f g k i))) h → mm_V l G M_L1_equals 0 0 9 [some (.ref v), some (.ref w), some (.int (nI i))] [] h Q := by
  obtain ⟨ht1, ht2⟩ := tx_t ht
  obtain ⟨hu1, hu2⟩ := tx_t hu
  intro k
  induction k with
  | zero =>
    intro i hik hQ
    refine mm_iload_n (pc' := 10) d_L1_equals_9 rfl rfl rfl ?_
    refine mm_aload_n (pc' := 11) d_L1_equals_10 rfl rfl rfl ?_
    refine mm_alen (pc' := 12) d_L1_equals_11 rfl ht1 hv rfl ?_
    refine mm_icmp_ge (pc' := 15) (tgt := 32) d_L1_equals_12 rfl rfl (fun _ => ?_) (fun q => absurd (nI_le (by omega) (by omega)) q)
    refine mm_iconst (v := 1) (pc' := 33) d_L1_equals_32 rfl (by decide) ?_
    exact mm_iret d_L1_equals_33 rfl rfl hQ
  | succ k ih =>
    intro i hik hQ
    refine mm_iload_n (pc' := 10) d_L1_equals_9 rfl rfl rfl ?_
    refine mm_aload_n (pc' := 11) d_L1_equals_10 rfl rfl rfl ?_
    refine mm_alen (pc' := 12) d_L1_equals_11 rfl ht1 hv rfl ?_
    refine mm_icmp_ge (pc' := 15) (tgt := 32) d_L1_equals_12 rfl rfl (fun q => absurd q (nI_ge (by omega) (by omega))) (fun _ => ?_)
    refine mm_aload_n (pc' := 16) d_L1_equals_15 rfl rfl rfl ?_
    refine mm_iload_n (pc' := 17) d_L1_equals_16 rfl rfl rfl ?_
    refine mm_bald (pc' := 18) (t := t) d_L1_equals_17 rfl ht1 ht2 hv (vp_in_nI (by omega) (by omega)) ?_
    refine mm_aload_n (pc' := 19) d_L1_equals_18 rfl rfl rfl ?_
    refine mm_iload_n (pc' := 20) d_L1_equals_19 rfl rfl rfl ?_
    refine mm_bald (pc' := 21) (t := u) d_L1_equals_20 rfl hu1 hu2 hw2 (vp_in_nI (by omega) (by omega)) ?_
    simp only [nI_clamp (show i < 2 ^ 31 by omega)]
    refine mm_icmp_eq (pc' := 24) (tgt := 26) d_L1_equals_21 rfl rfl (fun hc => ?_) (fun hc => ?_)
    · refine mm_iinc2 (v := _ + 1) (pc' := 29) d_L1_equals_26 rfl rfl rfl (Nat.le_of_ble_eq_true rfl) ?_
      refine mm_goto (tgt := 9) d_L1_equals_29 rfl ?_
      rw [nI_1]
      refine ih (i + 1) (by omega) ?_
      simpa only [eq_x, if_pos hc] using hQ
    · refine mm_iconst (v := 0) (pc' := 25) d_L1_equals_24 rfl (by decide) ?_
      exact mm_iret d_L1_equals_25 rfl rfl (by simpa only [eq_x, if_neg hc] using hQ)
set_option maxHeartbeats 1000000 in
theorem sp_L1_equals {v t cap : Nat} {f : Nat → Int32} (hv : h.1 v = some (.inl (t, cap, .inl f))) (ht : t = 1 ∨ t = 9) (hcap : cap ≤ 300) {w u m : Nat} {g : Nat → Int32} (hw2 : h.1 w = some (.inl (u, m, .inl g))) (hu : u = 1 ∨ u = 9) (hm : m ≤ 300) : mm_S l G M_L1_equals [.ref v, .ref w] h 0 0 (fun r h' => r = some (.int (if cap = m then eq_x f g cap 0 else 0)) ∧ h' = h) := by
  refine mm_start rfl (Nat.le_of_ble_eq_true rfl) ?_
  show mm_V l G M_L1_equals 0 0 0 [some (.ref v), some (.ref w), none] [] h _
  obtain ⟨ht1, ht2⟩ := tx_t ht
  obtain ⟨hu1, hu2⟩ := tx_t hu
  refine mm_aload_n (pc' := 1) d_L1_equals_0 rfl rfl rfl ?_
  refine mm_alen (pc' := 2) d_L1_equals_1 rfl ht1 hv rfl ?_
  refine mm_aload_n (pc' := 3) d_L1_equals_2 rfl rfl rfl ?_
  refine mm_alen (pc' := 4) d_L1_equals_3 rfl hu1 hw2 rfl ?_
  refine mm_icmp_ne (pc' := 7) (tgt := 34) d_L1_equals_4 rfl rfl (fun hc => ?_) (fun hc => ?_)
  · refine mm_iconst (v := 0) (pc' := 35) d_L1_equals_34 rfl (by decide) ?_
    exact mm_iret d_L1_equals_35 rfl rfl ⟨by rw [if_neg (fun q => hc (by rw [q]))], rfl⟩
  · have hcm : cap = m := (nI_eq (by omega) (by omega)).mp hc
    subst hcm
    refine mm_iconst (v := 0) (pc' := 8) d_L1_equals_7 rfl (by decide) ?_
    refine mm_ist2 (pc' := 9) d_L1_equals_8 rfl rfl (Nat.le_of_ble_eq_true rfl) ?_
    exact lp_L1_equals hv ht hcap hw2 hu cap 0 (by omega) ⟨by rw [if_pos rfl], rfl⟩
set_option maxHeartbeats 1000000 in
theorem sp_ST_equals {a v t n : Nat} {f : Nat → Int32} (hb : tx_at h a v t n f) {b w u m : Nat} {g : Nat → Int32} (hb2 : tx_at h b w u m g) (hdis : mm_dis a b) : mm_S l G M_ST_equals [.ref a, .ref b] h 0 0 (fun r h' => r = some (.int (if n = m then eq_x f g n 0 else 0)) ∧ h' = h) := by
  refine mm_start rfl (Nat.le_of_ble_eq_true rfl) ?_
  show mm_V l G M_ST_equals 0 0 0 [some (.ref a), some (.ref b), none] [] h _
  obtain ⟨⟨fs, hh⟩, hv, ht, hn3, hfit⟩ := id hb
  obtain ⟨ht1, ht2⟩ := tx_t ht
  obtain ⟨⟨fs2, hh2⟩, hv2, hu, hm3, hfit2⟩ := id hb2
  obtain ⟨hu1, hu2⟩ := tx_t hu
  refine mm_aload_n (pc' := 1) d_ST_equals_0 rfl rfl rfl ?_
  refine mm_aload_n (pc' := 2) d_ST_equals_1 rfl rfl rfl ?_
  by_cases hab : a = b
  · subst hab
    cases hh.symm.trans hh2
    cases hv.symm.trans hv2
    refine mm_acmp_neF (pc' := 5) (tgt := 7) d_ST_equals_2 rfl rfl ?_
    refine mm_iconst (v := 1) (pc' := 6) d_ST_equals_5 rfl (by decide) ?_
    exact mm_iret d_ST_equals_6 rfl rfl ⟨by rw [if_pos rfl, eq_x_self], rfl⟩
  · refine mm_acmp_neT (tgt := 7) d_ST_equals_2 rfl hab hdis ?_
    refine mm_aload_n (pc' := 8) d_ST_equals_7 rfl rfl rfl ?_
    refine mm_inst1 (pc' := 11) d_ST_equals_8 rfl mm_scAt cl_ST_10 hh2 ?_
    refine mm_if_eq (pc' := 14) (tgt := 54) d_ST_equals_11 rfl rfl (fun q => absurd q (by decide)) (fun _ => ?_)
    refine mm_aload_n (pc' := 15) d_ST_equals_14 rfl rfl rfl ?_
    refine mm_cast1 (pc' := 18) d_ST_equals_15 rfl mm_scAt cl_ST_10 hh2 ?_
    refine mm_ast2 (pc' := 19) d_ST_equals_18 rfl rfl (Nat.le_of_ble_eq_true rfl) ?_
    refine mm_getstatic (pc' := 22) d_ST_equals_19 rfl gl_ST_38 ?_
    refine mm_if_eq (pc' := 25) (tgt := 36) d_ST_equals_22 rfl rfl (fun q => absurd q (by decide)) (fun _ => ?_)
    refine mm_aload_n (pc' := 26) d_ST_equals_25 rfl rfl rfl ?_
    refine mm_getfield (pc' := 29) d_ST_equals_26 rfl fl_ST_15 hh rfl ?_
    refine mm_aload_n (pc' := 30) d_ST_equals_29 rfl rfl rfl ?_
    refine mm_getfield (pc' := 33) d_ST_equals_30 rfl fl_ST_15 hh2 rfl ?_
    refine mm_icmp_ne (pc' := 36) (tgt := 54) d_ST_equals_33 rfl rfl (fun q => absurd rfl q) (fun _ => ?_)
    refine mm_aload_n (pc' := 37) d_ST_equals_36 rfl rfl rfl ?_
    refine mm_getfield (pc' := 40) d_ST_equals_37 rfl fl_ST_9 hh rfl ?_
    refine mm_aload_n (pc' := 41) d_ST_equals_40 rfl rfl rfl ?_
    refine mm_getfield (pc' := 44) d_ST_equals_41 rfl fl_ST_9 hh2 rfl ?_
    refine mm_callS (pc' := 47) (as := [.ref v, .ref w]) (st := []) d_ST_equals_44 rfl cs_ST_541 (sp_L1_equals hv ht hn3 hv2 hu hm3) rfl rfl (Nat.le_of_ble_eq_true rfl) (Nat.le_of_ble_eq_true rfl) (Nat.zero_le _) (Nat.zero_le _) (fun v h1 hq => ?_)
    obtain ⟨rfl, rfl⟩ := hq
    have h01 : (if n = m then eq_x f g n 0 else 0) = 1 ∨ (if n = m then eq_x f g n 0 else 0) = 0 := by
      split
      · exact eq_x_01 f g n 0
      · exact Or.inr rfl
    rcases h01 with h01 | h01
    · rw [h01]
      refine mm_if_eq (pc' := 50) (tgt := 54) d_ST_equals_47 rfl rfl (fun q => absurd q (by decide)) (fun _ => ?_)
      refine mm_iconst (v := 1) (pc' := 51) d_ST_equals_50 rfl (by decide) ?_
      refine mm_goto (tgt := 55) d_ST_equals_51 rfl ?_
      exact mm_iret d_ST_equals_55 rfl rfl ⟨rfl, rfl⟩
    · rw [h01]
      refine mm_if_eq (pc' := 50) (tgt := 54) d_ST_equals_47 rfl rfl (fun _ => ?_) (fun q => absurd rfl q)
      refine mm_iconst (v := 0) (pc' := 55) d_ST_equals_54 rfl (by decide) ?_
      exact mm_iret d_ST_equals_55 rfl rfl ⟨rfl, rfl⟩
end J5
