theorem d_AB_getValue_0 : decode prog_16_method_64_code 0 = .ok (.aload_n 0, 1) := by decide +kernel
theorem d_AB_getValue_1 : decode prog_16_method_64_code 1 = .ok (.getfield 15, 3) := by decide +kernel
theorem d_AB_getValue_4 : decode prog_16_method_64_code 4 = .ok (.areturn, 1) := by decide +kernel
theorem d_AB_isLatin1_0 : decode prog_16_method_68_code 0 = .ok (.getstatic 18, 3) := by decide +kernel
theorem d_AB_isLatin1_3 : decode prog_16_method_68_code 3 = .ok (.ifCond .eq 14, 3) := by decide +kernel
theorem d_AB_isLatin1_6 : decode prog_16_method_68_code 6 = .ok (.aload_n 0, 1) := by decide +kernel
theorem d_AB_isLatin1_7 : decode prog_16_method_68_code 7 = .ok (.getfield 22, 3) := by decide +kernel
theorem d_AB_isLatin1_10 : decode prog_16_method_68_code 10 = .ok (.ifCond .ne 7, 3) := by decide +kernel
theorem d_AB_isLatin1_13 : decode prog_16_method_68_code 13 = .ok (.iconst 1, 1) := by decide +kernel
theorem d_AB_isLatin1_14 : decode prog_16_method_68_code 14 = .ok (.goto 4, 3) := by decide +kernel
theorem d_AB_isLatin1_18 : decode prog_16_method_68_code 18 = .ok (.ireturn, 1) := by decide +kernel
theorem d_AB_length_0 : decode prog_16_method_6_code 0 = .ok (.aload_n 0, 1) := by decide +kernel
theorem d_AB_length_1 : decode prog_16_method_6_code 1 = .ok (.getfield 79, 3) := by decide +kernel
theorem d_AB_length_4 : decode prog_16_method_6_code 4 = .ok (.ireturn, 1) := by decide +kernel
theorem d_AR_checkLength_0 : decode prog_30_method_131_code 0 = .ok (.iload_n 1, 1) := by decide +kernel
theorem d_AR_checkLength_1 : decode prog_30_method_131_code 1 = .ok (.iload_n 0, 1) := by decide +kernel
theorem d_AR_checkLength_2 : decode prog_30_method_131_code 2 = .ok (.if_icmp .ge 35, 3) := by decide +kernel
theorem d_AR_checkLength_37 : decode prog_30_method_131_code 37 = .ok (.return_, 1) := by decide +kernel
theorem d_AS_newLength_0 : decode prog_36_method_27_code 0 = .ok (.iload_n 0, 1) := by decide +kernel
theorem d_AS_newLength_1 : decode prog_36_method_27_code 1 = .ok (.iload_n 1, 1) := by decide +kernel
theorem d_AS_newLength_2 : decode prog_36_method_27_code 2 = .ok (.iload_n 2, 1) := by decide +kernel
theorem d_AS_newLength_3 : decode prog_36_method_27_code 3 = .ok (.invokestatic 194, 3) := by decide +kernel
theorem d_AS_newLength_6 : decode prog_36_method_27_code 6 = .ok (.iadd, 1) := by decide +kernel
theorem d_AS_newLength_7 : decode prog_36_method_27_code 7 = .ok (.istore_n 3, 1) := by decide +kernel
theorem d_AS_newLength_8 : decode prog_36_method_27_code 8 = .ok (.iconst 0, 1) := by decide +kernel
theorem d_AS_newLength_9 : decode prog_36_method_27_code 9 = .ok (.iload_n 3, 1) := by decide +kernel
theorem d_AS_newLength_10 : decode prog_36_method_27_code 10 = .ok (.if_icmp .ge 11, 3) := by decide +kernel
theorem d_AS_newLength_13 : decode prog_36_method_27_code 13 = .ok (.iload_n 3, 1) := by decide +kernel
theorem d_AS_newLength_14 : decode prog_36_method_27_code 14 = .ok (.ldc 200, 2) := by decide +kernel
theorem d_AS_newLength_16 : decode prog_36_method_27_code 16 = .ok (.if_icmp .gt 5, 3) := by decide +kernel
theorem d_AS_newLength_19 : decode prog_36_method_27_code 19 = .ok (.iload_n 3, 1) := by decide +kernel
theorem d_AS_newLength_20 : decode prog_36_method_27_code 20 = .ok (.ireturn, 1) := by decide +kernel
theorem d_L1_canEncode_C_0 : decode prog_24_method_3_code 0 = .ok (.iload_n 0, 1) := by decide +kernel
theorem d_L1_canEncode_C_1 : decode prog_24_method_3_code 1 = .ok (.sipush 255, 3) := by decide +kernel
theorem d_L1_canEncode_C_4 : decode prog_24_method_3_code 4 = .ok (.if_icmp .gt 7, 3) := by decide +kernel
theorem d_L1_canEncode_C_7 : decode prog_24_method_3_code 7 = .ok (.iconst 1, 1) := by decide +kernel
theorem d_L1_canEncode_C_8 : decode prog_24_method_3_code 8 = .ok (.goto 4, 3) := by decide +kernel
theorem d_L1_canEncode_C_12 : decode prog_24_method_3_code 12 = .ok (.ireturn, 1) := by decide +kernel
theorem d_L1_canEncode_I_0 : decode prog_24_method_4_code 0 = .ok (.iload_n 0, 1) := by decide +kernel
theorem d_L1_canEncode_I_1 : decode prog_24_method_4_code 1 = .ok (.ifCond .lt 14, 3) := by decide +kernel
theorem d_L1_canEncode_I_4 : decode prog_24_method_4_code 4 = .ok (.iload_n 0, 1) := by decide +kernel
theorem d_L1_canEncode_I_5 : decode prog_24_method_4_code 5 = .ok (.sipush 255, 3) := by decide +kernel
theorem d_L1_canEncode_I_8 : decode prog_24_method_4_code 8 = .ok (.if_icmp .gt 7, 3) := by decide +kernel
theorem d_L1_canEncode_I_11 : decode prog_24_method_4_code 11 = .ok (.iconst 1, 1) := by decide +kernel
theorem d_L1_canEncode_I_12 : decode prog_24_method_4_code 12 = .ok (.goto 4, 3) := by decide +kernel
theorem d_L1_canEncode_I_16 : decode prog_24_method_4_code 16 = .ok (.ireturn, 1) := by decide +kernel
theorem d_OS_checkIndex_0 : decode prog_33_method_17_code 0 = .ok (.iload_n 0, 1) := by decide +kernel
theorem d_OS_checkIndex_1 : decode prog_33_method_17_code 1 = .ok (.iload_n 1, 1) := by decide +kernel
theorem d_OS_checkIndex_2 : decode prog_33_method_17_code 2 = .ok (.aconst_null, 1) := by decide +kernel
theorem d_OS_checkIndex_3 : decode prog_33_method_17_code 3 = .ok (.invokestatic 105, 3) := by decide +kernel
theorem d_OS_checkIndex_6 : decode prog_33_method_17_code 6 = .ok (.ireturn, 1) := by decide +kernel
theorem d_PC_checkFromToIndex_0 : decode prog_37_method_12_code 0 = .ok (.iload_n 0, 1) := by decide +kernel
theorem d_PC_checkFromToIndex_1 : decode prog_37_method_12_code 1 = .ok (.ifCond .lt 13, 3) := by decide +kernel
theorem d_PC_checkFromToIndex_4 : decode prog_37_method_12_code 4 = .ok (.iload_n 0, 1) := by decide +kernel
theorem d_PC_checkFromToIndex_5 : decode prog_37_method_12_code 5 = .ok (.iload_n 1, 1) := by decide +kernel
theorem d_PC_checkFromToIndex_6 : decode prog_37_method_12_code 6 = .ok (.if_icmp .gt 8, 3) := by decide +kernel
theorem d_PC_checkFromToIndex_9 : decode prog_37_method_12_code 9 = .ok (.iload_n 1, 1) := by decide +kernel
theorem d_PC_checkFromToIndex_10 : decode prog_37_method_12_code 10 = .ok (.iload_n 2, 1) := by decide +kernel
theorem d_PC_checkFromToIndex_11 : decode prog_37_method_12_code 11 = .ok (.if_icmp .le 11, 3) := by decide +kernel
theorem d_PC_checkFromToIndex_22 : decode prog_37_method_12_code 22 = .ok (.iload_n 0, 1) := by decide +kernel
theorem d_PC_checkFromToIndex_23 : decode prog_37_method_12_code 23 = .ok (.ireturn, 1) := by decide +kernel
theorem d_PC_checkIndex_0 : decode prog_37_method_11_code 0 = .ok (.iload_n 0, 1) := by decide +kernel
theorem d_PC_checkIndex_1 : decode prog_37_method_11_code 1 = .ok (.ifCond .lt 8, 3) := by decide +kernel
theorem d_PC_checkIndex_4 : decode prog_37_method_11_code 4 = .ok (.iload_n 0, 1) := by decide +kernel
theorem d_PC_checkIndex_5 : decode prog_37_method_11_code 5 = .ok (.iload_n 1, 1) := by decide +kernel
theorem d_PC_checkIndex_6 : decode prog_37_method_11_code 6 = .ok (.if_icmp .lt 10, 3) := by decide +kernel
theorem d_PC_checkIndex_16 : decode prog_37_method_11_code 16 = .ok (.iload_n 0, 1) := by decide +kernel
theorem d_PC_checkIndex_17 : decode prog_37_method_11_code 17 = .ok (.ireturn, 1) := by decide +kernel
theorem d_SB_length_0 : decode prog_23_method_93_code 0 = .ok (.aload_n 0, 1) := by decide +kernel
theorem d_SB_length_1 : decode prog_23_method_93_code 1 = .ok (.invokespecial 343, 3) := by decide +kernel
theorem d_SB_length_4 : decode prog_23_method_93_code 4 = .ok (.ireturn, 1) := by decide +kernel
theorem d_ST_checkBoundsBeginEnd_0 : decode prog_22_method_158_code 0 = .ok (.iload_n 0, 1) := by decide +kernel
theorem d_ST_checkBoundsBeginEnd_1 : decode prog_22_method_158_code 1 = .ok (.iload_n 1, 1) := by decide +kernel
theorem d_ST_checkBoundsBeginEnd_2 : decode prog_22_method_158_code 2 = .ok (.iload_n 2, 1) := by decide +kernel
theorem d_ST_checkBoundsBeginEnd_3 : decode prog_22_method_158_code 3 = .ok (.getstatic 1053, 3) := by decide +kernel
theorem d_ST_checkBoundsBeginEnd_6 : decode prog_22_method_158_code 6 = .ok (.invokestatic 1062, 3) := by decide +kernel
theorem d_ST_checkBoundsBeginEnd_9 : decode prog_22_method_158_code 9 = .ok (.pop, 1) := by decide +kernel
theorem d_ST_checkBoundsBeginEnd_10 : decode prog_22_method_158_code 10 = .ok (.return_, 1) := by decide +kernel
theorem d_ST_checkIndex_0 : decode prog_22_method_155_code 0 = .ok (.iload_n 0, 1) := by decide +kernel
theorem d_ST_checkIndex_1 : decode prog_22_method_155_code 1 = .ok (.iload_n 1, 1) := by decide +kernel
theorem d_ST_checkIndex_2 : decode prog_22_method_155_code 2 = .ok (.getstatic 1053, 3) := by decide +kernel
theorem d_ST_checkIndex_5 : decode prog_22_method_155_code 5 = .ok (.invokestatic 1059, 3) := by decide +kernel
theorem d_ST_checkIndex_8 : decode prog_22_method_155_code 8 = .ok (.pop, 1) := by decide +kernel
theorem d_ST_checkIndex_9 : decode prog_22_method_155_code 9 = .ok (.return_, 1) := by decide +kernel
theorem d_ST_coder_0 : decode prog_22_method_152_code 0 = .ok (.getstatic 38, 3) := by decide +kernel
theorem d_ST_coder_3 : decode prog_22_method_152_code 3 = .ok (.ifCond .eq 10, 3) := by decide +kernel
theorem d_ST_coder_6 : decode prog_22_method_152_code 6 = .ok (.aload_n 0, 1) := by decide +kernel
theorem d_ST_coder_7 : decode prog_22_method_152_code 7 = .ok (.getfield 15, 3) := by decide +kernel
theorem d_ST_coder_10 : decode prog_22_method_152_code 10 = .ok (.goto 4, 3) := by decide +kernel
theorem d_ST_coder_14 : decode prog_22_method_152_code 14 = .ok (.ireturn, 1) := by decide +kernel
theorem d_ST_isEmpty_0 : decode prog_22_method_55_code 0 = .ok (.aload_n 0, 1) := by decide +kernel
theorem d_ST_isEmpty_1 : decode prog_22_method_55_code 1 = .ok (.getfield 9, 3) := by decide +kernel
theorem d_ST_isEmpty_4 : decode prog_22_method_55_code 4 = .ok (.arraylength, 1) := by decide +kernel
theorem d_ST_isEmpty_5 : decode prog_22_method_55_code 5 = .ok (.ifCond .ne 7, 3) := by decide +kernel
theorem d_ST_isEmpty_8 : decode prog_22_method_55_code 8 = .ok (.iconst 1, 1) := by decide +kernel
theorem d_ST_isEmpty_9 : decode prog_22_method_55_code 9 = .ok (.goto 4, 3) := by decide +kernel
theorem d_ST_isEmpty_12 : decode prog_22_method_55_code 12 = .ok (.iconst 0, 1) := by decide +kernel
theorem d_ST_isEmpty_13 : decode prog_22_method_55_code 13 = .ok (.ireturn, 1) := by decide +kernel
theorem d_ST_isLatin1_0 : decode prog_22_method_154_code 0 = .ok (.getstatic 38, 3) := by decide +kernel
theorem d_ST_isLatin1_3 : decode prog_22_method_154_code 3 = .ok (.ifCond .eq 14, 3) := by decide +kernel
theorem d_ST_isLatin1_6 : decode prog_22_method_154_code 6 = .ok (.aload_n 0, 1) := by decide +kernel
theorem d_ST_isLatin1_7 : decode prog_22_method_154_code 7 = .ok (.getfield 15, 3) := by decide +kernel
theorem d_ST_isLatin1_10 : decode prog_22_method_154_code 10 = .ok (.ifCond .ne 7, 3) := by decide +kernel
theorem d_ST_isLatin1_13 : decode prog_22_method_154_code 13 = .ok (.iconst 1, 1) := by decide +kernel
theorem d_ST_isLatin1_14 : decode prog_22_method_154_code 14 = .ok (.goto 4, 3) := by decide +kernel
theorem d_ST_isLatin1_18 : decode prog_22_method_154_code 18 = .ok (.ireturn, 1) := by decide +kernel
theorem d_ST_length_0 : decode prog_22_method_54_code 0 = .ok (.aload_n 0, 1) := by decide +kernel
theorem d_ST_length_1 : decode prog_22_method_54_code 1 = .ok (.getfield 9, 3) := by decide +kernel
theorem d_ST_length_4 : decode prog_22_method_54_code 4 = .ok (.arraylength, 1) := by decide +kernel
theorem d_ST_length_5 : decode prog_22_method_54_code 5 = .ok (.aload_n 0, 1) := by decide +kernel
theorem d_ST_length_6 : decode prog_22_method_54_code 6 = .ok (.invokevirtual 335, 3) := by decide +kernel
theorem d_ST_length_9 : decode prog_22_method_54_code 9 = .ok (.ishr, 1) := by decide +kernel
theorem d_ST_length_10 : decode prog_22_method_54_code 10 = .ok (.ireturn, 1) := by decide +kernel
theorem by_sh0 (x : Int32) : x >>> ((0 : Int32) &&& 31) = x := by
  have e : (0 : Int32) &&& 31 = 0 := by decide
  rw [e]
  apply Int32.toBitVec_inj.mp
  simp
theorem by_sl0 (x : Int32) : x <<< ((0 : Int32) &&& 31) = x := by
  have e : (0 : Int32) &&& 31 = 0 := by decide
  rw [e]
  apply Int32.toBitVec_inj.mp
  simp
section J1
variable {l : Launch} {G : mm_G} {h : mm_H}
theorem sp_PC_checkIndex {i n : Int32} {v : Value} (hv : v = .null ∨ ∃ k : Nat, v = .ref k) (h0 : ¬ i < 0) (h1 : i < n) : mm_S l G M_PC_checkIndex [.int i, .int n, v] h 0 0 (fun r h' => r = some (.int i) ∧ h' = h) := by
  rcases hv with rfl | ⟨k, rfl⟩
  · refine mm_start rfl (Nat.le_of_ble_eq_true rfl) ?_
    show mm_V l G M_PC_checkIndex 0 0 0 [some (.int i), some (.int n), some (.null)] [] h _
    refine mm_iload_n (pc' := 1) d_PC_checkIndex_0 rfl rfl rfl ?_
    refine mm_if_lt (pc' := 4) (tgt := 9) d_PC_checkIndex_1 rfl rfl (fun q => absurd q h0) (fun _ => ?_)
    refine mm_iload_n (pc' := 5) d_PC_checkIndex_4 rfl rfl rfl ?_
    refine mm_iload_n (pc' := 6) d_PC_checkIndex_5 rfl rfl rfl ?_
    refine mm_icmp_lt (pc' := 9) (tgt := 16) d_PC_checkIndex_6 rfl rfl (fun _ => ?_) (fun q => absurd h1 q)
    refine mm_iload_n (pc' := 17) d_PC_checkIndex_16 rfl rfl rfl ?_
    exact mm_iret d_PC_checkIndex_17 rfl rfl ⟨rfl, rfl⟩
  · refine mm_start rfl (Nat.le_of_ble_eq_true rfl) ?_
    show mm_V l G M_PC_checkIndex 0 0 0 [some (.int i), some (.int n), some (.ref k)] [] h _
    refine mm_iload_n (pc' := 1) d_PC_checkIndex_0 rfl rfl rfl ?_
    refine mm_if_lt (pc' := 4) (tgt := 9) d_PC_checkIndex_1 rfl rfl (fun q => absurd q h0) (fun _ => ?_)
    refine mm_iload_n (pc' := 5) d_PC_checkIndex_4 rfl rfl rfl ?_
    refine mm_iload_n (pc' := 6) d_PC_checkIndex_5 rfl rfl rfl ?_
    refine mm_icmp_lt (pc' := 9) (tgt := 16) d_PC_checkIndex_6 rfl rfl (fun _ => ?_) (fun q => absurd h1 q)
    refine mm_iload_n (pc' := 17) d_PC_checkIndex_16 rfl rfl rfl ?_
    exact mm_iret d_PC_checkIndex_17 rfl rfl ⟨rfl, rfl⟩
theorem sp_PC_checkFromToIndex {i j n : Int32} {v : Value} (hv : v = .null ∨ ∃ k : Nat, v = .ref k) (h0 : ¬ i < 0) (h1 : ¬ j < i) (h2 : j ≤ n) : mm_S l G M_PC_checkFromToIndex [.int i, .int j, .int n, v] h 0 0 (fun r h' => r = some (.int i) ∧ h' = h) := by
  rcases hv with rfl | ⟨k, rfl⟩
  · refine mm_start rfl (Nat.le_of_ble_eq_true rfl) ?_
    show mm_V l G M_PC_checkFromToIndex 0 0 0 [some (.int i), some (.int j), some (.int n), some (.null)] [] h _
    refine mm_iload_n (pc' := 1) d_PC_checkFromToIndex_0 rfl rfl rfl ?_
    refine mm_if_lt (pc' := 4) (tgt := 14) d_PC_checkFromToIndex_1 rfl rfl (fun q => absurd q h0) (fun _ => ?_)
    refine mm_iload_n (pc' := 5) d_PC_checkFromToIndex_4 rfl rfl rfl ?_
    refine mm_iload_n (pc' := 6) d_PC_checkFromToIndex_5 rfl rfl rfl ?_
    refine mm_icmp_gt (pc' := 9) (tgt := 14) d_PC_checkFromToIndex_6 rfl rfl (fun q => absurd q h1) (fun _ => ?_)
    refine mm_iload_n (pc' := 10) d_PC_checkFromToIndex_9 rfl rfl rfl ?_
    refine mm_iload_n (pc' := 11) d_PC_checkFromToIndex_10 rfl rfl rfl ?_
    refine mm_icmp_le (pc' := 14) (tgt := 22) d_PC_checkFromToIndex_11 rfl rfl (fun _ => ?_) (fun q => absurd h2 q)
    refine mm_iload_n (pc' := 23) d_PC_checkFromToIndex_22 rfl rfl rfl ?_
    exact mm_iret d_PC_checkFromToIndex_23 rfl rfl ⟨rfl, rfl⟩
  · refine mm_start rfl (Nat.le_of_ble_eq_true rfl) ?_
    show mm_V l G M_PC_checkFromToIndex 0 0 0 [some (.int i), some (.int j), some (.int n), some (.ref k)] [] h _
    refine mm_iload_n (pc' := 1) d_PC_checkFromToIndex_0 rfl rfl rfl ?_
    refine mm_if_lt (pc' := 4) (tgt := 14) d_PC_checkFromToIndex_1 rfl rfl (fun q => absurd q h0) (fun _ => ?_)
    refine mm_iload_n (pc' := 5) d_PC_checkFromToIndex_4 rfl rfl rfl ?_
    refine mm_iload_n (pc' := 6) d_PC_checkFromToIndex_5 rfl rfl rfl ?_
    refine mm_icmp_gt (pc' := 9) (tgt := 14) d_PC_checkFromToIndex_6 rfl rfl (fun q => absurd q h1) (fun _ => ?_)
    refine mm_iload_n (pc' := 10) d_PC_checkFromToIndex_9 rfl rfl rfl ?_
    refine mm_iload_n (pc' := 11) d_PC_checkFromToIndex_10 rfl rfl rfl ?_
    refine mm_icmp_le (pc' := 14) (tgt := 22) d_PC_checkFromToIndex_11 rfl rfl (fun _ => ?_) (fun q => absurd h2 q)
    refine mm_iload_n (pc' := 23) d_PC_checkFromToIndex_22 rfl rfl rfl ?_
    exact mm_iret d_PC_checkFromToIndex_23 rfl rfl ⟨rfl, rfl⟩
theorem sp_OS_checkIndex {i n : Int32} (h0 : ¬ i < 0) (h1 : i < n) : mm_S l G M_OS_checkIndex [.int i, .int n] h 0 0 (fun r h' => r = some (.int i) ∧ h' = h) := by
  refine mm_start rfl (Nat.le_of_ble_eq_true rfl) ?_
  show mm_V l G M_OS_checkIndex 0 0 0 [some (.int i), some (.int n)] [] h _
  refine mm_iload_n (pc' := 1) d_OS_checkIndex_0 rfl rfl rfl ?_
  refine mm_iload_n (pc' := 2) d_OS_checkIndex_1 rfl rfl rfl ?_
  refine mm_null (pc' := 3) d_OS_checkIndex_2 rfl ?_
  refine mm_callS (pc' := 6) (as := [.int i, .int n, .null]) (st := []) d_OS_checkIndex_3 rfl cs_OS_105 (sp_PC_checkIndex (Or.inl rfl) h0 h1) rfl rfl (Nat.le_of_ble_eq_true rfl) (Nat.le_of_ble_eq_true rfl) (Nat.le_of_ble_eq_true rfl) (Nat.le_of_ble_eq_true rfl) (fun v h1 hq => ?_)
  obtain ⟨rfl, rfl⟩ := hq
  exact mm_iret d_OS_checkIndex_6 rfl rfl ⟨rfl, rfl⟩
theorem sp_ST_checkIndex {i n : Int32} (h0 : ¬ i < 0) (h1 : i < n) : mm_S l G M_ST_checkIndex [.int i, .int n] h 0 0 (fun r h' => r = none ∧ h' = h) := by
  refine mm_start rfl (Nat.le_of_ble_eq_true rfl) ?_
  show mm_V l G M_ST_checkIndex 0 0 0 [some (.int i), some (.int n)] [] h _
  refine mm_iload_n (pc' := 1) d_ST_checkIndex_0 rfl rfl rfl ?_
  refine mm_iload_n (pc' := 2) d_ST_checkIndex_1 rfl rfl rfl ?_
  refine mm_getstaticQ d_ST_checkIndex_2 rfl gl_ST_1053 (fun w hw => ?_)
  refine mm_callS (pc' := 8) (as := [.int i, .int n, w]) (st := []) d_ST_checkIndex_5 rfl cs_ST_1059 (sp_PC_checkIndex hw h0 h1) rfl rfl (Nat.le_of_ble_eq_true rfl) (Nat.le_of_ble_eq_true rfl) (Nat.le_of_ble_eq_true rfl) (Nat.le_of_ble_eq_true rfl) (fun v h1 hq => ?_)
  obtain ⟨rfl, rfl⟩ := hq
  refine mm_pop (pc' := 9) d_ST_checkIndex_8 rfl rfl ?_
  exact mm_vret d_ST_checkIndex_9 rfl ⟨rfl, rfl⟩
theorem sp_ST_checkBoundsBeginEnd {i j n : Int32} (h0 : ¬ i < 0) (h1 : ¬ j < i) (h2 : j ≤ n) : mm_S l G M_ST_checkBoundsBeginEnd [.int i, .int j, .int n] h 0 0 (fun r h' => r = none ∧ h' = h) := by
  refine mm_start rfl (Nat.le_of_ble_eq_true rfl) ?_
  show mm_V l G M_ST_checkBoundsBeginEnd 0 0 0 [some (.int i), some (.int j), some (.int n)] [] h _
  refine mm_iload_n (pc' := 1) d_ST_checkBoundsBeginEnd_0 rfl rfl rfl ?_
  refine mm_iload_n (pc' := 2) d_ST_checkBoundsBeginEnd_1 rfl rfl rfl ?_
  refine mm_iload_n (pc' := 3) d_ST_checkBoundsBeginEnd_2 rfl rfl rfl ?_
  refine mm_getstaticQ d_ST_checkBoundsBeginEnd_3 rfl gl_ST_1053 (fun w hw => ?_)
  refine mm_callS (pc' := 9) (as := [.int i, .int j, .int n, w]) (st := []) d_ST_checkBoundsBeginEnd_6 rfl cs_ST_1062 (sp_PC_checkFromToIndex hw h0 h1 h2) rfl rfl (Nat.le_of_ble_eq_true rfl) (Nat.le_of_ble_eq_true rfl) (Nat.le_of_ble_eq_true rfl) (Nat.le_of_ble_eq_true rfl) (fun v h1 hq => ?_)
  obtain ⟨rfl, rfl⟩ := hq
  refine mm_pop (pc' := 10) d_ST_checkBoundsBeginEnd_9 rfl rfl ?_
  exact mm_vret d_ST_checkBoundsBeginEnd_10 rfl ⟨rfl, rfl⟩
theorem sp_AR_checkLength {i j : Int32} (h0 : i ≤ j) : mm_S l G M_AR_checkLength [.int i, .int j] h 0 0 (fun r h' => r = none ∧ h' = h) := by
  refine mm_start rfl (Nat.le_of_ble_eq_true rfl) ?_
  show mm_V l G M_AR_checkLength 0 0 0 [some (.int i), some (.int j)] [] h _
  refine mm_iload_n (pc' := 1) d_AR_checkLength_0 rfl rfl rfl ?_
  refine mm_iload_n (pc' := 2) d_AR_checkLength_1 rfl rfl rfl ?_
  refine mm_icmp_ge (pc' := 5) (tgt := 37) d_AR_checkLength_2 rfl rfl (fun _ => ?_) (fun q => absurd h0 q)
  exact mm_vret d_AR_checkLength_37 rfl ⟨rfl, rfl⟩
theorem sp_L1_canEncode_C {c : Int32} (h0 : ¬ 255 < c) : mm_S l G M_L1_canEncode_C [.int c] h 0 0 (fun r h' => r = some (.int 1) ∧ h' = h) := by
  refine mm_start rfl (Nat.le_of_ble_eq_true rfl) ?_
  show mm_V l G M_L1_canEncode_C 0 0 0 [some (.int c)] [] h _
  refine mm_iload_n (pc' := 1) d_L1_canEncode_C_0 rfl rfl rfl ?_
  refine mm_sipush (v := 255) (pc' := 4) d_L1_canEncode_C_1 rfl (by decide) ?_
  refine mm_icmp_gt (pc' := 7) (tgt := 11) d_L1_canEncode_C_4 rfl rfl (fun q => absurd q h0) (fun _ => ?_)
  refine mm_iconst (v := 1) (pc' := 8) d_L1_canEncode_C_7 rfl (by decide) ?_
  refine mm_goto (tgt := 12) d_L1_canEncode_C_8 rfl ?_
  exact mm_iret d_L1_canEncode_C_12 rfl rfl ⟨rfl, rfl⟩
theorem sp_L1_canEncode_I {c : Int32} (h0 : ¬ c < 0) (h1 : ¬ 255 < c) : mm_S l G M_L1_canEncode_I [.int c] h 0 0 (fun r h' => r = some (.int 1) ∧ h' = h) := by
  refine mm_start rfl (Nat.le_of_ble_eq_true rfl) ?_
  show mm_V l G M_L1_canEncode_I 0 0 0 [some (.int c)] [] h _
  refine mm_iload_n (pc' := 1) d_L1_canEncode_I_0 rfl rfl rfl ?_
  refine mm_if_lt (pc' := 4) (tgt := 15) d_L1_canEncode_I_1 rfl rfl (fun q => absurd q h0) (fun _ => ?_)
  refine mm_iload_n (pc' := 5) d_L1_canEncode_I_4 rfl rfl rfl ?_
  refine mm_sipush (v := 255) (pc' := 8) d_L1_canEncode_I_5 rfl (by decide) ?_
  refine mm_icmp_gt (pc' := 11) (tgt := 15) d_L1_canEncode_I_8 rfl rfl (fun q => absurd q h1) (fun _ => ?_)
  refine mm_iconst (v := 1) (pc' := 12) d_L1_canEncode_I_11 rfl (by decide) ?_
  refine mm_goto (tgt := 16) d_L1_canEncode_I_12 rfl ?_
  exact mm_iret d_L1_canEncode_I_16 rfl rfl ⟨rfl, rfl⟩
theorem sp_AB_isLatin1 {a v : Nat} {ml n : Int32} (hh : h.1 a = some (.inr (1, [.ref v, .int 0, .int ml, .int n]))) : mm_S l G M_AB_isLatin1 [.ref a] h 0 0 (fun r h' => r = some (.int 1) ∧ h' = h) := by
  refine mm_start rfl (Nat.le_of_ble_eq_true rfl) ?_
  show mm_V l G M_AB_isLatin1 0 0 0 [some (.ref a)] [] h _
  refine mm_getstatic (pc' := 3) d_AB_isLatin1_0 rfl gl_AB_18 ?_
  refine mm_if_eq (pc' := 6) (tgt := 17) d_AB_isLatin1_3 rfl rfl (fun q => absurd q (by decide)) (fun _ => ?_)
  refine mm_aload_n (pc' := 7) d_AB_isLatin1_6 rfl rfl rfl ?_
  refine mm_getfield (pc' := 10) d_AB_isLatin1_7 rfl fl_AB_22 hh rfl ?_
  refine mm_if_ne (pc' := 13) (tgt := 17) d_AB_isLatin1_10 rfl rfl (fun q => absurd rfl q) (fun _ => ?_)
  refine mm_iconst (v := 1) (pc' := 14) d_AB_isLatin1_13 rfl (by decide) ?_
  refine mm_goto (tgt := 18) d_AB_isLatin1_14 rfl ?_
  exact mm_iret d_AB_isLatin1_18 rfl rfl ⟨rfl, rfl⟩
theorem sp_ST_isLatin1 {a v : Nat} {fs : List Value} (hh : h.1 a = some (.inr (0, .ref v :: .int 0 :: fs))) : mm_S l G M_ST_isLatin1 [.ref a] h 0 0 (fun r h' => r = some (.int 1) ∧ h' = h) := by
  refine mm_start rfl (Nat.le_of_ble_eq_true rfl) ?_
  show mm_V l G M_ST_isLatin1 0 0 0 [some (.ref a)] [] h _
  refine mm_getstatic (pc' := 3) d_ST_isLatin1_0 rfl gl_ST_38 ?_
  refine mm_if_eq (pc' := 6) (tgt := 17) d_ST_isLatin1_3 rfl rfl (fun q => absurd q (by decide)) (fun _ => ?_)
  refine mm_aload_n (pc' := 7) d_ST_isLatin1_6 rfl rfl rfl ?_
  refine mm_getfield (pc' := 10) d_ST_isLatin1_7 rfl fl_ST_15 hh rfl ?_
  refine mm_if_ne (pc' := 13) (tgt := 17) d_ST_isLatin1_10 rfl rfl (fun q => absurd rfl q) (fun _ => ?_)
  refine mm_iconst (v := 1) (pc' := 14) d_ST_isLatin1_13 rfl (by decide) ?_
  refine mm_goto (tgt := 18) d_ST_isLatin1_14 rfl ?_
  exact mm_iret d_ST_isLatin1_18 rfl rfl ⟨rfl, rfl⟩
theorem sp_AB_length {a v : Nat} {ml n : Int32} (hh : h.1 a = some (.inr (1, [.ref v, .int 0, .int ml, .int n]))) : mm_S l G M_AB_length [.ref a] h 0 0 (fun r h' => r = some (.int n) ∧ h' = h) := by
  refine mm_start rfl (Nat.le_of_ble_eq_true rfl) ?_
  show mm_V l G M_AB_length 0 0 0 [some (.ref a)] [] h _
  refine mm_aload_n (pc' := 1) d_AB_length_0 rfl rfl rfl ?_
  refine mm_getfield (pc' := 4) d_AB_length_1 rfl fl_AB_79 hh rfl ?_
  exact mm_iret d_AB_length_4 rfl rfl ⟨rfl, rfl⟩
theorem sp_SB_length {a v : Nat} {ml n : Int32} (hh : h.1 a = some (.inr (1, [.ref v, .int 0, .int ml, .int n]))) : mm_S l G M_SB_length [.ref a] h 0 0 (fun r h' => r = some (.int n) ∧ h' = h) := by
  refine mm_start rfl (Nat.le_of_ble_eq_true rfl) ?_
  show mm_V l G M_SB_length 0 0 0 [some (.ref a)] [] h _
  refine mm_aload_n (pc' := 1) d_SB_length_0 rfl rfl rfl ?_
  refine mm_callP (pc' := 4) (as := []) (st := []) d_SB_length_1 rfl cs_SB_343 hh rfl (sp_AB_length hh) rfl rfl (Nat.le_of_ble_eq_true rfl) (Nat.le_of_ble_eq_true rfl) (Nat.le_of_ble_eq_true rfl) (Nat.le_of_ble_eq_true rfl) (fun v h1 hq => ?_)
  obtain ⟨rfl, rfl⟩ := hq
  exact mm_iret d_SB_length_4 rfl rfl ⟨rfl, rfl⟩
theorem sp_AB_getValue {a v : Nat} {ml n : Int32} (hh : h.1 a = some (.inr (1, [.ref v, .int 0, .int ml, .int n]))) : mm_S l G M_AB_getValue [.ref a] h 0 0 (fun r h' => r = some (.ref v) ∧ h' = h) := by
  refine mm_start rfl (Nat.le_of_ble_eq_true rfl) ?_
  show mm_V l G M_AB_getValue 0 0 0 [some (.ref a)] [] h _
  refine mm_aload_n (pc' := 1) d_AB_getValue_0 rfl rfl rfl ?_
  refine mm_getfield (pc' := 4) d_AB_getValue_1 rfl fl_AB_15 hh rfl ?_
  exact mm_aret d_AB_getValue_4 rfl (Or.inr ⟨_, rfl⟩) (Or.inr ⟨_, rfl⟩) ⟨rfl, rfl⟩
theorem sp_ST_coder {a v : Nat} {fs : List Value} (hh : h.1 a = some (.inr (0, .ref v :: .int 0 :: fs))) : mm_S l G M_ST_coder [.ref a] h 0 0 (fun r h' => r = some (.int 0) ∧ h' = h) := by
  refine mm_start rfl (Nat.le_of_ble_eq_true rfl) ?_
  show mm_V l G M_ST_coder 0 0 0 [some (.ref a)] [] h _
  refine mm_getstatic (pc' := 3) d_ST_coder_0 rfl gl_ST_38 ?_
  refine mm_if_eq (pc' := 6) (tgt := 13) d_ST_coder_3 rfl rfl (fun q => absurd q (by decide)) (fun _ => ?_)
  refine mm_aload_n (pc' := 7) d_ST_coder_6 rfl rfl rfl ?_
  refine mm_getfield (pc' := 10) d_ST_coder_7 rfl fl_ST_15 hh rfl ?_
  refine mm_goto (tgt := 14) d_ST_coder_10 rfl ?_
  exact mm_iret d_ST_coder_14 rfl rfl ⟨rfl, rfl⟩
theorem sp_ST_length {a v : Nat} {fs : List Value} (hh : h.1 a = some (.inr (0, .ref v :: .int 0 :: fs))) {t m : Nat} {f : Nat → Int32} (ht : t < 16) (hv : h.1 v = some (.inl (t, m, .inl f))) : mm_S l G M_ST_length [.ref a] h 0 0 (fun r h' => r = some (.int (nI m)) ∧ h' = h) := by
  refine mm_start rfl (Nat.le_of_ble_eq_true rfl) ?_
  show mm_V l G M_ST_length 0 0 0 [some (.ref a)] [] h _
  refine mm_aload_n (pc' := 1) d_ST_length_0 rfl rfl rfl ?_
  refine mm_getfield (pc' := 4) d_ST_length_1 rfl fl_ST_9 hh rfl ?_
  refine mm_alen (pc' := 5) d_ST_length_4 rfl ht hv rfl ?_
  refine mm_aload_n (pc' := 6) d_ST_length_5 rfl rfl rfl ?_
  refine mm_callV (pc' := 9) (as := []) (st := [_]) d_ST_length_6 rfl cs_ST_335 hh rfl (sp_ST_coder hh) rfl rfl (Nat.le_of_ble_eq_true rfl) (Nat.le_of_ble_eq_true rfl) (Nat.le_of_ble_eq_true rfl) (Nat.le_of_ble_eq_true rfl) (fun v h1 hq => ?_)
  obtain ⟨rfl, rfl⟩ := hq
  refine mm_ishr (pc' := 10) d_ST_length_9 rfl ?_
  exact mm_iret d_ST_length_10 rfl rfl ⟨by rw [by_sh0]; rfl, rfl⟩
theorem sp_ST_isEmpty {a v : Nat} {fs : List Value} (hh : h.1 a = some (.inr (0, .ref v :: .int 0 :: fs))) {t m : Nat} {f : Nat → Int32} (ht : t < 16) (hv : h.1 v = some (.inl (t, m, .inl f))) (hm : m < 2 ^ 31) : mm_S l G M_ST_isEmpty [.ref a] h 0 0 (fun r h' => r = some (.int (if m = 0 then 1 else 0)) ∧ h' = h) := by
  refine mm_start rfl (Nat.le_of_ble_eq_true rfl) ?_
  show mm_V l G M_ST_isEmpty 0 0 0 [some (.ref a)] [] h _
  refine mm_aload_n (pc' := 1) d_ST_isEmpty_0 rfl rfl rfl ?_
  refine mm_getfield (pc' := 4) d_ST_isEmpty_1 rfl fl_ST_9 hh rfl ?_
  refine mm_alen (pc' := 5) d_ST_isEmpty_4 rfl ht hv rfl ?_
  refine mm_if_ne (pc' := 8) (tgt := 12) d_ST_isEmpty_5 rfl rfl (fun hc => ?_) (fun hc => ?_)
  · refine mm_iconst (v := 0) (pc' := 13) d_ST_isEmpty_12 rfl (by decide) ?_
    exact mm_iret d_ST_isEmpty_13 rfl rfl ⟨by rw [if_neg (fun q => hc (by rw [q]; rfl))], rfl⟩
  · refine mm_iconst (v := 1) (pc' := 9) d_ST_isEmpty_8 rfl (by decide) ?_
    refine mm_goto (tgt := 13) d_ST_isEmpty_9 rfl ?_
    exact mm_iret d_ST_isEmpty_13 rfl rfl ⟨by rw [if_pos (Nat.eq_zero_of_not_pos (fun q => nI_ne0 q hm hc))], rfl⟩
theorem sp_AS_newLength {a b c : Int32} (h0 : 0 < a + (if b < c then c else b)) (h3 : ¬ 2147483639 < a + (if b < c then c else b)) : mm_S l G M_AS_newLength [.int a, .int b, .int c] h 0 0 (fun r h' => r = some (.int (a + (if b < c then c else b))) ∧ h' = h) := by
  refine mm_start rfl (Nat.le_of_ble_eq_true rfl) ?_
  show mm_V l G M_AS_newLength 0 0 0 [some (.int a), some (.int b), some (.int c), none] [] h _
  refine mm_iload_n (pc' := 1) d_AS_newLength_0 rfl rfl rfl ?_
  refine mm_iload_n (pc' := 2) d_AS_newLength_1 rfl rfl rfl ?_
  refine mm_iload_n (pc' := 3) d_AS_newLength_2 rfl rfl rfl ?_
  refine mm_max d_AS_newLength_3 rfl cs_AS_194 (Nat.le_of_ble_eq_true rfl) (Nat.le_of_ble_eq_true rfl) ?_
  refine mm_iadd (pc' := 7) d_AS_newLength_6 rfl ?_
  refine mm_ist3 (pc' := 8) d_AS_newLength_7 rfl rfl (Nat.le_of_ble_eq_true rfl) ?_
  refine mm_iconst (v := 0) (pc' := 9) d_AS_newLength_8 rfl (by decide) ?_
  refine mm_iload_n (pc' := 10) d_AS_newLength_9 rfl rfl rfl ?_
  refine mm_icmp_ge (pc' := 13) (tgt := 21) d_AS_newLength_10 rfl rfl (fun q => absurd q (fun q => Int32.not_le.mpr h0 q)) (fun _ => ?_)
  refine mm_iload_n (pc' := 14) d_AS_newLength_13 rfl rfl rfl ?_
  refine mm_ldc (pc' := 16) d_AS_newLength_14 rfl ld_AS_200 ?_
  refine mm_icmp_gt (pc' := 19) (tgt := 21) d_AS_newLength_16 rfl rfl (fun q => absurd q h3) (fun _ => ?_)
  refine mm_iload_n (pc' := 20) d_AS_newLength_19 rfl rfl rfl ?_
  exact mm_iret d_AS_newLength_20 rfl rfl ⟨rfl, rfl⟩
end J1
