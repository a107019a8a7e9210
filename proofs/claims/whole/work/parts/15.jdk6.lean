theorem d_L1_inflate_aBIaCII_0 : decode prog_24_method_49_code 0 = .ok (.iconst 0, 1) := by decide +kernel
theorem d_L1_inflate_aBIaCII_1 : decode prog_24_method_49_code 1 = .ok (.istore 5, 2) := by decide +kernel
theorem d_L1_inflate_aBIaCII_3 : decode prog_24_method_49_code 3 = .ok (.iload 5, 2) := by decide +kernel
theorem d_L1_inflate_aBIaCII_5 : decode prog_24_method_49_code 5 = .ok (.iload 4, 2) := by decide +kernel
theorem d_L1_inflate_aBIaCII_7 : decode prog_24_method_49_code 7 = .ok (.if_icmp .ge 26, 3) := by decide +kernel
theorem d_L1_inflate_aBIaCII_10 : decode prog_24_method_49_code 10 = .ok (.aload_n 2, 1) := by decide +kernel
theorem d_L1_inflate_aBIaCII_11 : decode prog_24_method_49_code 11 = .ok (.iload_n 3, 1) := by decide +kernel
theorem d_L1_inflate_aBIaCII_12 : decode prog_24_method_49_code 12 = .ok (.iinc 3 1, 3) := by decide +kernel
theorem d_L1_inflate_aBIaCII_15 : decode prog_24_method_49_code 15 = .ok (.aload_n 0, 1) := by decide +kernel
theorem d_L1_inflate_aBIaCII_16 : decode prog_24_method_49_code 16 = .ok (.iload_n 1, 1) := by decide +kernel
theorem d_L1_inflate_aBIaCII_17 : decode prog_24_method_49_code 17 = .ok (.iinc 1 1, 3) := by decide +kernel
theorem d_L1_inflate_aBIaCII_20 : decode prog_24_method_49_code 20 = .ok (.baload, 1) := by decide +kernel
theorem d_L1_inflate_aBIaCII_21 : decode prog_24_method_49_code 21 = .ok (.sipush 255, 3) := by decide +kernel
theorem d_L1_inflate_aBIaCII_24 : decode prog_24_method_49_code 24 = .ok (.iand, 1) := by decide +kernel
theorem d_L1_inflate_aBIaCII_25 : decode prog_24_method_49_code 25 = .ok (.i2c, 1) := by decide +kernel
theorem d_L1_inflate_aBIaCII_26 : decode prog_24_method_49_code 26 = .ok (.castore, 1) := by decide +kernel
theorem d_L1_inflate_aBIaCII_27 : decode prog_24_method_49_code 27 = .ok (.iinc 5 1, 3) := by decide +kernel
theorem d_L1_inflate_aBIaCII_30 : decode prog_24_method_49_code 30 = .ok (.goto (-27), 3) := by decide +kernel
theorem d_L1_inflate_aBIaCII_33 : decode prog_24_method_49_code 33 = .ok (.return_, 1) := by decide +kernel
theorem d_L1_toChars_0 : decode prog_24_method_9_code 0 = .ok (.aload_n 0, 1) := by decide +kernel
theorem d_L1_toChars_1 : decode prog_24_method_9_code 1 = .ok (.arraylength, 1) := by decide +kernel
theorem d_L1_toChars_2 : decode prog_24_method_9_code 2 = .ok (.newarray .char, 2) := by decide +kernel
theorem d_L1_toChars_4 : decode prog_24_method_9_code 4 = .ok (.astore_n 1, 1) := by decide +kernel
theorem d_L1_toChars_5 : decode prog_24_method_9_code 5 = .ok (.aload_n 0, 1) := by decide +kernel
theorem d_L1_toChars_6 : decode prog_24_method_9_code 6 = .ok (.iconst 0, 1) := by decide +kernel
theorem d_L1_toChars_7 : decode prog_24_method_9_code 7 = .ok (.aload_n 1, 1) := by decide +kernel
theorem d_L1_toChars_8 : decode prog_24_method_9_code 8 = .ok (.iconst 0, 1) := by decide +kernel
theorem d_L1_toChars_9 : decode prog_24_method_9_code 9 = .ok (.aload_n 0, 1) := by decide +kernel
theorem d_L1_toChars_10 : decode prog_24_method_9_code 10 = .ok (.arraylength, 1) := by decide +kernel
theorem d_L1_toChars_11 : decode prog_24_method_9_code 11 = .ok (.invokestatic 13, 3) := by decide +kernel
theorem d_L1_toChars_14 : decode prog_24_method_9_code 14 = .ok (.aload_n 1, 1) := by decide +kernel
theorem d_L1_toChars_15 : decode prog_24_method_9_code 15 = .ok (.areturn, 1) := by decide +kernel
theorem d_ST_init_aC_0 : decode prog_22_method_3_code 0 = .ok (.aload_n 0, 1) := by decide +kernel
theorem d_ST_init_aC_1 : decode prog_22_method_3_code 1 = .ok (.aload_n 1, 1) := by decide +kernel
theorem d_ST_init_aC_2 : decode prog_22_method_3_code 2 = .ok (.iconst 0, 1) := by decide +kernel
theorem d_ST_init_aC_3 : decode prog_22_method_3_code 3 = .ok (.aload_n 1, 1) := by decide +kernel
theorem d_ST_init_aC_4 : decode prog_22_method_3_code 4 = .ok (.arraylength, 1) := by decide +kernel
theorem d_ST_init_aC_5 : decode prog_22_method_3_code 5 = .ok (.aconst_null, 1) := by decide +kernel
theorem d_ST_init_aC_6 : decode prog_22_method_3_code 6 = .ok (.invokespecial 27, 3) := by decide +kernel
theorem d_ST_init_aC_9 : decode prog_22_method_3_code 9 = .ok (.return_, 1) := by decide +kernel
theorem d_ST_init_aCIIV_0 : decode prog_22_method_149_code 0 = .ok (.aload_n 0, 1) := by decide +kernel
theorem d_ST_init_aCIIV_1 : decode prog_22_method_149_code 1 = .ok (.invokespecial 1, 3) := by decide +kernel
theorem d_ST_init_aCIIV_4 : decode prog_22_method_149_code 4 = .ok (.iload_n 3, 1) := by decide +kernel
theorem d_ST_init_aCIIV_5 : decode prog_22_method_149_code 5 = .ok (.ifCond .ne 22, 3) := by decide +kernel
theorem d_ST_init_aCIIV_8 : decode prog_22_method_149_code 8 = .ok (.aload_n 0, 1) := by decide +kernel
theorem d_ST_init_aCIIV_9 : decode prog_22_method_149_code 9 = .ok (.ldc 7, 2) := by decide +kernel
theorem d_ST_init_aCIIV_11 : decode prog_22_method_149_code 11 = .ok (.getfield 9, 3) := by decide +kernel
theorem d_ST_init_aCIIV_14 : decode prog_22_method_149_code 14 = .ok (.putfield 9, 3) := by decide +kernel
theorem d_ST_init_aCIIV_17 : decode prog_22_method_149_code 17 = .ok (.aload_n 0, 1) := by decide +kernel
theorem d_ST_init_aCIIV_18 : decode prog_22_method_149_code 18 = .ok (.ldc 7, 2) := by decide +kernel
theorem d_ST_init_aCIIV_20 : decode prog_22_method_149_code 20 = .ok (.getfield 15, 3) := by decide +kernel
theorem d_ST_init_aCIIV_23 : decode prog_22_method_149_code 23 = .ok (.putfield 15, 3) := by decide +kernel
theorem d_ST_init_aCIIV_26 : decode prog_22_method_149_code 26 = .ok (.return_, 1) := by decide +kernel
theorem d_ST_init_aCIIV_27 : decode prog_22_method_149_code 27 = .ok (.getstatic 38, 3) := by decide +kernel
theorem d_ST_init_aCIIV_30 : decode prog_22_method_149_code 30 = .ok (.ifCond .eq 28, 3) := by decide +kernel
theorem d_ST_init_aCIIV_33 : decode prog_22_method_149_code 33 = .ok (.aload_n 1, 1) := by decide +kernel
theorem d_ST_init_aCIIV_34 : decode prog_22_method_149_code 34 = .ok (.iload_n 2, 1) := by decide +kernel
theorem d_ST_init_aCIIV_35 : decode prog_22_method_149_code 35 = .ok (.iload_n 3, 1) := by decide +kernel
theorem d_ST_init_aCIIV_36 : decode prog_22_method_149_code 36 = .ok (.invokestatic 177, 3) := by decide +kernel
theorem d_ST_init_aCIIV_39 : decode prog_22_method_149_code 39 = .ok (.astore 5, 2) := by decide +kernel
theorem d_ST_init_aCIIV_41 : decode prog_22_method_149_code 41 = .ok (.aload_n 0, 1) := by decide +kernel
theorem d_ST_init_aCIIV_42 : decode prog_22_method_149_code 42 = .ok (.aload 5, 2) := by decide +kernel
theorem d_ST_init_aCIIV_44 : decode prog_22_method_149_code 44 = .ok (.iload_n 3, 1) := by decide +kernel
theorem d_ST_init_aCIIV_45 : decode prog_22_method_149_code 45 = .ok (.invokestatic 47, 3) := by decide +kernel
theorem d_ST_init_aCIIV_48 : decode prog_22_method_149_code 48 = .ok (.putfield 15, 3) := by decide +kernel
theorem d_ST_init_aCIIV_51 : decode prog_22_method_149_code 51 = .ok (.aload_n 0, 1) := by decide +kernel
theorem d_ST_init_aCIIV_52 : decode prog_22_method_149_code 52 = .ok (.aload 5, 2) := by decide +kernel
theorem d_ST_init_aCIIV_54 : decode prog_22_method_149_code 54 = .ok (.putfield 9, 3) := by decide +kernel
theorem d_ST_init_aCIIV_57 : decode prog_22_method_149_code 57 = .ok (.return_, 1) := by decide +kernel
theorem d_ST_toCharArray_0 : decode prog_22_method_129_code 0 = .ok (.aload_n 0, 1) := by decide +kernel
theorem d_ST_toCharArray_1 : decode prog_22_method_129_code 1 = .ok (.invokevirtual 492, 3) := by decide +kernel
theorem d_ST_toCharArray_4 : decode prog_22_method_129_code 4 = .ok (.ifCond .eq 13, 3) := by decide +kernel
theorem d_ST_toCharArray_7 : decode prog_22_method_129_code 7 = .ok (.aload_n 0, 1) := by decide +kernel
theorem d_ST_toCharArray_8 : decode prog_22_method_129_code 8 = .ok (.getfield 9, 3) := by decide +kernel
theorem d_ST_toCharArray_11 : decode prog_22_method_129_code 11 = .ok (.invokestatic 299, 3) := by decide +kernel
theorem d_ST_toCharArray_14 : decode prog_22_method_129_code 14 = .ok (.goto 10, 3) := by decide +kernel
theorem d_ST_toCharArray_24 : decode prog_22_method_129_code 24 = .ok (.areturn, 1) := by decide +kernel
theorem d_U6_coderFromArrayLen_0 : decode prog_25_method_15_code 0 = .ok (.iload_n 1, 1) := by decide +kernel
theorem d_U6_coderFromArrayLen_1 : decode prog_25_method_15_code 1 = .ok (.aload_n 0, 1) := by decide +kernel
theorem d_U6_coderFromArrayLen_2 : decode prog_25_method_15_code 2 = .ok (.arraylength, 1) := by decide +kernel
theorem d_U6_coderFromArrayLen_3 : decode prog_25_method_15_code 3 = .ok (.isub, 1) := by decide +kernel
theorem d_U6_coderFromArrayLen_4 : decode prog_25_method_15_code 4 = .ok (.bipush 31, 2) := by decide +kernel
theorem d_U6_coderFromArrayLen_6 : decode prog_25_method_15_code 6 = .ok (.iushr, 1) := by decide +kernel
theorem d_U6_coderFromArrayLen_7 : decode prog_25_method_15_code 7 = .ok (.i2b, 1) := by decide +kernel
theorem d_U6_coderFromArrayLen_8 : decode prog_25_method_15_code 8 = .ok (.ireturn, 1) := by decide +kernel
theorem d_U6_compress_aCII_0 : decode prog_25_method_16_code 0 = .ok (.iload_n 2, 1) := by decide +kernel
theorem d_U6_compress_aCII_1 : decode prog_25_method_16_code 1 = .ok (.newarray .byte, 2) := by decide +kernel
theorem d_U6_compress_aCII_3 : decode prog_25_method_16_code 3 = .ok (.astore_n 3, 1) := by decide +kernel
theorem d_U6_compress_aCII_4 : decode prog_25_method_16_code 4 = .ok (.aload_n 0, 1) := by decide +kernel
theorem d_U6_compress_aCII_5 : decode prog_25_method_16_code 5 = .ok (.iload_n 1, 1) := by decide +kernel
theorem d_U6_compress_aCII_6 : decode prog_25_method_16_code 6 = .ok (.aload_n 3, 1) := by decide +kernel
theorem d_U6_compress_aCII_7 : decode prog_25_method_16_code 7 = .ok (.iconst 0, 1) := by decide +kernel
theorem d_U6_compress_aCII_8 : decode prog_25_method_16_code 8 = .ok (.iload_n 2, 1) := by decide +kernel
theorem d_U6_compress_aCII_9 : decode prog_25_method_16_code 9 = .ok (.invokestatic 115, 3) := by decide +kernel
theorem d_U6_compress_aCII_12 : decode prog_25_method_16_code 12 = .ok (.istore 4, 2) := by decide +kernel
theorem d_U6_compress_aCII_14 : decode prog_25_method_16_code 14 = .ok (.iload 4, 2) := by decide +kernel
theorem d_U6_compress_aCII_16 : decode prog_25_method_16_code 16 = .ok (.iload_n 2, 1) := by decide +kernel
theorem d_U6_compress_aCII_17 : decode prog_25_method_16_code 17 = .ok (.if_icmp .eq 40, 3) := by decide +kernel
theorem d_U6_compress_aCII_57 : decode prog_25_method_16_code 57 = .ok (.aload_n 3, 1) := by decide +kernel
theorem d_U6_compress_aCII_58 : decode prog_25_method_16_code 58 = .ok (.areturn, 1) := by decide +kernel
theorem d_U6_compress_aCIaBII_0 : decode prog_25_method_21_code 0 = .ok (.iconst 0, 1) := by decide +kernel
theorem d_U6_compress_aCIaBII_1 : decode prog_25_method_21_code 1 = .ok (.istore 5, 2) := by decide +kernel
theorem d_U6_compress_aCIaBII_3 : decode prog_25_method_21_code 3 = .ok (.iload 5, 2) := by decide +kernel
theorem d_U6_compress_aCIaBII_5 : decode prog_25_method_21_code 5 = .ok (.iload 4, 2) := by decide +kernel
theorem d_U6_compress_aCIaBII_7 : decode prog_25_method_21_code 7 = .ok (.if_icmp .ge 37, 3) := by decide +kernel
theorem d_U6_compress_aCIaBII_10 : decode prog_25_method_21_code 10 = .ok (.aload_n 0, 1) := by decide +kernel
theorem d_U6_compress_aCIaBII_11 : decode prog_25_method_21_code 11 = .ok (.iload_n 1, 1) := by decide +kernel
theorem d_U6_compress_aCIaBII_12 : decode prog_25_method_21_code 12 = .ok (.caload, 1) := by decide +kernel
theorem d_U6_compress_aCIaBII_13 : decode prog_25_method_21_code 13 = .ok (.istore 6, 2) := by decide +kernel
theorem d_U6_compress_aCIaBII_15 : decode prog_25_method_21_code 15 = .ok (.iload 6, 2) := by decide +kernel
theorem d_U6_compress_aCIaBII_17 : decode prog_25_method_21_code 17 = .ok (.sipush 255, 3) := by decide +kernel
theorem d_U6_compress_aCIaBII_20 : decode prog_25_method_21_code 20 = .ok (.if_icmp .le 6, 3) := by decide +kernel
theorem d_U6_compress_aCIaBII_26 : decode prog_25_method_21_code 26 = .ok (.aload_n 2, 1) := by decide +kernel
theorem d_U6_compress_aCIaBII_27 : decode prog_25_method_21_code 27 = .ok (.iload_n 3, 1) := by decide +kernel
theorem d_U6_compress_aCIaBII_28 : decode prog_25_method_21_code 28 = .ok (.iload 6, 2) := by decide +kernel
theorem d_U6_compress_aCIaBII_30 : decode prog_25_method_21_code 30 = .ok (.i2b, 1) := by decide +kernel
theorem d_U6_compress_aCIaBII_31 : decode prog_25_method_21_code 31 = .ok (.bastore, 1) := by decide +kernel
theorem d_U6_compress_aCIaBII_32 : decode prog_25_method_21_code 32 = .ok (.iinc 1 1, 3) := by decide +kernel
theorem d_U6_compress_aCIaBII_35 : decode prog_25_method_21_code 35 = .ok (.iinc 3 1, 3) := by decide +kernel
theorem d_U6_compress_aCIaBII_38 : decode prog_25_method_21_code 38 = .ok (.iinc 5 1, 3) := by decide +kernel
theorem d_U6_compress_aCIaBII_41 : decode prog_25_method_21_code 41 = .ok (.goto (-38), 3) := by decide +kernel
theorem d_U6_compress_aCIaBII_44 : decode prog_25_method_21_code 44 = .ok (.iload 4, 2) := by decide +kernel
theorem d_U6_compress_aCIaBII_46 : decode prog_25_method_21_code 46 = .ok (.ireturn, 1) := by decide +kernel
section J6
variable {l : Launch} {G : mm_G} {h : mm_H}
set_option maxHeartbeats 1000000 in
theorem lp_L1_inflate_aBIaCII {v t dd n : Nat} {f : Nat → Int32} {xs : Nat → Nat} (ht : t = 1 ∨ t = 9) (hn : n ≤ 300) (hxs : ∀ j, j < n → xs j < 256 ∧ f j = by_b (xs j)) {Q : Option Value → mm_H → Prop} : ∀ k (h : mm_H) i g, h.1 v = some (.inl (t, n, .inl f)) → i + k = n → h.1 dd = some (.inl (2, n, .inl g)) → (∀ j, j < i → g j = nI (xs j)) → (∀ g', (∀ j, j < n → g' j = nI (xs j)) → Q none (mm_set h dd (.inl (2, n, .inl g')))) → mm_V l G M_L1_inflate_aBIaCII 0 0 3 [some (.ref v), some (.int (nI i)), some (.ref dd), some (.int (nI i)), some (.int (nI n)), some (.int (nI i))] [] h Q := by
  obtain ⟨ht1, ht2⟩ := tx_t ht
  intro k
  induction k with
  | zero =>
    intro h i g hv hik hd hg hQ
    refine mm_iload (pc' := 5) d_L1_inflate_aBIaCII_3 rfl rfl ?_
    refine mm_iload (pc' := 7) d_L1_inflate_aBIaCII_5 rfl rfl ?_
    refine mm_icmp_ge (pc' := 10) (tgt := 33) d_L1_inflate_aBIaCII_7 rfl rfl (fun _ => ?_) (fun q => absurd (nI_le (by omega) (by omega)) q)
    refine mm_vret d_L1_inflate_aBIaCII_33 rfl ?_
    have h9 := hQ g (fun j hj => hg j (by omega))
    rw [mm_setSame hd] at h9
    exact h9
  | succ k ih =>
    intro h i g hv hik hd hg hQ
    have hdv : v ≠ dd := fun q => by
      rw [q, hd] at hv
      cases hv
      rcases ht with ht | ht <;> cases ht
    obtain ⟨hx1, hx2⟩ := hxs i (by omega)
    refine mm_iload (pc' := 5) d_L1_inflate_aBIaCII_3 rfl rfl ?_
    refine mm_iload (pc' := 7) d_L1_inflate_aBIaCII_5 rfl rfl ?_
    refine mm_icmp_ge (pc' := 10) (tgt := 33) d_L1_inflate_aBIaCII_7 rfl rfl (fun q => absurd q (nI_ge (by omega) (by omega))) (fun _ => ?_)
    refine mm_aload_n (pc' := 11) d_L1_inflate_aBIaCII_10 rfl rfl rfl ?_
    refine mm_iload_n (pc' := 12) d_L1_inflate_aBIaCII_11 rfl rfl rfl ?_
    refine mm_iinc3 (v := _ + 1) (pc' := 15) d_L1_inflate_aBIaCII_12 rfl rfl rfl (Nat.le_of_ble_eq_true rfl) ?_
    refine mm_aload_n (pc' := 16) d_L1_inflate_aBIaCII_15 rfl rfl rfl ?_
    refine mm_iload_n (pc' := 17) d_L1_inflate_aBIaCII_16 rfl rfl rfl ?_
    refine mm_iinc1 (v := _ + 1) (pc' := 20) d_L1_inflate_aBIaCII_17 rfl rfl rfl (Nat.le_of_ble_eq_true rfl) ?_
    refine mm_bald (pc' := 21) (t := t) d_L1_inflate_aBIaCII_20 rfl ht1 ht2 hv (vp_in_nI (by omega) (by omega)) ?_
    rw [nI_clamp (by omega), hx2]
    refine mm_sipush (v := 255) (pc' := 24) d_L1_inflate_aBIaCII_21 rfl (by decide) ?_
    refine mm_iand (pc' := 25) d_L1_inflate_aBIaCII_24 rfl ?_
    rw [by_and _ hx1]
    refine mm_i2c (pc' := 26) d_L1_inflate_aBIaCII_25 rfl (by_c (by omega)) ?_
    refine mm_cast (pc' := 27) (t := 2) d_L1_inflate_aBIaCII_26 rfl (Nat.le_of_ble_eq_true rfl) rfl (pk_charN (by omega)).1 hd (vp_in_nI (by omega) (by omega)) ?_
    rw [nI_clamp (by omega)]
    refine mm_iinc5 (v := _ + 1) (pc' := 30) d_L1_inflate_aBIaCII_27 rfl rfl rfl (Nat.le_of_ble_eq_true rfl) ?_
    refine mm_goto (tgt := 3) d_L1_inflate_aBIaCII_30 rfl ?_
    rw [nI_1]
    refine ih _ (i + 1) _ (by rw [mm_setNe hdv]; exact hv) (by omega) mm_setSelf (fun j hj => ?_) (fun g' hg' => ?_)
    · by_cases hji : j = i
      · rw [hji, pk_us]
      · rw [pk_un hji]
        exact hg j (by omega)
    · rw [mm_set2]
      exact hQ g' hg'
set_option maxHeartbeats 1000000 in
theorem sp_L1_inflate_aBIaCII {v t dd n : Nat} {f : Nat → Int32} {xs : Nat → Nat} {g : Nat → Int32} (ht : t = 1 ∨ t = 9) (hn : n ≤ 300) (hxs : ∀ j, j < n → xs j < 256 ∧ f j = by_b (xs j)) (hv : h.1 v = some (.inl (t, n, .inl f))) (hd : h.1 dd = some (.inl (2, n, .inl g))) : mm_S l G M_L1_inflate_aBIaCII [.ref v, .int (nI 0), .ref dd, .int (nI 0), .int (nI n)] h 0 0 (fun r h' => r = none ∧ ∃ g', h' = mm_set h dd (.inl (2, n, .inl g')) ∧ ∀ j, j < n → g' j = nI (xs j)) := by
  refine mm_start rfl (Nat.le_of_ble_eq_true rfl) ?_
  show mm_V l G M_L1_inflate_aBIaCII 0 0 0 [some (.ref v), some (.int (nI 0)), some (.ref dd), some (.int (nI 0)), some (.int (nI n)), none] [] h _
  refine mm_iconst (v := 0) (pc' := 1) d_L1_inflate_aBIaCII_0 rfl (by decide) ?_
  refine mm_ist5 (pc' := 3) d_L1_inflate_aBIaCII_1 rfl rfl (Nat.le_of_ble_eq_true rfl) ?_
  exact lp_L1_inflate_aBIaCII ht hn hxs n h 0 g hv (by omega) hd (fun j hj => absurd hj (by omega)) (fun g' hg' => ⟨rfl, g', rfl, hg'⟩)
set_option maxHeartbeats 1000000 in
theorem sp_L1_toChars (hw : mm_wf h) {v t n : Nat} {f : Nat → Int32} {xs : Nat → Nat} (ht : t = 1 ∨ t = 9) (hn : n ≤ 300) (hxs : ∀ j, j < n → xs j < 256 ∧ f j = by_b (xs j)) (hv : h.1 v = some (.inl (t, n, .inl f))) : mm_S l G M_L1_toChars [.ref v] h 1 n (fun r h' => r = some (.ref h.2) ∧ ∃ g', h' = mm_new h (.inl (2, n, .inl g')) ∧ ∀ j, j < n → g' j = nI (xs j)) := by
  refine mm_start rfl (Nat.le_of_ble_eq_true rfl) ?_
  show mm_V l G M_L1_toChars 1 n 0 [some (.ref v), none] [] h _
  obtain ⟨ht1, ht2⟩ := tx_t ht
  refine mm_aload_n (pc' := 1) d_L1_toChars_0 rfl rfl rfl ?_
  refine mm_alen (pc' := 2) d_L1_toChars_1 rfl ht1 hv rfl ?_
  rw [show Int32.ofNat n = nI n from rfl]
  refine mm_newarr (pc' := 4) (t := 2) (N := n) d_L1_toChars_2 rfl (Nat.le_of_ble_eq_true rfl) rfl ar_char rfl (nI_pos (by omega)) (nI_clamp (by omega)) (by show n * 2 ≤ _; omega) (Nat.le_of_ble_eq_true rfl) (Nat.le_refl _) ?_
  have hvn : (mm_new h (.inl (2, n, .inl (fun _ => 0)))).1 v = some (.inl (t, n, .inl f)) := by rw [mm_newNe (hw.lt hv)]; exact hv
  refine mm_ast1 (pc' := 5) d_L1_toChars_4 rfl rfl (Nat.le_of_ble_eq_true rfl) ?_
  refine mm_aload_n (pc' := 6) d_L1_toChars_5 rfl rfl rfl ?_
  refine mm_iconst (v := 0) (pc' := 7) d_L1_toChars_6 rfl (by decide) ?_
  refine mm_aload_n (pc' := 8) d_L1_toChars_7 rfl rfl rfl ?_
  refine mm_iconst (v := 0) (pc' := 9) d_L1_toChars_8 rfl (by decide) ?_
  refine mm_aload_n (pc' := 10) d_L1_toChars_9 rfl rfl rfl ?_
  refine mm_alen (pc' := 11) d_L1_toChars_10 rfl ht1 hvn rfl ?_
  refine mm_callS (pc' := 14) (as := [.ref v, .int (nI 0), .ref h.2, .int (nI 0), .int (nI n)]) (st := []) d_L1_toChars_11 rfl cs_L1_13 (sp_L1_inflate_aBIaCII ht hn hxs hvn mm_newSelf) rfl rfl (Nat.le_of_ble_eq_true rfl) (Nat.le_of_ble_eq_true rfl) (Nat.zero_le _) (Nat.zero_le _) (fun v h1 hq => ?_)
  obtain ⟨rfl, g', rfl, hg⟩ := hq
  rw [mm_setNew]
  refine mm_aload_n (pc' := 15) d_L1_toChars_14 rfl rfl rfl ?_
  exact mm_aret d_L1_toChars_15 rfl (by first | exact Or.inl ⟨_, rfl⟩ | exact Or.inr ⟨_, rfl⟩) (Or.inr ⟨_, rfl⟩) ⟨rfl, g', rfl, hg⟩
set_option maxHeartbeats 1000000 in
theorem sp_ST_toCharArray (hw : mm_wf h) {a v t n : Nat} {f : Nat → Int32} (hb : tx_at h a v t n f) {xs : Nat → Nat} (hxs : ∀ j, j < n → xs j < 256 ∧ f j = by_b (xs j)) : mm_S l G M_ST_toCharArray [.ref a] h 1 n (fun r h' => r = some (.ref h.2) ∧ ∃ g', h' = mm_new h (.inl (2, n, .inl g')) ∧ ∀ j, j < n → g' j = nI (xs j)) := by
  refine mm_start rfl (Nat.le_of_ble_eq_true rfl) ?_
  show mm_V l G M_ST_toCharArray 1 n 0 [some (.ref a)] [] h _
  obtain ⟨⟨fs, hh⟩, hv, ht, hn3, hfit⟩ := id hb
  obtain ⟨ht1, ht2⟩ := tx_t ht
  refine mm_aload_n (pc' := 1) d_ST_toCharArray_0 rfl rfl rfl ?_
  refine mm_callV (pc' := 4) (as := []) (st := []) d_ST_toCharArray_1 rfl cs_ST_492 hh rfl (sp_ST_isLatin1 hh) rfl rfl (Nat.le_of_ble_eq_true rfl) (Nat.le_of_ble_eq_true rfl) (Nat.zero_le _) (Nat.zero_le _) (fun v h1 hq => ?_)
  obtain ⟨rfl, rfl⟩ := hq
  refine mm_if_eq (pc' := 7) (tgt := 17) d_ST_toCharArray_4 rfl rfl (fun q => absurd q (by decide)) (fun _ => ?_)
  refine mm_aload_n (pc' := 8) d_ST_toCharArray_7 rfl rfl rfl ?_
  refine mm_getfield (pc' := 11) d_ST_toCharArray_8 rfl fl_ST_9 hh rfl ?_
  refine mm_callS (pc' := 14) (as := [.ref v]) (st := []) d_ST_toCharArray_11 rfl cs_ST_299 (sp_L1_toChars hw ht hn3 hxs hv) rfl rfl (Nat.le_of_ble_eq_true rfl) (Nat.le_of_ble_eq_true rfl) (Nat.le_refl _) (Nat.le_refl _) (fun r1 h1 hq => ?_)
  obtain ⟨rfl, hq⟩ := hq
  refine mm_goto (tgt := 24) d_ST_toCharArray_14 rfl ?_
  exact mm_aret d_ST_toCharArray_24 rfl (by first | exact Or.inl ⟨_, rfl⟩ | exact Or.inr ⟨_, rfl⟩) (Or.inr ⟨_, rfl⟩) ⟨rfl, hq⟩
set_option maxHeartbeats 1000000 in
theorem lp_U6_compress_aCIaBII {c dd n : Nat} {f : Nat → Int32} {xs : Nat → Nat} (hn : n ≤ 300) (hxs : ∀ j, j < n → xs j < 256 ∧ f j = nI (xs j)) {Q : Option Value → mm_H → Prop} : ∀ k (h : mm_H) i g x6, h.1 c = some (.inl (2, n, .inl f)) → i + k = n → h.1 dd = some (.inl (1, n, .inl g)) → (∀ j, j < i → g j = by_b (xs j)) → (∀ g', (∀ j, j < n → g' j = by_b (xs j)) → Q (some (.int (nI n))) (mm_set h dd (.inl (1, n, .inl g')))) → mm_V l G M_U6_compress_aCIaBII 0 0 3 [some (.ref c), some (.int (nI i)), some (.ref dd), some (.int (nI i)), some (.int (nI n)), some (.int (nI i)), x6] [] h Q := by
  intro k
  induction k with
  | zero =>
    intro h i g x6 hv hik hd hg hQ
    refine mm_iload (pc' := 5) d_U6_compress_aCIaBII_3 rfl rfl ?_
    refine mm_iload (pc' := 7) d_U6_compress_aCIaBII_5 rfl rfl ?_
    refine mm_icmp_ge (pc' := 10) (tgt := 44) d_U6_compress_aCIaBII_7 rfl rfl (fun _ => ?_) (fun q => absurd (nI_le (by omega) (by omega)) q)
    refine mm_iload (pc' := 46) d_U6_compress_aCIaBII_44 rfl rfl ?_
    refine mm_iret d_U6_compress_aCIaBII_46 rfl rfl ?_
    have h9 := hQ g (fun j hj => hg j (by omega))
    rw [mm_setSame hd] at h9
    exact h9
  | succ k ih =>
    intro h i g x6 hv hik hd hg hQ
    have hdv : c ≠ dd := fun q => by
      rw [q, hd] at hv
      cases hv
    obtain ⟨hx1, hx2⟩ := hxs i (by omega)
    refine mm_iload (pc' := 5) d_U6_compress_aCIaBII_3 rfl rfl ?_
    refine mm_iload (pc' := 7) d_U6_compress_aCIaBII_5 rfl rfl ?_
    refine mm_icmp_ge (pc' := 10) (tgt := 44) d_U6_compress_aCIaBII_7 rfl rfl (fun q => absurd q (nI_ge (by omega) (by omega))) (fun _ => ?_)
    refine mm_aload_n (pc' := 11) d_U6_compress_aCIaBII_10 rfl rfl rfl ?_
    refine mm_iload_n (pc' := 12) d_U6_compress_aCIaBII_11 rfl rfl rfl ?_
    refine mm_cald (pc' := 13) (t := 2) d_U6_compress_aCIaBII_12 rfl (Nat.le_of_ble_eq_true rfl) rfl hv (vp_in_nI (by omega) (by omega)) ?_
    rw [nI_clamp (by omega), hx2]
    refine mm_ist6 (pc' := 15) d_U6_compress_aCIaBII_13 rfl rfl (Nat.le_of_ble_eq_true rfl) ?_
    refine mm_iload (pc' := 17) d_U6_compress_aCIaBII_15 rfl rfl ?_
    refine mm_sipush (v := 255) (pc' := 20) d_U6_compress_aCIaBII_17 rfl (by decide) ?_
    refine mm_icmp_le (pc' := 23) (tgt := 26) d_U6_compress_aCIaBII_20 rfl rfl (fun _ => ?_) (fun q => absurd (nI_le (a := xs i) (b := 255) (by omega) (by omega)) q)
    refine mm_aload_n (pc' := 27) d_U6_compress_aCIaBII_26 rfl rfl rfl ?_
    refine mm_iload_n (pc' := 28) d_U6_compress_aCIaBII_27 rfl rfl rfl ?_
    refine mm_iload (pc' := 30) d_U6_compress_aCIaBII_28 rfl rfl ?_
    refine mm_i2b (pc' := 31) d_U6_compress_aCIaBII_30 rfl (show _ = by_b (xs i) from rfl) ?_
    refine mm_bast (pc' := 32) (t := 1) d_U6_compress_aCIaBII_31 rfl (Nat.le_of_ble_eq_true rfl) rfl hd (vp_in_nI (by omega) (by omega)) ?_
    rw [nI_clamp (by omega), by_idem]
    refine mm_iinc1 (v := _ + 1) (pc' := 35) d_U6_compress_aCIaBII_32 rfl rfl rfl (Nat.le_of_ble_eq_true rfl) ?_
    refine mm_iinc3 (v := _ + 1) (pc' := 38) d_U6_compress_aCIaBII_35 rfl rfl rfl (Nat.le_of_ble_eq_true rfl) ?_
    refine mm_iinc5 (v := _ + 1) (pc' := 41) d_U6_compress_aCIaBII_38 rfl rfl rfl (Nat.le_of_ble_eq_true rfl) ?_
    refine mm_goto (tgt := 3) d_U6_compress_aCIaBII_41 rfl ?_
    rw [nI_1]
    refine ih _ (i + 1) _ _ (by rw [mm_setNe hdv]; exact hv) (by omega) mm_setSelf (fun j hj => ?_) (fun g' hg' => ?_)
    · by_cases hji : j = i
      · rw [hji, pk_us]
      · rw [pk_un hji]
        exact hg j (by omega)
    · rw [mm_set2]
      exact hQ g' hg'
set_option maxHeartbeats 1000000 in
theorem sp_U6_compress_aCIaBII {c dd n : Nat} {f : Nat → Int32} {xs : Nat → Nat} {g : Nat → Int32} (hn : n ≤ 300) (hxs : ∀ j, j < n → xs j < 256 ∧ f j = nI (xs j)) (hv : h.1 c = some (.inl (2, n, .inl f))) (hd : h.1 dd = some (.inl (1, n, .inl g))) : mm_S l G M_U6_compress_aCIaBII [.ref c, .int (nI 0), .ref dd, .int (nI 0), .int (nI n)] h 0 0 (fun r h' => r = some (.int (nI n)) ∧ ∃ g', h' = mm_set h dd (.inl (1, n, .inl g')) ∧ ∀ j, j < n → g' j = by_b (xs j)) := by
  refine mm_start rfl (Nat.le_of_ble_eq_true rfl) ?_
  show mm_V l G M_U6_compress_aCIaBII 0 0 0 [some (.ref c), some (.int (nI 0)), some (.ref dd), some (.int (nI 0)), some (.int (nI n)), none, none] [] h _
  refine mm_iconst (v := 0) (pc' := 1) d_U6_compress_aCIaBII_0 rfl (by decide) ?_
  refine mm_ist5 (pc' := 3) d_U6_compress_aCIaBII_1 rfl rfl (Nat.le_of_ble_eq_true rfl) ?_
  exact lp_U6_compress_aCIaBII hn hxs n h 0 g _ hv (by omega) hd (fun j hj => absurd hj (by omega)) (fun g' hg' => ⟨rfl, g', rfl, hg'⟩)
set_option maxHeartbeats 1000000 in
theorem sp_U6_compress_aCII (hw : mm_wf h) {c n : Nat} {f : Nat → Int32} {xs : Nat → Nat} (hn : n ≤ 300) (hxs : ∀ j, j < n → xs j < 256 ∧ f j = nI (xs j)) (hv : h.1 c = some (.inl (2, n, .inl f))) : mm_S l G M_U6_compress_aCII [.ref c, .int (nI 0), .int (nI n)] h 1 n (fun r h' => r = some (.ref h.2) ∧ ∃ g', h' = mm_new h (.inl (1, n, .inl g')) ∧ ∀ j, j < n → g' j = by_b (xs j)) := by
  refine mm_start rfl (Nat.le_of_ble_eq_true rfl) ?_
  show mm_V l G M_U6_compress_aCII 1 n 0 [some (.ref c), some (.int (nI 0)), some (.int (nI n)), none, none, none] [] h _
  refine mm_iload_n (pc' := 1) d_U6_compress_aCII_0 rfl rfl rfl ?_
  refine mm_newarr (pc' := 3) (t := 1) (N := n) d_U6_compress_aCII_1 rfl (Nat.le_of_ble_eq_true rfl) rfl ar_byte rfl (nI_pos (by omega)) (nI_clamp (by omega)) (by show n * 1 ≤ _; omega) (Nat.le_of_ble_eq_true rfl) (Nat.le_refl _) ?_
  have hvn : (mm_new h (.inl (1, n, .inl (fun _ => 0)))).1 c = some (.inl (2, n, .inl f)) := by rw [mm_newNe (hw.lt hv)]; exact hv
  refine mm_ast3 (pc' := 4) d_U6_compress_aCII_3 rfl rfl (Nat.le_of_ble_eq_true rfl) ?_
  refine mm_aload_n (pc' := 5) d_U6_compress_aCII_4 rfl rfl rfl ?_
  refine mm_iload_n (pc' := 6) d_U6_compress_aCII_5 rfl rfl rfl ?_
  refine mm_aload_n (pc' := 7) d_U6_compress_aCII_6 rfl rfl rfl ?_
  refine mm_iconst (v := 0) (pc' := 8) d_U6_compress_aCII_7 rfl (by decide) ?_
  refine mm_iload_n (pc' := 9) d_U6_compress_aCII_8 rfl rfl rfl ?_
  refine mm_callS (pc' := 12) (as := [.ref c, .int (nI 0), .ref h.2, .int (nI 0), .int (nI n)]) (st := []) d_U6_compress_aCII_9 rfl cs_U6_115 (sp_U6_compress_aCIaBII hn hxs hvn mm_newSelf) rfl rfl (Nat.le_of_ble_eq_true rfl) (Nat.le_of_ble_eq_true rfl) (Nat.zero_le _) (Nat.zero_le _) (fun v h1 hq => ?_)
  obtain ⟨rfl, g', rfl, hg⟩ := hq
  rw [mm_setNew]
  refine mm_ist4 (pc' := 14) d_U6_compress_aCII_12 rfl rfl (Nat.le_of_ble_eq_true rfl) ?_
  refine mm_iload (pc' := 16) d_U6_compress_aCII_14 rfl rfl ?_
  refine mm_iload_n (pc' := 17) d_U6_compress_aCII_16 rfl rfl rfl ?_
  refine mm_icmp_eq (pc' := 20) (tgt := 57) d_U6_compress_aCII_17 rfl rfl (fun _ => ?_) (fun q => absurd rfl q)
  refine mm_aload_n (pc' := 58) d_U6_compress_aCII_57 rfl rfl rfl ?_
  exact mm_aret d_U6_compress_aCII_58 rfl (by first | exact Or.inl ⟨_, rfl⟩ | exact Or.inr ⟨_, rfl⟩) (Or.inr ⟨_, rfl⟩) ⟨rfl, g', rfl, hg⟩
set_option maxHeartbeats 1000000 in
theorem sp_U6_coderFromArrayLen {v n : Nat} {f : Nat → Int32} (hv : h.1 v = some (.inl (1, n, .inl f))) : mm_S l G M_U6_coderFromArrayLen [.ref v, .int (nI n)] h 0 0 (fun r h' => r = some (.int 0) ∧ h' = h) := by
  refine mm_start rfl (Nat.le_of_ble_eq_true rfl) ?_
  show mm_V l G M_U6_coderFromArrayLen 0 0 0 [some (.ref v), some (.int (nI n))] [] h _
  refine mm_iload_n (pc' := 1) d_U6_coderFromArrayLen_0 rfl rfl rfl ?_
  refine mm_aload_n (pc' := 2) d_U6_coderFromArrayLen_1 rfl rfl rfl ?_
  refine mm_alen (pc' := 3) d_U6_coderFromArrayLen_2 rfl (Nat.le_of_ble_eq_true rfl) hv rfl ?_
  refine mm_isub (pc' := 4) d_U6_coderFromArrayLen_3 rfl ?_
  rw [show nI n - Int32.ofNat n = 0 from by rw [show Int32.ofNat n = nI n from rfl, pk_sub (Nat.le_refl _), Nat.sub_self]; rfl]
  refine mm_bipush (v := 31) (pc' := 6) d_U6_coderFromArrayLen_4 rfl (by decide) ?_
  refine mm_iushr (pc' := 7) (v := 0) d_U6_coderFromArrayLen_6 rfl (by decide) ?_
  refine mm_i2b (pc' := 8) (v := 0) d_U6_coderFromArrayLen_7 rfl (by decide) ?_
  exact mm_iret d_U6_coderFromArrayLen_8 rfl rfl ⟨rfl, rfl⟩
set_option maxHeartbeats 1000000 in
theorem sp_ST_init_aCIIV (hw : mm_wf h) {s c n : Nat} {f : Nat → Int32} {xs : Nat → Nat} (hn : n ≤ 300) (hxs : ∀ j, j < n → xs j < 256 ∧ f j = nI (xs j)) (hv : h.1 c = some (.inl (2, n, .inl f))) (hs : h.1 s = some (.inr (0, [.null, .int 0, .int 0, .int 0]))) (hK : mm_K ≤ s) (h1e : h.1 1 = some (.inr (0, [.ref 8, .int 0]))) : mm_S l G M_ST_init_aCIIV [.ref s, .ref c, .int (nI 0), .int (nI n), .null] h 1 n (fun r h' => r = none ∧ ((n = 0 ∧ h' = mm_set h s (.inr (0, [.ref 8, .int 0, .int 0, .int 0]))) ∨ (n ≠ 0 ∧ ∃ g, h' = mm_set (mm_new h (.inl (1, n, .inl g))) s (.inr (0, [.ref h.2, .int 0, .int 0, .int 0])) ∧ ∀ j, j < n → g j = by_b (xs j)))) := by
  refine mm_start rfl (Nat.le_of_ble_eq_true rfl) ?_
  show mm_V l G M_ST_init_aCIIV 1 n 0 [some (.ref s), some (.ref c), some (.int (nI 0)), some (.int (nI n)), some (.null), none] [] h _
  have hs1 : (1 : Nat) ≠ s := by
    have : mm_K = 24 := rfl
    omega
  refine mm_aload_n (pc' := 1) d_ST_init_aCIIV_0 rfl rfl rfl ?_
  refine mm_objInit (pc' := 4) d_ST_init_aCIIV_1 rfl oi_ST_1 (Nat.le_of_ble_eq_true rfl) (Nat.le_of_ble_eq_true rfl) ?_
  refine mm_iload_n (pc' := 5) d_ST_init_aCIIV_4 rfl rfl rfl ?_
  refine mm_if_ne (pc' := 8) (tgt := 27) d_ST_init_aCIIV_5 rfl rfl (fun hc => ?_) (fun hc => ?_)
  · have hn0 : n ≠ 0 := fun q => hc (by rw [q]; rfl)
    refine mm_getstatic (pc' := 30) d_ST_init_aCIIV_27 rfl gl_ST_38 ?_
    refine mm_if_eq (pc' := 33) (tgt := 58) d_ST_init_aCIIV_30 rfl rfl (fun q => absurd q (by decide)) (fun _ => ?_)
    refine mm_aload_n (pc' := 34) d_ST_init_aCIIV_33 rfl rfl rfl ?_
    refine mm_iload_n (pc' := 35) d_ST_init_aCIIV_34 rfl rfl rfl ?_
    refine mm_iload_n (pc' := 36) d_ST_init_aCIIV_35 rfl rfl rfl ?_
    refine mm_callS (pc' := 39) (as := [.ref c, .int (nI 0), .int (nI n)]) (st := []) d_ST_init_aCIIV_36 rfl cs_ST_177 (sp_U6_compress_aCII hw hn hxs hv) rfl rfl (Nat.le_of_ble_eq_true rfl) (Nat.le_of_ble_eq_true rfl) (by decide) (Nat.le_refl _) (fun r1 h1 hq => ?_)
    obtain ⟨rfl, g, rfl, hg⟩ := hq
    refine mm_ast5 (pc' := 41) d_ST_init_aCIIV_39 rfl rfl (Nat.le_of_ble_eq_true rfl) ?_
    refine mm_aload_n (pc' := 42) d_ST_init_aCIIV_41 rfl rfl rfl ?_
    refine mm_aload (pc' := 44) d_ST_init_aCIIV_42 rfl rfl ?_
    refine mm_iload_n (pc' := 45) d_ST_init_aCIIV_44 rfl rfl rfl ?_
    refine mm_callS (pc' := 48) (as := [.ref h.2, .int (nI n)]) (st := [_]) d_ST_init_aCIIV_45 rfl cs_ST_47 (sp_U6_coderFromArrayLen mm_newSelf) rfl rfl (Nat.le_of_ble_eq_true rfl) (Nat.le_of_ble_eq_true rfl) (Nat.zero_le _) (Nat.zero_le _) (fun v h1 hq => ?_)
    obtain ⟨rfl, rfl⟩ := hq
    have hsn : (mm_new h (.inl (1, n, .inl g))).1 s = some (.inr (0, [.null, .int 0, .int 0, .int 0])) := by rw [mm_newNe (hw.lt hs)]; exact hs
    refine mm_putfield (pc' := 51) d_ST_init_aCIIV_48 rfl pl_ST_init_aCIIV_15 (fun _ => ⟨rfl, rfl⟩) hsn (Or.inr hK) (Nat.le_of_ble_eq_true rfl) ?_
    rw [show ([.null, .int 0, .int 0, .int 0] : List Value).set 1 (.int 0) = [.null, .int 0, .int 0, .int 0] from rfl, mm_setSame hsn]
    refine mm_aload_n (pc' := 52) d_ST_init_aCIIV_51 rfl rfl rfl ?_
    refine mm_aload (pc' := 54) d_ST_init_aCIIV_52 rfl rfl ?_
    refine mm_putfield (pc' := 57) d_ST_init_aCIIV_54 rfl pl_ST_init_aCIIV_9 (fun _ => ⟨rfl, rfl⟩) hsn (Or.inr hK) (Nat.le_of_ble_eq_true rfl) ?_
    exact mm_vret d_ST_init_aCIIV_57 rfl ⟨rfl, Or.inr ⟨hn0, g, rfl, hg⟩⟩
  · have hn0 : n = 0 := Nat.eq_zero_of_not_pos fun q => nI_ne0 q (by omega) hc
    refine mm_aload_n (pc' := 9) d_ST_init_aCIIV_8 rfl rfl rfl ?_
    refine mm_ldcS (pc' := 11) d_ST_init_aCIIV_9 rfl ld_ST_7 ?_
    refine mm_getfield (pc' := 14) d_ST_init_aCIIV_11 rfl fl_ST_9 h1e rfl ?_
    refine mm_putfield (pc' := 17) d_ST_init_aCIIV_14 rfl pl_ST_init_aCIIV_9 (fun _ => ⟨rfl, rfl⟩) hs (Or.inr hK) (Nat.le_of_ble_eq_true rfl) ?_
    refine mm_aload_n (pc' := 18) d_ST_init_aCIIV_17 rfl rfl rfl ?_
    refine mm_ldcS (pc' := 20) d_ST_init_aCIIV_18 rfl ld_ST_7 ?_
    refine mm_getfield (pc' := 23) d_ST_init_aCIIV_20 rfl fl_ST_15 (by rw [mm_setNe hs1]; exact h1e) rfl ?_
    refine mm_putfield (pc' := 26) d_ST_init_aCIIV_23 rfl pl_ST_init_aCIIV_15 (fun _ => ⟨rfl, rfl⟩) mm_setSelf (Or.inr hK) (Nat.le_of_ble_eq_true rfl) ?_
    rw [mm_set2]
    exact mm_vret d_ST_init_aCIIV_26 rfl ⟨rfl, Or.inl ⟨hn0, rfl⟩⟩
set_option maxHeartbeats 1000000 in
theorem sp_ST_init_aC (hw : mm_wf h) {s c n : Nat} {f : Nat → Int32} {xs : Nat → Nat} (hn : n ≤ 300) (hxs : ∀ j, j < n → xs j < 256 ∧ f j = nI (xs j)) (hv : h.1 c = some (.inl (2, n, .inl f))) (hs : h.1 s = some (.inr (0, [.null, .int 0, .int 0, .int 0]))) (hK : mm_K ≤ s) (h1e : h.1 1 = some (.inr (0, [.ref 8, .int 0]))) : mm_S l G M_ST_init_aC [.ref s, .ref c] h 1 n (fun r h' => r = none ∧ ((n = 0 ∧ h' = mm_set h s (.inr (0, [.ref 8, .int 0, .int 0, .int 0]))) ∨ (n ≠ 0 ∧ ∃ g, h' = mm_set (mm_new h (.inl (1, n, .inl g))) s (.inr (0, [.ref h.2, .int 0, .int 0, .int 0])) ∧ ∀ j, j < n → g j = by_b (xs j)))) := by
  refine mm_start rfl (Nat.le_of_ble_eq_true rfl) ?_
  show mm_V l G M_ST_init_aC 1 n 0 [some (.ref s), some (.ref c)] [] h _
  refine mm_aload_n (pc' := 1) d_ST_init_aC_0 rfl rfl rfl ?_
  refine mm_aload_n (pc' := 2) d_ST_init_aC_1 rfl rfl rfl ?_
  refine mm_iconst (v := 0) (pc' := 3) d_ST_init_aC_2 rfl (by decide) ?_
  refine mm_aload_n (pc' := 4) d_ST_init_aC_3 rfl rfl rfl ?_
  refine mm_alen (pc' := 5) d_ST_init_aC_4 rfl (Nat.le_of_ble_eq_true rfl) hv rfl ?_
  refine mm_null (pc' := 6) d_ST_init_aC_5 rfl ?_
  refine mm_callI (pc' := 9) (as := [.ref c, .int (nI 0), .int (nI n), .null]) (st := []) d_ST_init_aC_6 rfl cs_ST_27 rfl (sp_ST_init_aCIIV hw hn hxs hv hs hK h1e) rfl rfl (Nat.le_of_ble_eq_true rfl) (Nat.le_of_ble_eq_true rfl) (Nat.le_refl _) (Nat.le_refl _) (fun r1 h1 hq => ?_)
  obtain ⟨rfl, hq⟩ := hq
  exact mm_vret d_ST_init_aC_9 rfl ⟨rfl, hq⟩
end J6
