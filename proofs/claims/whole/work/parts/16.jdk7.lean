theorem d_AB_append_S_0 : decode prog_16_method_22_code 0 = .ok (.aload_n 1, 1) := by decide +kernel
theorem d_AB_append_S_1 : decode prog_16_method_22_code 1 = .ok (.ifnonnull 8, 3) := by decide +kernel
theorem d_AB_append_S_9 : decode prog_16_method_22_code 9 = .ok (.aload_n 1, 1) := by decide +kernel
theorem d_AB_append_S_10 : decode prog_16_method_22_code 10 = .ok (.invokevirtual 32, 3) := by decide +kernel
theorem d_AB_append_S_13 : decode prog_16_method_22_code 13 = .ok (.istore_n 2, 1) := by decide +kernel
theorem d_AB_append_S_14 : decode prog_16_method_22_code 14 = .ok (.aload_n 0, 1) := by decide +kernel
theorem d_AB_append_S_15 : decode prog_16_method_22_code 15 = .ok (.aload_n 0, 1) := by decide +kernel
theorem d_AB_append_S_16 : decode prog_16_method_22_code 16 = .ok (.getfield 79, 3) := by decide +kernel
theorem d_AB_append_S_19 : decode prog_16_method_22_code 19 = .ok (.iload_n 2, 1) := by decide +kernel
theorem d_AB_append_S_20 : decode prog_16_method_22_code 20 = .ok (.iadd, 1) := by decide +kernel
theorem d_AB_append_S_21 : decode prog_16_method_22_code 21 = .ok (.invokevirtual 100, 3) := by decide +kernel
theorem d_AB_append_S_24 : decode prog_16_method_22_code 24 = .ok (.aload_n 0, 1) := by decide +kernel
theorem d_AB_append_S_25 : decode prog_16_method_22_code 25 = .ok (.aload_n 0, 1) := by decide +kernel
theorem d_AB_append_S_26 : decode prog_16_method_22_code 26 = .ok (.getfield 79, 3) := by decide +kernel
theorem d_AB_append_S_29 : decode prog_16_method_22_code 29 = .ok (.aload_n 1, 1) := by decide +kernel
theorem d_AB_append_S_30 : decode prog_16_method_22_code 30 = .ok (.invokevirtual 208, 3) := by decide +kernel
theorem d_AB_append_S_33 : decode prog_16_method_22_code 33 = .ok (.aload_n 0, 1) := by decide +kernel
theorem d_AB_append_S_34 : decode prog_16_method_22_code 34 = .ok (.dup, 1) := by decide +kernel
theorem d_AB_append_S_35 : decode prog_16_method_22_code 35 = .ok (.getfield 79, 3) := by decide +kernel
theorem d_AB_append_S_38 : decode prog_16_method_22_code 38 = .ok (.iload_n 2, 1) := by decide +kernel
theorem d_AB_append_S_39 : decode prog_16_method_22_code 39 = .ok (.iadd, 1) := by decide +kernel
theorem d_AB_append_S_40 : decode prog_16_method_22_code 40 = .ok (.putfield 79, 3) := by decide +kernel
theorem d_AB_append_S_43 : decode prog_16_method_22_code 43 = .ok (.aload_n 0, 1) := by decide +kernel
theorem d_AB_append_S_44 : decode prog_16_method_22_code 44 = .ok (.areturn, 1) := by decide +kernel
theorem d_AB_inflateIfNeededFor_0 : decode prog_16_method_71_code 0 = .ok (.getstatic 18, 3) := by decide +kernel
theorem d_AB_inflateIfNeededFor_3 : decode prog_16_method_71_code 3 = .ok (.ifCond .eq 18, 3) := by decide +kernel
theorem d_AB_inflateIfNeededFor_6 : decode prog_16_method_71_code 6 = .ok (.aload_n 0, 1) := by decide +kernel
theorem d_AB_inflateIfNeededFor_7 : decode prog_16_method_71_code 7 = .ok (.getfield 22, 3) := by decide +kernel
theorem d_AB_inflateIfNeededFor_10 : decode prog_16_method_71_code 10 = .ok (.aload_n 1, 1) := by decide +kernel
theorem d_AB_inflateIfNeededFor_11 : decode prog_16_method_71_code 11 = .ok (.invokevirtual 40, 3) := by decide +kernel
theorem d_AB_inflateIfNeededFor_14 : decode prog_16_method_71_code 14 = .ok (.if_icmp .eq 7, 3) := by decide +kernel
theorem d_AB_inflateIfNeededFor_21 : decode prog_16_method_71_code 21 = .ok (.return_, 1) := by decide +kernel
theorem d_AB_putStringAt_0 : decode prog_16_method_73_code 0 = .ok (.aload_n 0, 1) := by decide +kernel
theorem d_AB_putStringAt_1 : decode prog_16_method_73_code 1 = .ok (.aload_n 2, 1) := by decide +kernel
theorem d_AB_putStringAt_2 : decode prog_16_method_73_code 2 = .ok (.invokevirtual 397, 3) := by decide +kernel
theorem d_AB_putStringAt_5 : decode prog_16_method_73_code 5 = .ok (.aload_n 2, 1) := by decide +kernel
theorem d_AB_putStringAt_6 : decode prog_16_method_73_code 6 = .ok (.aload_n 0, 1) := by decide +kernel
theorem d_AB_putStringAt_7 : decode prog_16_method_73_code 7 = .ok (.getfield 15, 3) := by decide +kernel
theorem d_AB_putStringAt_10 : decode prog_16_method_73_code 10 = .ok (.iload_n 1, 1) := by decide +kernel
theorem d_AB_putStringAt_11 : decode prog_16_method_73_code 11 = .ok (.aload_n 0, 1) := by decide +kernel
theorem d_AB_putStringAt_12 : decode prog_16_method_73_code 12 = .ok (.getfield 22, 3) := by decide +kernel
theorem d_AB_putStringAt_15 : decode prog_16_method_73_code 15 = .ok (.invokevirtual 399, 3) := by decide +kernel
theorem d_AB_putStringAt_18 : decode prog_16_method_73_code 18 = .ok (.return_, 1) := by decide +kernel
theorem d_IN_stringSize_0 : decode prog_19_method_13_code 0 = .ok (.iconst 1, 1) := by decide +kernel
theorem d_IN_stringSize_1 : decode prog_19_method_13_code 1 = .ok (.istore_n 1, 1) := by decide +kernel
theorem d_IN_stringSize_2 : decode prog_19_method_13_code 2 = .ok (.iload_n 0, 1) := by decide +kernel
theorem d_IN_stringSize_3 : decode prog_19_method_13_code 3 = .ok (.ifCond .lt 8, 3) := by decide +kernel
theorem d_IN_stringSize_6 : decode prog_19_method_13_code 6 = .ok (.iconst 0, 1) := by decide +kernel
theorem d_IN_stringSize_7 : decode prog_19_method_13_code 7 = .ok (.istore_n 1, 1) := by decide +kernel
theorem d_IN_stringSize_8 : decode prog_19_method_13_code 8 = .ok (.iload_n 0, 1) := by decide +kernel
theorem d_IN_stringSize_9 : decode prog_19_method_13_code 9 = .ok (.ineg, 1) := by decide +kernel
theorem d_IN_stringSize_10 : decode prog_19_method_13_code 10 = .ok (.istore_n 0, 1) := by decide +kernel
theorem d_IN_stringSize_11 : decode prog_19_method_13_code 11 = .ok (.bipush (-10), 2) := by decide +kernel
theorem d_IN_stringSize_13 : decode prog_19_method_13_code 13 = .ok (.istore_n 2, 1) := by decide +kernel
theorem d_IN_stringSize_14 : decode prog_19_method_13_code 14 = .ok (.iconst 1, 1) := by decide +kernel
theorem d_IN_stringSize_15 : decode prog_19_method_13_code 15 = .ok (.istore_n 3, 1) := by decide +kernel
theorem d_IN_stringSize_16 : decode prog_19_method_13_code 16 = .ok (.iload_n 3, 1) := by decide +kernel
theorem d_IN_stringSize_17 : decode prog_19_method_13_code 17 = .ok (.bipush 10, 2) := by decide +kernel
theorem d_IN_stringSize_19 : decode prog_19_method_13_code 19 = .ok (.if_icmp .ge 23, 3) := by decide +kernel
theorem d_IN_stringSize_22 : decode prog_19_method_13_code 22 = .ok (.iload_n 0, 1) := by decide +kernel
theorem d_IN_stringSize_23 : decode prog_19_method_13_code 23 = .ok (.iload_n 2, 1) := by decide +kernel
theorem d_IN_stringSize_24 : decode prog_19_method_13_code 24 = .ok (.if_icmp .le 7, 3) := by decide +kernel
theorem d_IN_stringSize_27 : decode prog_19_method_13_code 27 = .ok (.iload_n 3, 1) := by decide +kernel
theorem d_IN_stringSize_28 : decode prog_19_method_13_code 28 = .ok (.iload_n 1, 1) := by decide +kernel
theorem d_IN_stringSize_29 : decode prog_19_method_13_code 29 = .ok (.iadd, 1) := by decide +kernel
theorem d_IN_stringSize_30 : decode prog_19_method_13_code 30 = .ok (.ireturn, 1) := by decide +kernel
theorem d_IN_stringSize_31 : decode prog_19_method_13_code 31 = .ok (.bipush 10, 2) := by decide +kernel
theorem d_IN_stringSize_33 : decode prog_19_method_13_code 33 = .ok (.iload_n 2, 1) := by decide +kernel
theorem d_IN_stringSize_34 : decode prog_19_method_13_code 34 = .ok (.imul, 1) := by decide +kernel
theorem d_IN_stringSize_35 : decode prog_19_method_13_code 35 = .ok (.istore_n 2, 1) := by decide +kernel
theorem d_IN_stringSize_36 : decode prog_19_method_13_code 36 = .ok (.iinc 3 1, 3) := by decide +kernel
theorem d_IN_stringSize_39 : decode prog_19_method_13_code 39 = .ok (.goto (-23), 3) := by decide +kernel
theorem d_SB_append_S_0 : decode prog_23_method_7_code 0 = .ok (.aload_n 0, 1) := by decide +kernel
theorem d_SB_append_S_1 : decode prog_23_method_7_code 1 = .ok (.aload_n 1, 1) := by decide +kernel
theorem d_SB_append_S_2 : decode prog_23_method_7_code 2 = .ok (.invokespecial 29, 3) := by decide +kernel
theorem d_SB_append_S_5 : decode prog_23_method_7_code 5 = .ok (.pop, 1) := by decide +kernel
theorem d_SB_append_S_6 : decode prog_23_method_7_code 6 = .ok (.aload_n 0, 1) := by decide +kernel
theorem d_SB_append_S_7 : decode prog_23_method_7_code 7 = .ok (.areturn, 1) := by decide +kernel
theorem d_ST_getBytes_0 : decode prog_22_method_147_code 0 = .ok (.aload_n 0, 1) := by decide +kernel
theorem d_ST_getBytes_1 : decode prog_22_method_147_code 1 = .ok (.invokevirtual 335, 3) := by decide +kernel
theorem d_ST_getBytes_4 : decode prog_22_method_147_code 4 = .ok (.iload_n 3, 1) := by decide +kernel
theorem d_ST_getBytes_5 : decode prog_22_method_147_code 5 = .ok (.if_icmp .ne 23, 3) := by decide +kernel
theorem d_ST_getBytes_8 : decode prog_22_method_147_code 8 = .ok (.aload_n 0, 1) := by decide +kernel
theorem d_ST_getBytes_9 : decode prog_22_method_147_code 9 = .ok (.getfield 9, 3) := by decide +kernel
theorem d_ST_getBytes_12 : decode prog_22_method_147_code 12 = .ok (.iconst 0, 1) := by decide +kernel
theorem d_ST_getBytes_13 : decode prog_22_method_147_code 13 = .ok (.aload_n 1, 1) := by decide +kernel
theorem d_ST_getBytes_14 : decode prog_22_method_147_code 14 = .ok (.iload_n 2, 1) := by decide +kernel
theorem d_ST_getBytes_15 : decode prog_22_method_147_code 15 = .ok (.iload_n 3, 1) := by decide +kernel
theorem d_ST_getBytes_16 : decode prog_22_method_147_code 16 = .ok (.ishl, 1) := by decide +kernel
theorem d_ST_getBytes_17 : decode prog_22_method_147_code 17 = .ok (.aload_n 0, 1) := by decide +kernel
theorem d_ST_getBytes_18 : decode prog_22_method_147_code 18 = .ok (.getfield 9, 3) := by decide +kernel
theorem d_ST_getBytes_21 : decode prog_22_method_147_code 21 = .ok (.arraylength, 1) := by decide +kernel
theorem d_ST_getBytes_22 : decode prog_22_method_147_code 22 = .ok (.invokestatic 212, 3) := by decide +kernel
theorem d_ST_getBytes_25 : decode prog_22_method_147_code 25 = .ok (.goto 18, 3) := by decide +kernel
theorem d_ST_getBytes_43 : decode prog_22_method_147_code 43 = .ok (.return_, 1) := by decide +kernel
/-- the decimal digits of a number below 10000 -/
def dc_l (n : Nat) : List Nat := if n < 10 then [48 + n] else if n < 100 then [48 + n / 10, 48 + n % 10] else if n < 1000 then [48 + n / 100, 48 + n / 10 % 10, 48 + n % 10] else [48 + n / 1000, 48 + n / 100 % 10, 48 + n / 10 % 10, 48 + n % 10]
theorem dc_1 {n : Nat} (h : n < 10) : dc_l n = [48 + n] := if_pos h
theorem dc_2 {n : Nat} (h0 : 10 ≤ n) (h : n < 100) : dc_l n = [48 + n / 10, 48 + n % 10] := by
  unfold dc_l
  rw [if_neg (by omega), if_pos h]
theorem dc_3 {n : Nat} (h0 : 100 ≤ n) (h : n < 1000) : dc_l n = [48 + n / 100, 48 + n / 10 % 10, 48 + n % 10] := by
  unfold dc_l
  rw [if_neg (by omega), if_neg (by omega), if_pos h]
theorem dc_4 {n : Nat} (h0 : 1000 ≤ n) : dc_l n = [48 + n / 1000, 48 + n / 100 % 10, 48 + n / 10 % 10, 48 + n % 10] := by
  unfold dc_l
  rw [if_neg (by omega), if_neg (by omega), if_neg (by omega)]
theorem ng_i {n : Nat} (h : n < 2 ^ 30) : (-(nI n)).toInt = -(n : Int) := by
  have h1 := pk_sub_toInt (a := 0) (b := n) (by decide) h
  rw [show nI 0 = 0 from rfl, Int32.zero_sub] at h1
  rw [h1]
  simp
theorem ng_le {n k : Nat} (hn : n < 2 ^ 30) (hk : k < 2 ^ 30) : -(nI n) ≤ -(nI k) ↔ k ≤ n := by
  rw [Int32.le_iff_toInt_le, ng_i hn, ng_i hk]
  omega
theorem ng_lt {n k : Nat} (hn : n < 2 ^ 30) (hk : k < 2 ^ 30) : -(nI n) < -(nI k) ↔ k < n := by
  rw [Int32.lt_iff_toInt_lt, ng_i hn, ng_i hk]
  omega
section J7
variable {l : Launch} {G : mm_G} {h : mm_H}
set_option maxHeartbeats 1000000 in
theorem sp_ST_getBytes {s w u m : Nat} {g : Nat → Int32} (hb2 : tx_at h s w u m g) {v cap n : Nat} {f : Nat → Int32} (hv : h.1 v = some (.inl (1, cap, .inl f))) (hc3 : cap ≤ 300) (hnm : n + m ≤ cap) : mm_S l G M_ST_getBytes [.ref s, .ref v, .int (nI n), .int 0] h 0 0 (fun r h' => r = none ∧ h' = mm_set h v (.inl (1, cap, .inl (va_cpy g f 0 n m)))) := by
  refine mm_start rfl (Nat.le_of_ble_eq_true rfl) ?_
  show mm_V l G M_ST_getBytes 0 0 0 [some (.ref s), some (.ref v), some (.int (nI n)), some (.int 0)] [] h _
  obtain ⟨⟨fs2, hh2⟩, hv2, hu, hm3, hfit2⟩ := id hb2
  obtain ⟨hu1, hu2⟩ := tx_t hu
  refine mm_aload_n (pc' := 1) d_ST_getBytes_0 rfl rfl rfl ?_
  refine mm_callV (pc' := 4) (as := []) (st := []) d_ST_getBytes_1 rfl cs_ST_335 hh2 rfl (sp_ST_coder hh2) rfl rfl (Nat.le_of_ble_eq_true rfl) (Nat.le_of_ble_eq_true rfl) (Nat.zero_le _) (Nat.zero_le _) (fun v h1 hq => ?_)
  obtain ⟨rfl, rfl⟩ := hq
  refine mm_iload_n (pc' := 5) d_ST_getBytes_4 rfl rfl rfl ?_
  refine mm_icmp_ne (pc' := 8) (tgt := 28) d_ST_getBytes_5 rfl rfl (fun q => absurd rfl q) (fun _ => ?_)
  refine mm_aload_n (pc' := 9) d_ST_getBytes_8 rfl rfl rfl ?_
  refine mm_getfield (pc' := 12) d_ST_getBytes_9 rfl fl_ST_9 hh2 rfl ?_
  refine mm_iconst (v := 0) (pc' := 13) d_ST_getBytes_12 rfl (by decide) ?_
  refine mm_aload_n (pc' := 14) d_ST_getBytes_13 rfl rfl rfl ?_
  refine mm_iload_n (pc' := 15) d_ST_getBytes_14 rfl rfl rfl ?_
  refine mm_iload_n (pc' := 16) d_ST_getBytes_15 rfl rfl rfl ?_
  refine mm_ishl (pc' := 17) d_ST_getBytes_16 rfl ?_
  rw [by_sl0]
  refine mm_aload_n (pc' := 18) d_ST_getBytes_17 rfl rfl rfl ?_
  refine mm_getfield (pc' := 21) d_ST_getBytes_18 rfl fl_ST_9 hh2 rfl ?_
  refine mm_alen (pc' := 22) d_ST_getBytes_21 rfl hu1 hv2 rfl ?_
  rw [show Int32.ofNat m = nI m from rfl]
  have hcl : (nI m).toNatClampNeg = m := nI_clamp (by omega)
  have hcl2 : (nI n).toNatClampNeg = n := nI_clamp (by omega)
  refine mm_copy (pc' := 25) (t0 := u) (t1 := 1) (n0 := m) (n1 := cap) (f := g) (g := f) d_ST_getBytes_22 rfl ac_ST_212 hu1 (Nat.le_of_ble_eq_true rfl) hu2 rfl hv2 hv (by decide) (nI_pos (by omega)) (nI_pos (by omega)) (by rw [hcl]; show 0 + _ ≤ _; omega) (by rw [hcl, hcl2]; exact hnm) (fun i hi => by rw [hcl] at hi; show fits .byte (.int (g (0 + i))) = true; rw [Nat.zero_add]; exact hfit2 i hi) (Nat.le_of_ble_eq_true rfl) (Nat.le_of_ble_eq_true rfl) ?_
  rw [hcl, hcl2]
  refine mm_goto (tgt := 43) d_ST_getBytes_25 rfl ?_
  exact mm_vret d_ST_getBytes_43 rfl ⟨rfl, rfl⟩
set_option maxHeartbeats 1000000 in
theorem sp_AB_inflateIfNeededFor {a v cap n : Nat} {ml : Int32} {f : Nat → Int32} (hb : bu_at h a v cap n ml f) {s w u m : Nat} {g : Nat → Int32} (hb2 : tx_at h s w u m g) : mm_S l G M_AB_inflateIfNeededFor [.ref a, .ref s] h 0 0 (fun r h' => r = none ∧ h' = h) := by
  refine mm_start rfl (Nat.le_of_ble_eq_true rfl) ?_
  show mm_V l G M_AB_inflateIfNeededFor 0 0 0 [some (.ref a), some (.ref s)] [] h _
  obtain ⟨hh, hv, hnc, hc3, hfit⟩ := id hb
  obtain ⟨⟨fs2, hh2⟩, hv2, hu, hm3, hfit2⟩ := id hb2
  obtain ⟨hu1, hu2⟩ := tx_t hu
  refine mm_getstatic (pc' := 3) d_AB_inflateIfNeededFor_0 rfl gl_AB_18 ?_
  refine mm_if_eq (pc' := 6) (tgt := 21) d_AB_inflateIfNeededFor_3 rfl rfl (fun q => absurd q (by decide)) (fun _ => ?_)
  refine mm_aload_n (pc' := 7) d_AB_inflateIfNeededFor_6 rfl rfl rfl ?_
  refine mm_getfield (pc' := 10) d_AB_inflateIfNeededFor_7 rfl fl_AB_22 hh rfl ?_
  refine mm_aload_n (pc' := 11) d_AB_inflateIfNeededFor_10 rfl rfl rfl ?_
  refine mm_callV (pc' := 14) (as := []) (st := [_]) d_AB_inflateIfNeededFor_11 rfl cs_AB_40 hh2 rfl (sp_ST_coder hh2) rfl rfl (Nat.le_of_ble_eq_true rfl) (Nat.le_of_ble_eq_true rfl) (Nat.zero_le _) (Nat.zero_le _) (fun v h1 hq => ?_)
  obtain ⟨rfl, rfl⟩ := hq
  refine mm_icmp_eq (pc' := 17) (tgt := 21) d_AB_inflateIfNeededFor_14 rfl rfl (fun _ => ?_) (fun q => absurd rfl q)
  exact mm_vret d_AB_inflateIfNeededFor_21 rfl ⟨rfl, rfl⟩
set_option maxHeartbeats 1000000 in
theorem sp_AB_putStringAt {a v cap n : Nat} {ml : Int32} {f : Nat → Int32} (hb : bu_at h a v cap n ml f) {s w u m : Nat} {g : Nat → Int32} (hb2 : tx_at h s w u m g) (hnm : n + m ≤ cap) : mm_S l G M_AB_putStringAt [.ref a, .int (nI n), .ref s] h 0 0 (fun r h' => r = none ∧ h' = mm_set h v (.inl (1, cap, .inl (va_cpy g f 0 n m)))) := by
  refine mm_start rfl (Nat.le_of_ble_eq_true rfl) ?_
  show mm_V l G M_AB_putStringAt 0 0 0 [some (.ref a), some (.int (nI n)), some (.ref s)] [] h _
  obtain ⟨hh, hv, hnc, hc3, hfit⟩ := id hb
  obtain ⟨⟨fs2, hh2⟩, hv2, hu, hm3, hfit2⟩ := id hb2
  obtain ⟨hu1, hu2⟩ := tx_t hu
  refine mm_aload_n (pc' := 1) d_AB_putStringAt_0 rfl rfl rfl ?_
  refine mm_aload_n (pc' := 2) d_AB_putStringAt_1 rfl rfl rfl ?_
  refine mm_callU (pc' := 5) (as := [.ref s]) (st := []) d_AB_putStringAt_2 rfl cs_AB_397 hh rfl (sp_AB_inflateIfNeededFor hb hb2) rfl rfl (Nat.le_of_ble_eq_true rfl) (Nat.le_of_ble_eq_true rfl) (Nat.zero_le _) (Nat.zero_le _) (fun v h1 hq => ?_)
  obtain ⟨rfl, rfl⟩ := hq
  refine mm_aload_n (pc' := 6) d_AB_putStringAt_5 rfl rfl rfl ?_
  refine mm_aload_n (pc' := 7) d_AB_putStringAt_6 rfl rfl rfl ?_
  refine mm_getfield (pc' := 10) d_AB_putStringAt_7 rfl fl_AB_15 hh rfl ?_
  refine mm_iload_n (pc' := 11) d_AB_putStringAt_10 rfl rfl rfl ?_
  refine mm_aload_n (pc' := 12) d_AB_putStringAt_11 rfl rfl rfl ?_
  refine mm_getfield (pc' := 15) d_AB_putStringAt_12 rfl fl_AB_22 hh rfl ?_
  refine mm_callV (pc' := 18) (as := [.ref v, .int (nI n), .int 0]) (st := []) d_AB_putStringAt_15 rfl cs_AB_399 hh2 rfl (sp_ST_getBytes hb2 hv hc3 hnm) rfl rfl (Nat.le_of_ble_eq_true rfl) (Nat.le_of_ble_eq_true rfl) (Nat.zero_le _) (Nat.zero_le _) (fun v h1 hq => ?_)
  obtain ⟨rfl, rfl⟩ := hq
  exact mm_vret d_AB_putStringAt_18 rfl ⟨rfl, rfl⟩
set_option maxHeartbeats 1000000 in
theorem sp_AB_append_S (hw : mm_wf h) {a v cap n : Nat} {ml : Int32} {f : Nat → Int32} (hb : bu_at h a v cap n ml f) {s w u m : Nat} {g : Nat → Int32} (hb2 : tx_at h s w u m g) (hwv : w ≠ v) (hnm : n + m ≤ 140) : mm_S l G M_AB_append_S [.ref a, .ref s] h 1 (bu_ks cap (n + m)) (fun r h' => r = some (.ref a) ∧ ∃ v' f', bu_at h' a v' (bu_gr cap (n + m)) (n + m) ml f' ∧ bu_fr h h' a v v' ∧ (∀ j, j < n → f' j = f j) ∧ ∀ j, j < m → f' (n + j) = g j) := by
  refine mm_start rfl (Nat.le_of_ble_eq_true rfl) ?_
  show mm_V l G M_AB_append_S 1 (bu_ks cap (n + m)) 0 [some (.ref a), some (.ref s), none] [] h _
  obtain ⟨hh, hv, hnc, hc3, hfit⟩ := id hb
  obtain ⟨⟨fs2, hh2⟩, hv2, hu, hm3, hfit2⟩ := id hb2
  obtain ⟨hu1, hu2⟩ := tx_t hu
  refine mm_aload_n (pc' := 1) d_AB_append_S_0 rfl rfl rfl ?_
  refine mm_ifnonnull (tgt := 9) d_AB_append_S_1 rfl ?_
  refine mm_aload_n (pc' := 10) d_AB_append_S_9 rfl rfl rfl ?_
  refine mm_callV (pc' := 13) (as := []) (st := []) d_AB_append_S_10 rfl cs_AB_32 hh2 rfl (sp_ST_length hh2 hu1 hv2) rfl rfl (Nat.le_of_ble_eq_true rfl) (Nat.le_of_ble_eq_true rfl) (Nat.zero_le _) (Nat.zero_le _) (fun v h1 hq => ?_)
  obtain ⟨rfl, rfl⟩ := hq
  refine mm_ist2 (pc' := 14) d_AB_append_S_13 rfl rfl (Nat.le_of_ble_eq_true rfl) ?_
  refine mm_aload_n (pc' := 15) d_AB_append_S_14 rfl rfl rfl ?_
  refine mm_aload_n (pc' := 16) d_AB_append_S_15 rfl rfl rfl ?_
  refine mm_getfield (pc' := 19) d_AB_append_S_16 rfl fl_AB_79 hh rfl ?_
  refine mm_iload_n (pc' := 20) d_AB_append_S_19 rfl rfl rfl ?_
  refine mm_iadd (pc' := 21) d_AB_append_S_20 rfl ?_
  rw [nI_add]
  refine mm_callU (pc' := 24) (as := [.int (nI (n + m))]) (st := []) d_AB_append_S_21 rfl cs_AB_100 hh rfl (sq_ensure hw hb (by omega)) rfl rfl (Nat.le_of_ble_eq_true rfl) (Nat.le_of_ble_eq_true rfl) (Nat.le_refl _) (Nat.le_refl _) (fun r1 h1 hq => ?_)
  obtain ⟨rfl, v1, f1, hb1, hf1, hff⟩ := hq
  obtain ⟨hh1, hv1, hnc1, hc31, hfit1⟩ := id hb1
  have hsa : s ≠ a := fun q => by
    rw [q, hh] at hh2
    cases hh2
  have hsv : s ≠ v := (mm_oi hh2 hv).symm
  have hwa : w ≠ a := mm_oi hh hv2
  have hb3 : tx_at h1 s w u m g := ⟨⟨fs2, by rw [hf1.2.2.2 s hsa hsv (hw.1 _ _ hh2)]; exact hh2⟩, by rw [hf1.2.2.2 w hwa hwv (hw.1 _ _ hv2)]; exact hv2, hu, hm3, hfit2⟩
  have hle : n + m ≤ bu_gr cap (n + m) := by
    unfold bu_gr
    split <;> omega
  refine mm_aload_n (pc' := 25) d_AB_append_S_24 rfl rfl rfl ?_
  refine mm_aload_n (pc' := 26) d_AB_append_S_25 rfl rfl rfl ?_
  refine mm_getfield (pc' := 29) d_AB_append_S_26 rfl fl_AB_79 hh1 rfl ?_
  refine mm_aload_n (pc' := 30) d_AB_append_S_29 rfl rfl rfl ?_
  refine mm_callU (pc' := 33) (as := [.int (nI n), .ref s]) (st := []) d_AB_append_S_30 rfl cs_AB_208 hh1 rfl (sp_AB_putStringAt hb1 hb3 hle) rfl rfl (Nat.le_of_ble_eq_true rfl) (Nat.le_of_ble_eq_true rfl) (Nat.zero_le _) (Nat.zero_le _) (fun v h2 hq => ?_)
  obtain ⟨rfl, rfl⟩ := hq
  have hva := mm_oi hh1 hv1
  have hh5 := (mm_setNe (e := .inl (1, bu_gr cap (n + m), .inl (va_cpy g f1 0 n m))) hva.symm).trans hh1
  refine mm_aload_n (pc' := 34) d_AB_append_S_33 rfl rfl rfl ?_
  refine mm_dup (pc' := 35) d_AB_append_S_34 rfl rfl ?_
  refine mm_getfield (pc' := 38) d_AB_append_S_35 rfl fl_AB_79 hh5 rfl ?_
  refine mm_iload_n (pc' := 39) d_AB_append_S_38 rfl rfl rfl ?_
  refine mm_iadd (pc' := 40) d_AB_append_S_39 rfl ?_
  rw [nI_add]
  refine mm_putfield (pc' := 43) d_AB_append_S_40 rfl pl_AB_append_S_79 (fun _ => ⟨rfl, rfl⟩) hh5 (Or.inl (by decide)) (Nat.le_of_ble_eq_true rfl) ?_
  refine mm_aload_n (pc' := 44) d_AB_append_S_43 rfl rfl rfl ?_
  refine mm_aret d_AB_append_S_44 rfl (by first | exact Or.inl ⟨_, rfl⟩ | exact Or.inr ⟨_, rfl⟩) (Or.inr ⟨_, rfl⟩) ⟨rfl, v1, va_cpy g f1 0 n m, ⟨mm_setSelf, ?_, hle, hc31, fun j hj => ?_⟩, ?_, fun j hj => ?_, fun j hj => ?_⟩
  · rw [mm_setNe hva, mm_setSelf]
  · by_cases hj2 : n ≤ j ∧ j < n + m
    · rw [pk_cpy_in hj2.1 hj2.2]
      exact hfit2 _ (by omega)
    · rw [pk_cpy_out (by omega)]
      exact hfit1 j hj
  · refine hf1.tr ⟨(hf1.1.set hv1).set hh5, Nat.le_refl _, Or.inl rfl, fun b h1 h2 _ => ?_⟩
    rw [mm_setNe h1, mm_setNe h2]
  · rw [pk_cpy_out (by omega)]
    exact hff j (by omega)
  · rw [pk_cpy_in (by omega) (by omega)]
    congr 1
    omega
set_option maxHeartbeats 1000000 in
theorem sp_SB_append_S (hw : mm_wf h) {a v cap n : Nat} {ml : Int32} {f : Nat → Int32} (hb : bu_at h a v cap n ml f) {s w u m : Nat} {g : Nat → Int32} (hb2 : tx_at h s w u m g) (hwv : w ≠ v) (hnm : n + m ≤ 140) : mm_S l G M_SB_append_S [.ref a, .ref s] h 1 (bu_ks cap (n + m)) (fun r h' => r = some (.ref a) ∧ ∃ v' f', bu_at h' a v' (bu_gr cap (n + m)) (n + m) ml f' ∧ bu_fr h h' a v v' ∧ (∀ j, j < n → f' j = f j) ∧ ∀ j, j < m → f' (n + j) = g j) := by
  refine mm_start rfl (Nat.le_of_ble_eq_true rfl) ?_
  show mm_V l G M_SB_append_S 1 (bu_ks cap (n + m)) 0 [some (.ref a), some (.ref s)] [] h _
  refine mm_aload_n (pc' := 1) d_SB_append_S_0 rfl rfl rfl ?_
  refine mm_aload_n (pc' := 2) d_SB_append_S_1 rfl rfl rfl ?_
  refine mm_callP (pc' := 5) (as := [.ref s]) (st := []) d_SB_append_S_2 rfl cs_SB_29 hb.1 rfl (sp_AB_append_S hw hb hb2 hwv hnm) rfl rfl (Nat.le_of_ble_eq_true rfl) (Nat.le_of_ble_eq_true rfl) (Nat.le_refl _) (Nat.le_refl _) (fun r1 h1 hq => ?_)
  obtain ⟨rfl, hq⟩ := hq
  refine mm_pop (pc' := 6) d_SB_append_S_5 rfl rfl ?_
  refine mm_aload_n (pc' := 7) d_SB_append_S_6 rfl rfl rfl ?_
  exact mm_aret d_SB_append_S_7 rfl (by first | exact Or.inl ⟨_, rfl⟩ | exact Or.inr ⟨_, rfl⟩) (Or.inr ⟨_, rfl⟩) ⟨rfl, hq⟩
set_option maxHeartbeats 1000000 in
theorem sp_IN_stringSize {n : Nat} (hn : n < 10000) : mm_S l G M_IN_stringSize [.int (nI n)] h 0 0 (fun r h' => r = some (.int (nI (dc_l n).length)) ∧ h' = h) := by
  refine mm_start rfl (Nat.le_of_ble_eq_true rfl) ?_
  show mm_V l G M_IN_stringSize 0 0 0 [some (.int (nI n)), none, none, none] [] h _
  have hx : ¬ nI n < 0 := nI_pos (by omega)
  refine mm_iconst (v := 1) (pc' := 1) d_IN_stringSize_0 rfl (by decide) ?_
  refine mm_ist1 (pc' := 2) d_IN_stringSize_1 rfl rfl (Nat.le_of_ble_eq_true rfl) ?_
  refine mm_iload_n (pc' := 3) d_IN_stringSize_2 rfl rfl rfl ?_
  refine mm_if_lt (pc' := 6) (tgt := 11) d_IN_stringSize_3 rfl rfl (fun q => absurd q hx) (fun _ => ?_)
  refine mm_iconst (v := 0) (pc' := 7) d_IN_stringSize_6 rfl (by decide) ?_
  refine mm_ist1 (pc' := 8) d_IN_stringSize_7 rfl rfl (Nat.le_of_ble_eq_true rfl) ?_
  refine mm_iload_n (pc' := 9) d_IN_stringSize_8 rfl rfl rfl ?_
  refine mm_ineg (pc' := 10) d_IN_stringSize_9 rfl ?_
  refine mm_ist0 (pc' := 11) d_IN_stringSize_10 rfl rfl (Nat.le_of_ble_eq_true rfl) ?_
  refine mm_bipush (v := (-10)) (pc' := 13) d_IN_stringSize_11 rfl (by decide) ?_
  refine mm_ist2 (pc' := 14) d_IN_stringSize_13 rfl rfl (Nat.le_of_ble_eq_true rfl) ?_
  refine mm_iconst (v := 1) (pc' := 15) d_IN_stringSize_14 rfl (by decide) ?_
  refine mm_ist3 (pc' := 16) d_IN_stringSize_15 rfl rfl (Nat.le_of_ble_eq_true rfl) ?_
  refine mm_iload_n (pc' := 17) d_IN_stringSize_16 rfl rfl rfl ?_
  refine mm_bipush (v := 10) (pc' := 19) d_IN_stringSize_17 rfl (by decide) ?_
  refine mm_icmp_ge (pc' := 22) (tgt := 42) d_IN_stringSize_19 rfl rfl (fun q => absurd q (by decide)) (fun _ => ?_)
  refine mm_iload_n (pc' := 23) d_IN_stringSize_22 rfl rfl rfl ?_
  refine mm_iload_n (pc' := 24) d_IN_stringSize_23 rfl rfl rfl ?_
  rw [show (-10 : Int32) = -(nI 10) from by decide]
  refine mm_icmp_le (pc' := 27) (tgt := 31) d_IN_stringSize_24 rfl rfl (fun hc => ?_) (fun hc => ?_)
  · have hge : 10 ≤ n := (ng_le (by omega) (by omega)).mp hc
    refine mm_bipush (v := 10) (pc' := 33) d_IN_stringSize_31 rfl (by decide) ?_
    refine mm_iload_n (pc' := 34) d_IN_stringSize_33 rfl rfl rfl ?_
    refine mm_imul (pc' := 35) d_IN_stringSize_34 rfl ?_
    rw [show (10 : Int32) * (-(nI 10)) = -100 from by decide]
    refine mm_ist2 (pc' := 36) d_IN_stringSize_35 rfl rfl (Nat.le_of_ble_eq_true rfl) ?_
    refine mm_iinc3 (v := _ + 1) (pc' := 39) d_IN_stringSize_36 rfl rfl rfl (Nat.le_of_ble_eq_true rfl) ?_
    refine mm_goto (tgt := 16) d_IN_stringSize_39 rfl ?_
    rw [show (1 : Int32) + 1 = 2 from by decide]
    refine mm_iload_n (pc' := 17) d_IN_stringSize_16 rfl rfl rfl ?_
    refine mm_bipush (v := 10) (pc' := 19) d_IN_stringSize_17 rfl (by decide) ?_
    refine mm_icmp_ge (pc' := 22) (tgt := 42) d_IN_stringSize_19 rfl rfl (fun q => absurd q (by decide)) (fun _ => ?_)
    refine mm_iload_n (pc' := 23) d_IN_stringSize_22 rfl rfl rfl ?_
    refine mm_iload_n (pc' := 24) d_IN_stringSize_23 rfl rfl rfl ?_
    rw [show (-100 : Int32) = -(nI 100) from by decide]
    refine mm_icmp_le (pc' := 27) (tgt := 31) d_IN_stringSize_24 rfl rfl (fun hc => ?_) (fun hc => ?_)
    · have hge : 100 ≤ n := (ng_le (by omega) (by omega)).mp hc
      refine mm_bipush (v := 10) (pc' := 33) d_IN_stringSize_31 rfl (by decide) ?_
      refine mm_iload_n (pc' := 34) d_IN_stringSize_33 rfl rfl rfl ?_
      refine mm_imul (pc' := 35) d_IN_stringSize_34 rfl ?_
      rw [show (10 : Int32) * (-(nI 100)) = -1000 from by decide]
      refine mm_ist2 (pc' := 36) d_IN_stringSize_35 rfl rfl (Nat.le_of_ble_eq_true rfl) ?_
      refine mm_iinc3 (v := _ + 1) (pc' := 39) d_IN_stringSize_36 rfl rfl rfl (Nat.le_of_ble_eq_true rfl) ?_
      refine mm_goto (tgt := 16) d_IN_stringSize_39 rfl ?_
      rw [show (2 : Int32) + 1 = 3 from by decide]
      refine mm_iload_n (pc' := 17) d_IN_stringSize_16 rfl rfl rfl ?_
      refine mm_bipush (v := 10) (pc' := 19) d_IN_stringSize_17 rfl (by decide) ?_
      refine mm_icmp_ge (pc' := 22) (tgt := 42) d_IN_stringSize_19 rfl rfl (fun q => absurd q (by decide)) (fun _ => ?_)
      refine mm_iload_n (pc' := 23) d_IN_stringSize_22 rfl rfl rfl ?_
      refine mm_iload_n (pc' := 24) d_IN_stringSize_23 rfl rfl rfl ?_
      rw [show (-1000 : Int32) = -(nI 1000) from by decide]
      refine mm_icmp_le (pc' := 27) (tgt := 31) d_IN_stringSize_24 rfl rfl (fun hc => ?_) (fun hc => ?_)
      · have hge : 1000 ≤ n := (ng_le (by omega) (by omega)).mp hc
        refine mm_bipush (v := 10) (pc' := 33) d_IN_stringSize_31 rfl (by decide) ?_
        refine mm_iload_n (pc' := 34) d_IN_stringSize_33 rfl rfl rfl ?_
        refine mm_imul (pc' := 35) d_IN_stringSize_34 rfl ?_
        rw [show (10 : Int32) * (-(nI 1000)) = -10000 from by decide]
        refine mm_ist2 (pc' := 36) d_IN_stringSize_35 rfl rfl (Nat.le_of_ble_eq_true rfl) ?_
        refine mm_iinc3 (v := _ + 1) (pc' := 39) d_IN_stringSize_36 rfl rfl rfl (Nat.le_of_ble_eq_true rfl) ?_
        refine mm_goto (tgt := 16) d_IN_stringSize_39 rfl ?_
        rw [show (3 : Int32) + 1 = 4 from by decide]
        refine mm_iload_n (pc' := 17) d_IN_stringSize_16 rfl rfl rfl ?_
        refine mm_bipush (v := 10) (pc' := 19) d_IN_stringSize_17 rfl (by decide) ?_
        refine mm_icmp_ge (pc' := 22) (tgt := 42) d_IN_stringSize_19 rfl rfl (fun q => absurd q (by decide)) (fun _ => ?_)
        refine mm_iload_n (pc' := 23) d_IN_stringSize_22 rfl rfl rfl ?_
        refine mm_iload_n (pc' := 24) d_IN_stringSize_23 rfl rfl rfl ?_
        rw [show (-10000 : Int32) = -(nI 10000) from by decide]
        refine mm_icmp_le (pc' := 27) (tgt := 31) d_IN_stringSize_24 rfl rfl (fun q => absurd q (fun q => absurd ((ng_le (by omega) (by omega)).mp q) (by omega))) (fun _ => ?_)
        refine mm_iload_n (pc' := 28) d_IN_stringSize_27 rfl rfl rfl ?_
        refine mm_iload_n (pc' := 29) d_IN_stringSize_28 rfl rfl rfl ?_
        refine mm_iadd (pc' := 30) d_IN_stringSize_29 rfl ?_
        exact mm_iret d_IN_stringSize_30 rfl rfl ⟨by rw [dc_4 hge]; rfl, rfl⟩
      · have hlt : n < 1000 := Nat.lt_of_not_le fun q => hc ((ng_le (by omega) (by omega)).mpr q)
        refine mm_iload_n (pc' := 28) d_IN_stringSize_27 rfl rfl rfl ?_
        refine mm_iload_n (pc' := 29) d_IN_stringSize_28 rfl rfl rfl ?_
        refine mm_iadd (pc' := 30) d_IN_stringSize_29 rfl ?_
        exact mm_iret d_IN_stringSize_30 rfl rfl ⟨by rw [dc_3 hge hlt]; rfl, rfl⟩
    · have hlt : n < 100 := Nat.lt_of_not_le fun q => hc ((ng_le (by omega) (by omega)).mpr q)
      refine mm_iload_n (pc' := 28) d_IN_stringSize_27 rfl rfl rfl ?_
      refine mm_iload_n (pc' := 29) d_IN_stringSize_28 rfl rfl rfl ?_
      refine mm_iadd (pc' := 30) d_IN_stringSize_29 rfl ?_
      exact mm_iret d_IN_stringSize_30 rfl rfl ⟨by rw [dc_2 hge hlt]; rfl, rfl⟩
  · have hlt : n < 10 := Nat.lt_of_not_le fun q => hc ((ng_le (by omega) (by omega)).mpr q)
    refine mm_iload_n (pc' := 28) d_IN_stringSize_27 rfl rfl rfl ?_
    refine mm_iload_n (pc' := 29) d_IN_stringSize_28 rfl rfl rfl ?_
    refine mm_iadd (pc' := 30) d_IN_stringSize_29 rfl ?_
    exact mm_iret d_IN_stringSize_30 rfl rfl ⟨by rw [dc_1 hlt]; rfl, rfl⟩
end J7
