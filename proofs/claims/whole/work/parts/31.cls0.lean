theorem d_Q_init_0 : decode prog_8_method_1_code 0 = .ok (.aload_n 0, 1) := by decide +kernel
theorem d_Q_init_1 : decode prog_8_method_1_code 1 = .ok (.invokespecial 1, 3) := by decide +kernel
theorem d_Q_init_4 : decode prog_8_method_1_code 4 = .ok (.aload_n 0, 1) := by decide +kernel
theorem d_Q_init_5 : decode prog_8_method_1_code 5 = .ok (.new 7, 3) := by decide +kernel
theorem d_Q_init_8 : decode prog_8_method_1_code 8 = .ok (.dup, 1) := by decide +kernel
theorem d_Q_init_9 : decode prog_8_method_1_code 9 = .ok (.invokespecial 9, 3) := by decide +kernel
theorem d_Q_init_12 : decode prog_8_method_1_code 12 = .ok (.putfield 10, 3) := by decide +kernel
theorem d_Q_init_15 : decode prog_8_method_1_code 15 = .ok (.return_, 1) := by decide +kernel
def wp_Q_init (a : Nat) (A : ab_H) (kc ks : Nat) (Q : ab_H → Prop) : Prop := (∃ b, (some a) = some b) ∧ (wNew A kc ks 1 4 (fun b1 A kc ks => wj_SB_init A kc ks (some b1)  (fun A kc ks => wp A (some a) 6 0 (va_rf (some b1)) (fun A => Q A))))
set_option maxRecDepth 100000 in
set_option maxHeartbeats 4000000 in
theorem sd_Q_init {l : Launch} {G : mm_G} {h : mm_H} {A : ab_H} {a : Nat} {kc ks : Nat} {Q : ab_H → Prop} (hV : Vw G h A) (hw : wp_Q_init a A kc ks Q) : mm_S l G M_Q_init [.ref a] h kc ks (wQV G Q) := by
  unfold wp_Q_init at hw
  refine mm_start rfl (Nat.le_of_ble_eq_true rfl) ?_
  show mm_V l G M_Q_init kc ks 0 [some (va_rf (some a))] [] h _
  refine wr_aload_n (some a) (pc' := 1) d_Q_init_0 rfl rfl rfl ?_
  obtain ⟨ho, hw⟩ := hw
  refine wr_objInit ho (pc' := 4) d_Q_init_1 rfl oi_Q_1 (Nat.le_of_ble_eq_true rfl) (Nat.le_of_ble_eq_true rfl) ?_
  refine wr_aload_n (some a) (pc' := 5) d_Q_init_4 rfl rfl rfl ?_
  refine wr_new hV hw (pc' := 8) d_Q_init_5 rfl nl_Q_7 rfl (fun b1 h A kc ks hV hw => ?_)
  refine mm_dup (pc' := 9) d_Q_init_8 rfl (wr_cat _) ?_
  refine wr_SB_init hV hw (pc' := 12) d_Q_init_9 rfl cs_Q_9 (Nat.le_of_ble_eq_true rfl) (Nat.le_trans (wr_hR (wr_hR wr_h0)) (Nat.le_of_ble_eq_true rfl)) (fun h A kc ks hV hw => ?_)
  refine wr_put hV hw (pc' := 15) d_Q_init_12 rfl pl_Q_init_10 (Nat.le_of_ble_eq_true rfl) (wn_O _ _) (fun h A hV hw => ?_)
  exact wr_vret hV d_Q_init_15 rfl hw
theorem d_P_init_0 : decode prog_4_method_1_code 0 = .ok (.aload_n 0, 1) := by decide +kernel
theorem d_P_init_1 : decode prog_4_method_1_code 1 = .ok (.invokespecial 1, 3) := by decide +kernel
theorem d_P_init_4 : decode prog_4_method_1_code 4 = .ok (.aload_n 0, 1) := by decide +kernel
theorem d_P_init_5 : decode prog_4_method_1_code 5 = .ok (.aload_n 1, 1) := by decide +kernel
theorem d_P_init_6 : decode prog_4_method_1_code 6 = .ok (.putfield 7, 3) := by decide +kernel
theorem d_P_init_9 : decode prog_4_method_1_code 9 = .ok (.aload_n 0, 1) := by decide +kernel
theorem d_P_init_10 : decode prog_4_method_1_code 10 = .ok (.aload_n 2, 1) := by decide +kernel
theorem d_P_init_11 : decode prog_4_method_1_code 11 = .ok (.putfield 13, 3) := by decide +kernel
theorem d_P_init_14 : decode prog_4_method_1_code 14 = .ok (.return_, 1) := by decide +kernel
def wp_P_init (a : Nat) (p0 : Option Nat) (p1 : Option Nat) (A : ab_H) (Q : ab_H → Prop) : Prop := (∃ b, (some a) = some b) ∧ (wp A (some a) 8 0 (va_rf p0) (fun A => wp A (some a) 8 1 (va_rf p1) (fun A => Q A)))
set_option maxRecDepth 100000 in
set_option maxHeartbeats 4000000 in
theorem sd_P_init {l : Launch} {G : mm_G} {h : mm_H} {A : ab_H} {a : Nat} {p0 : Option Nat} {p1 : Option Nat} {Q : ab_H → Prop} (hV : Vw G h A) (hw : wp_P_init a p0 p1 A Q) : mm_S l G M_P_init [.ref a, va_rf p0, va_rf p1] h 0 0 (wQV G Q) := by
  unfold wp_P_init at hw
  refine mm_start rfl (by simp [mm_as, wr_cat, wr_catI, wr_catJ, wr_catN]) ?_
  rw [show mm_en [.ref a, va_rf p0, va_rf p1] M_P_init.2.2.1 = [some (.ref a), some (va_rf p0), some (va_rf p1)] from by simp [mm_en, mm_as, wr_cat, wr_catI, wr_catJ, wr_catN]]
  show mm_V l G M_P_init 0 0 0 [some (va_rf (some a)), some (va_rf p0), some (va_rf p1)] [] h _
  refine wr_aload_n (some a) (pc' := 1) d_P_init_0 rfl rfl rfl ?_
  obtain ⟨ho, hw⟩ := hw
  refine wr_objInit ho (pc' := 4) d_P_init_1 rfl oi_P_1 (Nat.le_of_ble_eq_true rfl) (Nat.le_of_ble_eq_true rfl) ?_
  refine wr_aload_n (some a) (pc' := 5) d_P_init_4 rfl rfl rfl ?_
  refine wr_aload_n p0 (pc' := 6) d_P_init_5 rfl rfl rfl ?_
  refine wr_put hV hw (pc' := 9) d_P_init_6 rfl pl_P_init_7 (Nat.le_of_ble_eq_true rfl) (wn_O _ _) (fun h A hV hw => ?_)
  refine wr_aload_n (some a) (pc' := 10) d_P_init_9 rfl rfl rfl ?_
  refine wr_aload_n p1 (pc' := 11) d_P_init_10 rfl rfl rfl ?_
  refine wr_put hV hw (pc' := 14) d_P_init_11 rfl pl_P_init_13 (Nat.le_of_ble_eq_true rfl) (wn_O _ _) (fun h A hV hw => ?_)
  exact wr_vret hV d_P_init_14 rfl hw
theorem d_E_init_0 : decode prog_7_method_1_code 0 = .ok (.aload_n 0, 1) := by decide +kernel
theorem d_E_init_1 : decode prog_7_method_1_code 1 = .ok (.invokespecial 1, 3) := by decide +kernel
theorem d_E_init_4 : decode prog_7_method_1_code 4 = .ok (.aload_n 0, 1) := by decide +kernel
theorem d_E_init_5 : decode prog_7_method_1_code 5 = .ok (.new 7, 3) := by decide +kernel
theorem d_E_init_8 : decode prog_7_method_1_code 8 = .ok (.dup, 1) := by decide +kernel
theorem d_E_init_9 : decode prog_7_method_1_code 9 = .ok (.invokespecial 9, 3) := by decide +kernel
theorem d_E_init_12 : decode prog_7_method_1_code 12 = .ok (.putfield 10, 3) := by decide +kernel
theorem d_E_init_15 : decode prog_7_method_1_code 15 = .ok (.aload_n 0, 1) := by decide +kernel
theorem d_E_init_16 : decode prog_7_method_1_code 16 = .ok (.new 7, 3) := by decide +kernel
theorem d_E_init_19 : decode prog_7_method_1_code 19 = .ok (.dup, 1) := by decide +kernel
theorem d_E_init_20 : decode prog_7_method_1_code 20 = .ok (.invokespecial 9, 3) := by decide +kernel
theorem d_E_init_23 : decode prog_7_method_1_code 23 = .ok (.putfield 16, 3) := by decide +kernel
theorem d_E_init_26 : decode prog_7_method_1_code 26 = .ok (.aload_n 0, 1) := by decide +kernel
theorem d_E_init_27 : decode prog_7_method_1_code 27 = .ok (.new 19, 3) := by decide +kernel
theorem d_E_init_30 : decode prog_7_method_1_code 30 = .ok (.dup, 1) := by decide +kernel
theorem d_E_init_31 : decode prog_7_method_1_code 31 = .ok (.ldc 21, 2) := by decide +kernel
theorem d_E_init_33 : decode prog_7_method_1_code 33 = .ok (.ldc 21, 2) := by decide +kernel
theorem d_E_init_35 : decode prog_7_method_1_code 35 = .ok (.invokespecial 23, 3) := by decide +kernel
theorem d_E_init_38 : decode prog_7_method_1_code 38 = .ok (.putfield 26, 3) := by decide +kernel
theorem d_E_init_41 : decode prog_7_method_1_code 41 = .ok (.aload_n 0, 1) := by decide +kernel
theorem d_E_init_42 : decode prog_7_method_1_code 42 = .ok (.aload_n 0, 1) := by decide +kernel
theorem d_E_init_43 : decode prog_7_method_1_code 43 = .ok (.getfield 26, 3) := by decide +kernel
theorem d_E_init_46 : decode prog_7_method_1_code 46 = .ok (.putfield 30, 3) := by decide +kernel
theorem d_E_init_49 : decode prog_7_method_1_code 49 = .ok (.aload_n 0, 1) := by decide +kernel
theorem d_E_init_50 : decode prog_7_method_1_code 50 = .ok (.aload_n 0, 1) := by decide +kernel
theorem d_E_init_51 : decode prog_7_method_1_code 51 = .ok (.getfield 26, 3) := by decide +kernel
theorem d_E_init_54 : decode prog_7_method_1_code 54 = .ok (.putfield 33, 3) := by decide +kernel
theorem d_E_init_57 : decode prog_7_method_1_code 57 = .ok (.aload_n 0, 1) := by decide +kernel
theorem d_E_init_58 : decode prog_7_method_1_code 58 = .ok (.iconst (-1), 1) := by decide +kernel
theorem d_E_init_59 : decode prog_7_method_1_code 59 = .ok (.putfield 36, 3) := by decide +kernel
theorem d_E_init_62 : decode prog_7_method_1_code 62 = .ok (.return_, 1) := by decide +kernel
def wp_E_init (a : Nat) (A : ab_H) (kc ks : Nat) (Q : ab_H → Prop) : Prop := (∃ b, (some a) = some b) ∧ (wNew A kc ks 2 3 (fun b1 A kc ks => wj_AL_init A (some b1)  (fun A => wp A (some a) 7 0 (va_rf (some b1)) (fun A => wNew A kc ks 2 3 (fun b2 A kc ks => wj_AL_init A (some b2)  (fun A => wp A (some a) 7 1 (va_rf (some b2)) (fun A => wNew A kc ks 8 2 (fun b3 A kc ks => wD (some b3) (fun b => wp_P_init b (some 1) (some 1) A (fun A => wp A (some a) 7 2 (va_rf (some b3)) (fun A => wgR A (some a) 7 2 (fun r4 => wp A (some a) 7 3 (va_rf r4) (fun A => wgR A (some a) 7 2 (fun r5 => wp A (some a) 7 4 (va_rf r5) (fun A => wp A (some a) 7 5 (.int ((-1) : Int32)) (fun A => Q A))))))))))))))))
set_option maxRecDepth 100000 in
set_option maxHeartbeats 4000000 in
theorem sd_E_init {l : Launch} {G : mm_G} {h : mm_H} {A : ab_H} {a : Nat} {kc ks : Nat} {Q : ab_H → Prop} (hV : Vw G h A) (hw : wp_E_init a A kc ks Q) : mm_S l G M_E_init [.ref a] h kc ks (wQV G Q) := by
  unfold wp_E_init at hw
  refine mm_start rfl (Nat.le_of_ble_eq_true rfl) ?_
  show mm_V l G M_E_init kc ks 0 [some (va_rf (some a))] [] h _
  refine wr_aload_n (some a) (pc' := 1) d_E_init_0 rfl rfl rfl ?_
  obtain ⟨ho, hw⟩ := hw
  refine wr_objInit ho (pc' := 4) d_E_init_1 rfl oi_E_1 (Nat.le_of_ble_eq_true rfl) (Nat.le_of_ble_eq_true rfl) ?_
  refine wr_aload_n (some a) (pc' := 5) d_E_init_4 rfl rfl rfl ?_
  refine wr_new hV hw (pc' := 8) d_E_init_5 rfl nl_E_7 rfl (fun b1 h A kc ks hV hw => ?_)
  refine mm_dup (pc' := 9) d_E_init_8 rfl (wr_cat _) ?_
  refine wr_AL_init hV hw (pc' := 12) d_E_init_9 rfl cs_E_9 (Nat.le_of_ble_eq_true rfl) (Nat.le_trans (wr_hR (wr_hR wr_h0)) (Nat.le_of_ble_eq_true rfl)) (fun h A hV hw => ?_)
  refine wr_put hV hw (pc' := 15) d_E_init_12 rfl pl_E_init_10 (Nat.le_of_ble_eq_true rfl) (wn_O _ _) (fun h A hV hw => ?_)
  refine wr_aload_n (some a) (pc' := 16) d_E_init_15 rfl rfl rfl ?_
  refine wr_new hV hw (pc' := 19) d_E_init_16 rfl nl_E_7 rfl (fun b2 h A kc ks hV hw => ?_)
  refine mm_dup (pc' := 20) d_E_init_19 rfl (wr_cat _) ?_
  refine wr_AL_init hV hw (pc' := 23) d_E_init_20 rfl cs_E_9 (Nat.le_of_ble_eq_true rfl) (Nat.le_trans (wr_hR (wr_hR wr_h0)) (Nat.le_of_ble_eq_true rfl)) (fun h A hV hw => ?_)
  refine wr_put hV hw (pc' := 26) d_E_init_23 rfl pl_E_init_16 (Nat.le_of_ble_eq_true rfl) (wn_O _ _) (fun h A hV hw => ?_)
  refine wr_aload_n (some a) (pc' := 27) d_E_init_26 rfl rfl rfl ?_
  refine wr_new hV hw (pc' := 30) d_E_init_27 rfl nl_E_19 rfl (fun b3 h A kc ks hV hw => ?_)
  refine mm_dup (pc' := 31) d_E_init_30 rfl (wr_cat _) ?_
  refine wr_ldcS (pc' := 33) d_E_init_31 rfl ld_E_21 ?_
  refine wr_ldcS (pc' := 35) d_E_init_33 rfl ld_E_21 ?_
  refine wr_cI (pc' := 38) (as := [va_rf (some 1), va_rf (some 1)]) (st := [va_rf (some b3), va_rf (some a)]) d_E_init_35 rfl cs_E_23 rfl (W := fun b Q' => wp_P_init b (some 1) (some 1) A Q') hV hw (fun b Q' hw => sd_P_init hV hw) rfl rfl (Nat.le_of_ble_eq_true rfl) (Nat.le_trans (wr_hR (wr_hR wr_h0)) (Nat.le_of_ble_eq_true rfl)) (fun h A hV hw => ?_)
  refine wr_put hV hw (pc' := 41) d_E_init_38 rfl pl_E_init_26 (Nat.le_of_ble_eq_true rfl) (wn_O _ _) (fun h A hV hw => ?_)
  refine wr_aload_n (some a) (pc' := 42) d_E_init_41 rfl rfl rfl ?_
  refine wr_aload_n (some a) (pc' := 43) d_E_init_42 rfl rfl rfl ?_
  refine wr_getR hV hw (pc' := 46) d_E_init_43 rfl fl_E_26 (fun r4 hw => ?_)
  refine wr_put hV hw (pc' := 49) d_E_init_46 rfl pl_E_init_30 (Nat.le_of_ble_eq_true rfl) (wn_O _ _) (fun h A hV hw => ?_)
  refine wr_aload_n (some a) (pc' := 50) d_E_init_49 rfl rfl rfl ?_
  refine wr_aload_n (some a) (pc' := 51) d_E_init_50 rfl rfl rfl ?_
  refine wr_getR hV hw (pc' := 54) d_E_init_51 rfl fl_E_26 (fun r5 hw => ?_)
  refine wr_put hV hw (pc' := 57) d_E_init_54 rfl pl_E_init_33 (Nat.le_of_ble_eq_true rfl) (wn_O _ _) (fun h A hV hw => ?_)
  refine wr_aload_n (some a) (pc' := 58) d_E_init_57 rfl rfl rfl ?_
  refine mm_iconst (v := (-1)) (pc' := 59) d_E_init_58 rfl (by decide) ?_
  refine wr_put hV hw (pc' := 62) d_E_init_59 rfl pl_E_init_36 (Nat.le_of_ble_eq_true rfl) (wn_I _) (fun h A hV hw => ?_)
  exact wr_vret hV d_E_init_62 rfl hw
theorem d_R_init_0 : decode prog_6_method_1_code 0 = .ok (.aload_n 0, 1) := by decide +kernel
theorem d_R_init_1 : decode prog_6_method_1_code 1 = .ok (.invokespecial 1, 3) := by decide +kernel
theorem d_R_init_4 : decode prog_6_method_1_code 4 = .ok (.aload_n 0, 1) := by decide +kernel
theorem d_R_init_5 : decode prog_6_method_1_code 5 = .ok (.new 7, 3) := by decide +kernel
theorem d_R_init_8 : decode prog_6_method_1_code 8 = .ok (.dup, 1) := by decide +kernel
theorem d_R_init_9 : decode prog_6_method_1_code 9 = .ok (.invokespecial 9, 3) := by decide +kernel
theorem d_R_init_12 : decode prog_6_method_1_code 12 = .ok (.putfield 10, 3) := by decide +kernel
theorem d_R_init_15 : decode prog_6_method_1_code 15 = .ok (.aload_n 0, 1) := by decide +kernel
theorem d_R_init_16 : decode prog_6_method_1_code 16 = .ok (.new 7, 3) := by decide +kernel
theorem d_R_init_19 : decode prog_6_method_1_code 19 = .ok (.dup, 1) := by decide +kernel
theorem d_R_init_20 : decode prog_6_method_1_code 20 = .ok (.invokespecial 9, 3) := by decide +kernel
theorem d_R_init_23 : decode prog_6_method_1_code 23 = .ok (.putfield 16, 3) := by decide +kernel
theorem d_R_init_26 : decode prog_6_method_1_code 26 = .ok (.aload_n 0, 1) := by decide +kernel
theorem d_R_init_27 : decode prog_6_method_1_code 27 = .ok (.new 19, 3) := by decide +kernel
theorem d_R_init_30 : decode prog_6_method_1_code 30 = .ok (.dup, 1) := by decide +kernel
theorem d_R_init_31 : decode prog_6_method_1_code 31 = .ok (.invokespecial 21, 3) := by decide +kernel
theorem d_R_init_34 : decode prog_6_method_1_code 34 = .ok (.putfield 22, 3) := by decide +kernel
theorem d_R_init_37 : decode prog_6_method_1_code 37 = .ok (.aload_n 0, 1) := by decide +kernel
theorem d_R_init_38 : decode prog_6_method_1_code 38 = .ok (.new 26, 3) := by decide +kernel
theorem d_R_init_41 : decode prog_6_method_1_code 41 = .ok (.dup, 1) := by decide +kernel
theorem d_R_init_42 : decode prog_6_method_1_code 42 = .ok (.invokespecial 28, 3) := by decide +kernel
theorem d_R_init_45 : decode prog_6_method_1_code 45 = .ok (.putfield 29, 3) := by decide +kernel
theorem d_R_init_48 : decode prog_6_method_1_code 48 = .ok (.aload_n 0, 1) := by decide +kernel
theorem d_R_init_49 : decode prog_6_method_1_code 49 = .ok (.iconst 0, 1) := by decide +kernel
theorem d_R_init_50 : decode prog_6_method_1_code 50 = .ok (.putfield 33, 3) := by decide +kernel
theorem d_R_init_53 : decode prog_6_method_1_code 53 = .ok (.return_, 1) := by decide +kernel
def wp_R_init (a : Nat) (A : ab_H) (kc ks : Nat) (Q : ab_H → Prop) : Prop := (∃ b, (some a) = some b) ∧ (wNew A kc ks 1 4 (fun b1 A kc ks => wj_SB_init A kc ks (some b1)  (fun A kc ks => wp A (some a) 5 0 (va_rf (some b1)) (fun A => wNew A kc ks 1 4 (fun b2 A kc ks => wj_SB_init A kc ks (some b2)  (fun A kc ks => wp A (some a) 5 1 (va_rf (some b2)) (fun A => wNew A kc ks 6 1 (fun b3 A kc ks => wD (some b3) (fun b => wXV kc ks (wp_Q_init b  A) (fun A kc ks => wp A (some a) 5 2 (va_rf (some b3)) (fun A => wNew A kc ks 7 6 (fun b4 A kc ks => wD (some b4) (fun b => wXV kc ks (wp_E_init b  A) (fun A kc ks => wp A (some a) 5 3 (va_rf (some b4)) (fun A => wp A (some a) 5 4 (.int (0 : Int32)) (fun A => Q A))))))))))))))))
set_option maxRecDepth 100000 in
set_option maxHeartbeats 4000000 in
theorem sd_R_init {l : Launch} {G : mm_G} {h : mm_H} {A : ab_H} {a : Nat} {kc ks : Nat} {Q : ab_H → Prop} (hV : Vw G h A) (hw : wp_R_init a A kc ks Q) : mm_S l G M_R_init [.ref a] h kc ks (wQV G Q) := by
  unfold wp_R_init at hw
  refine mm_start rfl (Nat.le_of_ble_eq_true rfl) ?_
  show mm_V l G M_R_init kc ks 0 [some (va_rf (some a))] [] h _
  refine wr_aload_n (some a) (pc' := 1) d_R_init_0 rfl rfl rfl ?_
  obtain ⟨ho, hw⟩ := hw
  refine wr_objInit ho (pc' := 4) d_R_init_1 rfl oi_R_1 (Nat.le_of_ble_eq_true rfl) (Nat.le_of_ble_eq_true rfl) ?_
  refine wr_aload_n (some a) (pc' := 5) d_R_init_4 rfl rfl rfl ?_
  refine wr_new hV hw (pc' := 8) d_R_init_5 rfl nl_R_7 rfl (fun b1 h A kc ks hV hw => ?_)
  refine mm_dup (pc' := 9) d_R_init_8 rfl (wr_cat _) ?_
  refine wr_SB_init hV hw (pc' := 12) d_R_init_9 rfl cs_R_9 (Nat.le_of_ble_eq_true rfl) (Nat.le_trans (wr_hR (wr_hR wr_h0)) (Nat.le_of_ble_eq_true rfl)) (fun h A kc ks hV hw => ?_)
  refine wr_put hV hw (pc' := 15) d_R_init_12 rfl pl_R_init_10 (Nat.le_of_ble_eq_true rfl) (wn_O _ _) (fun h A hV hw => ?_)
  refine wr_aload_n (some a) (pc' := 16) d_R_init_15 rfl rfl rfl ?_
  refine wr_new hV hw (pc' := 19) d_R_init_16 rfl nl_R_7 rfl (fun b2 h A kc ks hV hw => ?_)
  refine mm_dup (pc' := 20) d_R_init_19 rfl (wr_cat _) ?_
  refine wr_SB_init hV hw (pc' := 23) d_R_init_20 rfl cs_R_9 (Nat.le_of_ble_eq_true rfl) (Nat.le_trans (wr_hR (wr_hR wr_h0)) (Nat.le_of_ble_eq_true rfl)) (fun h A kc ks hV hw => ?_)
  refine wr_put hV hw (pc' := 26) d_R_init_23 rfl pl_R_init_16 (Nat.le_of_ble_eq_true rfl) (wn_O _ _) (fun h A hV hw => ?_)
  refine wr_aload_n (some a) (pc' := 27) d_R_init_26 rfl rfl rfl ?_
  refine wr_new hV hw (pc' := 30) d_R_init_27 rfl nl_R_19 rfl (fun b3 h A kc ks hV hw => ?_)
  refine mm_dup (pc' := 31) d_R_init_30 rfl (wr_cat _) ?_
  refine wr_cNx (pc' := 34) (as := []) (st := [va_rf (some b3), va_rf (some a)]) d_R_init_31 rfl cs_R_21 rfl (W := fun b c s Q' => wp_Q_init b  A c s Q') hV hw (fun b c s Q' hw => sd_Q_init hV hw) rfl rfl (Nat.le_of_ble_eq_true rfl) (Nat.le_trans (wr_hR (wr_hR wr_h0)) (Nat.le_of_ble_eq_true rfl)) (fun h A kc ks hV hw => ?_)
  refine wr_put hV hw (pc' := 37) d_R_init_34 rfl pl_R_init_22 (Nat.le_of_ble_eq_true rfl) (wn_O _ _) (fun h A hV hw => ?_)
  refine wr_aload_n (some a) (pc' := 38) d_R_init_37 rfl rfl rfl ?_
  refine wr_new hV hw (pc' := 41) d_R_init_38 rfl nl_R_26 rfl (fun b4 h A kc ks hV hw => ?_)
  refine mm_dup (pc' := 42) d_R_init_41 rfl (wr_cat _) ?_
  refine wr_cNx (pc' := 45) (as := []) (st := [va_rf (some b4), va_rf (some a)]) d_R_init_42 rfl cs_R_28 rfl (W := fun b c s Q' => wp_E_init b  A c s Q') hV hw (fun b c s Q' hw => sd_E_init hV hw) rfl rfl (Nat.le_of_ble_eq_true rfl) (Nat.le_trans (wr_hR (wr_hR wr_h0)) (Nat.le_of_ble_eq_true rfl)) (fun h A kc ks hV hw => ?_)
  refine wr_put hV hw (pc' := 48) d_R_init_45 rfl pl_R_init_29 (Nat.le_of_ble_eq_true rfl) (wn_O _ _) (fun h A hV hw => ?_)
  refine wr_aload_n (some a) (pc' := 49) d_R_init_48 rfl rfl rfl ?_
  refine mm_iconst (v := 0) (pc' := 50) d_R_init_49 rfl (by decide) ?_
  refine wr_put hV hw (pc' := 53) d_R_init_50 rfl pl_R_init_33 (Nat.le_of_ble_eq_true rfl) (wn_I _) (fun h A hV hw => ?_)
  exact wr_vret hV d_R_init_53 rfl hw
theorem d_C_init_0 : decode prog_2_method_1_code 0 = .ok (.aload_n 0, 1) := by decide +kernel
theorem d_C_init_1 : decode prog_2_method_1_code 1 = .ok (.invokespecial 1, 3) := by decide +kernel
theorem d_C_init_4 : decode prog_2_method_1_code 4 = .ok (.aload_n 0, 1) := by decide +kernel
theorem d_C_init_5 : decode prog_2_method_1_code 5 = .ok (.new 7, 3) := by decide +kernel
theorem d_C_init_8 : decode prog_2_method_1_code 8 = .ok (.dup, 1) := by decide +kernel
theorem d_C_init_9 : decode prog_2_method_1_code 9 = .ok (.invokespecial 9, 3) := by decide +kernel
theorem d_C_init_12 : decode prog_2_method_1_code 12 = .ok (.putfield 10, 3) := by decide +kernel
theorem d_C_init_15 : decode prog_2_method_1_code 15 = .ok (.aload_n 0, 1) := by decide +kernel
theorem d_C_init_16 : decode prog_2_method_1_code 16 = .ok (.new 16, 3) := by decide +kernel
theorem d_C_init_19 : decode prog_2_method_1_code 19 = .ok (.dup, 1) := by decide +kernel
theorem d_C_init_20 : decode prog_2_method_1_code 20 = .ok (.invokespecial 18, 3) := by decide +kernel
theorem d_C_init_23 : decode prog_2_method_1_code 23 = .ok (.putfield 19, 3) := by decide +kernel
theorem d_C_init_26 : decode prog_2_method_1_code 26 = .ok (.aload_n 0, 1) := by decide +kernel
theorem d_C_init_27 : decode prog_2_method_1_code 27 = .ok (.iconst 1, 1) := by decide +kernel
theorem d_C_init_28 : decode prog_2_method_1_code 28 = .ok (.putfield 23, 3) := by decide +kernel
theorem d_C_init_31 : decode prog_2_method_1_code 31 = .ok (.return_, 1) := by decide +kernel
def wp_C_init (a : Nat) (A : ab_H) (kc ks : Nat) (Q : ab_H → Prop) : Prop := (∃ b, (some a) = some b) ∧ (wNew A kc ks 5 11 (fun b1 A kc ks => wD (some b1) (fun b => wXV kc ks (wp_R_init b  A) (fun A kc ks => wp A (some a) 4 0 (va_rf (some b1)) (fun A => wNew A kc ks 1 4 (fun b2 A kc ks => wj_SB_init A kc ks (some b2)  (fun A kc ks => wp A (some a) 4 1 (va_rf (some b2)) (fun A => wp A (some a) 4 2 (.int (1 : Int32)) (fun A => Q A)))))))))
set_option maxRecDepth 100000 in
set_option maxHeartbeats 4000000 in
theorem sd_C_init {l : Launch} {G : mm_G} {h : mm_H} {A : ab_H} {a : Nat} {kc ks : Nat} {Q : ab_H → Prop} (hV : Vw G h A) (hw : wp_C_init a A kc ks Q) : mm_S l G M_C_init [.ref a] h kc ks (wQV G Q) := by
  unfold wp_C_init at hw
  refine mm_start rfl (Nat.le_of_ble_eq_true rfl) ?_
  show mm_V l G M_C_init kc ks 0 [some (va_rf (some a))] [] h _
  refine wr_aload_n (some a) (pc' := 1) d_C_init_0 rfl rfl rfl ?_
  obtain ⟨ho, hw⟩ := hw
  refine wr_objInit ho (pc' := 4) d_C_init_1 rfl oi_C_1 (Nat.le_of_ble_eq_true rfl) (Nat.le_of_ble_eq_true rfl) ?_
  refine wr_aload_n (some a) (pc' := 5) d_C_init_4 rfl rfl rfl ?_
  refine wr_new hV hw (pc' := 8) d_C_init_5 rfl nl_C_7 rfl (fun b1 h A kc ks hV hw => ?_)
  refine mm_dup (pc' := 9) d_C_init_8 rfl (wr_cat _) ?_
  refine wr_cNx (pc' := 12) (as := []) (st := [va_rf (some b1), va_rf (some a)]) d_C_init_9 rfl cs_C_9 rfl (W := fun b c s Q' => wp_R_init b  A c s Q') hV hw (fun b c s Q' hw => sd_R_init hV hw) rfl rfl (Nat.le_of_ble_eq_true rfl) (Nat.le_trans (wr_hR (wr_hR wr_h0)) (Nat.le_of_ble_eq_true rfl)) (fun h A kc ks hV hw => ?_)
  refine wr_put hV hw (pc' := 15) d_C_init_12 rfl pl_C_init_10 (Nat.le_of_ble_eq_true rfl) (wn_O _ _) (fun h A hV hw => ?_)
  refine wr_aload_n (some a) (pc' := 16) d_C_init_15 rfl rfl rfl ?_
  refine wr_new hV hw (pc' := 19) d_C_init_16 rfl nl_C_16 rfl (fun b2 h A kc ks hV hw => ?_)
  refine mm_dup (pc' := 20) d_C_init_19 rfl (wr_cat _) ?_
  refine wr_SB_init hV hw (pc' := 23) d_C_init_20 rfl cs_C_18 (Nat.le_of_ble_eq_true rfl) (Nat.le_trans (wr_hR (wr_hR wr_h0)) (Nat.le_of_ble_eq_true rfl)) (fun h A kc ks hV hw => ?_)
  refine wr_put hV hw (pc' := 26) d_C_init_23 rfl pl_C_init_19 (Nat.le_of_ble_eq_true rfl) (wn_O _ _) (fun h A hV hw => ?_)
  refine wr_aload_n (some a) (pc' := 27) d_C_init_26 rfl rfl rfl ?_
  refine mm_iconst (v := 1) (pc' := 28) d_C_init_27 rfl (by decide) ?_
  refine wr_put hV hw (pc' := 31) d_C_init_28 rfl pl_C_init_23 (Nat.le_of_ble_eq_true rfl) (fun _ => ⟨rfl, rfl⟩) (fun h A hV hw => ?_)
  exact wr_vret hV d_C_init_31 rfl hw
theorem d_S_init_0 : decode prog_1_method_1_code 0 = .ok (.aload_n 0, 1) := by decide +kernel
theorem d_S_init_1 : decode prog_1_method_1_code 1 = .ok (.invokespecial 1, 3) := by decide +kernel
theorem d_S_init_4 : decode prog_1_method_1_code 4 = .ok (.aload_n 0, 1) := by decide +kernel
theorem d_S_init_5 : decode prog_1_method_1_code 5 = .ok (.iconst 3, 1) := by decide +kernel
theorem d_S_init_6 : decode prog_1_method_1_code 6 = .ok (.anewarray 9, 3) := by decide +kernel
theorem d_S_init_9 : decode prog_1_method_1_code 9 = .ok (.putfield 11, 3) := by decide +kernel
theorem d_S_init_12 : decode prog_1_method_1_code 12 = .ok (.iconst 0, 1) := by decide +kernel
theorem d_S_init_13 : decode prog_1_method_1_code 13 = .ok (.istore_n 1, 1) := by decide +kernel
theorem d_S_init_14 : decode prog_1_method_1_code 14 = .ok (.iload_n 1, 1) := by decide +kernel
theorem d_S_init_15 : decode prog_1_method_1_code 15 = .ok (.iconst 3, 1) := by decide +kernel
theorem d_S_init_16 : decode prog_1_method_1_code 16 = .ok (.if_icmp .ge 22, 3) := by decide +kernel
theorem d_S_init_19 : decode prog_1_method_1_code 19 = .ok (.aload_n 0, 1) := by decide +kernel
theorem d_S_init_20 : decode prog_1_method_1_code 20 = .ok (.getfield 11, 3) := by decide +kernel
theorem d_S_init_23 : decode prog_1_method_1_code 23 = .ok (.iload_n 1, 1) := by decide +kernel
theorem d_S_init_24 : decode prog_1_method_1_code 24 = .ok (.new 9, 3) := by decide +kernel
theorem d_S_init_27 : decode prog_1_method_1_code 27 = .ok (.dup, 1) := by decide +kernel
theorem d_S_init_28 : decode prog_1_method_1_code 28 = .ok (.invokespecial 15, 3) := by decide +kernel
theorem d_S_init_31 : decode prog_1_method_1_code 31 = .ok (.aastore, 1) := by decide +kernel
theorem d_S_init_32 : decode prog_1_method_1_code 32 = .ok (.iinc 1 1, 3) := by decide +kernel
theorem d_S_init_35 : decode prog_1_method_1_code 35 = .ok (.goto (-21), 3) := by decide +kernel
theorem d_S_init_38 : decode prog_1_method_1_code 38 = .ok (.aload_n 0, 1) := by decide +kernel
theorem d_S_init_39 : decode prog_1_method_1_code 39 = .ok (.iconst 3, 1) := by decide +kernel
theorem d_S_init_40 : decode prog_1_method_1_code 40 = .ok (.newarray .int, 2) := by decide +kernel
theorem d_S_init_42 : decode prog_1_method_1_code 42 = .ok (.putfield 16, 3) := by decide +kernel
theorem d_S_init_45 : decode prog_1_method_1_code 45 = .ok (.aload_n 0, 1) := by decide +kernel
theorem d_S_init_46 : decode prog_1_method_1_code 46 = .ok (.new 20, 3) := by decide +kernel
theorem d_S_init_49 : decode prog_1_method_1_code 49 = .ok (.dup, 1) := by decide +kernel
theorem d_S_init_50 : decode prog_1_method_1_code 50 = .ok (.invokespecial 22, 3) := by decide +kernel
theorem d_S_init_53 : decode prog_1_method_1_code 53 = .ok (.putfield 23, 3) := by decide +kernel
theorem d_S_init_56 : decode prog_1_method_1_code 56 = .ok (.aload_n 0, 1) := by decide +kernel
theorem d_S_init_57 : decode prog_1_method_1_code 57 = .ok (.new 27, 3) := by decide +kernel
theorem d_S_init_60 : decode prog_1_method_1_code 60 = .ok (.dup, 1) := by decide +kernel
theorem d_S_init_61 : decode prog_1_method_1_code 61 = .ok (.invokespecial 29, 3) := by decide +kernel
theorem d_S_init_64 : decode prog_1_method_1_code 64 = .ok (.putfield 30, 3) := by decide +kernel
theorem d_S_init_67 : decode prog_1_method_1_code 67 = .ok (.aload_n 0, 1) := by decide +kernel
theorem d_S_init_68 : decode prog_1_method_1_code 68 = .ok (.new 27, 3) := by decide +kernel
theorem d_S_init_71 : decode prog_1_method_1_code 71 = .ok (.dup, 1) := by decide +kernel
theorem d_S_init_72 : decode prog_1_method_1_code 72 = .ok (.invokespecial 29, 3) := by decide +kernel
theorem d_S_init_75 : decode prog_1_method_1_code 75 = .ok (.putfield 34, 3) := by decide +kernel
theorem d_S_init_78 : decode prog_1_method_1_code 78 = .ok (.aload_n 0, 1) := by decide +kernel
theorem d_S_init_79 : decode prog_1_method_1_code 79 = .ok (.new 27, 3) := by decide +kernel
theorem d_S_init_82 : decode prog_1_method_1_code 82 = .ok (.dup, 1) := by decide +kernel
theorem d_S_init_83 : decode prog_1_method_1_code 83 = .ok (.invokespecial 29, 3) := by decide +kernel
theorem d_S_init_86 : decode prog_1_method_1_code 86 = .ok (.putfield 37, 3) := by decide +kernel
theorem d_S_init_89 : decode prog_1_method_1_code 89 = .ok (.return_, 1) := by decide +kernel
def wq_S_init_38 (a : Nat) (Q : ab_H → Prop)   (A : ab_H) (kc ks : Nat) : Prop := wNA A kc ks 0 (3 : Int32) (fun b1 A kc ks => wp A (some a) 3 1 (va_rf (some b1)) (fun A => wNew A kc ks 1 4 (fun b2 A kc ks => wj_SB_init A kc ks (some b2)  (fun A kc ks => wp A (some a) 3 2 (va_rf (some b2)) (fun A => wNew A kc ks 2 3 (fun b3 A kc ks => wj_AL_init A (some b3)  (fun A => wp A (some a) 3 3 (va_rf (some b3)) (fun A => wNew A kc ks 2 3 (fun b4 A kc ks => wj_AL_init A (some b4)  (fun A => wp A (some a) 3 4 (va_rf (some b4)) (fun A => wNew A kc ks 2 3 (fun b5 A kc ks => wj_AL_init A (some b5)  (fun A => wp A (some a) 3 5 (va_rf (some b5)) (fun A => Q A))))))))))))))
set_option maxRecDepth 100000 in
set_option maxHeartbeats 4000000 in
theorem sq_S_init_38 {l : Launch} {G : mm_G} {a : Nat} {Q : ab_H → Prop}   : ∀ (A : ab_H) (kc ks : Nat) (h : mm_H), Vw G h A → wq_S_init_38 a Q  A kc ks → mm_V l G M_S_init kc ks 38 [some (va_rf (some a)), none] [] h (wQV G Q) := by
  intro A kc ks h hV hw
  unfold wq_S_init_38 at hw
  refine wr_aload_n (some a) (pc' := 39) d_S_init_38 rfl rfl rfl ?_
  refine mm_iconst (v := 3) (pc' := 40) d_S_init_39 rfl (by decide) ?_
  refine wr_newarrI hV hw (pc' := 42) d_S_init_40 rfl ar_int (fun b1 h A kc ks hV hw => ?_)
  refine wr_put hV hw (pc' := 45) d_S_init_42 rfl pl_S_init_16 (Nat.le_of_ble_eq_true rfl) (wn_A _ _) (fun h A hV hw => ?_)
  refine wr_aload_n (some a) (pc' := 46) d_S_init_45 rfl rfl rfl ?_
  refine wr_new hV hw (pc' := 49) d_S_init_46 rfl nl_S_20 rfl (fun b2 h A kc ks hV hw => ?_)
  refine mm_dup (pc' := 50) d_S_init_49 rfl (wr_cat _) ?_
  refine wr_SB_init hV hw (pc' := 53) d_S_init_50 rfl cs_S_22 (Nat.le_of_ble_eq_true rfl) (Nat.le_trans (wr_hR (wr_hR wr_h0)) (Nat.le_of_ble_eq_true rfl)) (fun h A kc ks hV hw => ?_)
  refine wr_put hV hw (pc' := 56) d_S_init_53 rfl pl_S_init_23 (Nat.le_of_ble_eq_true rfl) (wn_O _ _) (fun h A hV hw => ?_)
  refine wr_aload_n (some a) (pc' := 57) d_S_init_56 rfl rfl rfl ?_
  refine wr_new hV hw (pc' := 60) d_S_init_57 rfl nl_S_27 rfl (fun b3 h A kc ks hV hw => ?_)
  refine mm_dup (pc' := 61) d_S_init_60 rfl (wr_cat _) ?_
  refine wr_AL_init hV hw (pc' := 64) d_S_init_61 rfl cs_S_29 (Nat.le_of_ble_eq_true rfl) (Nat.le_trans (wr_hR (wr_hR wr_h0)) (Nat.le_of_ble_eq_true rfl)) (fun h A hV hw => ?_)
  refine wr_put hV hw (pc' := 67) d_S_init_64 rfl pl_S_init_30 (Nat.le_of_ble_eq_true rfl) (wn_O _ _) (fun h A hV hw => ?_)
  refine wr_aload_n (some a) (pc' := 68) d_S_init_67 rfl rfl rfl ?_
  refine wr_new hV hw (pc' := 71) d_S_init_68 rfl nl_S_27 rfl (fun b4 h A kc ks hV hw => ?_)
  refine mm_dup (pc' := 72) d_S_init_71 rfl (wr_cat _) ?_
  refine wr_AL_init hV hw (pc' := 75) d_S_init_72 rfl cs_S_29 (Nat.le_of_ble_eq_true rfl) (Nat.le_trans (wr_hR (wr_hR wr_h0)) (Nat.le_of_ble_eq_true rfl)) (fun h A hV hw => ?_)
  refine wr_put hV hw (pc' := 78) d_S_init_75 rfl pl_S_init_34 (Nat.le_of_ble_eq_true rfl) (wn_O _ _) (fun h A hV hw => ?_)
  refine wr_aload_n (some a) (pc' := 79) d_S_init_78 rfl rfl rfl ?_
  refine wr_new hV hw (pc' := 82) d_S_init_79 rfl nl_S_27 rfl (fun b5 h A kc ks hV hw => ?_)
  refine mm_dup (pc' := 83) d_S_init_82 rfl (wr_cat _) ?_
  refine wr_AL_init hV hw (pc' := 86) d_S_init_83 rfl cs_S_29 (Nat.le_of_ble_eq_true rfl) (Nat.le_trans (wr_hR (wr_hR wr_h0)) (Nat.le_of_ble_eq_true rfl)) (fun h A hV hw => ?_)
  refine wr_put hV hw (pc' := 89) d_S_init_86 rfl pl_S_init_37 (Nat.le_of_ble_eq_true rfl) (wn_O _ _) (fun h A hV hw => ?_)
  exact wr_vret hV d_S_init_89 rfl hw
def wb_S_init_14 (a : Nat) (Q : ab_H → Prop)  (k14 : Int32 → ab_H → Nat → Nat → Prop) (u1 : Int32) (A : ab_H) (kc ks : Nat) : Prop := if (3 : Int32) ≤ u1 then (wq_S_init_38 a Q A kc ks) else (wgR A (some a) 3 0 (fun r6 => wNew A kc ks 4 3 (fun b7 A kc ks => wD (some b7) (fun b => wXV kc ks (wp_C_init b  A) (fun A kc ks => wSO A r6 u1 (some b7) (fun A => k14 (u1 + 1) A kc ks))))))
def wq_S_init_14 (a : Nat) (Q : ab_H → Prop)  : Nat → Int32 → ab_H → Nat → Nat → Prop
  | 0 => fun _ _ _ _ => False
  | n + 1 => wb_S_init_14 a Q  (wq_S_init_14 a Q  n)
set_option maxRecDepth 100000 in
set_option maxHeartbeats 4000000 in
theorem sq_S_init_14 {l : Launch} {G : mm_G} {a : Nat} {Q : ab_H → Prop}   : ∀ (n : Nat) (u1 : Int32) (A : ab_H) (kc ks : Nat) (h : mm_H), Vw G h A → wq_S_init_14 a Q  n u1 A kc ks → mm_V l G M_S_init kc ks 14 [some (va_rf (some a)), some (.int u1)] [] h (wQV G Q) := by
  intro n
  induction n with
  | zero =>
    intro u1 A kc ks h hV hw
    exact absurd hw id
  | succ n hk14 =>
    intro u1 A kc ks h hV hw
    have hw : wb_S_init_14 a Q  (wq_S_init_14 a Q  n) u1 A kc ks := hw
    unfold wb_S_init_14 at hw
    refine mm_iload_n (pc' := 15) d_S_init_14 rfl rfl rfl ?_
    refine mm_iconst (v := 3) (pc' := 16) d_S_init_15 rfl (by decide) ?_
    refine wr_icmp_ge hw (pc' := 19) d_S_init_16 rfl rfl (fun hw => ?_) (fun hw => ?_)
    · exact mm_drop (mm_le.s (mm_le.n mm_le.e)) (sq_S_init_38  _ _ _ _ hV hw)
    · refine wr_aload_n (some a) (pc' := 20) d_S_init_19 rfl rfl rfl ?_
      refine wr_getR hV hw (pc' := 23) d_S_init_20 rfl fl_S_11 (fun r6 hw => ?_)
      refine mm_iload_n (pc' := 24) d_S_init_23 rfl rfl rfl ?_
      refine wr_new hV hw (pc' := 27) d_S_init_24 rfl nl_S_9 rfl (fun b7 h A kc ks hV hw => ?_)
      refine mm_dup (pc' := 28) d_S_init_27 rfl (wr_cat _) ?_
      refine wr_cNx (pc' := 31) (as := []) (st := [va_rf (some b7), .int u1, va_rf r6]) d_S_init_28 rfl cs_S_15 rfl (W := fun b c s Q' => wp_C_init b  A c s Q') hV hw (fun b c s Q' hw => sd_C_init hV hw) rfl rfl (Nat.le_of_ble_eq_true rfl) (Nat.le_trans (wr_hR (wr_hI (wr_hR wr_h0))) (Nat.le_of_ble_eq_true rfl)) (fun h A kc ks hV hw => ?_)
      refine wr_astO hV hw (pc' := 32) d_S_init_31 rfl (fun h A hV hw => ?_)
      refine mm_iinc1 (v := (u1 + 1)) (pc' := 35) d_S_init_32 rfl (wr_2 _) rfl (Nat.le_of_ble_eq_true rfl) ?_
      refine mm_goto (tgt := 14) d_S_init_35 rfl ?_
      exact mm_drop (mm_le.s (mm_le.s mm_le.e)) (hk14 _ _ _ _ _ hV hw)
def wp_S_init (a : Nat) (A : ab_H) (kc ks : Nat) (Q : ab_H → Prop) : Prop := (∃ b, (some a) = some b) ∧ (wNO A kc ks (3 : Int32) (fun b8 A kc ks => wp A (some a) 3 0 (va_rf (some b8)) (fun A => ∃ n, wq_S_init_14 a Q n (0 : Int32) A kc ks)))
set_option maxRecDepth 100000 in
set_option maxHeartbeats 4000000 in
theorem sd_S_init {l : Launch} {G : mm_G} {h : mm_H} {A : ab_H} {a : Nat} {kc ks : Nat} {Q : ab_H → Prop} (hV : Vw G h A) (hw : wp_S_init a A kc ks Q) : mm_S l G M_S_init [.ref a] h kc ks (wQV G Q) := by
  unfold wp_S_init at hw
  refine mm_start rfl (Nat.le_of_ble_eq_true rfl) ?_
  show mm_V l G M_S_init kc ks 0 [some (va_rf (some a)), none] [] h _
  refine wr_aload_n (some a) (pc' := 1) d_S_init_0 rfl rfl rfl ?_
  obtain ⟨ho, hw⟩ := hw
  refine wr_objInit ho (pc' := 4) d_S_init_1 rfl oi_S_1 (Nat.le_of_ble_eq_true rfl) (Nat.le_of_ble_eq_true rfl) ?_
  refine wr_aload_n (some a) (pc' := 5) d_S_init_4 rfl rfl rfl ?_
  refine mm_iconst (v := 3) (pc' := 6) d_S_init_5 rfl (by decide) ?_
  refine wr_anewarr hV hw (pc' := 9) d_S_init_6 rfl cl_S_9 (fun b8 h A kc ks hV hw => ?_)
  refine wr_put hV hw (pc' := 12) d_S_init_9 rfl pl_S_init_11 (Nat.le_of_ble_eq_true rfl) (wn_A _ _) (fun h A hV hw => ?_)
  refine mm_iconst (v := 0) (pc' := 13) d_S_init_12 rfl (by decide) ?_
  refine mm_ist1 (pc' := 14) d_S_init_13 rfl (wr_2 _) (Nat.le_of_ble_eq_true rfl) ?_
  obtain ⟨n, hw⟩ := hw
  exact mm_drop (mm_le.s (mm_le.s mm_le.e)) (sq_S_init_14  n _ _ _ _ _ hV hw)
theorem d_S_isConnection_0 : decode prog_1_method_19_code 0 = .ok (.iload_n 0, 1) := by decide +kernel
theorem d_S_isConnection_1 : decode prog_1_method_19_code 1 = .ok (.ifCond .lt 12, 3) := by decide +kernel
theorem d_S_isConnection_4 : decode prog_1_method_19_code 4 = .ok (.iload_n 0, 1) := by decide +kernel
theorem d_S_isConnection_5 : decode prog_1_method_19_code 5 = .ok (.iconst 3, 1) := by decide +kernel
theorem d_S_isConnection_6 : decode prog_1_method_19_code 6 = .ok (.if_icmp .ge 7, 3) := by decide +kernel
theorem d_S_isConnection_9 : decode prog_1_method_19_code 9 = .ok (.iconst 1, 1) := by decide +kernel
theorem d_S_isConnection_10 : decode prog_1_method_19_code 10 = .ok (.goto 4, 3) := by decide +kernel
theorem d_S_isConnection_13 : decode prog_1_method_19_code 13 = .ok (.iconst 0, 1) := by decide +kernel
theorem d_S_isConnection_14 : decode prog_1_method_19_code 14 = .ok (.ireturn, 1) := by decide +kernel
def wp_S_isConnection (p0 : Int32) (A : ab_H) (Q : Int32 → ab_H → Prop) : Prop := if p0 < 0 then (Q (0 : Int32) A) else (if (3 : Int32) ≤ p0 then (Q (0 : Int32) A) else (Q (1 : Int32) A))
set_option maxRecDepth 100000 in
set_option maxHeartbeats 4000000 in
theorem sd_S_isConnection {l : Launch} {G : mm_G} {h : mm_H} {A : ab_H} {p0 : Int32} {Q : Int32 → ab_H → Prop} (hV : Vw G h A) (hw : wp_S_isConnection p0 A Q) : mm_S l G M_S_isConnection [.int p0] h 0 0 (wQI G Q) := by
  unfold wp_S_isConnection at hw
  refine mm_start rfl (Nat.le_of_ble_eq_true rfl) ?_
  show mm_V l G M_S_isConnection 0 0 0 [some (.int p0)] [] h _
  refine mm_iload_n (pc' := 1) d_S_isConnection_0 rfl rfl rfl ?_
  refine wr_if_lt hw (pc' := 4) d_S_isConnection_1 rfl rfl (fun hw => ?_) (fun hw => ?_)
  · refine mm_iconst (v := 0) (pc' := 14) d_S_isConnection_13 rfl (by decide) ?_
    exact wr_iret hV d_S_isConnection_14 rfl rfl hw
  · refine mm_iload_n (pc' := 5) d_S_isConnection_4 rfl rfl rfl ?_
    refine mm_iconst (v := 3) (pc' := 6) d_S_isConnection_5 rfl (by decide) ?_
    refine wr_icmp_ge hw (pc' := 9) d_S_isConnection_6 rfl rfl (fun hw => ?_) (fun hw => ?_)
    · refine mm_iconst (v := 0) (pc' := 14) d_S_isConnection_13 rfl (by decide) ?_
      exact wr_iret hV d_S_isConnection_14 rfl rfl hw
    · refine mm_iconst (v := 1) (pc' := 10) d_S_isConnection_9 rfl (by decide) ?_
      refine mm_goto (tgt := 14) d_S_isConnection_10 rfl ?_
      exact wr_iret hV d_S_isConnection_14 rfl rfl hw
theorem d_S_isOpen_0 : decode prog_1_method_4_code 0 = .ok (.iload_n 1, 1) := by decide +kernel
theorem d_S_isOpen_1 : decode prog_1_method_4_code 1 = .ok (.invokestatic 70, 3) := by decide +kernel
theorem d_S_isOpen_4 : decode prog_1_method_4_code 4 = .ok (.ifCond .eq 19, 3) := by decide +kernel
theorem d_S_isOpen_7 : decode prog_1_method_4_code 7 = .ok (.aload_n 0, 1) := by decide +kernel
theorem d_S_isOpen_8 : decode prog_1_method_4_code 8 = .ok (.getfield 11, 3) := by decide +kernel
theorem d_S_isOpen_11 : decode prog_1_method_4_code 11 = .ok (.iload_n 1, 1) := by decide +kernel
theorem d_S_isOpen_12 : decode prog_1_method_4_code 12 = .ok (.aaload, 1) := by decide +kernel
theorem d_S_isOpen_13 : decode prog_1_method_4_code 13 = .ok (.getfield 66, 3) := by decide +kernel
theorem d_S_isOpen_16 : decode prog_1_method_4_code 16 = .ok (.ifCond .eq 7, 3) := by decide +kernel
theorem d_S_isOpen_19 : decode prog_1_method_4_code 19 = .ok (.iconst 1, 1) := by decide +kernel
theorem d_S_isOpen_20 : decode prog_1_method_4_code 20 = .ok (.goto 4, 3) := by decide +kernel
theorem d_S_isOpen_23 : decode prog_1_method_4_code 23 = .ok (.iconst 0, 1) := by decide +kernel
theorem d_S_isOpen_24 : decode prog_1_method_4_code 24 = .ok (.ireturn, 1) := by decide +kernel
def wp_S_isOpen (a : Nat) (p0 : Int32) (A : ab_H) (Q : Int32 → ab_H → Prop) : Prop := wp_S_isConnection p0 A (fun x1 A => if x1 = 0 then (Q (0 : Int32) A) else (wgR A (some a) 3 0 (fun r2 => wAO A r2 p0 (fun r3 => wgI A r3 4 2 (fun x4 => if x4 = 0 then (Q (0 : Int32) A) else (Q (1 : Int32) A))))))
set_option maxRecDepth 100000 in
set_option maxHeartbeats 4000000 in
theorem sd_S_isOpen {l : Launch} {G : mm_G} {h : mm_H} {A : ab_H} {a : Nat} {p0 : Int32} {Q : Int32 → ab_H → Prop} (hV : Vw G h A) (hw : wp_S_isOpen a p0 A Q) : mm_S l G M_S_isOpen [.ref a, .int p0] h 0 0 (wQI G Q) := by
  unfold wp_S_isOpen at hw
  refine mm_start rfl (Nat.le_of_ble_eq_true rfl) ?_
  show mm_V l G M_S_isOpen 0 0 0 [some (va_rf (some a)), some (.int p0)] [] h _
  refine mm_iload_n (pc' := 1) d_S_isOpen_0 rfl rfl rfl ?_
  refine wr_cSI (pc' := 4) (as := [.int p0]) (st := []) d_S_isOpen_1 rfl cs_S_70 (sd_S_isConnection hV hw) rfl rfl (Nat.le_of_ble_eq_true rfl) (Nat.le_of_ble_eq_true rfl) (fun x1 h A hV hw => ?_)
  refine wr_if_eq hw (pc' := 7) d_S_isOpen_4 rfl rfl (fun hw => ?_) (fun hw => ?_)
  · refine mm_iconst (v := 0) (pc' := 24) d_S_isOpen_23 rfl (by decide) ?_
    exact wr_iret hV d_S_isOpen_24 rfl rfl hw
  · refine wr_aload_n (some a) (pc' := 8) d_S_isOpen_7 rfl rfl rfl ?_
    refine wr_getR hV hw (pc' := 11) d_S_isOpen_8 rfl fl_S_11 (fun r2 hw => ?_)
    refine mm_iload_n (pc' := 12) d_S_isOpen_11 rfl rfl rfl ?_
    refine wr_aldO hV hw (pc' := 13) d_S_isOpen_12 rfl (fun r3 hw => ?_)
    refine wr_getI hV hw (pc' := 16) d_S_isOpen_13 rfl fl_S_66 (fun x4 hw => ?_)
    refine wr_if_eq hw (pc' := 19) d_S_isOpen_16 rfl rfl (fun hw => ?_) (fun hw => ?_)
    · refine mm_iconst (v := 0) (pc' := 24) d_S_isOpen_23 rfl (by decide) ?_
      exact wr_iret hV d_S_isOpen_24 rfl rfl hw
    · refine mm_iconst (v := 1) (pc' := 20) d_S_isOpen_19 rfl (by decide) ?_
      refine mm_goto (tgt := 24) d_S_isOpen_20 rfl ?_
      exact wr_iret hV d_S_isOpen_24 rfl rfl hw
theorem d_S_byteOf_0 : decode prog_1_method_23_code 0 = .ok (.iload_n 0, 1) := by decide +kernel
theorem d_S_byteOf_1 : decode prog_1_method_23_code 1 = .ok (.bipush 8, 2) := by decide +kernel
theorem d_S_byteOf_3 : decode prog_1_method_23_code 3 = .ok (.iload_n 1, 1) := by decide +kernel
theorem d_S_byteOf_4 : decode prog_1_method_23_code 4 = .ok (.imul, 1) := by decide +kernel
theorem d_S_byteOf_5 : decode prog_1_method_23_code 5 = .ok (.iushr, 1) := by decide +kernel
theorem d_S_byteOf_6 : decode prog_1_method_23_code 6 = .ok (.sipush 255, 3) := by decide +kernel
theorem d_S_byteOf_9 : decode prog_1_method_23_code 9 = .ok (.iand, 1) := by decide +kernel
theorem d_S_byteOf_10 : decode prog_1_method_23_code 10 = .ok (.ireturn, 1) := by decide +kernel
def wp_S_byteOf (p0 : Int32) (p1 : Int32) (A : ab_H) (Q : Int32 → ab_H → Prop) : Prop := Q ((wu p0 ((8 : Int32) * p1)) &&& (255 : Int32)) A
set_option maxRecDepth 100000 in
set_option maxHeartbeats 4000000 in
theorem sd_S_byteOf {l : Launch} {G : mm_G} {h : mm_H} {A : ab_H} {p0 : Int32} {p1 : Int32} {Q : Int32 → ab_H → Prop} (hV : Vw G h A) (hw : wp_S_byteOf p0 p1 A Q) : mm_S l G M_S_byteOf [.int p0, .int p1] h 0 0 (wQI G Q) := by
  unfold wp_S_byteOf at hw
  refine mm_start rfl (Nat.le_of_ble_eq_true rfl) ?_
  show mm_V l G M_S_byteOf 0 0 0 [some (.int p0), some (.int p1)] [] h _
  refine mm_iload_n (pc' := 1) d_S_byteOf_0 rfl rfl rfl ?_
  refine mm_bipush (v := 8) (pc' := 3) d_S_byteOf_1 rfl (by decide) ?_
  refine mm_iload_n (pc' := 4) d_S_byteOf_3 rfl rfl rfl ?_
  refine mm_imul (pc' := 5) d_S_byteOf_4 rfl ?_
  refine mm_iushr (v := wu p0 ((8 : Int32) * p1)) (pc' := 6) d_S_byteOf_5 rfl rfl ?_
  refine mm_sipush (v := 255) (pc' := 9) d_S_byteOf_6 rfl (by decide) ?_
  refine mm_iand (pc' := 10) d_S_byteOf_9 rfl ?_
  exact wr_iret hV d_S_byteOf_10 rfl rfl hw
theorem d_X_isPlain_0 : decode prog_12_method_2_code 0 = .ok (.iload_n 0, 1) := by decide +kernel
theorem d_X_isPlain_1 : decode prog_12_method_2_code 1 = .ok (.bipush 32, 2) := by decide +kernel
theorem d_X_isPlain_3 : decode prog_12_method_2_code 3 = .ok (.if_icmp .lt 13, 3) := by decide +kernel
theorem d_X_isPlain_6 : decode prog_12_method_2_code 6 = .ok (.iload_n 0, 1) := by decide +kernel
theorem d_X_isPlain_7 : decode prog_12_method_2_code 7 = .ok (.bipush 126, 2) := by decide +kernel
theorem d_X_isPlain_9 : decode prog_12_method_2_code 9 = .ok (.if_icmp .gt 7, 3) := by decide +kernel
theorem d_X_isPlain_12 : decode prog_12_method_2_code 12 = .ok (.iconst 1, 1) := by decide +kernel
theorem d_X_isPlain_13 : decode prog_12_method_2_code 13 = .ok (.goto 4, 3) := by decide +kernel
theorem d_X_isPlain_16 : decode prog_12_method_2_code 16 = .ok (.iconst 0, 1) := by decide +kernel
theorem d_X_isPlain_17 : decode prog_12_method_2_code 17 = .ok (.ireturn, 1) := by decide +kernel
def wp_X_isPlain (p0 : Int32) (A : ab_H) (Q : Int32 → ab_H → Prop) : Prop := if p0 < (32 : Int32) then (Q (0 : Int32) A) else (if (126 : Int32) < p0 then (Q (0 : Int32) A) else (Q (1 : Int32) A))
set_option maxRecDepth 100000 in
set_option maxHeartbeats 4000000 in
theorem sd_X_isPlain {l : Launch} {G : mm_G} {h : mm_H} {A : ab_H} {p0 : Int32} {Q : Int32 → ab_H → Prop} (hV : Vw G h A) (hw : wp_X_isPlain p0 A Q) : mm_S l G M_X_isPlain [.int p0] h 0 0 (wQI G Q) := by
  unfold wp_X_isPlain at hw
  refine mm_start rfl (Nat.le_of_ble_eq_true rfl) ?_
  show mm_V l G M_X_isPlain 0 0 0 [some (.int p0)] [] h _
  refine mm_iload_n (pc' := 1) d_X_isPlain_0 rfl rfl rfl ?_
  refine mm_bipush (v := 32) (pc' := 3) d_X_isPlain_1 rfl (by decide) ?_
  refine wr_icmp_lt hw (pc' := 6) d_X_isPlain_3 rfl rfl (fun hw => ?_) (fun hw => ?_)
  · refine mm_iconst (v := 0) (pc' := 17) d_X_isPlain_16 rfl (by decide) ?_
    exact wr_iret hV d_X_isPlain_17 rfl rfl hw
  · refine mm_iload_n (pc' := 7) d_X_isPlain_6 rfl rfl rfl ?_
    refine mm_bipush (v := 126) (pc' := 9) d_X_isPlain_7 rfl (by decide) ?_
    refine wr_icmp_gt hw (pc' := 12) d_X_isPlain_9 rfl rfl (fun hw => ?_) (fun hw => ?_)
    · refine mm_iconst (v := 0) (pc' := 17) d_X_isPlain_16 rfl (by decide) ?_
      exact wr_iret hV d_X_isPlain_17 rfl rfl hw
    · refine mm_iconst (v := 1) (pc' := 13) d_X_isPlain_12 rfl (by decide) ?_
      refine mm_goto (tgt := 17) d_X_isPlain_13 rfl ?_
      exact wr_iret hV d_X_isPlain_17 rfl rfl hw
theorem d_R_takeInLine_0 : decode prog_6_method_7_code 0 = .ok (.aload_n 0, 1) := by decide +kernel
theorem d_R_takeInLine_1 : decode prog_6_method_7_code 1 = .ok (.getfield 41, 3) := by decide +kernel
theorem d_R_takeInLine_4 : decode prog_6_method_7_code 4 = .ok (.ifCond .eq 17, 3) := by decide +kernel
theorem d_R_takeInLine_7 : decode prog_6_method_7_code 7 = .ok (.iload_n 1, 1) := by decide +kernel
theorem d_R_takeInLine_8 : decode prog_6_method_7_code 8 = .ok (.bipush 10, 2) := by decide +kernel
theorem d_R_takeInLine_10 : decode prog_6_method_7_code 10 = .ok (.if_icmp .ne 7, 3) := by decide +kernel
theorem d_R_takeInLine_13 : decode prog_6_method_7_code 13 = .ok (.iconst 2, 1) := by decide +kernel
theorem d_R_takeInLine_14 : decode prog_6_method_7_code 14 = .ok (.goto 6, 3) := by decide +kernel
theorem d_R_takeInLine_17 : decode prog_6_method_7_code 17 = .ok (.sipush 400, 3) := by decide +kernel
theorem d_R_takeInLine_20 : decode prog_6_method_7_code 20 = .ok (.ireturn, 1) := by decide +kernel
theorem d_R_takeInLine_21 : decode prog_6_method_7_code 21 = .ok (.iload_n 1, 1) := by decide +kernel
theorem d_R_takeInLine_22 : decode prog_6_method_7_code 22 = .ok (.bipush 13, 2) := by decide +kernel
theorem d_R_takeInLine_24 : decode prog_6_method_7_code 24 = .ok (.if_icmp .ne 10, 3) := by decide +kernel
theorem d_R_takeInLine_27 : decode prog_6_method_7_code 27 = .ok (.aload_n 0, 1) := by decide +kernel
theorem d_R_takeInLine_28 : decode prog_6_method_7_code 28 = .ok (.iconst 1, 1) := by decide +kernel
theorem d_R_takeInLine_29 : decode prog_6_method_7_code 29 = .ok (.putfield 41, 3) := by decide +kernel
theorem d_R_takeInLine_32 : decode prog_6_method_7_code 32 = .ok (.iconst 0, 1) := by decide +kernel
theorem d_R_takeInLine_33 : decode prog_6_method_7_code 33 = .ok (.ireturn, 1) := by decide +kernel
theorem d_R_takeInLine_34 : decode prog_6_method_7_code 34 = .ok (.iload_n 1, 1) := by decide +kernel
theorem d_R_takeInLine_35 : decode prog_6_method_7_code 35 = .ok (.invokestatic 138, 3) := by decide +kernel
theorem d_R_takeInLine_38 : decode prog_6_method_7_code 38 = .ok (.ifCond .ne 7, 3) := by decide +kernel
theorem d_R_takeInLine_41 : decode prog_6_method_7_code 41 = .ok (.sipush 400, 3) := by decide +kernel
theorem d_R_takeInLine_44 : decode prog_6_method_7_code 44 = .ok (.ireturn, 1) := by decide +kernel
theorem d_R_takeInLine_45 : decode prog_6_method_7_code 45 = .ok (.aload_n 0, 1) := by decide +kernel
theorem d_R_takeInLine_46 : decode prog_6_method_7_code 46 = .ok (.getfield 10, 3) := by decide +kernel
theorem d_R_takeInLine_49 : decode prog_6_method_7_code 49 = .ok (.invokevirtual 144, 3) := by decide +kernel
theorem d_R_takeInLine_52 : decode prog_6_method_7_code 52 = .ok (.iload_n 2, 1) := by decide +kernel
theorem d_R_takeInLine_53 : decode prog_6_method_7_code 53 = .ok (.if_icmp .lt 5, 3) := by decide +kernel
theorem d_R_takeInLine_56 : decode prog_6_method_7_code 56 = .ok (.iload_n 3, 1) := by decide +kernel
theorem d_R_takeInLine_57 : decode prog_6_method_7_code 57 = .ok (.ireturn, 1) := by decide +kernel
theorem d_R_takeInLine_58 : decode prog_6_method_7_code 58 = .ok (.aload_n 0, 1) := by decide +kernel
theorem d_R_takeInLine_59 : decode prog_6_method_7_code 59 = .ok (.getfield 10, 3) := by decide +kernel
theorem d_R_takeInLine_62 : decode prog_6_method_7_code 62 = .ok (.iload_n 1, 1) := by decide +kernel
theorem d_R_takeInLine_63 : decode prog_6_method_7_code 63 = .ok (.i2c, 1) := by decide +kernel
theorem d_R_takeInLine_64 : decode prog_6_method_7_code 64 = .ok (.invokevirtual 147, 3) := by decide +kernel
theorem d_R_takeInLine_67 : decode prog_6_method_7_code 67 = .ok (.pop, 1) := by decide +kernel
theorem d_R_takeInLine_68 : decode prog_6_method_7_code 68 = .ok (.iconst 0, 1) := by decide +kernel
theorem d_R_takeInLine_69 : decode prog_6_method_7_code 69 = .ok (.ireturn, 1) := by decide +kernel
def wp_R_takeInLine (a : Nat) (p0 : Int32) (p1 : Int32) (p2 : Int32) (A : ab_H) (kc ks : Nat) (Q : Int32 → ab_H → Prop) : Prop := wgI A (some a) 5 5 (fun x1 => if x1 = 0 then (if p0 = (13 : Int32) then (wp A (some a) 5 5 (.int (1 : Int32)) (fun A => Q (0 : Int32) A)) else (wp_X_isPlain p0 A (fun x2 A => if x2 = 0 then (Q (400 : Int32) A) else (wgR A (some a) 5 0 (fun r3 => wj_SB_length A r3  (fun x4 => if x4 < p1 then (wgR A (some a) 5 0 (fun r5 => wj_SB_append_C A kc ks r5 (wch p0) (fun r6 A kc ks => Q (0 : Int32) A))) else (Q p2 A))))))) else (if p0 = (10 : Int32) then (Q (2 : Int32) A) else (Q (400 : Int32) A)))
set_option maxRecDepth 100000 in
set_option maxHeartbeats 4000000 in
theorem sd_R_takeInLine {l : Launch} {G : mm_G} {h : mm_H} {A : ab_H} {a : Nat} {p0 : Int32} {p1 : Int32} {p2 : Int32} {kc ks : Nat} {Q : Int32 → ab_H → Prop} (hV : Vw G h A) (hw : wp_R_takeInLine a p0 p1 p2 A kc ks Q) : mm_S l G M_R_takeInLine [.ref a, .int p0, .int p1, .int p2] h kc ks (wQI G Q) := by
  unfold wp_R_takeInLine at hw
  refine mm_start rfl (Nat.le_of_ble_eq_true rfl) ?_
  show mm_V l G M_R_takeInLine kc ks 0 [some (va_rf (some a)), some (.int p0), some (.int p1), some (.int p2)] [] h _
  refine wr_aload_n (some a) (pc' := 1) d_R_takeInLine_0 rfl rfl rfl ?_
  refine wr_getI hV hw (pc' := 4) d_R_takeInLine_1 rfl fl_R_41 (fun x1 hw => ?_)
  refine wr_if_eq hw (pc' := 7) d_R_takeInLine_4 rfl rfl (fun hw => ?_) (fun hw => ?_)
  · refine mm_iload_n (pc' := 22) d_R_takeInLine_21 rfl rfl rfl ?_
    refine mm_bipush (v := 13) (pc' := 24) d_R_takeInLine_22 rfl (by decide) ?_
    refine wr_icmp_ne hw (pc' := 27) d_R_takeInLine_24 rfl rfl (fun hw => ?_) (fun hw => ?_)
    · refine mm_iload_n (pc' := 35) d_R_takeInLine_34 rfl rfl rfl ?_
      refine wr_cSI (pc' := 38) (as := [.int p0]) (st := []) d_R_takeInLine_35 rfl cs_R_138 (sd_X_isPlain hV hw) rfl rfl (Nat.le_of_ble_eq_true rfl) (Nat.le_of_ble_eq_true rfl) (fun x2 h A hV hw => ?_)
      refine wr_if_ne hw (pc' := 41) d_R_takeInLine_38 rfl rfl (fun hw => ?_) (fun hw => ?_)
      · refine wr_aload_n (some a) (pc' := 46) d_R_takeInLine_45 rfl rfl rfl ?_
        refine wr_getR hV hw (pc' := 49) d_R_takeInLine_46 rfl fl_R_10 (fun r3 hw => ?_)
        refine wr_SB_length hV hw (pc' := 52) d_R_takeInLine_49 rfl cs_R_144 (Nat.le_of_ble_eq_true rfl) (Nat.le_of_ble_eq_true rfl) (fun x4 hw => ?_)
        refine mm_iload_n (pc' := 53) d_R_takeInLine_52 rfl rfl rfl ?_
        refine wr_icmp_lt hw (pc' := 56) d_R_takeInLine_53 rfl rfl (fun hw => ?_) (fun hw => ?_)
        · refine wr_aload_n (some a) (pc' := 59) d_R_takeInLine_58 rfl rfl rfl ?_
          refine wr_getR hV hw (pc' := 62) d_R_takeInLine_59 rfl fl_R_10 (fun r5 hw => ?_)
          refine mm_iload_n (pc' := 63) d_R_takeInLine_62 rfl rfl rfl ?_
          refine mm_i2c (v := wch p0) (pc' := 64) d_R_takeInLine_63 rfl rfl ?_
          refine wr_SB_append_C hV hw (pc' := 67) d_R_takeInLine_64 rfl cs_R_147 (Nat.le_of_ble_eq_true rfl) (Nat.le_of_ble_eq_true rfl) (fun r6 h A kc ks hV hw => ?_)
          refine mm_pop (pc' := 68) d_R_takeInLine_67 rfl (wr_cat _) ?_
          refine mm_iconst (v := 0) (pc' := 69) d_R_takeInLine_68 rfl (by decide) ?_
          exact wr_iret hV d_R_takeInLine_69 rfl rfl hw
        · refine mm_iload_n (pc' := 57) d_R_takeInLine_56 rfl rfl rfl ?_
          exact wr_iret hV d_R_takeInLine_57 rfl rfl hw
      · refine mm_sipush (v := 400) (pc' := 44) d_R_takeInLine_41 rfl (by decide) ?_
        exact wr_iret hV d_R_takeInLine_44 rfl rfl hw
    · refine wr_aload_n (some a) (pc' := 28) d_R_takeInLine_27 rfl rfl rfl ?_
      refine mm_iconst (v := 1) (pc' := 29) d_R_takeInLine_28 rfl (by decide) ?_
      refine wr_put hV hw (pc' := 32) d_R_takeInLine_29 rfl pl_R_takeInLine_41 (Nat.le_of_ble_eq_true rfl) (fun _ => ⟨rfl, rfl⟩) (fun h A hV hw => ?_)
      refine mm_iconst (v := 0) (pc' := 33) d_R_takeInLine_32 rfl (by decide) ?_
      exact wr_iret hV d_R_takeInLine_33 rfl rfl hw
  · refine mm_iload_n (pc' := 8) d_R_takeInLine_7 rfl rfl rfl ?_
    refine mm_bipush (v := 10) (pc' := 10) d_R_takeInLine_8 rfl (by decide) ?_
    refine wr_icmp_ne hw (pc' := 13) d_R_takeInLine_10 rfl rfl (fun hw => ?_) (fun hw => ?_)
    · refine mm_sipush (v := 400) (pc' := 20) d_R_takeInLine_17 rfl (by decide) ?_
      exact wr_iret hV d_R_takeInLine_20 rfl rfl hw
    · refine mm_iconst (v := 2) (pc' := 14) d_R_takeInLine_13 rfl (by decide) ?_
      refine mm_goto (tgt := 20) d_R_takeInLine_14 rfl ?_
      exact wr_iret hV d_R_takeInLine_20 rfl rfl hw
theorem d_R_endLine_0 : decode prog_6_method_8_code 0 = .ok (.aload_n 0, 1) := by decide +kernel
theorem d_R_endLine_1 : decode prog_6_method_8_code 1 = .ok (.getfield 10, 3) := by decide +kernel
theorem d_R_endLine_4 : decode prog_6_method_8_code 4 = .ok (.invokevirtual 64, 3) := by decide +kernel
theorem d_R_endLine_7 : decode prog_6_method_8_code 7 = .ok (.astore_n 1, 1) := by decide +kernel
theorem d_R_endLine_8 : decode prog_6_method_8_code 8 = .ok (.aload_n 0, 1) := by decide +kernel
theorem d_R_endLine_9 : decode prog_6_method_8_code 9 = .ok (.getfield 10, 3) := by decide +kernel
theorem d_R_endLine_12 : decode prog_6_method_8_code 12 = .ok (.iconst 0, 1) := by decide +kernel
theorem d_R_endLine_13 : decode prog_6_method_8_code 13 = .ok (.invokevirtual 37, 3) := by decide +kernel
theorem d_R_endLine_16 : decode prog_6_method_8_code 16 = .ok (.aload_n 0, 1) := by decide +kernel
theorem d_R_endLine_17 : decode prog_6_method_8_code 17 = .ok (.iconst 0, 1) := by decide +kernel
theorem d_R_endLine_18 : decode prog_6_method_8_code 18 = .ok (.putfield 41, 3) := by decide +kernel
theorem d_R_endLine_21 : decode prog_6_method_8_code 21 = .ok (.aload_n 1, 1) := by decide +kernel
theorem d_R_endLine_22 : decode prog_6_method_8_code 22 = .ok (.areturn, 1) := by decide +kernel
def wp_R_endLine (a : Nat) (A : ab_H) (kc ks : Nat) (Q : Option Nat → ab_H → Prop) : Prop := wgR A (some a) 5 0 (fun r1 => wj_SB_toString A kc ks r1  (fun r2 A kc ks => wgR A (some a) 5 0 (fun r3 => wj_SB_setLength A kc ks r3 (0 : Int32) (fun A kc ks => wp A (some a) 5 5 (.int (0 : Int32)) (fun A => Q r2 A)))))
set_option maxRecDepth 100000 in
set_option maxHeartbeats 4000000 in
theorem sd_R_endLine {l : Launch} {G : mm_G} {h : mm_H} {A : ab_H} {a : Nat} {kc ks : Nat} {Q : Option Nat → ab_H → Prop} (hV : Vw G h A) (hw : wp_R_endLine a A kc ks Q) : mm_S l G M_R_endLine [.ref a] h kc ks (wQR G Q) := by
  unfold wp_R_endLine at hw
  refine mm_start rfl (Nat.le_of_ble_eq_true rfl) ?_
  show mm_V l G M_R_endLine kc ks 0 [some (va_rf (some a)), none] [] h _
  refine wr_aload_n (some a) (pc' := 1) d_R_endLine_0 rfl rfl rfl ?_
  refine wr_getR hV hw (pc' := 4) d_R_endLine_1 rfl fl_R_10 (fun r1 hw => ?_)
  refine wr_SB_toString hV hw (pc' := 7) d_R_endLine_4 rfl cs_R_64 (Nat.le_of_ble_eq_true rfl) (Nat.le_of_ble_eq_true rfl) (fun r2 h A kc ks hV hw => ?_)
  refine wr_ast1 (pc' := 8) d_R_endLine_7 rfl (wr_2 _) (Nat.le_of_ble_eq_true rfl) ?_
  refine wr_aload_n (some a) (pc' := 9) d_R_endLine_8 rfl rfl rfl ?_
  refine wr_getR hV hw (pc' := 12) d_R_endLine_9 rfl fl_R_10 (fun r3 hw => ?_)
  refine mm_iconst (v := 0) (pc' := 13) d_R_endLine_12 rfl (by decide) ?_
  refine wr_SB_setLength hV hw (pc' := 16) d_R_endLine_13 rfl cs_R_37 (Nat.le_of_ble_eq_true rfl) (Nat.le_of_ble_eq_true rfl) (fun h A kc ks hV hw => ?_)
  refine wr_aload_n (some a) (pc' := 17) d_R_endLine_16 rfl rfl rfl ?_
  refine mm_iconst (v := 0) (pc' := 18) d_R_endLine_17 rfl (by decide) ?_
  refine wr_put hV hw (pc' := 21) d_R_endLine_18 rfl pl_R_endLine_41 (Nat.le_of_ble_eq_true rfl) (fun _ => ⟨rfl, rfl⟩) (fun h A hV hw => ?_)
  refine wr_aload_n r2 (pc' := 22) d_R_endLine_21 rfl rfl rfl ?_
  exact wr_aret hV d_R_endLine_22 rfl (by first | exact Or.inl ⟨_, rfl⟩ | exact Or.inr ⟨_, rfl⟩) hw
theorem d_X_isCapital_0 : decode prog_12_method_4_code 0 = .ok (.iload_n 0, 1) := by decide +kernel
theorem d_X_isCapital_1 : decode prog_12_method_4_code 1 = .ok (.bipush 65, 2) := by decide +kernel
theorem d_X_isCapital_3 : decode prog_12_method_4_code 3 = .ok (.if_icmp .lt 13, 3) := by decide +kernel
theorem d_X_isCapital_6 : decode prog_12_method_4_code 6 = .ok (.iload_n 0, 1) := by decide +kernel
theorem d_X_isCapital_7 : decode prog_12_method_4_code 7 = .ok (.bipush 90, 2) := by decide +kernel
theorem d_X_isCapital_9 : decode prog_12_method_4_code 9 = .ok (.if_icmp .gt 7, 3) := by decide +kernel
theorem d_X_isCapital_12 : decode prog_12_method_4_code 12 = .ok (.iconst 1, 1) := by decide +kernel
theorem d_X_isCapital_13 : decode prog_12_method_4_code 13 = .ok (.goto 4, 3) := by decide +kernel
theorem d_X_isCapital_16 : decode prog_12_method_4_code 16 = .ok (.iconst 0, 1) := by decide +kernel
theorem d_X_isCapital_17 : decode prog_12_method_4_code 17 = .ok (.ireturn, 1) := by decide +kernel
def wp_X_isCapital (p0 : Int32) (A : ab_H) (Q : Int32 → ab_H → Prop) : Prop := if p0 < (65 : Int32) then (Q (0 : Int32) A) else (if (90 : Int32) < p0 then (Q (0 : Int32) A) else (Q (1 : Int32) A))
set_option maxRecDepth 100000 in
set_option maxHeartbeats 4000000 in
theorem sd_X_isCapital {l : Launch} {G : mm_G} {h : mm_H} {A : ab_H} {p0 : Int32} {Q : Int32 → ab_H → Prop} (hV : Vw G h A) (hw : wp_X_isCapital p0 A Q) : mm_S l G M_X_isCapital [.int p0] h 0 0 (wQI G Q) := by
  unfold wp_X_isCapital at hw
  refine mm_start rfl (Nat.le_of_ble_eq_true rfl) ?_
  show mm_V l G M_X_isCapital 0 0 0 [some (.int p0)] [] h _
  refine mm_iload_n (pc' := 1) d_X_isCapital_0 rfl rfl rfl ?_
  refine mm_bipush (v := 65) (pc' := 3) d_X_isCapital_1 rfl (by decide) ?_
  refine wr_icmp_lt hw (pc' := 6) d_X_isCapital_3 rfl rfl (fun hw => ?_) (fun hw => ?_)
  · refine mm_iconst (v := 0) (pc' := 17) d_X_isCapital_16 rfl (by decide) ?_
    exact wr_iret hV d_X_isCapital_17 rfl rfl hw
  · refine mm_iload_n (pc' := 7) d_X_isCapital_6 rfl rfl rfl ?_
    refine mm_bipush (v := 90) (pc' := 9) d_X_isCapital_7 rfl (by decide) ?_
    refine wr_icmp_gt hw (pc' := 12) d_X_isCapital_9 rfl rfl (fun hw => ?_) (fun hw => ?_)
    · refine mm_iconst (v := 0) (pc' := 17) d_X_isCapital_16 rfl (by decide) ?_
      exact wr_iret hV d_X_isCapital_17 rfl rfl hw
    · refine mm_iconst (v := 1) (pc' := 13) d_X_isCapital_12 rfl (by decide) ?_
      refine mm_goto (tgt := 17) d_X_isCapital_13 rfl ?_
      exact wr_iret hV d_X_isCapital_17 rfl rfl hw
theorem d_Q_isMethod_0 : decode prog_8_method_3_code 0 = .ok (.iload_n 1, 1) := by decide +kernel
theorem d_Q_isMethod_1 : decode prog_8_method_3_code 1 = .ok (.iconst 1, 1) := by decide +kernel
theorem d_Q_isMethod_2 : decode prog_8_method_3_code 2 = .ok (.if_icmp .lt 9, 3) := by decide +kernel
theorem d_Q_isMethod_5 : decode prog_8_method_3_code 5 = .ok (.iload_n 1, 1) := by decide +kernel
theorem d_Q_isMethod_6 : decode prog_8_method_3_code 6 = .ok (.bipush 7, 2) := by decide +kernel
theorem d_Q_isMethod_8 : decode prog_8_method_3_code 8 = .ok (.if_icmp .le 5, 3) := by decide +kernel
theorem d_Q_isMethod_11 : decode prog_8_method_3_code 11 = .ok (.iconst 0, 1) := by decide +kernel
theorem d_Q_isMethod_12 : decode prog_8_method_3_code 12 = .ok (.ireturn, 1) := by decide +kernel
theorem d_Q_isMethod_13 : decode prog_8_method_3_code 13 = .ok (.iconst 0, 1) := by decide +kernel
theorem d_Q_isMethod_14 : decode prog_8_method_3_code 14 = .ok (.istore_n 2, 1) := by decide +kernel
theorem d_Q_isMethod_15 : decode prog_8_method_3_code 15 = .ok (.iload_n 2, 1) := by decide +kernel
theorem d_Q_isMethod_16 : decode prog_8_method_3_code 16 = .ok (.iload_n 1, 1) := by decide +kernel
theorem d_Q_isMethod_17 : decode prog_8_method_3_code 17 = .ok (.if_icmp .ge 22, 3) := by decide +kernel
theorem d_Q_isMethod_20 : decode prog_8_method_3_code 20 = .ok (.aload_n 0, 1) := by decide +kernel
theorem d_Q_isMethod_21 : decode prog_8_method_3_code 21 = .ok (.iload_n 2, 1) := by decide +kernel
theorem d_Q_isMethod_22 : decode prog_8_method_3_code 22 = .ok (.invokevirtual 47, 3) := by decide +kernel
theorem d_Q_isMethod_25 : decode prog_8_method_3_code 25 = .ok (.invokestatic 83, 3) := by decide +kernel
theorem d_Q_isMethod_28 : decode prog_8_method_3_code 28 = .ok (.ifCond .ne 5, 3) := by decide +kernel
theorem d_Q_isMethod_31 : decode prog_8_method_3_code 31 = .ok (.iconst 0, 1) := by decide +kernel
theorem d_Q_isMethod_32 : decode prog_8_method_3_code 32 = .ok (.ireturn, 1) := by decide +kernel
theorem d_Q_isMethod_33 : decode prog_8_method_3_code 33 = .ok (.iinc 2 1, 3) := by decide +kernel
theorem d_Q_isMethod_36 : decode prog_8_method_3_code 36 = .ok (.goto (-21), 3) := by decide +kernel
theorem d_Q_isMethod_39 : decode prog_8_method_3_code 39 = .ok (.iconst 1, 1) := by decide +kernel
theorem d_Q_isMethod_40 : decode prog_8_method_3_code 40 = .ok (.ireturn, 1) := by decide +kernel
def wb_Q_isMethod_15 (p0 : Option Nat) (p1 : Int32) (Q : Int32 → ab_H → Prop)  (k15 : Int32 → ab_H → Prop) (u2 : Int32) (A : ab_H) : Prop := if p1 ≤ u2 then (Q (1 : Int32) A) else (wj_ST_charAt A p0 u2 (fun x1 => wp_X_isCapital x1 A (fun x2 A => if x2 = 0 then (Q (0 : Int32) A) else (k15 (u2 + 1) A))))
def wq_Q_isMethod_15 (p0 : Option Nat) (p1 : Int32) (Q : Int32 → ab_H → Prop)  : Nat → Int32 → ab_H → Prop
  | 0 => fun _ _ => False
  | n + 1 => wb_Q_isMethod_15 p0 p1 Q  (wq_Q_isMethod_15 p0 p1 Q  n)
set_option maxRecDepth 100000 in
set_option maxHeartbeats 4000000 in
theorem sq_Q_isMethod_15 {l : Launch} {G : mm_G} {p0 : Option Nat} {p1 : Int32} {Q : Int32 → ab_H → Prop}   : ∀ (n : Nat) (u2 : Int32) (A : ab_H) (h : mm_H), Vw G h A → wq_Q_isMethod_15 p0 p1 Q  n u2 A → mm_V l G M_Q_isMethod 0 0 15 [some (va_rf p0), some (.int p1), some (.int u2)] [] h (wQI G Q) := by
  intro n
  induction n with
  | zero =>
    intro u2 A h hV hw
    exact absurd hw id
  | succ n hk15 =>
    intro u2 A h hV hw
    have hw : wb_Q_isMethod_15 p0 p1 Q  (wq_Q_isMethod_15 p0 p1 Q  n) u2 A := hw
    unfold wb_Q_isMethod_15 at hw
    refine mm_iload_n (pc' := 16) d_Q_isMethod_15 rfl rfl rfl ?_
    refine mm_iload_n (pc' := 17) d_Q_isMethod_16 rfl rfl rfl ?_
    refine wr_icmp_ge hw (pc' := 20) d_Q_isMethod_17 rfl rfl (fun hw => ?_) (fun hw => ?_)
    · refine mm_iconst (v := 1) (pc' := 40) d_Q_isMethod_39 rfl (by decide) ?_
      exact wr_iret hV d_Q_isMethod_40 rfl rfl hw
    · refine wr_aload_n p0 (pc' := 21) d_Q_isMethod_20 rfl rfl rfl ?_
      refine mm_iload_n (pc' := 22) d_Q_isMethod_21 rfl rfl rfl ?_
      refine wr_ST_charAt hV hw (pc' := 25) d_Q_isMethod_22 rfl cs_Q_47 (Nat.le_of_ble_eq_true rfl) (Nat.le_of_ble_eq_true rfl) (fun x1 hw => ?_)
      refine wr_cSI (pc' := 28) (as := [.int x1]) (st := []) d_Q_isMethod_25 rfl cs_Q_83 (sd_X_isCapital hV hw) rfl rfl (Nat.le_of_ble_eq_true rfl) (Nat.le_of_ble_eq_true rfl) (fun x2 h A hV hw => ?_)
      refine wr_if_ne hw (pc' := 31) d_Q_isMethod_28 rfl rfl (fun hw => ?_) (fun hw => ?_)
      · refine mm_iinc2 (v := (u2 + 1)) (pc' := 36) d_Q_isMethod_33 rfl rfl rfl (Nat.le_of_ble_eq_true rfl) ?_
        refine mm_goto (tgt := 15) d_Q_isMethod_36 rfl ?_
        exact mm_drop (mm_le.s (mm_le.s (mm_le.s mm_le.e))) (hk15 _ _ _ hV hw)
      · refine mm_iconst (v := 0) (pc' := 32) d_Q_isMethod_31 rfl (by decide) ?_
        exact wr_iret hV d_Q_isMethod_32 rfl rfl hw
def wp_Q_isMethod (p0 : Option Nat) (p1 : Int32) (A : ab_H) (Q : Int32 → ab_H → Prop) : Prop := if p1 < (1 : Int32) then (Q (0 : Int32) A) else (if p1 ≤ (7 : Int32) then (∃ n, wq_Q_isMethod_15 p0 p1 Q n (0 : Int32) A) else (Q (0 : Int32) A))
set_option maxRecDepth 100000 in
set_option maxHeartbeats 4000000 in
theorem sd_Q_isMethod {l : Launch} {G : mm_G} {h : mm_H} {A : ab_H} {p0 : Option Nat} {p1 : Int32} {Q : Int32 → ab_H → Prop} (hV : Vw G h A) (hw : wp_Q_isMethod p0 p1 A Q) : mm_S l G M_Q_isMethod [va_rf p0, .int p1] h 0 0 (wQI G Q) := by
  unfold wp_Q_isMethod at hw
  refine mm_start rfl (by simp [mm_as, wr_cat, wr_catI, wr_catJ, wr_catN]) ?_
  rw [show mm_en [va_rf p0, .int p1] M_Q_isMethod.2.2.1 = [some (va_rf p0), some (.int p1), none] from by simp [mm_en, mm_as, wr_cat, wr_catI, wr_catJ, wr_catN]]
  show mm_V l G M_Q_isMethod 0 0 0 [some (va_rf p0), some (.int p1), none] [] h _
  refine mm_iload_n (pc' := 1) d_Q_isMethod_0 rfl rfl rfl ?_
  refine mm_iconst (v := 1) (pc' := 2) d_Q_isMethod_1 rfl (by decide) ?_
  refine wr_icmp_lt hw (pc' := 5) d_Q_isMethod_2 rfl rfl (fun hw => ?_) (fun hw => ?_)
  · refine mm_iconst (v := 0) (pc' := 12) d_Q_isMethod_11 rfl (by decide) ?_
    exact wr_iret hV d_Q_isMethod_12 rfl rfl hw
  · refine mm_iload_n (pc' := 6) d_Q_isMethod_5 rfl rfl rfl ?_
    refine mm_bipush (v := 7) (pc' := 8) d_Q_isMethod_6 rfl (by decide) ?_
    refine wr_icmp_le hw (pc' := 11) d_Q_isMethod_8 rfl rfl (fun hw => ?_) (fun hw => ?_)
    · refine mm_iconst (v := 0) (pc' := 14) d_Q_isMethod_13 rfl (by decide) ?_
      refine mm_ist2 (pc' := 15) d_Q_isMethod_14 rfl rfl (Nat.le_of_ble_eq_true rfl) ?_
      obtain ⟨n, hw⟩ := hw
      exact mm_drop (mm_le.s (mm_le.s (mm_le.s mm_le.e))) (sq_Q_isMethod_15  n _ _ _ hV hw)
    · refine mm_iconst (v := 0) (pc' := 12) d_Q_isMethod_11 rfl (by decide) ?_
      exact wr_iret hV d_Q_isMethod_12 rfl rfl hw
theorem d_X_hexDigit_0 : decode prog_12_method_6_code 0 = .ok (.iload_n 0, 1) := by decide +kernel
theorem d_X_hexDigit_1 : decode prog_12_method_6_code 1 = .ok (.bipush 48, 2) := by decide +kernel
theorem d_X_hexDigit_3 : decode prog_12_method_6_code 3 = .ok (.if_icmp .lt 14, 3) := by decide +kernel
theorem d_X_hexDigit_6 : decode prog_12_method_6_code 6 = .ok (.iload_n 0, 1) := by decide +kernel
theorem d_X_hexDigit_7 : decode prog_12_method_6_code 7 = .ok (.bipush 57, 2) := by decide +kernel
theorem d_X_hexDigit_9 : decode prog_12_method_6_code 9 = .ok (.if_icmp .gt 8, 3) := by decide +kernel
theorem d_X_hexDigit_12 : decode prog_12_method_6_code 12 = .ok (.iload_n 0, 1) := by decide +kernel
theorem d_X_hexDigit_13 : decode prog_12_method_6_code 13 = .ok (.bipush 48, 2) := by decide +kernel
theorem d_X_hexDigit_15 : decode prog_12_method_6_code 15 = .ok (.isub, 1) := by decide +kernel
theorem d_X_hexDigit_16 : decode prog_12_method_6_code 16 = .ok (.ireturn, 1) := by decide +kernel
theorem d_X_hexDigit_17 : decode prog_12_method_6_code 17 = .ok (.iload_n 0, 1) := by decide +kernel
theorem d_X_hexDigit_18 : decode prog_12_method_6_code 18 = .ok (.bipush 97, 2) := by decide +kernel
theorem d_X_hexDigit_20 : decode prog_12_method_6_code 20 = .ok (.if_icmp .lt 17, 3) := by decide +kernel
theorem d_X_hexDigit_23 : decode prog_12_method_6_code 23 = .ok (.iload_n 0, 1) := by decide +kernel
theorem d_X_hexDigit_24 : decode prog_12_method_6_code 24 = .ok (.bipush 102, 2) := by decide +kernel
theorem d_X_hexDigit_26 : decode prog_12_method_6_code 26 = .ok (.if_icmp .gt 11, 3) := by decide +kernel
theorem d_X_hexDigit_29 : decode prog_12_method_6_code 29 = .ok (.iload_n 0, 1) := by decide +kernel
theorem d_X_hexDigit_30 : decode prog_12_method_6_code 30 = .ok (.bipush 97, 2) := by decide +kernel
theorem d_X_hexDigit_32 : decode prog_12_method_6_code 32 = .ok (.isub, 1) := by decide +kernel
theorem d_X_hexDigit_33 : decode prog_12_method_6_code 33 = .ok (.bipush 10, 2) := by decide +kernel
theorem d_X_hexDigit_35 : decode prog_12_method_6_code 35 = .ok (.iadd, 1) := by decide +kernel
theorem d_X_hexDigit_36 : decode prog_12_method_6_code 36 = .ok (.ireturn, 1) := by decide +kernel
theorem d_X_hexDigit_37 : decode prog_12_method_6_code 37 = .ok (.iload_n 0, 1) := by decide +kernel
theorem d_X_hexDigit_38 : decode prog_12_method_6_code 38 = .ok (.bipush 65, 2) := by decide +kernel
theorem d_X_hexDigit_40 : decode prog_12_method_6_code 40 = .ok (.if_icmp .lt 19, 3) := by decide +kernel
theorem d_X_hexDigit_43 : decode prog_12_method_6_code 43 = .ok (.iload_n 0, 1) := by decide +kernel
theorem d_X_hexDigit_44 : decode prog_12_method_6_code 44 = .ok (.bipush 70, 2) := by decide +kernel
theorem d_X_hexDigit_46 : decode prog_12_method_6_code 46 = .ok (.if_icmp .gt 13, 3) := by decide +kernel
theorem d_X_hexDigit_49 : decode prog_12_method_6_code 49 = .ok (.iload_n 0, 1) := by decide +kernel
theorem d_X_hexDigit_50 : decode prog_12_method_6_code 50 = .ok (.bipush 65, 2) := by decide +kernel
theorem d_X_hexDigit_52 : decode prog_12_method_6_code 52 = .ok (.isub, 1) := by decide +kernel
theorem d_X_hexDigit_53 : decode prog_12_method_6_code 53 = .ok (.bipush 10, 2) := by decide +kernel
theorem d_X_hexDigit_55 : decode prog_12_method_6_code 55 = .ok (.iadd, 1) := by decide +kernel
theorem d_X_hexDigit_56 : decode prog_12_method_6_code 56 = .ok (.goto 4, 3) := by decide +kernel
theorem d_X_hexDigit_59 : decode prog_12_method_6_code 59 = .ok (.iconst (-1), 1) := by decide +kernel
theorem d_X_hexDigit_60 : decode prog_12_method_6_code 60 = .ok (.ireturn, 1) := by decide +kernel
def wq_X_hexDigit_37 (p0 : Int32) (Q : Int32 → ab_H → Prop)   (A : ab_H) : Prop := if p0 < (65 : Int32) then (Q ((-1) : Int32) A) else (if (70 : Int32) < p0 then (Q ((-1) : Int32) A) else (Q ((p0 - (65 : Int32)) + (10 : Int32)) A))
set_option maxRecDepth 100000 in
set_option maxHeartbeats 4000000 in
theorem sq_X_hexDigit_37 {l : Launch} {G : mm_G} {p0 : Int32} {Q : Int32 → ab_H → Prop}   : ∀ (A : ab_H) (h : mm_H), Vw G h A → wq_X_hexDigit_37 p0 Q  A → mm_V l G M_X_hexDigit 0 0 37 [some (.int p0)] [] h (wQI G Q) := by
  intro A h hV hw
  unfold wq_X_hexDigit_37 at hw
  refine mm_iload_n (pc' := 38) d_X_hexDigit_37 rfl rfl rfl ?_
  refine mm_bipush (v := 65) (pc' := 40) d_X_hexDigit_38 rfl (by decide) ?_
  refine wr_icmp_lt hw (pc' := 43) d_X_hexDigit_40 rfl rfl (fun hw => ?_) (fun hw => ?_)
  · refine mm_iconst (v := (-1)) (pc' := 60) d_X_hexDigit_59 rfl (by decide) ?_
    exact wr_iret hV d_X_hexDigit_60 rfl rfl hw
  · refine mm_iload_n (pc' := 44) d_X_hexDigit_43 rfl rfl rfl ?_
    refine mm_bipush (v := 70) (pc' := 46) d_X_hexDigit_44 rfl (by decide) ?_
    refine wr_icmp_gt hw (pc' := 49) d_X_hexDigit_46 rfl rfl (fun hw => ?_) (fun hw => ?_)
    · refine mm_iconst (v := (-1)) (pc' := 60) d_X_hexDigit_59 rfl (by decide) ?_
      exact wr_iret hV d_X_hexDigit_60 rfl rfl hw
    · refine mm_iload_n (pc' := 50) d_X_hexDigit_49 rfl rfl rfl ?_
      refine mm_bipush (v := 65) (pc' := 52) d_X_hexDigit_50 rfl (by decide) ?_
      refine mm_isub (pc' := 53) d_X_hexDigit_52 rfl ?_
      refine mm_bipush (v := 10) (pc' := 55) d_X_hexDigit_53 rfl (by decide) ?_
      refine mm_iadd (pc' := 56) d_X_hexDigit_55 rfl ?_
      refine mm_goto (tgt := 60) d_X_hexDigit_56 rfl ?_
      exact wr_iret hV d_X_hexDigit_60 rfl rfl hw
def wq_X_hexDigit_17 (p0 : Int32) (Q : Int32 → ab_H → Prop)   (A : ab_H) : Prop := if p0 < (97 : Int32) then (wq_X_hexDigit_37 p0 Q A) else (if (102 : Int32) < p0 then (wq_X_hexDigit_37 p0 Q A) else (Q ((p0 - (97 : Int32)) + (10 : Int32)) A))
set_option maxRecDepth 100000 in
set_option maxHeartbeats 4000000 in
theorem sq_X_hexDigit_17 {l : Launch} {G : mm_G} {p0 : Int32} {Q : Int32 → ab_H → Prop}   : ∀ (A : ab_H) (h : mm_H), Vw G h A → wq_X_hexDigit_17 p0 Q  A → mm_V l G M_X_hexDigit 0 0 17 [some (.int p0)] [] h (wQI G Q) := by
  intro A h hV hw
  unfold wq_X_hexDigit_17 at hw
  refine mm_iload_n (pc' := 18) d_X_hexDigit_17 rfl rfl rfl ?_
  refine mm_bipush (v := 97) (pc' := 20) d_X_hexDigit_18 rfl (by decide) ?_
  refine wr_icmp_lt hw (pc' := 23) d_X_hexDigit_20 rfl rfl (fun hw => ?_) (fun hw => ?_)
  · exact mm_drop (mm_le.s mm_le.e) (sq_X_hexDigit_37  _ _ hV hw)
  · refine mm_iload_n (pc' := 24) d_X_hexDigit_23 rfl rfl rfl ?_
    refine mm_bipush (v := 102) (pc' := 26) d_X_hexDigit_24 rfl (by decide) ?_
    refine wr_icmp_gt hw (pc' := 29) d_X_hexDigit_26 rfl rfl (fun hw => ?_) (fun hw => ?_)
    · exact mm_drop (mm_le.s mm_le.e) (sq_X_hexDigit_37  _ _ hV hw)
    · refine mm_iload_n (pc' := 30) d_X_hexDigit_29 rfl rfl rfl ?_
      refine mm_bipush (v := 97) (pc' := 32) d_X_hexDigit_30 rfl (by decide) ?_
      refine mm_isub (pc' := 33) d_X_hexDigit_32 rfl ?_
      refine mm_bipush (v := 10) (pc' := 35) d_X_hexDigit_33 rfl (by decide) ?_
      refine mm_iadd (pc' := 36) d_X_hexDigit_35 rfl ?_
      exact wr_iret hV d_X_hexDigit_36 rfl rfl hw
def wp_X_hexDigit (p0 : Int32) (A : ab_H) (Q : Int32 → ab_H → Prop) : Prop := if p0 < (48 : Int32) then (wq_X_hexDigit_17 p0 Q A) else (if (57 : Int32) < p0 then (wq_X_hexDigit_17 p0 Q A) else (Q (p0 - (48 : Int32)) A))
set_option maxRecDepth 100000 in
set_option maxHeartbeats 4000000 in
theorem sd_X_hexDigit {l : Launch} {G : mm_G} {h : mm_H} {A : ab_H} {p0 : Int32} {Q : Int32 → ab_H → Prop} (hV : Vw G h A) (hw : wp_X_hexDigit p0 A Q) : mm_S l G M_X_hexDigit [.int p0] h 0 0 (wQI G Q) := by
  unfold wp_X_hexDigit at hw
  refine mm_start rfl (Nat.le_of_ble_eq_true rfl) ?_
  show mm_V l G M_X_hexDigit 0 0 0 [some (.int p0)] [] h _
  refine mm_iload_n (pc' := 1) d_X_hexDigit_0 rfl rfl rfl ?_
  refine mm_bipush (v := 48) (pc' := 3) d_X_hexDigit_1 rfl (by decide) ?_
  refine wr_icmp_lt hw (pc' := 6) d_X_hexDigit_3 rfl rfl (fun hw => ?_) (fun hw => ?_)
  · exact mm_drop (mm_le.s mm_le.e) (sq_X_hexDigit_17  _ _ hV hw)
  · refine mm_iload_n (pc' := 7) d_X_hexDigit_6 rfl rfl rfl ?_
    refine mm_bipush (v := 57) (pc' := 9) d_X_hexDigit_7 rfl (by decide) ?_
    refine wr_icmp_gt hw (pc' := 12) d_X_hexDigit_9 rfl rfl (fun hw => ?_) (fun hw => ?_)
    · exact mm_drop (mm_le.s mm_le.e) (sq_X_hexDigit_17  _ _ hV hw)
    · refine mm_iload_n (pc' := 13) d_X_hexDigit_12 rfl rfl rfl ?_
      refine mm_bipush (v := 48) (pc' := 15) d_X_hexDigit_13 rfl (by decide) ?_
      refine mm_isub (pc' := 16) d_X_hexDigit_15 rfl ?_
      exact wr_iret hV d_X_hexDigit_16 rfl rfl hw
theorem d_Q_codeAt_0 : decode prog_8_method_5_code 0 = .ok (.iload_n 1, 1) := by decide +kernel
theorem d_Q_codeAt_1 : decode prog_8_method_5_code 1 = .ok (.iconst 2, 1) := by decide +kernel
theorem d_Q_codeAt_2 : decode prog_8_method_5_code 2 = .ok (.iadd, 1) := by decide +kernel
theorem d_Q_codeAt_3 : decode prog_8_method_5_code 3 = .ok (.aload_n 0, 1) := by decide +kernel
theorem d_Q_codeAt_4 : decode prog_8_method_5_code 4 = .ok (.invokevirtual 22, 3) := by decide +kernel
theorem d_Q_codeAt_7 : decode prog_8_method_5_code 7 = .ok (.if_icmp .lt 5, 3) := by decide +kernel
theorem d_Q_codeAt_10 : decode prog_8_method_5_code 10 = .ok (.iconst (-1), 1) := by decide +kernel
theorem d_Q_codeAt_11 : decode prog_8_method_5_code 11 = .ok (.ireturn, 1) := by decide +kernel
theorem d_Q_codeAt_12 : decode prog_8_method_5_code 12 = .ok (.aload_n 0, 1) := by decide +kernel
theorem d_Q_codeAt_13 : decode prog_8_method_5_code 13 = .ok (.iload_n 1, 1) := by decide +kernel
theorem d_Q_codeAt_14 : decode prog_8_method_5_code 14 = .ok (.iconst 1, 1) := by decide +kernel
theorem d_Q_codeAt_15 : decode prog_8_method_5_code 15 = .ok (.iadd, 1) := by decide +kernel
theorem d_Q_codeAt_16 : decode prog_8_method_5_code 16 = .ok (.invokevirtual 47, 3) := by decide +kernel
theorem d_Q_codeAt_19 : decode prog_8_method_5_code 19 = .ok (.invokestatic 96, 3) := by decide +kernel
theorem d_Q_codeAt_22 : decode prog_8_method_5_code 22 = .ok (.istore_n 2, 1) := by decide +kernel
theorem d_Q_codeAt_23 : decode prog_8_method_5_code 23 = .ok (.aload_n 0, 1) := by decide +kernel
theorem d_Q_codeAt_24 : decode prog_8_method_5_code 24 = .ok (.iload_n 1, 1) := by decide +kernel
theorem d_Q_codeAt_25 : decode prog_8_method_5_code 25 = .ok (.iconst 2, 1) := by decide +kernel
theorem d_Q_codeAt_26 : decode prog_8_method_5_code 26 = .ok (.iadd, 1) := by decide +kernel
theorem d_Q_codeAt_27 : decode prog_8_method_5_code 27 = .ok (.invokevirtual 47, 3) := by decide +kernel
theorem d_Q_codeAt_30 : decode prog_8_method_5_code 30 = .ok (.invokestatic 96, 3) := by decide +kernel
theorem d_Q_codeAt_33 : decode prog_8_method_5_code 33 = .ok (.istore_n 3, 1) := by decide +kernel
theorem d_Q_codeAt_34 : decode prog_8_method_5_code 34 = .ok (.iload_n 2, 1) := by decide +kernel
theorem d_Q_codeAt_35 : decode prog_8_method_5_code 35 = .ok (.ifCond .lt 7, 3) := by decide +kernel
theorem d_Q_codeAt_38 : decode prog_8_method_5_code 38 = .ok (.iload_n 3, 1) := by decide +kernel
theorem d_Q_codeAt_39 : decode prog_8_method_5_code 39 = .ok (.ifCond .ge 7, 3) := by decide +kernel
theorem d_Q_codeAt_42 : decode prog_8_method_5_code 42 = .ok (.iconst (-1), 1) := by decide +kernel
theorem d_Q_codeAt_43 : decode prog_8_method_5_code 43 = .ok (.goto 9, 3) := by decide +kernel
theorem d_Q_codeAt_46 : decode prog_8_method_5_code 46 = .ok (.bipush 16, 2) := by decide +kernel
theorem d_Q_codeAt_48 : decode prog_8_method_5_code 48 = .ok (.iload_n 2, 1) := by decide +kernel
theorem d_Q_codeAt_49 : decode prog_8_method_5_code 49 = .ok (.imul, 1) := by decide +kernel
theorem d_Q_codeAt_50 : decode prog_8_method_5_code 50 = .ok (.iload_n 3, 1) := by decide +kernel
theorem d_Q_codeAt_51 : decode prog_8_method_5_code 51 = .ok (.iadd, 1) := by decide +kernel
theorem d_Q_codeAt_52 : decode prog_8_method_5_code 52 = .ok (.ireturn, 1) := by decide +kernel
def wp_Q_codeAt (p0 : Option Nat) (p1 : Int32) (A : ab_H) (Q : Int32 → ab_H → Prop) : Prop := wj_ST_length A p0  (fun x1 => if (p1 + (2 : Int32)) < x1 then (wj_ST_charAt A p0 (p1 + (1 : Int32)) (fun x2 => wp_X_hexDigit x2 A (fun x3 A => wj_ST_charAt A p0 (p1 + (2 : Int32)) (fun x4 => wp_X_hexDigit x4 A (fun x5 A => if x3 < 0 then (Q ((-1) : Int32) A) else (if 0 ≤ x5 then (Q (((16 : Int32) * x3) + x5) A) else (Q ((-1) : Int32) A))))))) else (Q ((-1) : Int32) A))
set_option maxRecDepth 100000 in
set_option maxHeartbeats 4000000 in
theorem sd_Q_codeAt {l : Launch} {G : mm_G} {h : mm_H} {A : ab_H} {p0 : Option Nat} {p1 : Int32} {Q : Int32 → ab_H → Prop} (hV : Vw G h A) (hw : wp_Q_codeAt p0 p1 A Q) : mm_S l G M_Q_codeAt [va_rf p0, .int p1] h 0 0 (wQI G Q) := by
  unfold wp_Q_codeAt at hw
  refine mm_start rfl (by simp [mm_as, wr_cat, wr_catI, wr_catJ, wr_catN]) ?_
  rw [show mm_en [va_rf p0, .int p1] M_Q_codeAt.2.2.1 = [some (va_rf p0), some (.int p1), none, none] from by simp [mm_en, mm_as, wr_cat, wr_catI, wr_catJ, wr_catN]]
  show mm_V l G M_Q_codeAt 0 0 0 [some (va_rf p0), some (.int p1), none, none] [] h _
  refine mm_iload_n (pc' := 1) d_Q_codeAt_0 rfl rfl rfl ?_
  refine mm_iconst (v := 2) (pc' := 2) d_Q_codeAt_1 rfl (by decide) ?_
  refine mm_iadd (pc' := 3) d_Q_codeAt_2 rfl ?_
  refine wr_aload_n p0 (pc' := 4) d_Q_codeAt_3 rfl rfl rfl ?_
  refine wr_ST_length hV hw (pc' := 7) d_Q_codeAt_4 rfl cs_Q_22 (Nat.le_of_ble_eq_true rfl) (Nat.le_of_ble_eq_true rfl) (fun x1 hw => ?_)
  refine wr_icmp_lt hw (pc' := 10) d_Q_codeAt_7 rfl rfl (fun hw => ?_) (fun hw => ?_)
  · refine wr_aload_n p0 (pc' := 13) d_Q_codeAt_12 rfl rfl rfl ?_
    refine mm_iload_n (pc' := 14) d_Q_codeAt_13 rfl rfl rfl ?_
    refine mm_iconst (v := 1) (pc' := 15) d_Q_codeAt_14 rfl (by decide) ?_
    refine mm_iadd (pc' := 16) d_Q_codeAt_15 rfl ?_
    refine wr_ST_charAt hV hw (pc' := 19) d_Q_codeAt_16 rfl cs_Q_47 (Nat.le_of_ble_eq_true rfl) (Nat.le_of_ble_eq_true rfl) (fun x2 hw => ?_)
    refine wr_cSI (pc' := 22) (as := [.int x2]) (st := []) d_Q_codeAt_19 rfl cs_Q_96 (sd_X_hexDigit hV hw) rfl rfl (Nat.le_of_ble_eq_true rfl) (Nat.le_of_ble_eq_true rfl) (fun x3 h A hV hw => ?_)
    refine mm_ist2 (pc' := 23) d_Q_codeAt_22 rfl rfl (Nat.le_of_ble_eq_true rfl) ?_
    refine wr_aload_n p0 (pc' := 24) d_Q_codeAt_23 rfl rfl rfl ?_
    refine mm_iload_n (pc' := 25) d_Q_codeAt_24 rfl rfl rfl ?_
    refine mm_iconst (v := 2) (pc' := 26) d_Q_codeAt_25 rfl (by decide) ?_
    refine mm_iadd (pc' := 27) d_Q_codeAt_26 rfl ?_
    refine wr_ST_charAt hV hw (pc' := 30) d_Q_codeAt_27 rfl cs_Q_47 (Nat.le_of_ble_eq_true rfl) (Nat.le_of_ble_eq_true rfl) (fun x4 hw => ?_)
    refine wr_cSI (pc' := 33) (as := [.int x4]) (st := []) d_Q_codeAt_30 rfl cs_Q_96 (sd_X_hexDigit hV hw) rfl rfl (Nat.le_of_ble_eq_true rfl) (Nat.le_of_ble_eq_true rfl) (fun x5 h A hV hw => ?_)
    refine mm_ist3 (pc' := 34) d_Q_codeAt_33 rfl rfl (Nat.le_of_ble_eq_true rfl) ?_
    refine mm_iload_n (pc' := 35) d_Q_codeAt_34 rfl rfl rfl ?_
    refine wr_if_lt hw (pc' := 38) d_Q_codeAt_35 rfl rfl (fun hw => ?_) (fun hw => ?_)
    · refine mm_iconst (v := (-1)) (pc' := 43) d_Q_codeAt_42 rfl (by decide) ?_
      refine mm_goto (tgt := 52) d_Q_codeAt_43 rfl ?_
      exact wr_iret hV d_Q_codeAt_52 rfl rfl hw
    · refine mm_iload_n (pc' := 39) d_Q_codeAt_38 rfl rfl rfl ?_
      refine wr_if_ge hw (pc' := 42) d_Q_codeAt_39 rfl rfl (fun hw => ?_) (fun hw => ?_)
      · refine mm_bipush (v := 16) (pc' := 48) d_Q_codeAt_46 rfl (by decide) ?_
        refine mm_iload_n (pc' := 49) d_Q_codeAt_48 rfl rfl rfl ?_
        refine mm_imul (pc' := 50) d_Q_codeAt_49 rfl ?_
        refine mm_iload_n (pc' := 51) d_Q_codeAt_50 rfl rfl rfl ?_
        refine mm_iadd (pc' := 52) d_Q_codeAt_51 rfl ?_
        exact wr_iret hV d_Q_codeAt_52 rfl rfl hw
      · refine mm_iconst (v := (-1)) (pc' := 43) d_Q_codeAt_42 rfl (by decide) ?_
        refine mm_goto (tgt := 52) d_Q_codeAt_43 rfl ?_
        exact wr_iret hV d_Q_codeAt_52 rfl rfl hw
  · refine mm_iconst (v := (-1)) (pc' := 11) d_Q_codeAt_10 rfl (by decide) ?_
    exact wr_iret hV d_Q_codeAt_11 rfl rfl hw
theorem d_Q_hasGoodCodes_0 : decode prog_8_method_4_code 0 = .ok (.iconst 0, 1) := by decide +kernel
theorem d_Q_hasGoodCodes_1 : decode prog_8_method_4_code 1 = .ok (.istore_n 1, 1) := by decide +kernel
theorem d_Q_hasGoodCodes_2 : decode prog_8_method_4_code 2 = .ok (.iload_n 1, 1) := by decide +kernel
theorem d_Q_hasGoodCodes_3 : decode prog_8_method_4_code 3 = .ok (.aload_n 0, 1) := by decide +kernel
theorem d_Q_hasGoodCodes_4 : decode prog_8_method_4_code 4 = .ok (.invokevirtual 22, 3) := by decide +kernel
theorem d_Q_hasGoodCodes_7 : decode prog_8_method_4_code 7 = .ok (.if_icmp .ge 32, 3) := by decide +kernel
theorem d_Q_hasGoodCodes_10 : decode prog_8_method_4_code 10 = .ok (.aload_n 0, 1) := by decide +kernel
theorem d_Q_hasGoodCodes_11 : decode prog_8_method_4_code 11 = .ok (.iload_n 1, 1) := by decide +kernel
theorem d_Q_hasGoodCodes_12 : decode prog_8_method_4_code 12 = .ok (.invokevirtual 47, 3) := by decide +kernel
theorem d_Q_hasGoodCodes_15 : decode prog_8_method_4_code 15 = .ok (.bipush 37, 2) := by decide +kernel
theorem d_Q_hasGoodCodes_17 : decode prog_8_method_4_code 17 = .ok (.if_icmp .ne 16, 3) := by decide +kernel
theorem d_Q_hasGoodCodes_20 : decode prog_8_method_4_code 20 = .ok (.aload_n 0, 1) := by decide +kernel
theorem d_Q_hasGoodCodes_21 : decode prog_8_method_4_code 21 = .ok (.iload_n 1, 1) := by decide +kernel
theorem d_Q_hasGoodCodes_22 : decode prog_8_method_4_code 22 = .ok (.invokestatic 89, 3) := by decide +kernel
theorem d_Q_hasGoodCodes_25 : decode prog_8_method_4_code 25 = .ok (.invokestatic 93, 3) := by decide +kernel
theorem d_Q_hasGoodCodes_28 : decode prog_8_method_4_code 28 = .ok (.ifCond .ne 5, 3) := by decide +kernel
theorem d_Q_hasGoodCodes_31 : decode prog_8_method_4_code 31 = .ok (.iconst 0, 1) := by decide +kernel
theorem d_Q_hasGoodCodes_32 : decode prog_8_method_4_code 32 = .ok (.ireturn, 1) := by decide +kernel
theorem d_Q_hasGoodCodes_33 : decode prog_8_method_4_code 33 = .ok (.iinc 1 1, 3) := by decide +kernel
theorem d_Q_hasGoodCodes_36 : decode prog_8_method_4_code 36 = .ok (.goto (-34), 3) := by decide +kernel
theorem d_Q_hasGoodCodes_39 : decode prog_8_method_4_code 39 = .ok (.iconst 1, 1) := by decide +kernel
theorem d_Q_hasGoodCodes_40 : decode prog_8_method_4_code 40 = .ok (.ireturn, 1) := by decide +kernel
def wb_Q_hasGoodCodes_2 (p0 : Option Nat) (Q : Int32 → ab_H → Prop)  (k2 : Int32 → ab_H → Prop) (u1 : Int32) (A : ab_H) : Prop := wj_ST_length A p0  (fun x1 => if x1 ≤ u1 then (Q (1 : Int32) A) else (wj_ST_charAt A p0 u1 (fun x2 => if x2 = (37 : Int32) then (wp_Q_codeAt p0 u1 A (fun x3 A => wp_X_isPlain x3 A (fun x4 A => if x4 = 0 then (Q (0 : Int32) A) else (k2 (u1 + 1) A)))) else (k2 (u1 + 1) A))))
def wq_Q_hasGoodCodes_2 (p0 : Option Nat) (Q : Int32 → ab_H → Prop)  : Nat → Int32 → ab_H → Prop
  | 0 => fun _ _ => False
  | n + 1 => wb_Q_hasGoodCodes_2 p0 Q  (wq_Q_hasGoodCodes_2 p0 Q  n)
set_option maxRecDepth 100000 in
set_option maxHeartbeats 4000000 in
theorem sq_Q_hasGoodCodes_2 {l : Launch} {G : mm_G} {p0 : Option Nat} {Q : Int32 → ab_H → Prop}   : ∀ (n : Nat) (u1 : Int32) (A : ab_H) (h : mm_H), Vw G h A → wq_Q_hasGoodCodes_2 p0 Q  n u1 A → mm_V l G M_Q_hasGoodCodes 0 0 2 [some (va_rf p0), some (.int u1)] [] h (wQI G Q) := by
  intro n
  induction n with
  | zero =>
    intro u1 A h hV hw
    exact absurd hw id
  | succ n hk2 =>
    intro u1 A h hV hw
    have hw : wb_Q_hasGoodCodes_2 p0 Q  (wq_Q_hasGoodCodes_2 p0 Q  n) u1 A := hw
    unfold wb_Q_hasGoodCodes_2 at hw
    refine mm_iload_n (pc' := 3) d_Q_hasGoodCodes_2 rfl rfl rfl ?_
    refine wr_aload_n p0 (pc' := 4) d_Q_hasGoodCodes_3 rfl rfl rfl ?_
    refine wr_ST_length hV hw (pc' := 7) d_Q_hasGoodCodes_4 rfl cs_Q_22 (Nat.le_of_ble_eq_true rfl) (Nat.le_of_ble_eq_true rfl) (fun x1 hw => ?_)
    refine wr_icmp_ge hw (pc' := 10) d_Q_hasGoodCodes_7 rfl rfl (fun hw => ?_) (fun hw => ?_)
    · refine mm_iconst (v := 1) (pc' := 40) d_Q_hasGoodCodes_39 rfl (by decide) ?_
      exact wr_iret hV d_Q_hasGoodCodes_40 rfl rfl hw
    · refine wr_aload_n p0 (pc' := 11) d_Q_hasGoodCodes_10 rfl rfl rfl ?_
      refine mm_iload_n (pc' := 12) d_Q_hasGoodCodes_11 rfl rfl rfl ?_
      refine wr_ST_charAt hV hw (pc' := 15) d_Q_hasGoodCodes_12 rfl cs_Q_47 (Nat.le_of_ble_eq_true rfl) (Nat.le_of_ble_eq_true rfl) (fun x2 hw => ?_)
      refine mm_bipush (v := 37) (pc' := 17) d_Q_hasGoodCodes_15 rfl (by decide) ?_
      refine wr_icmp_ne hw (pc' := 20) d_Q_hasGoodCodes_17 rfl rfl (fun hw => ?_) (fun hw => ?_)
      · refine mm_iinc1 (v := (u1 + 1)) (pc' := 36) d_Q_hasGoodCodes_33 rfl (wr_2 _) rfl (Nat.le_of_ble_eq_true rfl) ?_
        refine mm_goto (tgt := 2) d_Q_hasGoodCodes_36 rfl ?_
        exact mm_drop (mm_le.s (mm_le.s mm_le.e)) (hk2 _ _ _ hV hw)
      · refine wr_aload_n p0 (pc' := 21) d_Q_hasGoodCodes_20 rfl rfl rfl ?_
        refine mm_iload_n (pc' := 22) d_Q_hasGoodCodes_21 rfl rfl rfl ?_
        refine wr_cSI (pc' := 25) (as := [va_rf p0, .int u1]) (st := []) d_Q_hasGoodCodes_22 rfl cs_Q_89 (sd_Q_codeAt hV hw) rfl rfl (Nat.le_of_ble_eq_true rfl) (Nat.le_of_ble_eq_true rfl) (fun x3 h A hV hw => ?_)
        refine wr_cSI (pc' := 28) (as := [.int x3]) (st := []) d_Q_hasGoodCodes_25 rfl cs_Q_93 (sd_X_isPlain hV hw) rfl rfl (Nat.le_of_ble_eq_true rfl) (Nat.le_of_ble_eq_true rfl) (fun x4 h A hV hw => ?_)
        refine wr_if_ne hw (pc' := 31) d_Q_hasGoodCodes_28 rfl rfl (fun hw => ?_) (fun hw => ?_)
        · refine mm_iinc1 (v := (u1 + 1)) (pc' := 36) d_Q_hasGoodCodes_33 rfl (wr_2 _) rfl (Nat.le_of_ble_eq_true rfl) ?_
          refine mm_goto (tgt := 2) d_Q_hasGoodCodes_36 rfl ?_
          exact mm_drop (mm_le.s (mm_le.s mm_le.e)) (hk2 _ _ _ hV hw)
        · refine mm_iconst (v := 0) (pc' := 32) d_Q_hasGoodCodes_31 rfl (by decide) ?_
          exact wr_iret hV d_Q_hasGoodCodes_32 rfl rfl hw
def wp_Q_hasGoodCodes (p0 : Option Nat) (A : ab_H) (Q : Int32 → ab_H → Prop) : Prop := ∃ n, wq_Q_hasGoodCodes_2 p0 Q n (0 : Int32) A
set_option maxRecDepth 100000 in
set_option maxHeartbeats 4000000 in
theorem sd_Q_hasGoodCodes {l : Launch} {G : mm_G} {h : mm_H} {A : ab_H} {p0 : Option Nat} {Q : Int32 → ab_H → Prop} (hV : Vw G h A) (hw : wp_Q_hasGoodCodes p0 A Q) : mm_S l G M_Q_hasGoodCodes [va_rf p0] h 0 0 (wQI G Q) := by
  unfold wp_Q_hasGoodCodes at hw
  refine mm_start rfl (by simp [mm_as, wr_cat, wr_catI, wr_catJ, wr_catN]) ?_
  rw [show mm_en [va_rf p0] M_Q_hasGoodCodes.2.2.1 = [some (va_rf p0), none] from by simp [mm_en, mm_as, wr_cat, wr_catI, wr_catJ, wr_catN]]
  show mm_V l G M_Q_hasGoodCodes 0 0 0 [some (va_rf p0), none] [] h _
  refine mm_iconst (v := 0) (pc' := 1) d_Q_hasGoodCodes_0 rfl (by decide) ?_
  refine mm_ist1 (pc' := 2) d_Q_hasGoodCodes_1 rfl (wr_2 _) (Nat.le_of_ble_eq_true rfl) ?_
  obtain ⟨n, hw⟩ := hw
  exact mm_drop (mm_le.s (mm_le.s mm_le.e)) (sq_Q_hasGoodCodes_2  n _ _ _ hV hw)
theorem d_Q_decode_0 : decode prog_8_method_6_code 0 = .ok (.aload_n 0, 1) := by decide +kernel
theorem d_Q_decode_1 : decode prog_8_method_6_code 1 = .ok (.getfield 10, 3) := by decide +kernel
theorem d_Q_decode_4 : decode prog_8_method_6_code 4 = .ok (.iconst 0, 1) := by decide +kernel
theorem d_Q_decode_5 : decode prog_8_method_6_code 5 = .ok (.invokevirtual 99, 3) := by decide +kernel
theorem d_Q_decode_8 : decode prog_8_method_6_code 8 = .ok (.iconst 0, 1) := by decide +kernel
theorem d_Q_decode_9 : decode prog_8_method_6_code 9 = .ok (.istore_n 2, 1) := by decide +kernel
theorem d_Q_decode_10 : decode prog_8_method_6_code 10 = .ok (.iload_n 2, 1) := by decide +kernel
theorem d_Q_decode_11 : decode prog_8_method_6_code 11 = .ok (.aload_n 1, 1) := by decide +kernel
theorem d_Q_decode_12 : decode prog_8_method_6_code 12 = .ok (.invokevirtual 22, 3) := by decide +kernel
theorem d_Q_decode_15 : decode prog_8_method_6_code 15 = .ok (.if_icmp .ge 50, 3) := by decide +kernel
theorem d_Q_decode_18 : decode prog_8_method_6_code 18 = .ok (.aload_n 1, 1) := by decide +kernel
theorem d_Q_decode_19 : decode prog_8_method_6_code 19 = .ok (.iload_n 2, 1) := by decide +kernel
theorem d_Q_decode_20 : decode prog_8_method_6_code 20 = .ok (.invokevirtual 47, 3) := by decide +kernel
theorem d_Q_decode_23 : decode prog_8_method_6_code 23 = .ok (.istore_n 3, 1) := by decide +kernel
theorem d_Q_decode_24 : decode prog_8_method_6_code 24 = .ok (.iload_n 3, 1) := by decide +kernel
theorem d_Q_decode_25 : decode prog_8_method_6_code 25 = .ok (.bipush 37, 2) := by decide +kernel
theorem d_Q_decode_27 : decode prog_8_method_6_code 27 = .ok (.if_icmp .ne 23, 3) := by decide +kernel
theorem d_Q_decode_30 : decode prog_8_method_6_code 30 = .ok (.aload_n 0, 1) := by decide +kernel
theorem d_Q_decode_31 : decode prog_8_method_6_code 31 = .ok (.getfield 10, 3) := by decide +kernel
theorem d_Q_decode_34 : decode prog_8_method_6_code 34 = .ok (.aload_n 1, 1) := by decide +kernel
theorem d_Q_decode_35 : decode prog_8_method_6_code 35 = .ok (.iload_n 2, 1) := by decide +kernel
theorem d_Q_decode_36 : decode prog_8_method_6_code 36 = .ok (.invokestatic 89, 3) := by decide +kernel
theorem d_Q_decode_39 : decode prog_8_method_6_code 39 = .ok (.i2c, 1) := by decide +kernel
theorem d_Q_decode_40 : decode prog_8_method_6_code 40 = .ok (.invokevirtual 103, 3) := by decide +kernel
theorem d_Q_decode_43 : decode prog_8_method_6_code 43 = .ok (.pop, 1) := by decide +kernel
theorem d_Q_decode_44 : decode prog_8_method_6_code 44 = .ok (.iinc 2 2, 3) := by decide +kernel
theorem d_Q_decode_47 : decode prog_8_method_6_code 47 = .ok (.goto 12, 3) := by decide +kernel
theorem d_Q_decode_50 : decode prog_8_method_6_code 50 = .ok (.aload_n 0, 1) := by decide +kernel
theorem d_Q_decode_51 : decode prog_8_method_6_code 51 = .ok (.getfield 10, 3) := by decide +kernel
theorem d_Q_decode_54 : decode prog_8_method_6_code 54 = .ok (.iload_n 3, 1) := by decide +kernel
theorem d_Q_decode_55 : decode prog_8_method_6_code 55 = .ok (.invokevirtual 103, 3) := by decide +kernel
theorem d_Q_decode_58 : decode prog_8_method_6_code 58 = .ok (.pop, 1) := by decide +kernel
theorem d_Q_decode_59 : decode prog_8_method_6_code 59 = .ok (.iinc 2 1, 3) := by decide +kernel
theorem d_Q_decode_62 : decode prog_8_method_6_code 62 = .ok (.goto (-52), 3) := by decide +kernel
theorem d_Q_decode_65 : decode prog_8_method_6_code 65 = .ok (.aload_n 0, 1) := by decide +kernel
theorem d_Q_decode_66 : decode prog_8_method_6_code 66 = .ok (.getfield 10, 3) := by decide +kernel
theorem d_Q_decode_69 : decode prog_8_method_6_code 69 = .ok (.invokevirtual 107, 3) := by decide +kernel
theorem d_Q_decode_72 : decode prog_8_method_6_code 72 = .ok (.areturn, 1) := by decide +kernel
def wq_Q_decode_65 (a : Nat) (p0 : Option Nat) (Q : Option Nat → ab_H → Prop)   (A : ab_H) (kc ks : Nat) : Prop := wgR A (some a) 6 0 (fun r1 => wj_SB_toString A kc ks r1  (fun r2 A kc ks => Q r2 A))
set_option maxRecDepth 100000 in
set_option maxHeartbeats 4000000 in
theorem sq_Q_decode_65 {l : Launch} {G : mm_G} {a : Nat} {p0 : Option Nat} {Q : Option Nat → ab_H → Prop}   : ∀ (A : ab_H) (kc ks : Nat) (h : mm_H), Vw G h A → wq_Q_decode_65 a p0 Q  A kc ks → mm_V l G M_Q_decode kc ks 65 [some (va_rf (some a)), some (va_rf p0), none, none] [] h (wQR G Q) := by
  intro A kc ks h hV hw
  unfold wq_Q_decode_65 at hw
  refine wr_aload_n (some a) (pc' := 66) d_Q_decode_65 rfl rfl rfl ?_
  refine wr_getR hV hw (pc' := 69) d_Q_decode_66 rfl fl_Q_10 (fun r1 hw => ?_)
  refine wr_SB_toString hV hw (pc' := 72) d_Q_decode_69 rfl cs_Q_107 (Nat.le_of_ble_eq_true rfl) (Nat.le_of_ble_eq_true rfl) (fun r2 h A kc ks hV hw => ?_)
  exact wr_aret hV d_Q_decode_72 rfl (by first | exact Or.inl ⟨_, rfl⟩ | exact Or.inr ⟨_, rfl⟩) hw
def wb_Q_decode_10 (a : Nat) (p0 : Option Nat) (Q : Option Nat → ab_H → Prop)  (k10 : Int32 → ab_H → Nat → Nat → Prop) (u2 : Int32) (A : ab_H) (kc ks : Nat) : Prop := wj_ST_length A p0  (fun x3 => if x3 ≤ u2 then (wq_Q_decode_65 a p0 Q A kc ks) else (wj_ST_charAt A p0 u2 (fun x4 => if x4 = (37 : Int32) then (wgR A (some a) 6 0 (fun r7 => wp_Q_codeAt p0 u2 A (fun x8 A => wj_SB_append_C A kc ks r7 (wch x8) (fun r9 A kc ks => k10 ((u2 + 2) + 1) A kc ks)))) else (wgR A (some a) 6 0 (fun r5 => wj_SB_append_C A kc ks r5 x4 (fun r6 A kc ks => k10 (u2 + 1) A kc ks))))))
def wq_Q_decode_10 (a : Nat) (p0 : Option Nat) (Q : Option Nat → ab_H → Prop)  : Nat → Int32 → ab_H → Nat → Nat → Prop
  | 0 => fun _ _ _ _ => False
  | n + 1 => wb_Q_decode_10 a p0 Q  (wq_Q_decode_10 a p0 Q  n)
set_option maxRecDepth 100000 in
set_option maxHeartbeats 4000000 in
theorem sq_Q_decode_10 {l : Launch} {G : mm_G} {a : Nat} {p0 : Option Nat} {Q : Option Nat → ab_H → Prop}   : ∀ (n : Nat) (u2 : Int32) (A : ab_H) (kc ks : Nat) (h : mm_H), Vw G h A → wq_Q_decode_10 a p0 Q  n u2 A kc ks → mm_V l G M_Q_decode kc ks 10 [some (va_rf (some a)), some (va_rf p0), some (.int u2), none] [] h (wQR G Q) := by
  intro n
  induction n with
  | zero =>
    intro u2 A kc ks h hV hw
    exact absurd hw id
  | succ n hk10 =>
    intro u2 A kc ks h hV hw
    have hw : wb_Q_decode_10 a p0 Q  (wq_Q_decode_10 a p0 Q  n) u2 A kc ks := hw
    unfold wb_Q_decode_10 at hw
    refine mm_iload_n (pc' := 11) d_Q_decode_10 rfl rfl rfl ?_
    refine wr_aload_n p0 (pc' := 12) d_Q_decode_11 rfl rfl rfl ?_
    refine wr_ST_length hV hw (pc' := 15) d_Q_decode_12 rfl cs_Q_22 (Nat.le_of_ble_eq_true rfl) (Nat.le_of_ble_eq_true rfl) (fun x3 hw => ?_)
    refine wr_icmp_ge hw (pc' := 18) d_Q_decode_15 rfl rfl (fun hw => ?_) (fun hw => ?_)
    · exact mm_drop (mm_le.s (mm_le.s (mm_le.n (mm_le.n mm_le.e)))) (sq_Q_decode_65  _ _ _ _ hV hw)
    · refine wr_aload_n p0 (pc' := 19) d_Q_decode_18 rfl rfl rfl ?_
      refine mm_iload_n (pc' := 20) d_Q_decode_19 rfl rfl rfl ?_
      refine wr_ST_charAt hV hw (pc' := 23) d_Q_decode_20 rfl cs_Q_47 (Nat.le_of_ble_eq_true rfl) (Nat.le_of_ble_eq_true rfl) (fun x4 hw => ?_)
      refine mm_ist3 (pc' := 24) d_Q_decode_23 rfl rfl (Nat.le_of_ble_eq_true rfl) ?_
      refine mm_iload_n (pc' := 25) d_Q_decode_24 rfl rfl rfl ?_
      refine mm_bipush (v := 37) (pc' := 27) d_Q_decode_25 rfl (by decide) ?_
      refine wr_icmp_ne hw (pc' := 30) d_Q_decode_27 rfl rfl (fun hw => ?_) (fun hw => ?_)
      · refine wr_aload_n (some a) (pc' := 51) d_Q_decode_50 rfl rfl rfl ?_
        refine wr_getR hV hw (pc' := 54) d_Q_decode_51 rfl fl_Q_10 (fun r5 hw => ?_)
        refine mm_iload_n (pc' := 55) d_Q_decode_54 rfl rfl rfl ?_
        refine wr_SB_append_C hV hw (pc' := 58) d_Q_decode_55 rfl cs_Q_103 (Nat.le_of_ble_eq_true rfl) (Nat.le_of_ble_eq_true rfl) (fun r6 h A kc ks hV hw => ?_)
        refine mm_pop (pc' := 59) d_Q_decode_58 rfl (wr_cat _) ?_
        refine mm_iinc2 (v := (u2 + 1)) (pc' := 62) d_Q_decode_59 rfl (wr_2 _) rfl (Nat.le_of_ble_eq_true rfl) ?_
        refine mm_goto (tgt := 10) d_Q_decode_62 rfl ?_
        exact mm_drop (mm_le.s (mm_le.s (mm_le.s (mm_le.n mm_le.e)))) (hk10 _ _ _ _ _ hV hw)
      · refine wr_aload_n (some a) (pc' := 31) d_Q_decode_30 rfl rfl rfl ?_
        refine wr_getR hV hw (pc' := 34) d_Q_decode_31 rfl fl_Q_10 (fun r7 hw => ?_)
        refine wr_aload_n p0 (pc' := 35) d_Q_decode_34 rfl rfl rfl ?_
        refine mm_iload_n (pc' := 36) d_Q_decode_35 rfl rfl rfl ?_
        refine wr_cSI (pc' := 39) (as := [va_rf p0, .int u2]) (st := [va_rf r7]) d_Q_decode_36 rfl cs_Q_89 (sd_Q_codeAt hV hw) rfl rfl (Nat.le_of_ble_eq_true rfl) (Nat.le_trans (wr_hR wr_h0) (Nat.le_of_ble_eq_true rfl)) (fun x8 h A hV hw => ?_)
        refine mm_i2c (v := wch x8) (pc' := 40) d_Q_decode_39 rfl rfl ?_
        refine wr_SB_append_C hV hw (pc' := 43) d_Q_decode_40 rfl cs_Q_103 (Nat.le_of_ble_eq_true rfl) (Nat.le_of_ble_eq_true rfl) (fun r9 h A kc ks hV hw => ?_)
        refine mm_pop (pc' := 44) d_Q_decode_43 rfl (wr_cat _) ?_
        refine mm_iinc2 (v := (u2 + 2)) (pc' := 47) d_Q_decode_44 rfl (wr_2 _) rfl (Nat.le_of_ble_eq_true rfl) ?_
        refine mm_goto (tgt := 59) d_Q_decode_47 rfl ?_
        refine mm_iinc2 (v := ((u2 + 2) + 1)) (pc' := 62) d_Q_decode_59 rfl (wr_2 _) rfl (Nat.le_of_ble_eq_true rfl) ?_
        refine mm_goto (tgt := 10) d_Q_decode_62 rfl ?_
        exact mm_drop (mm_le.s (mm_le.s (mm_le.s (mm_le.n mm_le.e)))) (hk10 _ _ _ _ _ hV hw)
def wp_Q_decode (a : Nat) (p0 : Option Nat) (A : ab_H) (kc ks : Nat) (Q : Option Nat → ab_H → Prop) : Prop := wgR A (some a) 6 0 (fun r10 => wj_SB_setLength A kc ks r10 (0 : Int32) (fun A kc ks => ∃ n, wq_Q_decode_10 a p0 Q n (0 : Int32) A kc ks))
set_option maxRecDepth 100000 in
set_option maxHeartbeats 4000000 in
theorem sd_Q_decode {l : Launch} {G : mm_G} {h : mm_H} {A : ab_H} {a : Nat} {p0 : Option Nat} {kc ks : Nat} {Q : Option Nat → ab_H → Prop} (hV : Vw G h A) (hw : wp_Q_decode a p0 A kc ks Q) : mm_S l G M_Q_decode [.ref a, va_rf p0] h kc ks (wQR G Q) := by
  unfold wp_Q_decode at hw
  refine mm_start rfl (by simp [mm_as, wr_cat, wr_catI, wr_catJ, wr_catN]) ?_
  rw [show mm_en [.ref a, va_rf p0] M_Q_decode.2.2.1 = [some (.ref a), some (va_rf p0), none, none] from by simp [mm_en, mm_as, wr_cat, wr_catI, wr_catJ, wr_catN]]
  show mm_V l G M_Q_decode kc ks 0 [some (va_rf (some a)), some (va_rf p0), none, none] [] h _
  refine wr_aload_n (some a) (pc' := 1) d_Q_decode_0 rfl rfl rfl ?_
  refine wr_getR hV hw (pc' := 4) d_Q_decode_1 rfl fl_Q_10 (fun r10 hw => ?_)
  refine mm_iconst (v := 0) (pc' := 5) d_Q_decode_4 rfl (by decide) ?_
  refine wr_SB_setLength hV hw (pc' := 8) d_Q_decode_5 rfl cs_Q_99 (Nat.le_of_ble_eq_true rfl) (Nat.le_of_ble_eq_true rfl) (fun h A kc ks hV hw => ?_)
  refine mm_iconst (v := 0) (pc' := 9) d_Q_decode_8 rfl (by decide) ?_
  refine mm_ist2 (pc' := 10) d_Q_decode_9 rfl (wr_2 _) (Nat.le_of_ble_eq_true rfl) ?_
  obtain ⟨n, hw⟩ := hw
  exact mm_drop (mm_le.s (mm_le.s (mm_le.s (mm_le.n mm_le.e)))) (sq_Q_decode_10  n _ _ _ _ _ hV hw)
theorem d_Q_readParameters_0 : decode prog_8_method_7_code 0 = .ok (.iconst 0, 1) := by decide +kernel
theorem d_Q_readParameters_1 : decode prog_8_method_7_code 1 = .ok (.istore_n 3, 1) := by decide +kernel
theorem d_Q_readParameters_2 : decode prog_8_method_7_code 2 = .ok (.iconst 0, 1) := by decide +kernel
theorem d_Q_readParameters_3 : decode prog_8_method_7_code 3 = .ok (.istore 4, 2) := by decide +kernel
theorem d_Q_readParameters_5 : decode prog_8_method_7_code 5 = .ok (.iload 4, 2) := by decide +kernel
theorem d_Q_readParameters_7 : decode prog_8_method_7_code 7 = .ok (.aload_n 1, 1) := by decide +kernel
theorem d_Q_readParameters_8 : decode prog_8_method_7_code 8 = .ok (.invokevirtual 22, 3) := by decide +kernel
theorem d_Q_readParameters_11 : decode prog_8_method_7_code 11 = .ok (.if_icmp .gt 138, 3) := by decide +kernel
theorem d_Q_readParameters_14 : decode prog_8_method_7_code 14 = .ok (.iload 4, 2) := by decide +kernel
theorem d_Q_readParameters_16 : decode prog_8_method_7_code 16 = .ok (.aload_n 1, 1) := by decide +kernel
theorem d_Q_readParameters_17 : decode prog_8_method_7_code 17 = .ok (.invokevirtual 22, 3) := by decide +kernel
theorem d_Q_readParameters_20 : decode prog_8_method_7_code 20 = .ok (.if_icmp .ge 17, 3) := by decide +kernel
theorem d_Q_readParameters_23 : decode prog_8_method_7_code 23 = .ok (.aload_n 1, 1) := by decide +kernel
theorem d_Q_readParameters_24 : decode prog_8_method_7_code 24 = .ok (.iload 4, 2) := by decide +kernel
theorem d_Q_readParameters_26 : decode prog_8_method_7_code 26 = .ok (.invokevirtual 47, 3) := by decide +kernel
theorem d_Q_readParameters_29 : decode prog_8_method_7_code 29 = .ok (.bipush 38, 2) := by decide +kernel
theorem d_Q_readParameters_31 : decode prog_8_method_7_code 31 = .ok (.if_icmp .eq 6, 3) := by decide +kernel
theorem d_Q_readParameters_34 : decode prog_8_method_7_code 34 = .ok (.goto 109, 3) := by decide +kernel
theorem d_Q_readParameters_37 : decode prog_8_method_7_code 37 = .ok (.aload_n 1, 1) := by decide +kernel
theorem d_Q_readParameters_38 : decode prog_8_method_7_code 38 = .ok (.iload_n 3, 1) := by decide +kernel
theorem d_Q_readParameters_39 : decode prog_8_method_7_code 39 = .ok (.iload 4, 2) := by decide +kernel
theorem d_Q_readParameters_41 : decode prog_8_method_7_code 41 = .ok (.invokevirtual 40, 3) := by decide +kernel
theorem d_Q_readParameters_44 : decode prog_8_method_7_code 44 = .ok (.astore 5, 2) := by decide +kernel
theorem d_Q_readParameters_46 : decode prog_8_method_7_code 46 = .ok (.aload 5, 2) := by decide +kernel
theorem d_Q_readParameters_48 : decode prog_8_method_7_code 48 = .ok (.bipush 61, 2) := by decide +kernel
theorem d_Q_readParameters_50 : decode prog_8_method_7_code 50 = .ok (.invokevirtual 16, 3) := by decide +kernel
theorem d_Q_readParameters_53 : decode prog_8_method_7_code 53 = .ok (.istore 6, 2) := by decide +kernel
theorem d_Q_readParameters_55 : decode prog_8_method_7_code 55 = .ok (.iload 6, 2) := by decide +kernel
theorem d_Q_readParameters_57 : decode prog_8_method_7_code 57 = .ok (.ifCond .ge 8, 3) := by decide +kernel
theorem d_Q_readParameters_60 : decode prog_8_method_7_code 60 = .ok (.aload 5, 2) := by decide +kernel
theorem d_Q_readParameters_62 : decode prog_8_method_7_code 62 = .ok (.goto 11, 3) := by decide +kernel
theorem d_Q_readParameters_65 : decode prog_8_method_7_code 65 = .ok (.aload 5, 2) := by decide +kernel
theorem d_Q_readParameters_67 : decode prog_8_method_7_code 67 = .ok (.iconst 0, 1) := by decide +kernel
theorem d_Q_readParameters_68 : decode prog_8_method_7_code 68 = .ok (.iload 6, 2) := by decide +kernel
theorem d_Q_readParameters_70 : decode prog_8_method_7_code 70 = .ok (.invokevirtual 40, 3) := by decide +kernel
theorem d_Q_readParameters_73 : decode prog_8_method_7_code 73 = .ok (.astore 7, 2) := by decide +kernel
theorem d_Q_readParameters_75 : decode prog_8_method_7_code 75 = .ok (.iload 6, 2) := by decide +kernel
theorem d_Q_readParameters_77 : decode prog_8_method_7_code 77 = .ok (.ifCond .ge 8, 3) := by decide +kernel
theorem d_Q_readParameters_80 : decode prog_8_method_7_code 80 = .ok (.ldc 57, 2) := by decide +kernel
theorem d_Q_readParameters_82 : decode prog_8_method_7_code 82 = .ok (.goto 12, 3) := by decide +kernel
theorem d_Q_readParameters_85 : decode prog_8_method_7_code 85 = .ok (.aload 5, 2) := by decide +kernel
theorem d_Q_readParameters_87 : decode prog_8_method_7_code 87 = .ok (.iload 6, 2) := by decide +kernel
theorem d_Q_readParameters_89 : decode prog_8_method_7_code 89 = .ok (.iconst 1, 1) := by decide +kernel
theorem d_Q_readParameters_90 : decode prog_8_method_7_code 90 = .ok (.iadd, 1) := by decide +kernel
theorem d_Q_readParameters_91 : decode prog_8_method_7_code 91 = .ok (.invokevirtual 32, 3) := by decide +kernel
theorem d_Q_readParameters_94 : decode prog_8_method_7_code 94 = .ok (.astore 8, 2) := by decide +kernel
theorem d_Q_readParameters_96 : decode prog_8_method_7_code 96 = .ok (.aload 7, 2) := by decide +kernel
theorem d_Q_readParameters_98 : decode prog_8_method_7_code 98 = .ok (.invokevirtual 43, 3) := by decide +kernel
theorem d_Q_readParameters_101 : decode prog_8_method_7_code 101 = .ok (.ifCond .ne 11, 3) := by decide +kernel
theorem d_Q_readParameters_104 : decode prog_8_method_7_code 104 = .ok (.aload_n 2, 1) := by decide +kernel
theorem d_Q_readParameters_105 : decode prog_8_method_7_code 105 = .ok (.invokevirtual 111, 3) := by decide +kernel
theorem d_Q_readParameters_108 : decode prog_8_method_7_code 108 = .ok (.iconst 4, 1) := by decide +kernel
theorem d_Q_readParameters_109 : decode prog_8_method_7_code 109 = .ok (.if_icmp .lt 5, 3) := by decide +kernel
theorem d_Q_readParameters_112 : decode prog_8_method_7_code 112 = .ok (.iconst 0, 1) := by decide +kernel
theorem d_Q_readParameters_113 : decode prog_8_method_7_code 113 = .ok (.ireturn, 1) := by decide +kernel
theorem d_Q_readParameters_114 : decode prog_8_method_7_code 114 = .ok (.aload_n 2, 1) := by decide +kernel
theorem d_Q_readParameters_115 : decode prog_8_method_7_code 115 = .ok (.new 55, 3) := by decide +kernel
theorem d_Q_readParameters_118 : decode prog_8_method_7_code 118 = .ok (.dup, 1) := by decide +kernel
theorem d_Q_readParameters_119 : decode prog_8_method_7_code 119 = .ok (.aload_n 0, 1) := by decide +kernel
theorem d_Q_readParameters_120 : decode prog_8_method_7_code 120 = .ok (.aload 7, 2) := by decide +kernel
theorem d_Q_readParameters_122 : decode prog_8_method_7_code 122 = .ok (.invokevirtual 68, 3) := by decide +kernel
theorem d_Q_readParameters_125 : decode prog_8_method_7_code 125 = .ok (.aload_n 0, 1) := by decide +kernel
theorem d_Q_readParameters_126 : decode prog_8_method_7_code 126 = .ok (.aload 8, 2) := by decide +kernel
theorem d_Q_readParameters_128 : decode prog_8_method_7_code 128 = .ok (.invokevirtual 68, 3) := by decide +kernel
theorem d_Q_readParameters_131 : decode prog_8_method_7_code 131 = .ok (.invokespecial 59, 3) := by decide +kernel
theorem d_Q_readParameters_134 : decode prog_8_method_7_code 134 = .ok (.invokevirtual 116, 3) := by decide +kernel
theorem d_Q_readParameters_137 : decode prog_8_method_7_code 137 = .ok (.pop, 1) := by decide +kernel
theorem d_Q_readParameters_138 : decode prog_8_method_7_code 138 = .ok (.iload 4, 2) := by decide +kernel
theorem d_Q_readParameters_140 : decode prog_8_method_7_code 140 = .ok (.iconst 1, 1) := by decide +kernel
theorem d_Q_readParameters_141 : decode prog_8_method_7_code 141 = .ok (.iadd, 1) := by decide +kernel
theorem d_Q_readParameters_142 : decode prog_8_method_7_code 142 = .ok (.istore_n 3, 1) := by decide +kernel
theorem d_Q_readParameters_143 : decode prog_8_method_7_code 143 = .ok (.iinc 4 1, 3) := by decide +kernel
theorem d_Q_readParameters_146 : decode prog_8_method_7_code 146 = .ok (.goto (-141), 3) := by decide +kernel
theorem d_Q_readParameters_149 : decode prog_8_method_7_code 149 = .ok (.iconst 1, 1) := by decide +kernel
theorem d_Q_readParameters_150 : decode prog_8_method_7_code 150 = .ok (.ireturn, 1) := by decide +kernel
def wq_Q_readParameters_94 (a : Nat) (p0 : Option Nat) (p1 : Option Nat) (Q : Int32 → ab_H → Prop) (k5 : Int32 → Int32 → ab_H → Nat → Nat → Prop) (u4 : Int32) (u7 : Option Nat) (s0 : Option Nat) (A : ab_H) (kc ks : Nat) : Prop := wj_ST_isEmpty A u7  (fun x1 => if x1 = 0 then (wj_AL_size A p1  (fun x2 => if x2 < (4 : Int32) then (wNew A kc ks 8 2 (fun b3 A kc ks => wC A (some a) 6 (fun b => wX kc ks (wp_Q_decode b u7 A) (fun r4 A kc ks => wC A (some a) 6 (fun b => wX kc ks (wp_Q_decode b s0 A) (fun r5 A kc ks => wD (some b3) (fun b => wp_P_init b r4 r5 A (fun A => wj_AL_add_O A kc ks p1 (some b3) (fun x6 A kc ks => wL ((u4 + (1 : Int32))) (fun x7 => k5 x7 (u4 + 1) A kc ks)))))))))) else (Q (0 : Int32) A))) else (Q (0 : Int32) A))
set_option maxRecDepth 100000 in
set_option maxHeartbeats 4000000 in
theorem sq_Q_readParameters_94 {l : Launch} {G : mm_G} {a : Nat} {p0 : Option Nat} {p1 : Option Nat} {Q : Int32 → ab_H → Prop} {k5 : Int32 → Int32 → ab_H → Nat → Nat → Prop} (hk5 : ∀ (u3 : Int32) (u4 : Int32) (A : ab_H) (kc ks : Nat) (h : mm_H), Vw G h A → k5 u3 u4 A kc ks → mm_V l G M_Q_readParameters kc ks 5 [some (va_rf (some a)), some (va_rf p0), some (va_rf p1), some (.int u3), some (.int u4), none, none, none, none] [] h (wQI G Q)) : ∀ (u4 : Int32) (u7 : Option Nat) (s0 : Option Nat) (A : ab_H) (kc ks : Nat) (h : mm_H), Vw G h A → wq_Q_readParameters_94 a p0 p1 Q k5 u4 u7 s0 A kc ks → mm_V l G M_Q_readParameters kc ks 94 [some (va_rf (some a)), some (va_rf p0), some (va_rf p1), none, some (.int u4), none, none, some (va_rf u7), none] [va_rf s0] h (wQI G Q) := by
  intro u4 u7 s0 A kc ks h hV hw
  unfold wq_Q_readParameters_94 at hw
  refine wr_ast8 (pc' := 96) d_Q_readParameters_94 rfl (wr_2 _) (Nat.le_of_ble_eq_true rfl) ?_
  refine wr_aload u7 (pc' := 98) d_Q_readParameters_96 rfl rfl ?_
  refine wr_ST_isEmpty hV hw (pc' := 101) d_Q_readParameters_98 rfl cs_Q_43 (Nat.le_of_ble_eq_true rfl) (Nat.le_of_ble_eq_true rfl) (fun x1 hw => ?_)
  refine wr_if_ne hw (pc' := 104) d_Q_readParameters_101 rfl rfl (fun hw => ?_) (fun hw => ?_)
  · refine mm_iconst (v := 0) (pc' := 113) d_Q_readParameters_112 rfl (by decide) ?_
    exact wr_iret hV d_Q_readParameters_113 rfl rfl hw
  · refine wr_aload_n p1 (pc' := 105) d_Q_readParameters_104 rfl rfl rfl ?_
    refine wr_AL_size hV hw (pc' := 108) d_Q_readParameters_105 rfl cs_Q_111 (Nat.le_of_ble_eq_true rfl) (Nat.le_of_ble_eq_true rfl) (fun x2 hw => ?_)
    refine mm_iconst (v := 4) (pc' := 109) d_Q_readParameters_108 rfl (by decide) ?_
    refine wr_icmp_lt hw (pc' := 112) d_Q_readParameters_109 rfl rfl (fun hw => ?_) (fun hw => ?_)
    · refine wr_aload_n p1 (pc' := 115) d_Q_readParameters_114 rfl rfl rfl ?_
      refine wr_new hV hw (pc' := 118) d_Q_readParameters_115 rfl nl_Q_55 rfl (fun b3 h A kc ks hV hw => ?_)
      refine mm_dup (pc' := 119) d_Q_readParameters_118 rfl (wr_cat _) ?_
      refine wr_aload_n (some a) (pc' := 120) d_Q_readParameters_119 rfl rfl rfl ?_
      refine wr_aload u7 (pc' := 122) d_Q_readParameters_120 rfl rfl ?_
      refine wr_cVRx (pc' := 125) (as := [va_rf u7]) (st := [va_rf (some b3), va_rf (some b3), va_rf p1]) d_Q_readParameters_122 rfl cs_Q_68 rfl (W := fun b c s Q' => wp_Q_decode b u7 A c s Q') hV hw (fun b c s Q' hw => sd_Q_decode hV hw) rfl rfl (Nat.le_of_ble_eq_true rfl) (Nat.le_trans (wr_hR (wr_hR (wr_hR wr_h0))) (Nat.le_of_ble_eq_true rfl)) (fun r4 h A kc ks hV hw => ?_)
      refine wr_aload_n (some a) (pc' := 126) d_Q_readParameters_125 rfl rfl rfl ?_
      refine wr_aload s0 (pc' := 128) d_Q_readParameters_126 rfl rfl ?_
      refine wr_cVRx (pc' := 131) (as := [va_rf s0]) (st := [va_rf r4, va_rf (some b3), va_rf (some b3), va_rf p1]) d_Q_readParameters_128 rfl cs_Q_68 rfl (W := fun b c s Q' => wp_Q_decode b s0 A c s Q') hV hw (fun b c s Q' hw => sd_Q_decode hV hw) rfl rfl (Nat.le_of_ble_eq_true rfl) (Nat.le_trans (wr_hR (wr_hR (wr_hR (wr_hR wr_h0)))) (Nat.le_of_ble_eq_true rfl)) (fun r5 h A kc ks hV hw => ?_)
      refine wr_cI (pc' := 134) (as := [va_rf r4, va_rf r5]) (st := [va_rf (some b3), va_rf p1]) d_Q_readParameters_131 rfl cs_Q_59 rfl (W := fun b Q' => wp_P_init b r4 r5 A Q') hV hw (fun b Q' hw => sd_P_init hV hw) rfl rfl (Nat.le_of_ble_eq_true rfl) (Nat.le_trans (wr_hR (wr_hR wr_h0)) (Nat.le_of_ble_eq_true rfl)) (fun h A hV hw => ?_)
      refine wr_AL_add_O hV hw (pc' := 137) d_Q_readParameters_134 rfl cs_Q_116 (Nat.le_of_ble_eq_true rfl) (Nat.le_of_ble_eq_true rfl) (fun x6 h A kc ks hV hw => ?_)
      refine mm_pop (pc' := 138) d_Q_readParameters_137 rfl rfl ?_
      refine mm_iload (pc' := 140) d_Q_readParameters_138 rfl rfl ?_
      refine mm_iconst (v := 1) (pc' := 141) d_Q_readParameters_140 rfl (by decide) ?_
      refine mm_iadd (pc' := 142) d_Q_readParameters_141 rfl ?_
      refine wr_let (P := fun z => mm_V l G M_Q_readParameters kc ks 142 [some (va_rf (some a)), some (va_rf p0), some (va_rf p1), none, some (.int u4), none, none, some (va_rf u7), some (va_rf s0)] (.int z :: []) h _) hw (fun x7 hw => ?_)
      refine mm_ist3 (pc' := 143) d_Q_readParameters_142 rfl (wr_2 _) (Nat.le_of_ble_eq_true rfl) ?_
      refine mm_iinc4 (v := (u4 + 1)) (pc' := 146) d_Q_readParameters_143 rfl rfl rfl (Nat.le_of_ble_eq_true rfl) ?_
      refine mm_goto (tgt := 5) d_Q_readParameters_146 rfl ?_
      exact mm_drop (mm_le.s (mm_le.s (mm_le.s (mm_le.s (mm_le.s (mm_le.n (mm_le.n (mm_le.n (mm_le.n mm_le.e))))))))) (hk5 _ _ _ _ _ _ hV hw)
    · refine mm_iconst (v := 0) (pc' := 113) d_Q_readParameters_112 rfl (by decide) ?_
      exact wr_iret hV d_Q_readParameters_113 rfl rfl hw
def wq_Q_readParameters_73 (a : Nat) (p0 : Option Nat) (p1 : Option Nat) (Q : Int32 → ab_H → Prop) (k5 : Int32 → Int32 → ab_H → Nat → Nat → Prop) (u4 : Int32) (u5 : Option Nat) (u6 : Int32) (s0 : Option Nat) (A : ab_H) (kc ks : Nat) : Prop := if 0 ≤ u6 then (wj_ST_substring_I A kc ks u5 (u6 + (1 : Int32)) (fun r8 A kc ks => wq_Q_readParameters_94 a p0 p1 Q k5 u4 s0 r8 A kc ks)) else (wq_Q_readParameters_94 a p0 p1 Q k5 u4 s0 (some 1) A kc ks)
set_option maxRecDepth 100000 in
set_option maxHeartbeats 4000000 in
theorem sq_Q_readParameters_73 {l : Launch} {G : mm_G} {a : Nat} {p0 : Option Nat} {p1 : Option Nat} {Q : Int32 → ab_H → Prop} {k5 : Int32 → Int32 → ab_H → Nat → Nat → Prop} (hk5 : ∀ (u3 : Int32) (u4 : Int32) (A : ab_H) (kc ks : Nat) (h : mm_H), Vw G h A → k5 u3 u4 A kc ks → mm_V l G M_Q_readParameters kc ks 5 [some (va_rf (some a)), some (va_rf p0), some (va_rf p1), some (.int u3), some (.int u4), none, none, none, none] [] h (wQI G Q)) : ∀ (u4 : Int32) (u5 : Option Nat) (u6 : Int32) (s0 : Option Nat) (A : ab_H) (kc ks : Nat) (h : mm_H), Vw G h A → wq_Q_readParameters_73 a p0 p1 Q k5 u4 u5 u6 s0 A kc ks → mm_V l G M_Q_readParameters kc ks 73 [some (va_rf (some a)), some (va_rf p0), some (va_rf p1), none, some (.int u4), some (va_rf u5), some (.int u6), none, none] [va_rf s0] h (wQI G Q) := by
  intro u4 u5 u6 s0 A kc ks h hV hw
  unfold wq_Q_readParameters_73 at hw
  refine wr_ast7 (pc' := 75) d_Q_readParameters_73 rfl rfl (Nat.le_of_ble_eq_true rfl) ?_
  refine mm_iload (pc' := 77) d_Q_readParameters_75 rfl rfl ?_
  refine wr_if_ge hw (pc' := 80) d_Q_readParameters_77 rfl rfl (fun hw => ?_) (fun hw => ?_)
  · refine wr_aload u5 (pc' := 87) d_Q_readParameters_85 rfl rfl ?_
    refine mm_iload (pc' := 89) d_Q_readParameters_87 rfl rfl ?_
    refine mm_iconst (v := 1) (pc' := 90) d_Q_readParameters_89 rfl (by decide) ?_
    refine mm_iadd (pc' := 91) d_Q_readParameters_90 rfl ?_
    refine wr_ST_substring_I hV hw (pc' := 94) d_Q_readParameters_91 rfl cs_Q_32 (Nat.le_of_ble_eq_true rfl) (Nat.le_of_ble_eq_true rfl) (fun r8 h A kc ks hV hw => ?_)
    exact mm_drop (mm_le.s (mm_le.s (mm_le.s (mm_le.n (mm_le.s (mm_le.n (mm_le.n (mm_le.s (mm_le.n mm_le.e))))))))) (sq_Q_readParameters_94 hk5 _ _ _ _ _ _ _ hV hw)
  · refine wr_ldcS (pc' := 82) d_Q_readParameters_80 rfl ld_Q_57 ?_
    refine mm_goto (tgt := 94) d_Q_readParameters_82 rfl ?_
    exact mm_drop (mm_le.s (mm_le.s (mm_le.s (mm_le.n (mm_le.s (mm_le.n (mm_le.n (mm_le.s (mm_le.n mm_le.e))))))))) (sq_Q_readParameters_94 hk5 _ _ _ _ _ _ _ hV hw)
def wq_Q_readParameters_37 (a : Nat) (p0 : Option Nat) (p1 : Option Nat) (Q : Int32 → ab_H → Prop) (k5 : Int32 → Int32 → ab_H → Nat → Nat → Prop) (u3 : Int32) (u4 : Int32) (A : ab_H) (kc ks : Nat) : Prop := wj_ST_substring_II A kc ks p0 u3 u4 (fun r9 A kc ks => wj_ST_indexOf_I A r9 (61 : Int32) (fun x10 => if 0 ≤ x10 then (wj_ST_substring_II A kc ks r9 (0 : Int32) x10 (fun r11 A kc ks => wq_Q_readParameters_73 a p0 p1 Q k5 u4 r9 x10 r11 A kc ks)) else (wq_Q_readParameters_73 a p0 p1 Q k5 u4 r9 x10 r9 A kc ks)))
set_option maxRecDepth 100000 in
set_option maxHeartbeats 4000000 in
theorem sq_Q_readParameters_37 {l : Launch} {G : mm_G} {a : Nat} {p0 : Option Nat} {p1 : Option Nat} {Q : Int32 → ab_H → Prop} {k5 : Int32 → Int32 → ab_H → Nat → Nat → Prop} (hk5 : ∀ (u3 : Int32) (u4 : Int32) (A : ab_H) (kc ks : Nat) (h : mm_H), Vw G h A → k5 u3 u4 A kc ks → mm_V l G M_Q_readParameters kc ks 5 [some (va_rf (some a)), some (va_rf p0), some (va_rf p1), some (.int u3), some (.int u4), none, none, none, none] [] h (wQI G Q)) : ∀ (u3 : Int32) (u4 : Int32) (A : ab_H) (kc ks : Nat) (h : mm_H), Vw G h A → wq_Q_readParameters_37 a p0 p1 Q k5 u3 u4 A kc ks → mm_V l G M_Q_readParameters kc ks 37 [some (va_rf (some a)), some (va_rf p0), some (va_rf p1), some (.int u3), some (.int u4), none, none, none, none] [] h (wQI G Q) := by
  intro u3 u4 A kc ks h hV hw
  unfold wq_Q_readParameters_37 at hw
  refine wr_aload_n p0 (pc' := 38) d_Q_readParameters_37 rfl rfl rfl ?_
  refine mm_iload_n (pc' := 39) d_Q_readParameters_38 rfl rfl rfl ?_
  refine mm_iload (pc' := 41) d_Q_readParameters_39 rfl rfl ?_
  refine wr_ST_substring_II hV hw (pc' := 44) d_Q_readParameters_41 rfl cs_Q_40 (Nat.le_of_ble_eq_true rfl) (Nat.le_of_ble_eq_true rfl) (fun r9 h A kc ks hV hw => ?_)
  refine wr_ast5 (pc' := 46) d_Q_readParameters_44 rfl rfl (Nat.le_of_ble_eq_true rfl) ?_
  refine wr_aload r9 (pc' := 48) d_Q_readParameters_46 rfl rfl ?_
  refine mm_bipush (v := 61) (pc' := 50) d_Q_readParameters_48 rfl (by decide) ?_
  refine wr_ST_indexOf_I hV hw (pc' := 53) d_Q_readParameters_50 rfl cs_Q_16 (Nat.le_of_ble_eq_true rfl) (Nat.le_of_ble_eq_true rfl) (fun x10 hw => ?_)
  refine mm_ist6 (pc' := 55) d_Q_readParameters_53 rfl (wr_2 _) (Nat.le_of_ble_eq_true rfl) ?_
  refine mm_iload (pc' := 57) d_Q_readParameters_55 rfl rfl ?_
  refine wr_if_ge hw (pc' := 60) d_Q_readParameters_57 rfl rfl (fun hw => ?_) (fun hw => ?_)
  · refine wr_aload r9 (pc' := 67) d_Q_readParameters_65 rfl rfl ?_
    refine mm_iconst (v := 0) (pc' := 68) d_Q_readParameters_67 rfl (by decide) ?_
    refine mm_iload (pc' := 70) d_Q_readParameters_68 rfl rfl ?_
    refine wr_ST_substring_II hV hw (pc' := 73) d_Q_readParameters_70 rfl cs_Q_40 (Nat.le_of_ble_eq_true rfl) (Nat.le_of_ble_eq_true rfl) (fun r11 h A kc ks hV hw => ?_)
    exact mm_drop (mm_le.s (mm_le.s (mm_le.s (mm_le.n (mm_le.s (mm_le.s (mm_le.s (mm_le.n (mm_le.n mm_le.e))))))))) (sq_Q_readParameters_73 hk5 _ _ _ _ _ _ _ _ hV hw)
  · refine wr_aload r9 (pc' := 62) d_Q_readParameters_60 rfl rfl ?_
    refine mm_goto (tgt := 73) d_Q_readParameters_62 rfl ?_
    exact mm_drop (mm_le.s (mm_le.s (mm_le.s (mm_le.n (mm_le.s (mm_le.s (mm_le.s (mm_le.n (mm_le.n mm_le.e))))))))) (sq_Q_readParameters_73 hk5 _ _ _ _ _ _ _ _ hV hw)
def wb_Q_readParameters_5 (a : Nat) (p0 : Option Nat) (p1 : Option Nat) (Q : Int32 → ab_H → Prop)  (k5 : Int32 → Int32 → ab_H → Nat → Nat → Prop) (u3 : Int32) (u4 : Int32) (A : ab_H) (kc ks : Nat) : Prop := wj_ST_length A p0  (fun x12 => if x12 < u4 then (Q (1 : Int32) A) else (wj_ST_length A p0  (fun x13 => if x13 ≤ u4 then (wq_Q_readParameters_37 a p0 p1 Q k5 u3 u4 A kc ks) else (wj_ST_charAt A p0 u4 (fun x14 => if x14 = (38 : Int32) then (wq_Q_readParameters_37 a p0 p1 Q k5 u3 u4 A kc ks) else (k5 u3 (u4 + 1) A kc ks))))))
def wq_Q_readParameters_5 (a : Nat) (p0 : Option Nat) (p1 : Option Nat) (Q : Int32 → ab_H → Prop)  : Nat → Int32 → Int32 → ab_H → Nat → Nat → Prop
  | 0 => fun _ _ _ _ _ => False
  | n + 1 => wb_Q_readParameters_5 a p0 p1 Q  (wq_Q_readParameters_5 a p0 p1 Q  n)
set_option maxRecDepth 100000 in
set_option maxHeartbeats 4000000 in
theorem sq_Q_readParameters_5 {l : Launch} {G : mm_G} {a : Nat} {p0 : Option Nat} {p1 : Option Nat} {Q : Int32 → ab_H → Prop}   : ∀ (n : Nat) (u3 : Int32) (u4 : Int32) (A : ab_H) (kc ks : Nat) (h : mm_H), Vw G h A → wq_Q_readParameters_5 a p0 p1 Q  n u3 u4 A kc ks → mm_V l G M_Q_readParameters kc ks 5 [some (va_rf (some a)), some (va_rf p0), some (va_rf p1), some (.int u3), some (.int u4), none, none, none, none] [] h (wQI G Q) := by
  intro n
  induction n with
  | zero =>
    intro u3 u4 A kc ks h hV hw
    exact absurd hw id
  | succ n hk5 =>
    intro u3 u4 A kc ks h hV hw
    have hw : wb_Q_readParameters_5 a p0 p1 Q  (wq_Q_readParameters_5 a p0 p1 Q  n) u3 u4 A kc ks := hw
    unfold wb_Q_readParameters_5 at hw
    refine mm_iload (pc' := 7) d_Q_readParameters_5 rfl rfl ?_
    refine wr_aload_n p0 (pc' := 8) d_Q_readParameters_7 rfl rfl rfl ?_
    refine wr_ST_length hV hw (pc' := 11) d_Q_readParameters_8 rfl cs_Q_22 (Nat.le_of_ble_eq_true rfl) (Nat.le_of_ble_eq_true rfl) (fun x12 hw => ?_)
    refine wr_icmp_gt hw (pc' := 14) d_Q_readParameters_11 rfl rfl (fun hw => ?_) (fun hw => ?_)
    · refine mm_iconst (v := 1) (pc' := 150) d_Q_readParameters_149 rfl (by decide) ?_
      exact wr_iret hV d_Q_readParameters_150 rfl rfl hw
    · refine mm_iload (pc' := 16) d_Q_readParameters_14 rfl rfl ?_
      refine wr_aload_n p0 (pc' := 17) d_Q_readParameters_16 rfl rfl rfl ?_
      refine wr_ST_length hV hw (pc' := 20) d_Q_readParameters_17 rfl cs_Q_22 (Nat.le_of_ble_eq_true rfl) (Nat.le_of_ble_eq_true rfl) (fun x13 hw => ?_)
      refine wr_icmp_ge hw (pc' := 23) d_Q_readParameters_20 rfl rfl (fun hw => ?_) (fun hw => ?_)
      · exact mm_drop (mm_le.s (mm_le.s (mm_le.s (mm_le.s (mm_le.s (mm_le.n (mm_le.n (mm_le.n (mm_le.n mm_le.e))))))))) (sq_Q_readParameters_37 hk5 _ _ _ _ _ _ hV hw)
      · refine wr_aload_n p0 (pc' := 24) d_Q_readParameters_23 rfl rfl rfl ?_
        refine mm_iload (pc' := 26) d_Q_readParameters_24 rfl rfl ?_
        refine wr_ST_charAt hV hw (pc' := 29) d_Q_readParameters_26 rfl cs_Q_47 (Nat.le_of_ble_eq_true rfl) (Nat.le_of_ble_eq_true rfl) (fun x14 hw => ?_)
        refine mm_bipush (v := 38) (pc' := 31) d_Q_readParameters_29 rfl (by decide) ?_
        refine wr_icmp_eq hw (pc' := 34) d_Q_readParameters_31 rfl rfl (fun hw => ?_) (fun hw => ?_)
        · exact mm_drop (mm_le.s (mm_le.s (mm_le.s (mm_le.s (mm_le.s (mm_le.n (mm_le.n (mm_le.n (mm_le.n mm_le.e))))))))) (sq_Q_readParameters_37 hk5 _ _ _ _ _ _ hV hw)
        · refine mm_goto (tgt := 143) d_Q_readParameters_34 rfl ?_
          refine mm_iinc4 (v := (u4 + 1)) (pc' := 146) d_Q_readParameters_143 rfl rfl rfl (Nat.le_of_ble_eq_true rfl) ?_
          refine mm_goto (tgt := 5) d_Q_readParameters_146 rfl ?_
          exact mm_drop (mm_le.s (mm_le.s (mm_le.s (mm_le.s (mm_le.s (mm_le.n (mm_le.n (mm_le.n (mm_le.n mm_le.e))))))))) (hk5 _ _ _ _ _ _ hV hw)
def wp_Q_readParameters (a : Nat) (p0 : Option Nat) (p1 : Option Nat) (A : ab_H) (kc ks : Nat) (Q : Int32 → ab_H → Prop) : Prop := ∃ n, wq_Q_readParameters_5 a p0 p1 Q n (0 : Int32) (0 : Int32) A kc ks
set_option maxRecDepth 100000 in
set_option maxHeartbeats 4000000 in
theorem sd_Q_readParameters {l : Launch} {G : mm_G} {h : mm_H} {A : ab_H} {a : Nat} {p0 : Option Nat} {p1 : Option Nat} {kc ks : Nat} {Q : Int32 → ab_H → Prop} (hV : Vw G h A) (hw : wp_Q_readParameters a p0 p1 A kc ks Q) : mm_S l G M_Q_readParameters [.ref a, va_rf p0, va_rf p1] h kc ks (wQI G Q) := by
  unfold wp_Q_readParameters at hw
  refine mm_start rfl (by simp [mm_as, wr_cat, wr_catI, wr_catJ, wr_catN]) ?_
  rw [show mm_en [.ref a, va_rf p0, va_rf p1] M_Q_readParameters.2.2.1 = [some (.ref a), some (va_rf p0), some (va_rf p1), none, none, none, none, none, none] from by simp [mm_en, mm_as, wr_cat, wr_catI, wr_catJ, wr_catN]]
  show mm_V l G M_Q_readParameters kc ks 0 [some (va_rf (some a)), some (va_rf p0), some (va_rf p1), none, none, none, none, none, none] [] h _
  refine mm_iconst (v := 0) (pc' := 1) d_Q_readParameters_0 rfl (by decide) ?_
  refine mm_ist3 (pc' := 2) d_Q_readParameters_1 rfl (wr_2 _) (Nat.le_of_ble_eq_true rfl) ?_
  refine mm_iconst (v := 0) (pc' := 3) d_Q_readParameters_2 rfl (by decide) ?_
  refine mm_ist4 (pc' := 5) d_Q_readParameters_3 rfl rfl (Nat.le_of_ble_eq_true rfl) ?_
  obtain ⟨n, hw⟩ := hw
  exact mm_drop (mm_le.s (mm_le.s (mm_le.s (mm_le.s (mm_le.s (mm_le.n (mm_le.n (mm_le.n (mm_le.n mm_le.e))))))))) (sq_Q_readParameters_5  n _ _ _ _ _ _ hV hw)
theorem d_Q_read_0 : decode prog_8_method_2_code 0 = .ok (.aload_n 1, 1) := by decide +kernel
theorem d_Q_read_1 : decode prog_8_method_2_code 1 = .ok (.bipush 32, 2) := by decide +kernel
theorem d_Q_read_3 : decode prog_8_method_2_code 3 = .ok (.invokevirtual 16, 3) := by decide +kernel
theorem d_Q_read_6 : decode prog_8_method_2_code 6 = .ok (.istore_n 3, 1) := by decide +kernel
theorem d_Q_read_7 : decode prog_8_method_2_code 7 = .ok (.aload_n 1, 1) := by decide +kernel
theorem d_Q_read_8 : decode prog_8_method_2_code 8 = .ok (.invokevirtual 22, 3) := by decide +kernel
theorem d_Q_read_11 : decode prog_8_method_2_code 11 = .ok (.ldc 26, 2) := by decide +kernel
theorem d_Q_read_13 : decode prog_8_method_2_code 13 = .ok (.invokevirtual 22, 3) := by decide +kernel
theorem d_Q_read_16 : decode prog_8_method_2_code 16 = .ok (.isub, 1) := by decide +kernel
theorem d_Q_read_17 : decode prog_8_method_2_code 17 = .ok (.istore 4, 2) := by decide +kernel
theorem d_Q_read_19 : decode prog_8_method_2_code 19 = .ok (.aload_n 1, 1) := by decide +kernel
theorem d_Q_read_20 : decode prog_8_method_2_code 20 = .ok (.iload_n 3, 1) := by decide +kernel
theorem d_Q_read_21 : decode prog_8_method_2_code 21 = .ok (.invokestatic 28, 3) := by decide +kernel
theorem d_Q_read_24 : decode prog_8_method_2_code 24 = .ok (.ifCond .eq 23, 3) := by decide +kernel
theorem d_Q_read_27 : decode prog_8_method_2_code 27 = .ok (.iload 4, 2) := by decide +kernel
theorem d_Q_read_29 : decode prog_8_method_2_code 29 = .ok (.iload_n 3, 1) := by decide +kernel
theorem d_Q_read_30 : decode prog_8_method_2_code 30 = .ok (.if_icmp .le 17, 3) := by decide +kernel
theorem d_Q_read_33 : decode prog_8_method_2_code 33 = .ok (.aload_n 1, 1) := by decide +kernel
theorem d_Q_read_34 : decode prog_8_method_2_code 34 = .ok (.iload 4, 2) := by decide +kernel
theorem d_Q_read_36 : decode prog_8_method_2_code 36 = .ok (.invokevirtual 32, 3) := by decide +kernel
theorem d_Q_read_39 : decode prog_8_method_2_code 39 = .ok (.ldc 26, 2) := by decide +kernel
theorem d_Q_read_41 : decode prog_8_method_2_code 41 = .ok (.invokevirtual 36, 3) := by decide +kernel
theorem d_Q_read_44 : decode prog_8_method_2_code 44 = .ok (.ifCond .ne 5, 3) := by decide +kernel
theorem d_Q_read_47 : decode prog_8_method_2_code 47 = .ok (.iconst 0, 1) := by decide +kernel
theorem d_Q_read_48 : decode prog_8_method_2_code 48 = .ok (.ireturn, 1) := by decide +kernel
theorem d_Q_read_49 : decode prog_8_method_2_code 49 = .ok (.aload_n 1, 1) := by decide +kernel
theorem d_Q_read_50 : decode prog_8_method_2_code 50 = .ok (.iload_n 3, 1) := by decide +kernel
theorem d_Q_read_51 : decode prog_8_method_2_code 51 = .ok (.iconst 1, 1) := by decide +kernel
theorem d_Q_read_52 : decode prog_8_method_2_code 52 = .ok (.iadd, 1) := by decide +kernel
theorem d_Q_read_53 : decode prog_8_method_2_code 53 = .ok (.iload 4, 2) := by decide +kernel
theorem d_Q_read_55 : decode prog_8_method_2_code 55 = .ok (.invokevirtual 40, 3) := by decide +kernel
theorem d_Q_read_58 : decode prog_8_method_2_code 58 = .ok (.astore 5, 2) := by decide +kernel
theorem d_Q_read_60 : decode prog_8_method_2_code 60 = .ok (.aload 5, 2) := by decide +kernel
theorem d_Q_read_62 : decode prog_8_method_2_code 62 = .ok (.invokevirtual 43, 3) := by decide +kernel
theorem d_Q_read_65 : decode prog_8_method_2_code 65 = .ok (.ifCond .ne 32, 3) := by decide +kernel
theorem d_Q_read_68 : decode prog_8_method_2_code 68 = .ok (.aload 5, 2) := by decide +kernel
theorem d_Q_read_70 : decode prog_8_method_2_code 70 = .ok (.iconst 0, 1) := by decide +kernel
theorem d_Q_read_71 : decode prog_8_method_2_code 71 = .ok (.invokevirtual 47, 3) := by decide +kernel
theorem d_Q_read_74 : decode prog_8_method_2_code 74 = .ok (.bipush 47, 2) := by decide +kernel
theorem d_Q_read_76 : decode prog_8_method_2_code 76 = .ok (.if_icmp .ne 21, 3) := by decide +kernel
theorem d_Q_read_79 : decode prog_8_method_2_code 79 = .ok (.aload 5, 2) := by decide +kernel
theorem d_Q_read_81 : decode prog_8_method_2_code 81 = .ok (.bipush 32, 2) := by decide +kernel
theorem d_Q_read_83 : decode prog_8_method_2_code 83 = .ok (.invokevirtual 16, 3) := by decide +kernel
theorem d_Q_read_86 : decode prog_8_method_2_code 86 = .ok (.ifCond .ge 11, 3) := by decide +kernel
theorem d_Q_read_89 : decode prog_8_method_2_code 89 = .ok (.aload 5, 2) := by decide +kernel
theorem d_Q_read_91 : decode prog_8_method_2_code 91 = .ok (.invokestatic 51, 3) := by decide +kernel
theorem d_Q_read_94 : decode prog_8_method_2_code 94 = .ok (.ifCond .ne 5, 3) := by decide +kernel
theorem d_Q_read_97 : decode prog_8_method_2_code 97 = .ok (.iconst 0, 1) := by decide +kernel
theorem d_Q_read_98 : decode prog_8_method_2_code 98 = .ok (.ireturn, 1) := by decide +kernel
theorem d_Q_read_99 : decode prog_8_method_2_code 99 = .ok (.aload 5, 2) := by decide +kernel
theorem d_Q_read_101 : decode prog_8_method_2_code 101 = .ok (.bipush 63, 2) := by decide +kernel
theorem d_Q_read_103 : decode prog_8_method_2_code 103 = .ok (.invokevirtual 16, 3) := by decide +kernel
theorem d_Q_read_106 : decode prog_8_method_2_code 106 = .ok (.istore 6, 2) := by decide +kernel
theorem d_Q_read_108 : decode prog_8_method_2_code 108 = .ok (.iload 6, 2) := by decide +kernel
theorem d_Q_read_110 : decode prog_8_method_2_code 110 = .ok (.ifCond .ge 8, 3) := by decide +kernel
theorem d_Q_read_113 : decode prog_8_method_2_code 113 = .ok (.aload 5, 2) := by decide +kernel
theorem d_Q_read_115 : decode prog_8_method_2_code 115 = .ok (.goto 11, 3) := by decide +kernel
theorem d_Q_read_118 : decode prog_8_method_2_code 118 = .ok (.aload 5, 2) := by decide +kernel
theorem d_Q_read_120 : decode prog_8_method_2_code 120 = .ok (.iconst 0, 1) := by decide +kernel
theorem d_Q_read_121 : decode prog_8_method_2_code 121 = .ok (.iload 6, 2) := by decide +kernel
theorem d_Q_read_123 : decode prog_8_method_2_code 123 = .ok (.invokevirtual 40, 3) := by decide +kernel
theorem d_Q_read_126 : decode prog_8_method_2_code 126 = .ok (.astore 7, 2) := by decide +kernel
theorem d_Q_read_128 : decode prog_8_method_2_code 128 = .ok (.aload_n 2, 1) := by decide +kernel
theorem d_Q_read_129 : decode prog_8_method_2_code 129 = .ok (.new 55, 3) := by decide +kernel
theorem d_Q_read_132 : decode prog_8_method_2_code 132 = .ok (.dup, 1) := by decide +kernel
theorem d_Q_read_133 : decode prog_8_method_2_code 133 = .ok (.ldc 57, 2) := by decide +kernel
theorem d_Q_read_135 : decode prog_8_method_2_code 135 = .ok (.aload_n 1, 1) := by decide +kernel
theorem d_Q_read_136 : decode prog_8_method_2_code 136 = .ok (.iconst 0, 1) := by decide +kernel
theorem d_Q_read_137 : decode prog_8_method_2_code 137 = .ok (.iload_n 3, 1) := by decide +kernel
theorem d_Q_read_138 : decode prog_8_method_2_code 138 = .ok (.invokevirtual 40, 3) := by decide +kernel
theorem d_Q_read_141 : decode prog_8_method_2_code 141 = .ok (.invokespecial 59, 3) := by decide +kernel
theorem d_Q_read_144 : decode prog_8_method_2_code 144 = .ok (.putfield 62, 3) := by decide +kernel
theorem d_Q_read_147 : decode prog_8_method_2_code 147 = .ok (.aload_n 2, 1) := by decide +kernel
theorem d_Q_read_148 : decode prog_8_method_2_code 148 = .ok (.new 55, 3) := by decide +kernel
theorem d_Q_read_151 : decode prog_8_method_2_code 151 = .ok (.dup, 1) := by decide +kernel
theorem d_Q_read_152 : decode prog_8_method_2_code 152 = .ok (.ldc 57, 2) := by decide +kernel
theorem d_Q_read_154 : decode prog_8_method_2_code 154 = .ok (.aload_n 0, 1) := by decide +kernel
theorem d_Q_read_155 : decode prog_8_method_2_code 155 = .ok (.aload 7, 2) := by decide +kernel
theorem d_Q_read_157 : decode prog_8_method_2_code 157 = .ok (.invokevirtual 68, 3) := by decide +kernel
theorem d_Q_read_160 : decode prog_8_method_2_code 160 = .ok (.invokespecial 59, 3) := by decide +kernel
theorem d_Q_read_163 : decode prog_8_method_2_code 163 = .ok (.putfield 72, 3) := by decide +kernel
theorem d_Q_read_166 : decode prog_8_method_2_code 166 = .ok (.iload 6, 2) := by decide +kernel
theorem d_Q_read_168 : decode prog_8_method_2_code 168 = .ok (.ifCond .lt 23, 3) := by decide +kernel
theorem d_Q_read_171 : decode prog_8_method_2_code 171 = .ok (.aload_n 0, 1) := by decide +kernel
theorem d_Q_read_172 : decode prog_8_method_2_code 172 = .ok (.aload 5, 2) := by decide +kernel
theorem d_Q_read_174 : decode prog_8_method_2_code 174 = .ok (.iload 6, 2) := by decide +kernel
theorem d_Q_read_176 : decode prog_8_method_2_code 176 = .ok (.iconst 1, 1) := by decide +kernel
theorem d_Q_read_177 : decode prog_8_method_2_code 177 = .ok (.iadd, 1) := by decide +kernel
theorem d_Q_read_178 : decode prog_8_method_2_code 178 = .ok (.invokevirtual 32, 3) := by decide +kernel
theorem d_Q_read_181 : decode prog_8_method_2_code 181 = .ok (.aload_n 2, 1) := by decide +kernel
theorem d_Q_read_182 : decode prog_8_method_2_code 182 = .ok (.getfield 75, 3) := by decide +kernel
theorem d_Q_read_185 : decode prog_8_method_2_code 185 = .ok (.invokevirtual 79, 3) := by decide +kernel
theorem d_Q_read_188 : decode prog_8_method_2_code 188 = .ok (.ifCond .eq 7, 3) := by decide +kernel
theorem d_Q_read_191 : decode prog_8_method_2_code 191 = .ok (.iconst 1, 1) := by decide +kernel
theorem d_Q_read_192 : decode prog_8_method_2_code 192 = .ok (.goto 4, 3) := by decide +kernel
theorem d_Q_read_195 : decode prog_8_method_2_code 195 = .ok (.iconst 0, 1) := by decide +kernel
theorem d_Q_read_196 : decode prog_8_method_2_code 196 = .ok (.ireturn, 1) := by decide +kernel
def wq_Q_read_126 (a : Nat) (p0 : Option Nat) (p1 : Option Nat) (Q : Int32 → ab_H → Prop)  (u3 : Int32) (u5 : Option Nat) (u6 : Int32) (s0 : Option Nat) (A : ab_H) (kc ks : Nat) : Prop := wNew A kc ks 8 2 (fun b1 A kc ks => wj_ST_substring_II A kc ks p0 (0 : Int32) u3 (fun r2 A kc ks => wD (some b1) (fun b => wp_P_init b (some 1) r2 A (fun A => wp A p1 7 2 (va_rf (some b1)) (fun A => wNew A kc ks 8 2 (fun b3 A kc ks => wC A (some a) 6 (fun b => wX kc ks (wp_Q_decode b s0 A) (fun r4 A kc ks => wD (some b3) (fun b => wp_P_init b (some 1) r4 A (fun A => wp A p1 7 3 (va_rf (some b3)) (fun A => if u6 < 0 then (Q (1 : Int32) A) else (wj_ST_substring_I A kc ks u5 (u6 + (1 : Int32)) (fun r5 A kc ks => wgR A p1 7 0 (fun r6 => wC A (some a) 6 (fun b => wX kc ks (wp_Q_readParameters b r5 r6 A) (fun x7 A kc ks => if x7 = 0 then (Q (0 : Int32) A) else (Q (1 : Int32) A)))))))))))))))))
set_option maxRecDepth 100000 in
set_option maxHeartbeats 4000000 in
theorem sq_Q_read_126 {l : Launch} {G : mm_G} {a : Nat} {p0 : Option Nat} {p1 : Option Nat} {Q : Int32 → ab_H → Prop}   : ∀ (u3 : Int32) (u5 : Option Nat) (u6 : Int32) (s0 : Option Nat) (A : ab_H) (kc ks : Nat) (h : mm_H), Vw G h A → wq_Q_read_126 a p0 p1 Q  u3 u5 u6 s0 A kc ks → mm_V l G M_Q_read kc ks 126 [some (va_rf (some a)), some (va_rf p0), some (va_rf p1), some (.int u3), none, some (va_rf u5), some (.int u6), none] [va_rf s0] h (wQI G Q) := by
  intro u3 u5 u6 s0 A kc ks h hV hw
  unfold wq_Q_read_126 at hw
  refine wr_ast7 (pc' := 128) d_Q_read_126 rfl rfl (Nat.le_of_ble_eq_true rfl) ?_
  refine wr_aload_n p1 (pc' := 129) d_Q_read_128 rfl rfl rfl ?_
  refine wr_new hV hw (pc' := 132) d_Q_read_129 rfl nl_Q_55 rfl (fun b1 h A kc ks hV hw => ?_)
  refine mm_dup (pc' := 133) d_Q_read_132 rfl (wr_cat _) ?_
  refine wr_ldcS (pc' := 135) d_Q_read_133 rfl ld_Q_57 ?_
  refine wr_aload_n p0 (pc' := 136) d_Q_read_135 rfl rfl rfl ?_
  refine mm_iconst (v := 0) (pc' := 137) d_Q_read_136 rfl (by decide) ?_
  refine mm_iload_n (pc' := 138) d_Q_read_137 rfl rfl rfl ?_
  refine wr_ST_substring_II hV hw (pc' := 141) d_Q_read_138 rfl cs_Q_40 (Nat.le_of_ble_eq_true rfl) (Nat.le_trans (wr_hR (wr_hR (wr_hR (wr_hR wr_h0)))) (Nat.le_of_ble_eq_true rfl)) (fun r2 h A kc ks hV hw => ?_)
  refine wr_cI (pc' := 144) (as := [va_rf (some 1), va_rf r2]) (st := [va_rf (some b1), va_rf p1]) d_Q_read_141 rfl cs_Q_59 rfl (W := fun b Q' => wp_P_init b (some 1) r2 A Q') hV hw (fun b Q' hw => sd_P_init hV hw) rfl rfl (Nat.le_of_ble_eq_true rfl) (Nat.le_trans (wr_hR (wr_hR wr_h0)) (Nat.le_of_ble_eq_true rfl)) (fun h A hV hw => ?_)
  refine wr_put hV hw (pc' := 147) d_Q_read_144 rfl pl_Q_read_62 (Nat.le_of_ble_eq_true rfl) (wn_O _ _) (fun h A hV hw => ?_)
  refine wr_aload_n p1 (pc' := 148) d_Q_read_147 rfl rfl rfl ?_
  refine wr_new hV hw (pc' := 151) d_Q_read_148 rfl nl_Q_55 rfl (fun b3 h A kc ks hV hw => ?_)
  refine mm_dup (pc' := 152) d_Q_read_151 rfl (wr_cat _) ?_
  refine wr_ldcS (pc' := 154) d_Q_read_152 rfl ld_Q_57 ?_
  refine wr_aload_n (some a) (pc' := 155) d_Q_read_154 rfl rfl rfl ?_
  refine wr_aload s0 (pc' := 157) d_Q_read_155 rfl rfl ?_
  refine wr_cVRx (pc' := 160) (as := [va_rf s0]) (st := [va_rf (some 1), va_rf (some b3), va_rf (some b3), va_rf p1]) d_Q_read_157 rfl cs_Q_68 rfl (W := fun b c s Q' => wp_Q_decode b s0 A c s Q') hV hw (fun b c s Q' hw => sd_Q_decode hV hw) rfl rfl (Nat.le_of_ble_eq_true rfl) (Nat.le_trans (wr_hR (wr_hR (wr_hR (wr_hR wr_h0)))) (Nat.le_of_ble_eq_true rfl)) (fun r4 h A kc ks hV hw => ?_)
  refine wr_cI (pc' := 163) (as := [va_rf (some 1), va_rf r4]) (st := [va_rf (some b3), va_rf p1]) d_Q_read_160 rfl cs_Q_59 rfl (W := fun b Q' => wp_P_init b (some 1) r4 A Q') hV hw (fun b Q' hw => sd_P_init hV hw) rfl rfl (Nat.le_of_ble_eq_true rfl) (Nat.le_trans (wr_hR (wr_hR wr_h0)) (Nat.le_of_ble_eq_true rfl)) (fun h A hV hw => ?_)
  refine wr_put hV hw (pc' := 166) d_Q_read_163 rfl pl_Q_read_72 (Nat.le_of_ble_eq_true rfl) (wn_O _ _) (fun h A hV hw => ?_)
  refine mm_iload (pc' := 168) d_Q_read_166 rfl rfl ?_
  refine wr_if_lt hw (pc' := 171) d_Q_read_168 rfl rfl (fun hw => ?_) (fun hw => ?_)
  · refine mm_iconst (v := 1) (pc' := 192) d_Q_read_191 rfl (by decide) ?_
    refine mm_goto (tgt := 196) d_Q_read_192 rfl ?_
    exact wr_iret hV d_Q_read_196 rfl rfl hw
  · refine wr_aload_n (some a) (pc' := 172) d_Q_read_171 rfl rfl rfl ?_
    refine wr_aload u5 (pc' := 174) d_Q_read_172 rfl rfl ?_
    refine mm_iload (pc' := 176) d_Q_read_174 rfl rfl ?_
    refine mm_iconst (v := 1) (pc' := 177) d_Q_read_176 rfl (by decide) ?_
    refine mm_iadd (pc' := 178) d_Q_read_177 rfl ?_
    refine wr_ST_substring_I hV hw (pc' := 181) d_Q_read_178 rfl cs_Q_32 (Nat.le_of_ble_eq_true rfl) (Nat.le_trans (wr_hR wr_h0) (Nat.le_of_ble_eq_true rfl)) (fun r5 h A kc ks hV hw => ?_)
    refine wr_aload_n p1 (pc' := 182) d_Q_read_181 rfl rfl rfl ?_
    refine wr_getR hV hw (pc' := 185) d_Q_read_182 rfl fl_Q_75 (fun r6 hw => ?_)
    refine wr_cVIx (pc' := 188) (as := [va_rf r5, va_rf r6]) (st := []) d_Q_read_185 rfl cs_Q_79 rfl (W := fun b c s Q' => wp_Q_readParameters b r5 r6 A c s Q') hV hw (fun b c s Q' hw => sd_Q_readParameters hV hw) rfl rfl (Nat.le_of_ble_eq_true rfl) (Nat.le_of_ble_eq_true rfl) (fun x7 h A kc ks hV hw => ?_)
    refine wr_if_eq hw (pc' := 191) d_Q_read_188 rfl rfl (fun hw => ?_) (fun hw => ?_)
    · refine mm_iconst (v := 0) (pc' := 196) d_Q_read_195 rfl (by decide) ?_
      exact wr_iret hV d_Q_read_196 rfl rfl hw
    · refine mm_iconst (v := 1) (pc' := 192) d_Q_read_191 rfl (by decide) ?_
      refine mm_goto (tgt := 196) d_Q_read_192 rfl ?_
      exact wr_iret hV d_Q_read_196 rfl rfl hw
def wp_Q_read (a : Nat) (p0 : Option Nat) (p1 : Option Nat) (A : ab_H) (kc ks : Nat) (Q : Int32 → ab_H → Prop) : Prop := wj_ST_indexOf_I A p0 (32 : Int32) (fun x8 => wj_ST_length A p0  (fun x9 => wj_ST_length A (some 2)  (fun x10 => wL ((x9 - x10)) (fun x11 => wp_Q_isMethod p0 x8 A (fun x12 A => if x12 = 0 then (Q (0 : Int32) A) else (if x11 ≤ x8 then (Q (0 : Int32) A) else (wj_ST_substring_I A kc ks p0 x11 (fun r13 A kc ks => wj_ST_equals A r13 (some 2) (fun x14 => if x14 = 0 then (Q (0 : Int32) A) else (wj_ST_substring_II A kc ks p0 (x8 + (1 : Int32)) x11 (fun r15 A kc ks => wj_ST_isEmpty A r15  (fun x16 => if x16 = 0 then (wj_ST_charAt A r15 (0 : Int32) (fun x17 => if x17 = (47 : Int32) then (wj_ST_indexOf_I A r15 (32 : Int32) (fun x18 => if 0 ≤ x18 then (Q (0 : Int32) A) else (wp_Q_hasGoodCodes r15 A (fun x19 A => if x19 = 0 then (Q (0 : Int32) A) else (wj_ST_indexOf_I A r15 (63 : Int32) (fun x20 => if 0 ≤ x20 then (wj_ST_substring_II A kc ks r15 (0 : Int32) x20 (fun r21 A kc ks => wq_Q_read_126 a p0 p1 Q x8 r15 x20 r21 A kc ks)) else (wq_Q_read_126 a p0 p1 Q x8 r15 x20 r15 A kc ks))))))) else (Q (0 : Int32) A))) else (Q (0 : Int32) A)))))))))))))
set_option maxRecDepth 100000 in
set_option maxHeartbeats 4000000 in
theorem sd_Q_read {l : Launch} {G : mm_G} {h : mm_H} {A : ab_H} {a : Nat} {p0 : Option Nat} {p1 : Option Nat} {kc ks : Nat} {Q : Int32 → ab_H → Prop} (hV : Vw G h A) (hw : wp_Q_read a p0 p1 A kc ks Q) : mm_S l G M_Q_read [.ref a, va_rf p0, va_rf p1] h kc ks (wQI G Q) := by
  unfold wp_Q_read at hw
  refine mm_start rfl (by simp [mm_as, wr_cat, wr_catI, wr_catJ, wr_catN]) ?_
  rw [show mm_en [.ref a, va_rf p0, va_rf p1] M_Q_read.2.2.1 = [some (.ref a), some (va_rf p0), some (va_rf p1), none, none, none, none, none] from by simp [mm_en, mm_as, wr_cat, wr_catI, wr_catJ, wr_catN]]
  show mm_V l G M_Q_read kc ks 0 [some (va_rf (some a)), some (va_rf p0), some (va_rf p1), none, none, none, none, none] [] h _
  refine wr_aload_n p0 (pc' := 1) d_Q_read_0 rfl rfl rfl ?_
  refine mm_bipush (v := 32) (pc' := 3) d_Q_read_1 rfl (by decide) ?_
  refine wr_ST_indexOf_I hV hw (pc' := 6) d_Q_read_3 rfl cs_Q_16 (Nat.le_of_ble_eq_true rfl) (Nat.le_of_ble_eq_true rfl) (fun x8 hw => ?_)
  refine mm_ist3 (pc' := 7) d_Q_read_6 rfl (wr_2 _) (Nat.le_of_ble_eq_true rfl) ?_
  refine wr_aload_n p0 (pc' := 8) d_Q_read_7 rfl rfl rfl ?_
  refine wr_ST_length hV hw (pc' := 11) d_Q_read_8 rfl cs_Q_22 (Nat.le_of_ble_eq_true rfl) (Nat.le_of_ble_eq_true rfl) (fun x9 hw => ?_)
  refine wr_ldcS (pc' := 13) d_Q_read_11 rfl ld_Q_26 ?_
  refine wr_ST_length hV hw (pc' := 16) d_Q_read_13 rfl cs_Q_22 (Nat.le_of_ble_eq_true rfl) (Nat.le_of_ble_eq_true rfl) (fun x10 hw => ?_)
  refine mm_isub (pc' := 17) d_Q_read_16 rfl ?_
  refine wr_let (P := fun z => mm_V l G M_Q_read kc ks 17 [some (va_rf (some a)), some (va_rf p0), some (va_rf p1), some (.int x8), none, none, none, none] (.int z :: []) h _) hw (fun x11 hw => ?_)
  refine mm_ist4 (pc' := 19) d_Q_read_17 rfl rfl (Nat.le_of_ble_eq_true rfl) ?_
  refine wr_aload_n p0 (pc' := 20) d_Q_read_19 rfl rfl rfl ?_
  refine mm_iload_n (pc' := 21) d_Q_read_20 rfl rfl rfl ?_
  refine wr_cSI (pc' := 24) (as := [va_rf p0, .int x8]) (st := []) d_Q_read_21 rfl cs_Q_28 (sd_Q_isMethod hV hw) rfl rfl (Nat.le_of_ble_eq_true rfl) (Nat.le_of_ble_eq_true rfl) (fun x12 h A hV hw => ?_)
  refine wr_if_eq hw (pc' := 27) d_Q_read_24 rfl rfl (fun hw => ?_) (fun hw => ?_)
  · refine mm_iconst (v := 0) (pc' := 48) d_Q_read_47 rfl (by decide) ?_
    exact wr_iret hV d_Q_read_48 rfl rfl hw
  · refine mm_iload (pc' := 29) d_Q_read_27 rfl rfl ?_
    refine mm_iload_n (pc' := 30) d_Q_read_29 rfl rfl rfl ?_
    refine wr_icmp_le hw (pc' := 33) d_Q_read_30 rfl rfl (fun hw => ?_) (fun hw => ?_)
    · refine mm_iconst (v := 0) (pc' := 48) d_Q_read_47 rfl (by decide) ?_
      exact wr_iret hV d_Q_read_48 rfl rfl hw
    · refine wr_aload_n p0 (pc' := 34) d_Q_read_33 rfl rfl rfl ?_
      refine mm_iload (pc' := 36) d_Q_read_34 rfl rfl ?_
      refine wr_ST_substring_I hV hw (pc' := 39) d_Q_read_36 rfl cs_Q_32 (Nat.le_of_ble_eq_true rfl) (Nat.le_of_ble_eq_true rfl) (fun r13 h A kc ks hV hw => ?_)
      refine wr_ldcS (pc' := 41) d_Q_read_39 rfl ld_Q_26 ?_
      refine wr_ST_equals hV hw (pc' := 44) d_Q_read_41 rfl cs_Q_36 (Nat.le_of_ble_eq_true rfl) (Nat.le_of_ble_eq_true rfl) (fun x14 hw => ?_)
      refine wr_if_ne hw (pc' := 47) d_Q_read_44 rfl rfl (fun hw => ?_) (fun hw => ?_)
      · refine wr_aload_n p0 (pc' := 50) d_Q_read_49 rfl rfl rfl ?_
        refine mm_iload_n (pc' := 51) d_Q_read_50 rfl rfl rfl ?_
        refine mm_iconst (v := 1) (pc' := 52) d_Q_read_51 rfl (by decide) ?_
        refine mm_iadd (pc' := 53) d_Q_read_52 rfl ?_
        refine mm_iload (pc' := 55) d_Q_read_53 rfl rfl ?_
        refine wr_ST_substring_II hV hw (pc' := 58) d_Q_read_55 rfl cs_Q_40 (Nat.le_of_ble_eq_true rfl) (Nat.le_of_ble_eq_true rfl) (fun r15 h A kc ks hV hw => ?_)
        refine wr_ast5 (pc' := 60) d_Q_read_58 rfl rfl (Nat.le_of_ble_eq_true rfl) ?_
        refine wr_aload r15 (pc' := 62) d_Q_read_60 rfl rfl ?_
        refine wr_ST_isEmpty hV hw (pc' := 65) d_Q_read_62 rfl cs_Q_43 (Nat.le_of_ble_eq_true rfl) (Nat.le_of_ble_eq_true rfl) (fun x16 hw => ?_)
        refine wr_if_ne hw (pc' := 68) d_Q_read_65 rfl rfl (fun hw => ?_) (fun hw => ?_)
        · refine mm_iconst (v := 0) (pc' := 98) d_Q_read_97 rfl (by decide) ?_
          exact wr_iret hV d_Q_read_98 rfl rfl hw
        · refine wr_aload r15 (pc' := 70) d_Q_read_68 rfl rfl ?_
          refine mm_iconst (v := 0) (pc' := 71) d_Q_read_70 rfl (by decide) ?_
          refine wr_ST_charAt hV hw (pc' := 74) d_Q_read_71 rfl cs_Q_47 (Nat.le_of_ble_eq_true rfl) (Nat.le_of_ble_eq_true rfl) (fun x17 hw => ?_)
          refine mm_bipush (v := 47) (pc' := 76) d_Q_read_74 rfl (by decide) ?_
          refine wr_icmp_ne hw (pc' := 79) d_Q_read_76 rfl rfl (fun hw => ?_) (fun hw => ?_)
          · refine mm_iconst (v := 0) (pc' := 98) d_Q_read_97 rfl (by decide) ?_
            exact wr_iret hV d_Q_read_98 rfl rfl hw
          · refine wr_aload r15 (pc' := 81) d_Q_read_79 rfl rfl ?_
            refine mm_bipush (v := 32) (pc' := 83) d_Q_read_81 rfl (by decide) ?_
            refine wr_ST_indexOf_I hV hw (pc' := 86) d_Q_read_83 rfl cs_Q_16 (Nat.le_of_ble_eq_true rfl) (Nat.le_of_ble_eq_true rfl) (fun x18 hw => ?_)
            refine wr_if_ge hw (pc' := 89) d_Q_read_86 rfl rfl (fun hw => ?_) (fun hw => ?_)
            · refine mm_iconst (v := 0) (pc' := 98) d_Q_read_97 rfl (by decide) ?_
              exact wr_iret hV d_Q_read_98 rfl rfl hw
            · refine wr_aload r15 (pc' := 91) d_Q_read_89 rfl rfl ?_
              refine wr_cSI (pc' := 94) (as := [va_rf r15]) (st := []) d_Q_read_91 rfl cs_Q_51 (sd_Q_hasGoodCodes hV hw) rfl rfl (Nat.le_of_ble_eq_true rfl) (Nat.le_of_ble_eq_true rfl) (fun x19 h A hV hw => ?_)
              refine wr_if_ne hw (pc' := 97) d_Q_read_94 rfl rfl (fun hw => ?_) (fun hw => ?_)
              · refine wr_aload r15 (pc' := 101) d_Q_read_99 rfl rfl ?_
                refine mm_bipush (v := 63) (pc' := 103) d_Q_read_101 rfl (by decide) ?_
                refine wr_ST_indexOf_I hV hw (pc' := 106) d_Q_read_103 rfl cs_Q_16 (Nat.le_of_ble_eq_true rfl) (Nat.le_of_ble_eq_true rfl) (fun x20 hw => ?_)
                refine mm_ist6 (pc' := 108) d_Q_read_106 rfl (wr_2 _) (Nat.le_of_ble_eq_true rfl) ?_
                refine mm_iload (pc' := 110) d_Q_read_108 rfl rfl ?_
                refine wr_if_ge hw (pc' := 113) d_Q_read_110 rfl rfl (fun hw => ?_) (fun hw => ?_)
                · refine wr_aload r15 (pc' := 120) d_Q_read_118 rfl rfl ?_
                  refine mm_iconst (v := 0) (pc' := 121) d_Q_read_120 rfl (by decide) ?_
                  refine mm_iload (pc' := 123) d_Q_read_121 rfl rfl ?_
                  refine wr_ST_substring_II hV hw (pc' := 126) d_Q_read_123 rfl cs_Q_40 (Nat.le_of_ble_eq_true rfl) (Nat.le_of_ble_eq_true rfl) (fun r21 h A kc ks hV hw => ?_)
                  exact mm_drop (mm_le.s (mm_le.s (mm_le.s (mm_le.s (mm_le.n (mm_le.s (mm_le.s (mm_le.n mm_le.e)))))))) (sq_Q_read_126  _ _ _ _ _ _ _ _ hV hw)
                · refine wr_aload r15 (pc' := 115) d_Q_read_113 rfl rfl ?_
                  refine mm_goto (tgt := 126) d_Q_read_115 rfl ?_
                  exact mm_drop (mm_le.s (mm_le.s (mm_le.s (mm_le.s (mm_le.n (mm_le.s (mm_le.s (mm_le.n mm_le.e)))))))) (sq_Q_read_126  _ _ _ _ _ _ _ _ hV hw)
              · refine mm_iconst (v := 0) (pc' := 98) d_Q_read_97 rfl (by decide) ?_
                exact wr_iret hV d_Q_read_98 rfl rfl hw
      · refine mm_iconst (v := 0) (pc' := 48) d_Q_read_47 rfl (by decide) ?_
        exact wr_iret hV d_Q_read_48 rfl rfl hw
