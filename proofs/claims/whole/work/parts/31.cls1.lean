theorem d_R_takeInRequestLine_0 : decode prog_6_method_5_code 0 = .ok (.aload_n 0, 1) := by decide +kernel
theorem d_R_takeInRequestLine_1 : decode prog_6_method_5_code 1 = .ok (.iload_n 1, 1) := by decide +kernel
theorem d_R_takeInRequestLine_2 : decode prog_6_method_5_code 2 = .ok (.bipush 40, 2) := by decide +kernel
theorem d_R_takeInRequestLine_4 : decode prog_6_method_5_code 4 = .ok (.sipush 414, 3) := by decide +kernel
theorem d_R_takeInRequestLine_7 : decode prog_6_method_5_code 7 = .ok (.invokevirtual 96, 3) := by decide +kernel
theorem d_R_takeInRequestLine_10 : decode prog_6_method_5_code 10 = .ok (.istore_n 2, 1) := by decide +kernel
theorem d_R_takeInRequestLine_11 : decode prog_6_method_5_code 11 = .ok (.iload_n 2, 1) := by decide +kernel
theorem d_R_takeInRequestLine_12 : decode prog_6_method_5_code 12 = .ok (.iconst 2, 1) := by decide +kernel
theorem d_R_takeInRequestLine_13 : decode prog_6_method_5_code 13 = .ok (.if_icmp .eq 5, 3) := by decide +kernel
theorem d_R_takeInRequestLine_16 : decode prog_6_method_5_code 16 = .ok (.iload_n 2, 1) := by decide +kernel
theorem d_R_takeInRequestLine_17 : decode prog_6_method_5_code 17 = .ok (.ireturn, 1) := by decide +kernel
theorem d_R_takeInRequestLine_18 : decode prog_6_method_5_code 18 = .ok (.aload_n 0, 1) := by decide +kernel
theorem d_R_takeInRequestLine_19 : decode prog_6_method_5_code 19 = .ok (.iconst 1, 1) := by decide +kernel
theorem d_R_takeInRequestLine_20 : decode prog_6_method_5_code 20 = .ok (.putfield 33, 3) := by decide +kernel
theorem d_R_takeInRequestLine_23 : decode prog_6_method_5_code 23 = .ok (.aload_n 0, 1) := by decide +kernel
theorem d_R_takeInRequestLine_24 : decode prog_6_method_5_code 24 = .ok (.getfield 22, 3) := by decide +kernel
theorem d_R_takeInRequestLine_27 : decode prog_6_method_5_code 27 = .ok (.aload_n 0, 1) := by decide +kernel
theorem d_R_takeInRequestLine_28 : decode prog_6_method_5_code 28 = .ok (.invokevirtual 100, 3) := by decide +kernel
theorem d_R_takeInRequestLine_31 : decode prog_6_method_5_code 31 = .ok (.aload_n 0, 1) := by decide +kernel
theorem d_R_takeInRequestLine_32 : decode prog_6_method_5_code 32 = .ok (.getfield 29, 3) := by decide +kernel
theorem d_R_takeInRequestLine_35 : decode prog_6_method_5_code 35 = .ok (.invokevirtual 103, 3) := by decide +kernel
theorem d_R_takeInRequestLine_38 : decode prog_6_method_5_code 38 = .ok (.ifCond .eq 7, 3) := by decide +kernel
theorem d_R_takeInRequestLine_41 : decode prog_6_method_5_code 41 = .ok (.iconst 0, 1) := by decide +kernel
theorem d_R_takeInRequestLine_42 : decode prog_6_method_5_code 42 = .ok (.goto 6, 3) := by decide +kernel
theorem d_R_takeInRequestLine_45 : decode prog_6_method_5_code 45 = .ok (.sipush 400, 3) := by decide +kernel
theorem d_R_takeInRequestLine_48 : decode prog_6_method_5_code 48 = .ok (.ireturn, 1) := by decide +kernel
def wp_R_takeInRequestLine (a : Nat) (p0 : Int32) (A : ab_H) (kc ks : Nat) (Q : Int32 → ab_H → Prop) : Prop := wC A (some a) 5 (fun b => wX kc ks (wp_R_takeInLine b p0 (40 : Int32) (414 : Int32) A) (fun x1 A kc ks => if x1 = (2 : Int32) then (wp A (some a) 5 4 (.int (1 : Int32)) (fun A => wgR A (some a) 5 2 (fun r2 => wC A (some a) 5 (fun b => wX kc ks (wp_R_endLine b  A) (fun r3 A kc ks => wgR A (some a) 5 3 (fun r4 => wC A r2 6 (fun b => wX kc ks (wp_Q_read b r3 r4 A) (fun x5 A kc ks => if x5 = 0 then (Q (400 : Int32) A) else (Q (0 : Int32) A))))))))) else (Q x1 A)))
set_option maxRecDepth 100000 in
set_option maxHeartbeats 4000000 in
theorem sd_R_takeInRequestLine {l : Launch} {G : mm_G} {h : mm_H} {A : ab_H} {a : Nat} {p0 : Int32} {kc ks : Nat} {Q : Int32 → ab_H → Prop} (hV : Vw G h A) (hw : wp_R_takeInRequestLine a p0 A kc ks Q) : mm_S l G M_R_takeInRequestLine [.ref a, .int p0] h kc ks (wQI G Q) := by
  unfold wp_R_takeInRequestLine at hw
  refine mm_start rfl (Nat.le_of_ble_eq_true rfl) ?_
  show mm_V l G M_R_takeInRequestLine kc ks 0 [some (va_rf (some a)), some (.int p0), none] [] h _
  refine wr_aload_n (some a) (pc' := 1) d_R_takeInRequestLine_0 rfl rfl rfl ?_
  refine mm_iload_n (pc' := 2) d_R_takeInRequestLine_1 rfl rfl rfl ?_
  refine mm_bipush (v := 40) (pc' := 4) d_R_takeInRequestLine_2 rfl (by decide) ?_
  refine mm_sipush (v := 414) (pc' := 7) d_R_takeInRequestLine_4 rfl (by decide) ?_
  refine wr_cVIx (pc' := 10) (as := [.int p0, .int (40 : Int32), .int (414 : Int32)]) (st := []) d_R_takeInRequestLine_7 rfl cs_R_96 rfl (W := fun b c s Q' => wp_R_takeInLine b p0 (40 : Int32) (414 : Int32) A c s Q') hV hw (fun b c s Q' hw => sd_R_takeInLine hV hw) rfl rfl (Nat.le_of_ble_eq_true rfl) (Nat.le_of_ble_eq_true rfl) (fun x1 h A kc ks hV hw => ?_)
  refine mm_ist2 (pc' := 11) d_R_takeInRequestLine_10 rfl rfl (Nat.le_of_ble_eq_true rfl) ?_
  refine mm_iload_n (pc' := 12) d_R_takeInRequestLine_11 rfl rfl rfl ?_
  refine mm_iconst (v := 2) (pc' := 13) d_R_takeInRequestLine_12 rfl (by decide) ?_
  refine wr_icmp_eq hw (pc' := 16) d_R_takeInRequestLine_13 rfl rfl (fun hw => ?_) (fun hw => ?_)
  · refine wr_aload_n (some a) (pc' := 19) d_R_takeInRequestLine_18 rfl rfl rfl ?_
    refine mm_iconst (v := 1) (pc' := 20) d_R_takeInRequestLine_19 rfl (by decide) ?_
    refine wr_put hV hw (pc' := 23) d_R_takeInRequestLine_20 rfl pl_R_takeInRequestLine_33 (Nat.le_of_ble_eq_true rfl) (wn_I _) (fun h A hV hw => ?_)
    refine wr_aload_n (some a) (pc' := 24) d_R_takeInRequestLine_23 rfl rfl rfl ?_
    refine wr_getR hV hw (pc' := 27) d_R_takeInRequestLine_24 rfl fl_R_22 (fun r2 hw => ?_)
    refine wr_aload_n (some a) (pc' := 28) d_R_takeInRequestLine_27 rfl rfl rfl ?_
    refine wr_cVRx (pc' := 31) (as := []) (st := [va_rf r2]) d_R_takeInRequestLine_28 rfl cs_R_100 rfl (W := fun b c s Q' => wp_R_endLine b  A c s Q') hV hw (fun b c s Q' hw => sd_R_endLine hV hw) rfl rfl (Nat.le_of_ble_eq_true rfl) (Nat.le_trans (wr_hR wr_h0) (Nat.le_of_ble_eq_true rfl)) (fun r3 h A kc ks hV hw => ?_)
    refine wr_aload_n (some a) (pc' := 32) d_R_takeInRequestLine_31 rfl rfl rfl ?_
    refine wr_getR hV hw (pc' := 35) d_R_takeInRequestLine_32 rfl fl_R_29 (fun r4 hw => ?_)
    refine wr_cVIx (pc' := 38) (as := [va_rf r3, va_rf r4]) (st := []) d_R_takeInRequestLine_35 rfl cs_R_103 rfl (W := fun b c s Q' => wp_Q_read b r3 r4 A c s Q') hV hw (fun b c s Q' hw => sd_Q_read hV hw) rfl rfl (Nat.le_of_ble_eq_true rfl) (Nat.le_of_ble_eq_true rfl) (fun x5 h A kc ks hV hw => ?_)
    refine wr_if_eq hw (pc' := 41) d_R_takeInRequestLine_38 rfl rfl (fun hw => ?_) (fun hw => ?_)
    · refine mm_sipush (v := 400) (pc' := 48) d_R_takeInRequestLine_45 rfl (by decide) ?_
      exact wr_iret hV d_R_takeInRequestLine_48 rfl rfl hw
    · refine mm_iconst (v := 0) (pc' := 42) d_R_takeInRequestLine_41 rfl (by decide) ?_
      refine mm_goto (tgt := 48) d_R_takeInRequestLine_42 rfl ?_
      exact wr_iret hV d_R_takeInRequestLine_48 rfl rfl hw
  · refine mm_iload_n (pc' := 17) d_R_takeInRequestLine_16 rfl rfl rfl ?_
    exact wr_iret hV d_R_takeInRequestLine_17 rfl rfl hw
theorem d_R_endHeaders_0 : decode prog_6_method_12_code 0 = .ok (.aload_n 0, 1) := by decide +kernel
theorem d_R_endHeaders_1 : decode prog_6_method_12_code 1 = .ok (.getfield 48, 3) := by decide +kernel
theorem d_R_endHeaders_4 : decode prog_6_method_12_code 4 = .ok (.ifCond .eq 10, 3) := by decide +kernel
theorem d_R_endHeaders_7 : decode prog_6_method_12_code 7 = .ok (.aload_n 0, 1) := by decide +kernel
theorem d_R_endHeaders_8 : decode prog_6_method_12_code 8 = .ok (.iconst 3, 1) := by decide +kernel
theorem d_R_endHeaders_9 : decode prog_6_method_12_code 9 = .ok (.putfield 33, 3) := by decide +kernel
theorem d_R_endHeaders_12 : decode prog_6_method_12_code 12 = .ok (.iconst 0, 1) := by decide +kernel
theorem d_R_endHeaders_13 : decode prog_6_method_12_code 13 = .ok (.ireturn, 1) := by decide +kernel
theorem d_R_endHeaders_14 : decode prog_6_method_12_code 14 = .ok (.aload_n 0, 1) := by decide +kernel
theorem d_R_endHeaders_15 : decode prog_6_method_12_code 15 = .ok (.iconst 2, 1) := by decide +kernel
theorem d_R_endHeaders_16 : decode prog_6_method_12_code 16 = .ok (.putfield 33, 3) := by decide +kernel
theorem d_R_endHeaders_19 : decode prog_6_method_12_code 19 = .ok (.aload_n 0, 1) := by decide +kernel
theorem d_R_endHeaders_20 : decode prog_6_method_12_code 20 = .ok (.getfield 51, 3) := by decide +kernel
theorem d_R_endHeaders_23 : decode prog_6_method_12_code 23 = .ok (.ifCond .le 7, 3) := by decide +kernel
theorem d_R_endHeaders_26 : decode prog_6_method_12_code 26 = .ok (.iconst 0, 1) := by decide +kernel
theorem d_R_endHeaders_27 : decode prog_6_method_12_code 27 = .ok (.goto 4, 3) := by decide +kernel
theorem d_R_endHeaders_30 : decode prog_6_method_12_code 30 = .ok (.iconst 1, 1) := by decide +kernel
theorem d_R_endHeaders_31 : decode prog_6_method_12_code 31 = .ok (.ireturn, 1) := by decide +kernel
def wp_R_endHeaders (a : Nat) (A : ab_H) (Q : Int32 → ab_H → Prop) : Prop := wgI A (some a) 5 7 (fun x1 => if x1 = 0 then (wp A (some a) 5 4 (.int (2 : Int32)) (fun A => wgI A (some a) 5 8 (fun x2 => if x2 ≤ 0 then (Q (1 : Int32) A) else (Q (0 : Int32) A)))) else (wp A (some a) 5 4 (.int (3 : Int32)) (fun A => Q (0 : Int32) A)))
set_option maxRecDepth 100000 in
set_option maxHeartbeats 4000000 in
theorem sd_R_endHeaders {l : Launch} {G : mm_G} {h : mm_H} {A : ab_H} {a : Nat} {Q : Int32 → ab_H → Prop} (hV : Vw G h A) (hw : wp_R_endHeaders a A Q) : mm_S l G M_R_endHeaders [.ref a] h 0 0 (wQI G Q) := by
  unfold wp_R_endHeaders at hw
  refine mm_start rfl (Nat.le_of_ble_eq_true rfl) ?_
  show mm_V l G M_R_endHeaders 0 0 0 [some (va_rf (some a))] [] h _
  refine wr_aload_n (some a) (pc' := 1) d_R_endHeaders_0 rfl rfl rfl ?_
  refine wr_getI hV hw (pc' := 4) d_R_endHeaders_1 rfl fl_R_48 (fun x1 hw => ?_)
  refine wr_if_eq hw (pc' := 7) d_R_endHeaders_4 rfl rfl (fun hw => ?_) (fun hw => ?_)
  · refine wr_aload_n (some a) (pc' := 15) d_R_endHeaders_14 rfl rfl rfl ?_
    refine mm_iconst (v := 2) (pc' := 16) d_R_endHeaders_15 rfl (by decide) ?_
    refine wr_put hV hw (pc' := 19) d_R_endHeaders_16 rfl pl_R_endHeaders_33 (Nat.le_of_ble_eq_true rfl) (wn_I _) (fun h A hV hw => ?_)
    refine wr_aload_n (some a) (pc' := 20) d_R_endHeaders_19 rfl rfl rfl ?_
    refine wr_getI hV hw (pc' := 23) d_R_endHeaders_20 rfl fl_R_51 (fun x2 hw => ?_)
    refine wr_if_le hw (pc' := 26) d_R_endHeaders_23 rfl rfl (fun hw => ?_) (fun hw => ?_)
    · refine mm_iconst (v := 1) (pc' := 31) d_R_endHeaders_30 rfl (by decide) ?_
      exact wr_iret hV d_R_endHeaders_31 rfl rfl hw
    · refine mm_iconst (v := 0) (pc' := 27) d_R_endHeaders_26 rfl (by decide) ?_
      refine mm_goto (tgt := 31) d_R_endHeaders_27 rfl ?_
      exact wr_iret hV d_R_endHeaders_31 rfl rfl hw
  · refine wr_aload_n (some a) (pc' := 8) d_R_endHeaders_7 rfl rfl rfl ?_
    refine mm_iconst (v := 3) (pc' := 9) d_R_endHeaders_8 rfl (by decide) ?_
    refine wr_put hV hw (pc' := 12) d_R_endHeaders_9 rfl pl_R_endHeaders_33 (Nat.le_of_ble_eq_true rfl) (wn_I _) (fun h A hV hw => ?_)
    refine mm_iconst (v := 0) (pc' := 13) d_R_endHeaders_12 rfl (by decide) ?_
    exact wr_iret hV d_R_endHeaders_13 rfl rfl hw
theorem d_X_isSmall_0 : decode prog_12_method_5_code 0 = .ok (.iload_n 0, 1) := by decide +kernel
theorem d_X_isSmall_1 : decode prog_12_method_5_code 1 = .ok (.bipush 97, 2) := by decide +kernel
theorem d_X_isSmall_3 : decode prog_12_method_5_code 3 = .ok (.if_icmp .lt 13, 3) := by decide +kernel
theorem d_X_isSmall_6 : decode prog_12_method_5_code 6 = .ok (.iload_n 0, 1) := by decide +kernel
theorem d_X_isSmall_7 : decode prog_12_method_5_code 7 = .ok (.bipush 122, 2) := by decide +kernel
theorem d_X_isSmall_9 : decode prog_12_method_5_code 9 = .ok (.if_icmp .gt 7, 3) := by decide +kernel
theorem d_X_isSmall_12 : decode prog_12_method_5_code 12 = .ok (.iconst 1, 1) := by decide +kernel
theorem d_X_isSmall_13 : decode prog_12_method_5_code 13 = .ok (.goto 4, 3) := by decide +kernel
theorem d_X_isSmall_16 : decode prog_12_method_5_code 16 = .ok (.iconst 0, 1) := by decide +kernel
theorem d_X_isSmall_17 : decode prog_12_method_5_code 17 = .ok (.ireturn, 1) := by decide +kernel
def wp_X_isSmall (p0 : Int32) (A : ab_H) (Q : Int32 → ab_H → Prop) : Prop := if p0 < (97 : Int32) then (Q (0 : Int32) A) else (if (122 : Int32) < p0 then (Q (0 : Int32) A) else (Q (1 : Int32) A))
set_option maxRecDepth 100000 in
set_option maxHeartbeats 4000000 in
theorem sd_X_isSmall {l : Launch} {G : mm_G} {h : mm_H} {A : ab_H} {p0 : Int32} {Q : Int32 → ab_H → Prop} (hV : Vw G h A) (hw : wp_X_isSmall p0 A Q) : mm_S l G M_X_isSmall [.int p0] h 0 0 (wQI G Q) := by
  unfold wp_X_isSmall at hw
  refine mm_start rfl (Nat.le_of_ble_eq_true rfl) ?_
  show mm_V l G M_X_isSmall 0 0 0 [some (.int p0)] [] h _
  refine mm_iload_n (pc' := 1) d_X_isSmall_0 rfl rfl rfl ?_
  refine mm_bipush (v := 97) (pc' := 3) d_X_isSmall_1 rfl (by decide) ?_
  refine wr_icmp_lt hw (pc' := 6) d_X_isSmall_3 rfl rfl (fun hw => ?_) (fun hw => ?_)
  · refine mm_iconst (v := 0) (pc' := 17) d_X_isSmall_16 rfl (by decide) ?_
    exact wr_iret hV d_X_isSmall_17 rfl rfl hw
  · refine mm_iload_n (pc' := 7) d_X_isSmall_6 rfl rfl rfl ?_
    refine mm_bipush (v := 122) (pc' := 9) d_X_isSmall_7 rfl (by decide) ?_
    refine wr_icmp_gt hw (pc' := 12) d_X_isSmall_9 rfl rfl (fun hw => ?_) (fun hw => ?_)
    · refine mm_iconst (v := 0) (pc' := 17) d_X_isSmall_16 rfl (by decide) ?_
      exact wr_iret hV d_X_isSmall_17 rfl rfl hw
    · refine mm_iconst (v := 1) (pc' := 13) d_X_isSmall_12 rfl (by decide) ?_
      refine mm_goto (tgt := 17) d_X_isSmall_13 rfl ?_
      exact wr_iret hV d_X_isSmall_17 rfl rfl hw
theorem d_X_small_0 : decode prog_12_method_7_code 0 = .ok (.aload_n 0, 1) := by decide +kernel
theorem d_X_small_1 : decode prog_12_method_7_code 1 = .ok (.invokevirtual 7, 3) := by decide +kernel
theorem d_X_small_4 : decode prog_12_method_7_code 4 = .ok (.astore_n 1, 1) := by decide +kernel
theorem d_X_small_5 : decode prog_12_method_7_code 5 = .ok (.iconst 0, 1) := by decide +kernel
theorem d_X_small_6 : decode prog_12_method_7_code 6 = .ok (.istore_n 2, 1) := by decide +kernel
theorem d_X_small_7 : decode prog_12_method_7_code 7 = .ok (.iload_n 2, 1) := by decide +kernel
theorem d_X_small_8 : decode prog_12_method_7_code 8 = .ok (.aload_n 1, 1) := by decide +kernel
theorem d_X_small_9 : decode prog_12_method_7_code 9 = .ok (.arraylength, 1) := by decide +kernel
theorem d_X_small_10 : decode prog_12_method_7_code 10 = .ok (.if_icmp .ge 28, 3) := by decide +kernel
theorem d_X_small_13 : decode prog_12_method_7_code 13 = .ok (.aload_n 1, 1) := by decide +kernel
theorem d_X_small_14 : decode prog_12_method_7_code 14 = .ok (.iload_n 2, 1) := by decide +kernel
theorem d_X_small_15 : decode prog_12_method_7_code 15 = .ok (.caload, 1) := by decide +kernel
theorem d_X_small_16 : decode prog_12_method_7_code 16 = .ok (.invokestatic 13, 3) := by decide +kernel
theorem d_X_small_19 : decode prog_12_method_7_code 19 = .ok (.ifCond .eq 13, 3) := by decide +kernel
theorem d_X_small_22 : decode prog_12_method_7_code 22 = .ok (.aload_n 1, 1) := by decide +kernel
theorem d_X_small_23 : decode prog_12_method_7_code 23 = .ok (.iload_n 2, 1) := by decide +kernel
theorem d_X_small_24 : decode prog_12_method_7_code 24 = .ok (.aload_n 1, 1) := by decide +kernel
theorem d_X_small_25 : decode prog_12_method_7_code 25 = .ok (.iload_n 2, 1) := by decide +kernel
theorem d_X_small_26 : decode prog_12_method_7_code 26 = .ok (.caload, 1) := by decide +kernel
theorem d_X_small_27 : decode prog_12_method_7_code 27 = .ok (.bipush 32, 2) := by decide +kernel
theorem d_X_small_29 : decode prog_12_method_7_code 29 = .ok (.iadd, 1) := by decide +kernel
theorem d_X_small_30 : decode prog_12_method_7_code 30 = .ok (.i2c, 1) := by decide +kernel
theorem d_X_small_31 : decode prog_12_method_7_code 31 = .ok (.castore, 1) := by decide +kernel
theorem d_X_small_32 : decode prog_12_method_7_code 32 = .ok (.iinc 2 1, 3) := by decide +kernel
theorem d_X_small_35 : decode prog_12_method_7_code 35 = .ok (.goto (-28), 3) := by decide +kernel
theorem d_X_small_38 : decode prog_12_method_7_code 38 = .ok (.new 8, 3) := by decide +kernel
theorem d_X_small_41 : decode prog_12_method_7_code 41 = .ok (.dup, 1) := by decide +kernel
theorem d_X_small_42 : decode prog_12_method_7_code 42 = .ok (.aload_n 1, 1) := by decide +kernel
theorem d_X_small_43 : decode prog_12_method_7_code 43 = .ok (.invokespecial 19, 3) := by decide +kernel
theorem d_X_small_46 : decode prog_12_method_7_code 46 = .ok (.areturn, 1) := by decide +kernel
def wq_X_small_38 (p0 : Option Nat) (Q : Option Nat → ab_H → Prop)  (u1 : Option Nat) (A : ab_H) (kc ks : Nat) : Prop := wNew A kc ks 0 4 (fun b1 A kc ks => wj_ST_init_aC A kc ks (some b1) u1 (fun A kc ks => Q (some b1) A))
set_option maxRecDepth 100000 in
set_option maxHeartbeats 4000000 in
theorem sq_X_small_38 {l : Launch} {G : mm_G} {p0 : Option Nat} {Q : Option Nat → ab_H → Prop}   : ∀ (u1 : Option Nat) (A : ab_H) (kc ks : Nat) (h : mm_H), Vw G h A → wq_X_small_38 p0 Q  u1 A kc ks → mm_V l G M_X_small kc ks 38 [some (va_rf p0), some (va_rf u1), none] [] h (wQR G Q) := by
  intro u1 A kc ks h hV hw
  unfold wq_X_small_38 at hw
  refine wr_new hV hw (pc' := 41) d_X_small_38 rfl nl_X_8 rfl (fun b1 h A kc ks hV hw => ?_)
  refine mm_dup (pc' := 42) d_X_small_41 rfl (wr_cat _) ?_
  refine wr_aload_n u1 (pc' := 43) d_X_small_42 rfl rfl rfl ?_
  refine wr_ST_init_aC hV hw (pc' := 46) d_X_small_43 rfl cs_X_19 (Nat.le_of_ble_eq_true rfl) (Nat.le_trans (wr_hR wr_h0) (Nat.le_of_ble_eq_true rfl)) (fun h A kc ks hV hw => ?_)
  exact wr_aret hV d_X_small_46 rfl (by first | exact Or.inl ⟨_, rfl⟩ | exact Or.inr ⟨_, rfl⟩) hw
def wb_X_small_7 (p0 : Option Nat) (Q : Option Nat → ab_H → Prop)  (k7 : Option Nat → Int32 → ab_H → Nat → Nat → Prop) (u1 : Option Nat) (u2 : Int32) (A : ab_H) (kc ks : Nat) : Prop := wLen A u1 (fun x2 => if x2 ≤ u2 then (wq_X_small_38 p0 Q u1 A kc ks) else (wAC A u1 u2 (fun x3 => wp_X_isCapital x3 A (fun x4 A => if x4 = 0 then (k7 u1 (u2 + 1) A kc ks) else (wAC A u1 u2 (fun x5 => wSC A u1 u2 (wch (x5 + (32 : Int32))) (fun A => k7 u1 (u2 + 1) A kc ks)))))))
def wq_X_small_7 (p0 : Option Nat) (Q : Option Nat → ab_H → Prop)  : Nat → Option Nat → Int32 → ab_H → Nat → Nat → Prop
  | 0 => fun _ _ _ _ _ => False
  | n + 1 => wb_X_small_7 p0 Q  (wq_X_small_7 p0 Q  n)
set_option maxRecDepth 100000 in
set_option maxHeartbeats 4000000 in
theorem sq_X_small_7 {l : Launch} {G : mm_G} {p0 : Option Nat} {Q : Option Nat → ab_H → Prop}   : ∀ (n : Nat) (u1 : Option Nat) (u2 : Int32) (A : ab_H) (kc ks : Nat) (h : mm_H), Vw G h A → wq_X_small_7 p0 Q  n u1 u2 A kc ks → mm_V l G M_X_small kc ks 7 [some (va_rf p0), some (va_rf u1), some (.int u2)] [] h (wQR G Q) := by
  intro n
  induction n with
  | zero =>
    intro u1 u2 A kc ks h hV hw
    exact absurd hw id
  | succ n hk7 =>
    intro u1 u2 A kc ks h hV hw
    have hw : wb_X_small_7 p0 Q  (wq_X_small_7 p0 Q  n) u1 u2 A kc ks := hw
    unfold wb_X_small_7 at hw
    refine mm_iload_n (pc' := 8) d_X_small_7 rfl rfl rfl ?_
    refine wr_aload_n u1 (pc' := 9) d_X_small_8 rfl rfl rfl ?_
    refine wr_len hV hw (pc' := 10) d_X_small_9 rfl (fun x2 hw => ?_)
    refine wr_icmp_ge hw (pc' := 13) d_X_small_10 rfl rfl (fun hw => ?_) (fun hw => ?_)
    · exact mm_drop (mm_le.s (mm_le.s (mm_le.n mm_le.e))) (sq_X_small_38  _ _ _ _ _ hV hw)
    · refine wr_aload_n u1 (pc' := 14) d_X_small_13 rfl rfl rfl ?_
      refine mm_iload_n (pc' := 15) d_X_small_14 rfl rfl rfl ?_
      refine wr_aldC hV hw (pc' := 16) d_X_small_15 rfl (fun x3 hw => ?_)
      refine wr_cSI (pc' := 19) (as := [.int x3]) (st := []) d_X_small_16 rfl cs_X_13 (sd_X_isCapital hV hw) rfl rfl (Nat.le_of_ble_eq_true rfl) (Nat.le_of_ble_eq_true rfl) (fun x4 h A hV hw => ?_)
      refine wr_if_eq hw (pc' := 22) d_X_small_19 rfl rfl (fun hw => ?_) (fun hw => ?_)
      · refine mm_iinc2 (v := (u2 + 1)) (pc' := 35) d_X_small_32 rfl (wr_2 _) rfl (Nat.le_of_ble_eq_true rfl) ?_
        refine mm_goto (tgt := 7) d_X_small_35 rfl ?_
        exact mm_drop (mm_le.s (mm_le.s (mm_le.s mm_le.e))) (hk7 _ _ _ _ _ _ hV hw)
      · refine wr_aload_n u1 (pc' := 23) d_X_small_22 rfl rfl rfl ?_
        refine mm_iload_n (pc' := 24) d_X_small_23 rfl rfl rfl ?_
        refine wr_aload_n u1 (pc' := 25) d_X_small_24 rfl rfl rfl ?_
        refine mm_iload_n (pc' := 26) d_X_small_25 rfl rfl rfl ?_
        refine wr_aldC hV hw (pc' := 27) d_X_small_26 rfl (fun x5 hw => ?_)
        refine mm_bipush (v := 32) (pc' := 29) d_X_small_27 rfl (by decide) ?_
        refine mm_iadd (pc' := 30) d_X_small_29 rfl ?_
        refine mm_i2c (v := wch (x5 + (32 : Int32))) (pc' := 31) d_X_small_30 rfl rfl ?_
        refine wr_astC hV hw (pc' := 32) d_X_small_31 rfl (fun h A hV hw => ?_)
        refine mm_iinc2 (v := (u2 + 1)) (pc' := 35) d_X_small_32 rfl (wr_2 _) rfl (Nat.le_of_ble_eq_true rfl) ?_
        refine mm_goto (tgt := 7) d_X_small_35 rfl ?_
        exact mm_drop (mm_le.s (mm_le.s (mm_le.s mm_le.e))) (hk7 _ _ _ _ _ _ hV hw)
def wp_X_small (p0 : Option Nat) (A : ab_H) (kc ks : Nat) (Q : Option Nat → ab_H → Prop) : Prop := wj_ST_toCharArray A kc ks p0  (fun r6 A kc ks => ∃ n, wq_X_small_7 p0 Q n r6 (0 : Int32) A kc ks)
set_option maxRecDepth 100000 in
set_option maxHeartbeats 4000000 in
theorem sd_X_small {l : Launch} {G : mm_G} {h : mm_H} {A : ab_H} {p0 : Option Nat} {kc ks : Nat} {Q : Option Nat → ab_H → Prop} (hV : Vw G h A) (hw : wp_X_small p0 A kc ks Q) : mm_S l G M_X_small [va_rf p0] h kc ks (wQR G Q) := by
  unfold wp_X_small at hw
  refine mm_start rfl (by simp [mm_as, wr_cat, wr_catI, wr_catJ, wr_catN]) ?_
  rw [show mm_en [va_rf p0] M_X_small.2.2.1 = [some (va_rf p0), none, none] from by simp [mm_en, mm_as, wr_cat, wr_catI, wr_catJ, wr_catN]]
  show mm_V l G M_X_small kc ks 0 [some (va_rf p0), none, none] [] h _
  refine wr_aload_n p0 (pc' := 1) d_X_small_0 rfl rfl rfl ?_
  refine wr_ST_toCharArray hV hw (pc' := 4) d_X_small_1 rfl cs_X_7 (Nat.le_of_ble_eq_true rfl) (Nat.le_of_ble_eq_true rfl) (fun r6 h A kc ks hV hw => ?_)
  refine wr_ast1 (pc' := 5) d_X_small_4 rfl (wr_2 _) (Nat.le_of_ble_eq_true rfl) ?_
  refine mm_iconst (v := 0) (pc' := 6) d_X_small_5 rfl (by decide) ?_
  refine mm_ist2 (pc' := 7) d_X_small_6 rfl (wr_2 _) (Nat.le_of_ble_eq_true rfl) ?_
  obtain ⟨n, hw⟩ := hw
  exact mm_drop (mm_le.s (mm_le.s (mm_le.s mm_le.e))) (sq_X_small_7  n _ _ _ _ _ _ hV hw)
theorem d_X_trimmed_0 : decode prog_12_method_8_code 0 = .ok (.iload_n 1, 1) := by decide +kernel
theorem d_X_trimmed_1 : decode prog_12_method_8_code 1 = .ok (.istore_n 2, 1) := by decide +kernel
theorem d_X_trimmed_2 : decode prog_12_method_8_code 2 = .ok (.aload_n 0, 1) := by decide +kernel
theorem d_X_trimmed_3 : decode prog_12_method_8_code 3 = .ok (.invokevirtual 22, 3) := by decide +kernel
theorem d_X_trimmed_6 : decode prog_12_method_8_code 6 = .ok (.istore_n 3, 1) := by decide +kernel
theorem d_X_trimmed_7 : decode prog_12_method_8_code 7 = .ok (.iload_n 2, 1) := by decide +kernel
theorem d_X_trimmed_8 : decode prog_12_method_8_code 8 = .ok (.iload_n 3, 1) := by decide +kernel
theorem d_X_trimmed_9 : decode prog_12_method_8_code 9 = .ok (.if_icmp .ge 19, 3) := by decide +kernel
theorem d_X_trimmed_12 : decode prog_12_method_8_code 12 = .ok (.aload_n 0, 1) := by decide +kernel
theorem d_X_trimmed_13 : decode prog_12_method_8_code 13 = .ok (.iload_n 2, 1) := by decide +kernel
theorem d_X_trimmed_14 : decode prog_12_method_8_code 14 = .ok (.invokevirtual 26, 3) := by decide +kernel
theorem d_X_trimmed_17 : decode prog_12_method_8_code 17 = .ok (.bipush 32, 2) := by decide +kernel
theorem d_X_trimmed_19 : decode prog_12_method_8_code 19 = .ok (.if_icmp .ne 9, 3) := by decide +kernel
theorem d_X_trimmed_22 : decode prog_12_method_8_code 22 = .ok (.iinc 2 1, 3) := by decide +kernel
theorem d_X_trimmed_25 : decode prog_12_method_8_code 25 = .ok (.goto (-18), 3) := by decide +kernel
theorem d_X_trimmed_28 : decode prog_12_method_8_code 28 = .ok (.iload_n 3, 1) := by decide +kernel
theorem d_X_trimmed_29 : decode prog_12_method_8_code 29 = .ok (.iload_n 2, 1) := by decide +kernel
theorem d_X_trimmed_30 : decode prog_12_method_8_code 30 = .ok (.if_icmp .le 21, 3) := by decide +kernel
theorem d_X_trimmed_33 : decode prog_12_method_8_code 33 = .ok (.aload_n 0, 1) := by decide +kernel
theorem d_X_trimmed_34 : decode prog_12_method_8_code 34 = .ok (.iload_n 3, 1) := by decide +kernel
theorem d_X_trimmed_35 : decode prog_12_method_8_code 35 = .ok (.iconst 1, 1) := by decide +kernel
theorem d_X_trimmed_36 : decode prog_12_method_8_code 36 = .ok (.isub, 1) := by decide +kernel
theorem d_X_trimmed_37 : decode prog_12_method_8_code 37 = .ok (.invokevirtual 26, 3) := by decide +kernel
theorem d_X_trimmed_40 : decode prog_12_method_8_code 40 = .ok (.bipush 32, 2) := by decide +kernel
theorem d_X_trimmed_42 : decode prog_12_method_8_code 42 = .ok (.if_icmp .ne 9, 3) := by decide +kernel
theorem d_X_trimmed_45 : decode prog_12_method_8_code 45 = .ok (.iinc 3 (-1), 3) := by decide +kernel
theorem d_X_trimmed_48 : decode prog_12_method_8_code 48 = .ok (.goto (-20), 3) := by decide +kernel
theorem d_X_trimmed_51 : decode prog_12_method_8_code 51 = .ok (.aload_n 0, 1) := by decide +kernel
theorem d_X_trimmed_52 : decode prog_12_method_8_code 52 = .ok (.iload_n 2, 1) := by decide +kernel
theorem d_X_trimmed_53 : decode prog_12_method_8_code 53 = .ok (.iload_n 3, 1) := by decide +kernel
theorem d_X_trimmed_54 : decode prog_12_method_8_code 54 = .ok (.invokevirtual 30, 3) := by decide +kernel
theorem d_X_trimmed_57 : decode prog_12_method_8_code 57 = .ok (.areturn, 1) := by decide +kernel
def wq_X_trimmed_51 (p0 : Option Nat) (p1 : Int32) (Q : Option Nat → ab_H → Prop)  (u2 : Int32) (u3 : Int32) (A : ab_H) (kc ks : Nat) : Prop := wj_ST_substring_II A kc ks p0 u2 u3 (fun r1 A kc ks => Q r1 A)
set_option maxRecDepth 100000 in
set_option maxHeartbeats 4000000 in
theorem sq_X_trimmed_51 {l : Launch} {G : mm_G} {p0 : Option Nat} {p1 : Int32} {Q : Option Nat → ab_H → Prop}   : ∀ (u2 : Int32) (u3 : Int32) (A : ab_H) (kc ks : Nat) (h : mm_H), Vw G h A → wq_X_trimmed_51 p0 p1 Q  u2 u3 A kc ks → mm_V l G M_X_trimmed kc ks 51 [some (va_rf p0), some (.int p1), some (.int u2), some (.int u3)] [] h (wQR G Q) := by
  intro u2 u3 A kc ks h hV hw
  unfold wq_X_trimmed_51 at hw
  refine wr_aload_n p0 (pc' := 52) d_X_trimmed_51 rfl rfl rfl ?_
  refine mm_iload_n (pc' := 53) d_X_trimmed_52 rfl rfl rfl ?_
  refine mm_iload_n (pc' := 54) d_X_trimmed_53 rfl rfl rfl ?_
  refine wr_ST_substring_II hV hw (pc' := 57) d_X_trimmed_54 rfl cs_X_30 (Nat.le_of_ble_eq_true rfl) (Nat.le_of_ble_eq_true rfl) (fun r1 h A kc ks hV hw => ?_)
  exact wr_aret hV d_X_trimmed_57 rfl (by first | exact Or.inl ⟨_, rfl⟩ | exact Or.inr ⟨_, rfl⟩) hw
def wb_X_trimmed_28 (p0 : Option Nat) (p1 : Int32) (Q : Option Nat → ab_H → Prop)  (k28 : Int32 → Int32 → ab_H → Nat → Nat → Prop) (u2 : Int32) (u3 : Int32) (A : ab_H) (kc ks : Nat) : Prop := if u3 ≤ u2 then (wq_X_trimmed_51 p0 p1 Q u2 u3 A kc ks) else (wj_ST_charAt A p0 (u3 - (1 : Int32)) (fun x2 => if x2 = (32 : Int32) then (k28 u2 (u3 - 1) A kc ks) else (wq_X_trimmed_51 p0 p1 Q u2 u3 A kc ks)))
def wq_X_trimmed_28 (p0 : Option Nat) (p1 : Int32) (Q : Option Nat → ab_H → Prop)  : Nat → Int32 → Int32 → ab_H → Nat → Nat → Prop
  | 0 => fun _ _ _ _ _ => False
  | n + 1 => wb_X_trimmed_28 p0 p1 Q  (wq_X_trimmed_28 p0 p1 Q  n)
set_option maxRecDepth 100000 in
set_option maxHeartbeats 4000000 in
theorem sq_X_trimmed_28 {l : Launch} {G : mm_G} {p0 : Option Nat} {p1 : Int32} {Q : Option Nat → ab_H → Prop}   : ∀ (n : Nat) (u2 : Int32) (u3 : Int32) (A : ab_H) (kc ks : Nat) (h : mm_H), Vw G h A → wq_X_trimmed_28 p0 p1 Q  n u2 u3 A kc ks → mm_V l G M_X_trimmed kc ks 28 [some (va_rf p0), some (.int p1), some (.int u2), some (.int u3)] [] h (wQR G Q) := by
  intro n
  induction n with
  | zero =>
    intro u2 u3 A kc ks h hV hw
    exact absurd hw id
  | succ n hk28 =>
    intro u2 u3 A kc ks h hV hw
    have hw : wb_X_trimmed_28 p0 p1 Q  (wq_X_trimmed_28 p0 p1 Q  n) u2 u3 A kc ks := hw
    unfold wb_X_trimmed_28 at hw
    refine mm_iload_n (pc' := 29) d_X_trimmed_28 rfl rfl rfl ?_
    refine mm_iload_n (pc' := 30) d_X_trimmed_29 rfl rfl rfl ?_
    refine wr_icmp_le hw (pc' := 33) d_X_trimmed_30 rfl rfl (fun hw => ?_) (fun hw => ?_)
    · exact mm_drop (mm_le.s (mm_le.s (mm_le.s (mm_le.s mm_le.e)))) (sq_X_trimmed_51  _ _ _ _ _ _ hV hw)
    · refine wr_aload_n p0 (pc' := 34) d_X_trimmed_33 rfl rfl rfl ?_
      refine mm_iload_n (pc' := 35) d_X_trimmed_34 rfl rfl rfl ?_
      refine mm_iconst (v := 1) (pc' := 36) d_X_trimmed_35 rfl (by decide) ?_
      refine mm_isub (pc' := 37) d_X_trimmed_36 rfl ?_
      refine wr_ST_charAt hV hw (pc' := 40) d_X_trimmed_37 rfl cs_X_26 (Nat.le_of_ble_eq_true rfl) (Nat.le_of_ble_eq_true rfl) (fun x2 hw => ?_)
      refine mm_bipush (v := 32) (pc' := 42) d_X_trimmed_40 rfl (by decide) ?_
      refine wr_icmp_ne hw (pc' := 45) d_X_trimmed_42 rfl rfl (fun hw => ?_) (fun hw => ?_)
      · exact mm_drop (mm_le.s (mm_le.s (mm_le.s (mm_le.s mm_le.e)))) (sq_X_trimmed_51  _ _ _ _ _ _ hV hw)
      · refine mm_iinc3 (v := (u3 - 1)) (pc' := 48) d_X_trimmed_45 rfl rfl (mm_dec _) (Nat.le_of_ble_eq_true rfl) ?_
        refine mm_goto (tgt := 28) d_X_trimmed_48 rfl ?_
        exact mm_drop (mm_le.s (mm_le.s (mm_le.s (mm_le.s mm_le.e)))) (hk28 _ _ _ _ _ _ hV hw)
def wb_X_trimmed_7 (p0 : Option Nat) (p1 : Int32) (Q : Option Nat → ab_H → Prop)  (k7 : Int32 → Int32 → ab_H → Nat → Nat → Prop) (u2 : Int32) (u3 : Int32) (A : ab_H) (kc ks : Nat) : Prop := if u3 ≤ u2 then (∃ n, wq_X_trimmed_28 p0 p1 Q n u2 u3 A kc ks) else (wj_ST_charAt A p0 u2 (fun x3 => if x3 = (32 : Int32) then (k7 (u2 + 1) u3 A kc ks) else (∃ n, wq_X_trimmed_28 p0 p1 Q n u2 u3 A kc ks)))
def wq_X_trimmed_7 (p0 : Option Nat) (p1 : Int32) (Q : Option Nat → ab_H → Prop)  : Nat → Int32 → Int32 → ab_H → Nat → Nat → Prop
  | 0 => fun _ _ _ _ _ => False
  | n + 1 => wb_X_trimmed_7 p0 p1 Q  (wq_X_trimmed_7 p0 p1 Q  n)
set_option maxRecDepth 100000 in
set_option maxHeartbeats 4000000 in
theorem sq_X_trimmed_7 {l : Launch} {G : mm_G} {p0 : Option Nat} {p1 : Int32} {Q : Option Nat → ab_H → Prop}   : ∀ (n : Nat) (u2 : Int32) (u3 : Int32) (A : ab_H) (kc ks : Nat) (h : mm_H), Vw G h A → wq_X_trimmed_7 p0 p1 Q  n u2 u3 A kc ks → mm_V l G M_X_trimmed kc ks 7 [some (va_rf p0), some (.int p1), some (.int u2), some (.int u3)] [] h (wQR G Q) := by
  intro n
  induction n with
  | zero =>
    intro u2 u3 A kc ks h hV hw
    exact absurd hw id
  | succ n hk7 =>
    intro u2 u3 A kc ks h hV hw
    have hw : wb_X_trimmed_7 p0 p1 Q  (wq_X_trimmed_7 p0 p1 Q  n) u2 u3 A kc ks := hw
    unfold wb_X_trimmed_7 at hw
    refine mm_iload_n (pc' := 8) d_X_trimmed_7 rfl rfl rfl ?_
    refine mm_iload_n (pc' := 9) d_X_trimmed_8 rfl rfl rfl ?_
    refine wr_icmp_ge hw (pc' := 12) d_X_trimmed_9 rfl rfl (fun hw => ?_) (fun hw => ?_)
    · obtain ⟨n, hw⟩ := hw
      exact mm_drop (mm_le.s (mm_le.s (mm_le.s (mm_le.s mm_le.e)))) (sq_X_trimmed_28  n _ _ _ _ _ _ hV hw)
    · refine wr_aload_n p0 (pc' := 13) d_X_trimmed_12 rfl rfl rfl ?_
      refine mm_iload_n (pc' := 14) d_X_trimmed_13 rfl rfl rfl ?_
      refine wr_ST_charAt hV hw (pc' := 17) d_X_trimmed_14 rfl cs_X_26 (Nat.le_of_ble_eq_true rfl) (Nat.le_of_ble_eq_true rfl) (fun x3 hw => ?_)
      refine mm_bipush (v := 32) (pc' := 19) d_X_trimmed_17 rfl (by decide) ?_
      refine wr_icmp_ne hw (pc' := 22) d_X_trimmed_19 rfl rfl (fun hw => ?_) (fun hw => ?_)
      · obtain ⟨n, hw⟩ := hw
        exact mm_drop (mm_le.s (mm_le.s (mm_le.s (mm_le.s mm_le.e)))) (sq_X_trimmed_28  n _ _ _ _ _ _ hV hw)
      · refine mm_iinc2 (v := (u2 + 1)) (pc' := 25) d_X_trimmed_22 rfl rfl rfl (Nat.le_of_ble_eq_true rfl) ?_
        refine mm_goto (tgt := 7) d_X_trimmed_25 rfl ?_
        exact mm_drop (mm_le.s (mm_le.s (mm_le.s (mm_le.s mm_le.e)))) (hk7 _ _ _ _ _ _ hV hw)
def wp_X_trimmed (p0 : Option Nat) (p1 : Int32) (A : ab_H) (kc ks : Nat) (Q : Option Nat → ab_H → Prop) : Prop := wj_ST_length A p0  (fun x4 => ∃ n, wq_X_trimmed_7 p0 p1 Q n p1 x4 A kc ks)
set_option maxRecDepth 100000 in
set_option maxHeartbeats 4000000 in
theorem sd_X_trimmed {l : Launch} {G : mm_G} {h : mm_H} {A : ab_H} {p0 : Option Nat} {p1 : Int32} {kc ks : Nat} {Q : Option Nat → ab_H → Prop} (hV : Vw G h A) (hw : wp_X_trimmed p0 p1 A kc ks Q) : mm_S l G M_X_trimmed [va_rf p0, .int p1] h kc ks (wQR G Q) := by
  unfold wp_X_trimmed at hw
  refine mm_start rfl (by simp [mm_as, wr_cat, wr_catI, wr_catJ, wr_catN]) ?_
  rw [show mm_en [va_rf p0, .int p1] M_X_trimmed.2.2.1 = [some (va_rf p0), some (.int p1), none, none] from by simp [mm_en, mm_as, wr_cat, wr_catI, wr_catJ, wr_catN]]
  show mm_V l G M_X_trimmed kc ks 0 [some (va_rf p0), some (.int p1), none, none] [] h _
  refine mm_iload_n (pc' := 1) d_X_trimmed_0 rfl rfl rfl ?_
  refine mm_ist2 (pc' := 2) d_X_trimmed_1 rfl rfl (Nat.le_of_ble_eq_true rfl) ?_
  refine wr_aload_n p0 (pc' := 3) d_X_trimmed_2 rfl rfl rfl ?_
  refine wr_ST_length hV hw (pc' := 6) d_X_trimmed_3 rfl cs_X_22 (Nat.le_of_ble_eq_true rfl) (Nat.le_of_ble_eq_true rfl) (fun x4 hw => ?_)
  refine mm_ist3 (pc' := 7) d_X_trimmed_6 rfl rfl (Nat.le_of_ble_eq_true rfl) ?_
  obtain ⟨n, hw⟩ := hw
  exact mm_drop (mm_le.s (mm_le.s (mm_le.s (mm_le.s mm_le.e)))) (sq_X_trimmed_7  n _ _ _ _ _ _ hV hw)
theorem d_R_headerOf_0 : decode prog_6_method_9_code 0 = .ok (.aload_n 0, 1) := by decide +kernel
theorem d_R_headerOf_1 : decode prog_6_method_9_code 1 = .ok (.bipush 58, 2) := by decide +kernel
theorem d_R_headerOf_3 : decode prog_6_method_9_code 3 = .ok (.invokevirtual 151, 3) := by decide +kernel
theorem d_R_headerOf_6 : decode prog_6_method_9_code 6 = .ok (.istore_n 1, 1) := by decide +kernel
theorem d_R_headerOf_7 : decode prog_6_method_9_code 7 = .ok (.iload_n 1, 1) := by decide +kernel
theorem d_R_headerOf_8 : decode prog_6_method_9_code 8 = .ok (.iconst 1, 1) := by decide +kernel
theorem d_R_headerOf_9 : decode prog_6_method_9_code 9 = .ok (.if_icmp .ge 5, 3) := by decide +kernel
theorem d_R_headerOf_12 : decode prog_6_method_9_code 12 = .ok (.aconst_null, 1) := by decide +kernel
theorem d_R_headerOf_13 : decode prog_6_method_9_code 13 = .ok (.areturn, 1) := by decide +kernel
theorem d_R_headerOf_14 : decode prog_6_method_9_code 14 = .ok (.iconst 0, 1) := by decide +kernel
theorem d_R_headerOf_15 : decode prog_6_method_9_code 15 = .ok (.istore_n 2, 1) := by decide +kernel
theorem d_R_headerOf_16 : decode prog_6_method_9_code 16 = .ok (.iload_n 2, 1) := by decide +kernel
theorem d_R_headerOf_17 : decode prog_6_method_9_code 17 = .ok (.iload_n 1, 1) := by decide +kernel
theorem d_R_headerOf_18 : decode prog_6_method_9_code 18 = .ok (.if_icmp .ge 37, 3) := by decide +kernel
theorem d_R_headerOf_21 : decode prog_6_method_9_code 21 = .ok (.aload_n 0, 1) := by decide +kernel
theorem d_R_headerOf_22 : decode prog_6_method_9_code 22 = .ok (.iload_n 2, 1) := by decide +kernel
theorem d_R_headerOf_23 : decode prog_6_method_9_code 23 = .ok (.invokevirtual 154, 3) := by decide +kernel
theorem d_R_headerOf_26 : decode prog_6_method_9_code 26 = .ok (.istore_n 3, 1) := by decide +kernel
theorem d_R_headerOf_27 : decode prog_6_method_9_code 27 = .ok (.iload_n 3, 1) := by decide +kernel
theorem d_R_headerOf_28 : decode prog_6_method_9_code 28 = .ok (.bipush 45, 2) := by decide +kernel
theorem d_R_headerOf_30 : decode prog_6_method_9_code 30 = .ok (.if_icmp .eq 19, 3) := by decide +kernel
theorem d_R_headerOf_33 : decode prog_6_method_9_code 33 = .ok (.iload_n 3, 1) := by decide +kernel
theorem d_R_headerOf_34 : decode prog_6_method_9_code 34 = .ok (.invokestatic 158, 3) := by decide +kernel
theorem d_R_headerOf_37 : decode prog_6_method_9_code 37 = .ok (.ifCond .ne 12, 3) := by decide +kernel
theorem d_R_headerOf_40 : decode prog_6_method_9_code 40 = .ok (.iload_n 3, 1) := by decide +kernel
theorem d_R_headerOf_41 : decode prog_6_method_9_code 41 = .ok (.invokestatic 161, 3) := by decide +kernel
theorem d_R_headerOf_44 : decode prog_6_method_9_code 44 = .ok (.ifCond .ne 5, 3) := by decide +kernel
theorem d_R_headerOf_47 : decode prog_6_method_9_code 47 = .ok (.aconst_null, 1) := by decide +kernel
theorem d_R_headerOf_48 : decode prog_6_method_9_code 48 = .ok (.areturn, 1) := by decide +kernel
theorem d_R_headerOf_49 : decode prog_6_method_9_code 49 = .ok (.iinc 2 1, 3) := by decide +kernel
theorem d_R_headerOf_52 : decode prog_6_method_9_code 52 = .ok (.goto (-36), 3) := by decide +kernel
theorem d_R_headerOf_55 : decode prog_6_method_9_code 55 = .ok (.new 60, 3) := by decide +kernel
theorem d_R_headerOf_58 : decode prog_6_method_9_code 58 = .ok (.dup, 1) := by decide +kernel
theorem d_R_headerOf_59 : decode prog_6_method_9_code 59 = .ok (.aload_n 0, 1) := by decide +kernel
theorem d_R_headerOf_60 : decode prog_6_method_9_code 60 = .ok (.iconst 0, 1) := by decide +kernel
theorem d_R_headerOf_61 : decode prog_6_method_9_code 61 = .ok (.iload_n 1, 1) := by decide +kernel
theorem d_R_headerOf_62 : decode prog_6_method_9_code 62 = .ok (.invokevirtual 164, 3) := by decide +kernel
theorem d_R_headerOf_65 : decode prog_6_method_9_code 65 = .ok (.invokestatic 168, 3) := by decide +kernel
theorem d_R_headerOf_68 : decode prog_6_method_9_code 68 = .ok (.aload_n 0, 1) := by decide +kernel
theorem d_R_headerOf_69 : decode prog_6_method_9_code 69 = .ok (.iload_n 1, 1) := by decide +kernel
theorem d_R_headerOf_70 : decode prog_6_method_9_code 70 = .ok (.iconst 1, 1) := by decide +kernel
theorem d_R_headerOf_71 : decode prog_6_method_9_code 71 = .ok (.iadd, 1) := by decide +kernel
theorem d_R_headerOf_72 : decode prog_6_method_9_code 72 = .ok (.invokestatic 172, 3) := by decide +kernel
theorem d_R_headerOf_75 : decode prog_6_method_9_code 75 = .ok (.invokespecial 68, 3) := by decide +kernel
theorem d_R_headerOf_78 : decode prog_6_method_9_code 78 = .ok (.areturn, 1) := by decide +kernel
def wq_R_headerOf_55 (p0 : Option Nat) (Q : Option Nat → ab_H → Prop)  (u1 : Int32) (A : ab_H) (kc ks : Nat) : Prop := wNew A kc ks 8 2 (fun b1 A kc ks => wj_ST_substring_II A kc ks p0 (0 : Int32) u1 (fun r2 A kc ks => wX kc ks (wp_X_small r2 A) (fun r3 A kc ks => wX kc ks (wp_X_trimmed p0 (u1 + (1 : Int32)) A) (fun r4 A kc ks => wD (some b1) (fun b => wp_P_init b r3 r4 A (fun A => Q (some b1) A))))))
set_option maxRecDepth 100000 in
set_option maxHeartbeats 4000000 in
theorem sq_R_headerOf_55 {l : Launch} {G : mm_G} {p0 : Option Nat} {Q : Option Nat → ab_H → Prop}   : ∀ (u1 : Int32) (A : ab_H) (kc ks : Nat) (h : mm_H), Vw G h A → wq_R_headerOf_55 p0 Q  u1 A kc ks → mm_V l G M_R_headerOf kc ks 55 [some (va_rf p0), some (.int u1), none, none] [] h (wQR G Q) := by
  intro u1 A kc ks h hV hw
  unfold wq_R_headerOf_55 at hw
  refine wr_new hV hw (pc' := 58) d_R_headerOf_55 rfl nl_R_60 rfl (fun b1 h A kc ks hV hw => ?_)
  refine mm_dup (pc' := 59) d_R_headerOf_58 rfl (wr_cat _) ?_
  refine wr_aload_n p0 (pc' := 60) d_R_headerOf_59 rfl rfl rfl ?_
  refine mm_iconst (v := 0) (pc' := 61) d_R_headerOf_60 rfl (by decide) ?_
  refine mm_iload_n (pc' := 62) d_R_headerOf_61 rfl rfl rfl ?_
  refine wr_ST_substring_II hV hw (pc' := 65) d_R_headerOf_62 rfl cs_R_164 (Nat.le_of_ble_eq_true rfl) (Nat.le_trans (wr_hR (wr_hR wr_h0)) (Nat.le_of_ble_eq_true rfl)) (fun r2 h A kc ks hV hw => ?_)
  refine wr_cSRx (pc' := 68) (as := [va_rf r2]) (st := [va_rf (some b1), va_rf (some b1)]) d_R_headerOf_65 rfl cs_R_168 (W := fun c s Q' => wp_X_small r2 A c s Q') hw (fun c s Q' hw => sd_X_small hV hw) rfl rfl (Nat.le_of_ble_eq_true rfl) (Nat.le_trans (wr_hR (wr_hR wr_h0)) (Nat.le_of_ble_eq_true rfl)) (fun r3 h A kc ks hV hw => ?_)
  refine wr_aload_n p0 (pc' := 69) d_R_headerOf_68 rfl rfl rfl ?_
  refine mm_iload_n (pc' := 70) d_R_headerOf_69 rfl rfl rfl ?_
  refine mm_iconst (v := 1) (pc' := 71) d_R_headerOf_70 rfl (by decide) ?_
  refine mm_iadd (pc' := 72) d_R_headerOf_71 rfl ?_
  refine wr_cSRx (pc' := 75) (as := [va_rf p0, .int (u1 + (1 : Int32))]) (st := [va_rf r3, va_rf (some b1), va_rf (some b1)]) d_R_headerOf_72 rfl cs_R_172 (W := fun c s Q' => wp_X_trimmed p0 (u1 + (1 : Int32)) A c s Q') hw (fun c s Q' hw => sd_X_trimmed hV hw) rfl rfl (Nat.le_of_ble_eq_true rfl) (Nat.le_trans (wr_hR (wr_hR (wr_hR wr_h0))) (Nat.le_of_ble_eq_true rfl)) (fun r4 h A kc ks hV hw => ?_)
  refine wr_cI (pc' := 78) (as := [va_rf r3, va_rf r4]) (st := [va_rf (some b1)]) d_R_headerOf_75 rfl cs_R_68 rfl (W := fun b Q' => wp_P_init b r3 r4 A Q') hV hw (fun b Q' hw => sd_P_init hV hw) rfl rfl (Nat.le_of_ble_eq_true rfl) (Nat.le_trans (wr_hR wr_h0) (Nat.le_of_ble_eq_true rfl)) (fun h A hV hw => ?_)
  exact wr_aret hV d_R_headerOf_78 rfl (by first | exact Or.inl ⟨_, rfl⟩ | exact Or.inr ⟨_, rfl⟩) hw
def wb_R_headerOf_16 (p0 : Option Nat) (Q : Option Nat → ab_H → Prop)  (k16 : Int32 → Int32 → ab_H → Nat → Nat → Prop) (u1 : Int32) (u2 : Int32) (A : ab_H) (kc ks : Nat) : Prop := if u1 ≤ u2 then (wq_R_headerOf_55 p0 Q u1 A kc ks) else (wj_ST_charAt A p0 u2 (fun x5 => if x5 = (45 : Int32) then (k16 u1 (u2 + 1) A kc ks) else (wp_X_isCapital x5 A (fun x6 A => if x6 = 0 then (wp_X_isSmall x5 A (fun x7 A => if x7 = 0 then (Q (none : Option Nat) A) else (k16 u1 (u2 + 1) A kc ks))) else (k16 u1 (u2 + 1) A kc ks)))))
def wq_R_headerOf_16 (p0 : Option Nat) (Q : Option Nat → ab_H → Prop)  : Nat → Int32 → Int32 → ab_H → Nat → Nat → Prop
  | 0 => fun _ _ _ _ _ => False
  | n + 1 => wb_R_headerOf_16 p0 Q  (wq_R_headerOf_16 p0 Q  n)
set_option maxRecDepth 100000 in
set_option maxHeartbeats 4000000 in
theorem sq_R_headerOf_16 {l : Launch} {G : mm_G} {p0 : Option Nat} {Q : Option Nat → ab_H → Prop}   : ∀ (n : Nat) (u1 : Int32) (u2 : Int32) (A : ab_H) (kc ks : Nat) (h : mm_H), Vw G h A → wq_R_headerOf_16 p0 Q  n u1 u2 A kc ks → mm_V l G M_R_headerOf kc ks 16 [some (va_rf p0), some (.int u1), some (.int u2), none] [] h (wQR G Q) := by
  intro n
  induction n with
  | zero =>
    intro u1 u2 A kc ks h hV hw
    exact absurd hw id
  | succ n hk16 =>
    intro u1 u2 A kc ks h hV hw
    have hw : wb_R_headerOf_16 p0 Q  (wq_R_headerOf_16 p0 Q  n) u1 u2 A kc ks := hw
    unfold wb_R_headerOf_16 at hw
    refine mm_iload_n (pc' := 17) d_R_headerOf_16 rfl rfl rfl ?_
    refine mm_iload_n (pc' := 18) d_R_headerOf_17 rfl rfl rfl ?_
    refine wr_icmp_ge hw (pc' := 21) d_R_headerOf_18 rfl rfl (fun hw => ?_) (fun hw => ?_)
    · exact mm_drop (mm_le.s (mm_le.s (mm_le.n (mm_le.n mm_le.e)))) (sq_R_headerOf_55  _ _ _ _ _ hV hw)
    · refine wr_aload_n p0 (pc' := 22) d_R_headerOf_21 rfl rfl rfl ?_
      refine mm_iload_n (pc' := 23) d_R_headerOf_22 rfl rfl rfl ?_
      refine wr_ST_charAt hV hw (pc' := 26) d_R_headerOf_23 rfl cs_R_154 (Nat.le_of_ble_eq_true rfl) (Nat.le_of_ble_eq_true rfl) (fun x5 hw => ?_)
      refine mm_ist3 (pc' := 27) d_R_headerOf_26 rfl rfl (Nat.le_of_ble_eq_true rfl) ?_
      refine mm_iload_n (pc' := 28) d_R_headerOf_27 rfl rfl rfl ?_
      refine mm_bipush (v := 45) (pc' := 30) d_R_headerOf_28 rfl (by decide) ?_
      refine wr_icmp_eq hw (pc' := 33) d_R_headerOf_30 rfl rfl (fun hw => ?_) (fun hw => ?_)
      · refine mm_iinc2 (v := (u2 + 1)) (pc' := 52) d_R_headerOf_49 rfl rfl rfl (Nat.le_of_ble_eq_true rfl) ?_
        refine mm_goto (tgt := 16) d_R_headerOf_52 rfl ?_
        exact mm_drop (mm_le.s (mm_le.s (mm_le.s (mm_le.n mm_le.e)))) (hk16 _ _ _ _ _ _ hV hw)
      · refine mm_iload_n (pc' := 34) d_R_headerOf_33 rfl rfl rfl ?_
        refine wr_cSI (pc' := 37) (as := [.int x5]) (st := []) d_R_headerOf_34 rfl cs_R_158 (sd_X_isCapital hV hw) rfl rfl (Nat.le_of_ble_eq_true rfl) (Nat.le_of_ble_eq_true rfl) (fun x6 h A hV hw => ?_)
        refine wr_if_ne hw (pc' := 40) d_R_headerOf_37 rfl rfl (fun hw => ?_) (fun hw => ?_)
        · refine mm_iinc2 (v := (u2 + 1)) (pc' := 52) d_R_headerOf_49 rfl rfl rfl (Nat.le_of_ble_eq_true rfl) ?_
          refine mm_goto (tgt := 16) d_R_headerOf_52 rfl ?_
          exact mm_drop (mm_le.s (mm_le.s (mm_le.s (mm_le.n mm_le.e)))) (hk16 _ _ _ _ _ _ hV hw)
        · refine mm_iload_n (pc' := 41) d_R_headerOf_40 rfl rfl rfl ?_
          refine wr_cSI (pc' := 44) (as := [.int x5]) (st := []) d_R_headerOf_41 rfl cs_R_161 (sd_X_isSmall hV hw) rfl rfl (Nat.le_of_ble_eq_true rfl) (Nat.le_of_ble_eq_true rfl) (fun x7 h A hV hw => ?_)
          refine wr_if_ne hw (pc' := 47) d_R_headerOf_44 rfl rfl (fun hw => ?_) (fun hw => ?_)
          · refine mm_iinc2 (v := (u2 + 1)) (pc' := 52) d_R_headerOf_49 rfl rfl rfl (Nat.le_of_ble_eq_true rfl) ?_
            refine mm_goto (tgt := 16) d_R_headerOf_52 rfl ?_
            exact mm_drop (mm_le.s (mm_le.s (mm_le.s (mm_le.n mm_le.e)))) (hk16 _ _ _ _ _ _ hV hw)
          · refine wr_null (pc' := 48) d_R_headerOf_47 rfl ?_
            exact wr_aret hV d_R_headerOf_48 rfl (by first | exact Or.inl ⟨_, rfl⟩ | exact Or.inr ⟨_, rfl⟩) hw
def wp_R_headerOf (p0 : Option Nat) (A : ab_H) (kc ks : Nat) (Q : Option Nat → ab_H → Prop) : Prop := wj_ST_indexOf_I A p0 (58 : Int32) (fun x8 => if (1 : Int32) ≤ x8 then (∃ n, wq_R_headerOf_16 p0 Q n x8 (0 : Int32) A kc ks) else (Q (none : Option Nat) A))
set_option maxRecDepth 100000 in
set_option maxHeartbeats 4000000 in
theorem sd_R_headerOf {l : Launch} {G : mm_G} {h : mm_H} {A : ab_H} {p0 : Option Nat} {kc ks : Nat} {Q : Option Nat → ab_H → Prop} (hV : Vw G h A) (hw : wp_R_headerOf p0 A kc ks Q) : mm_S l G M_R_headerOf [va_rf p0] h kc ks (wQR G Q) := by
  unfold wp_R_headerOf at hw
  refine mm_start rfl (by simp [mm_as, wr_cat, wr_catI, wr_catJ, wr_catN]) ?_
  rw [show mm_en [va_rf p0] M_R_headerOf.2.2.1 = [some (va_rf p0), none, none, none] from by simp [mm_en, mm_as, wr_cat, wr_catI, wr_catJ, wr_catN]]
  show mm_V l G M_R_headerOf kc ks 0 [some (va_rf p0), none, none, none] [] h _
  refine wr_aload_n p0 (pc' := 1) d_R_headerOf_0 rfl rfl rfl ?_
  refine mm_bipush (v := 58) (pc' := 3) d_R_headerOf_1 rfl (by decide) ?_
  refine wr_ST_indexOf_I hV hw (pc' := 6) d_R_headerOf_3 rfl cs_R_151 (Nat.le_of_ble_eq_true rfl) (Nat.le_of_ble_eq_true rfl) (fun x8 hw => ?_)
  refine mm_ist1 (pc' := 7) d_R_headerOf_6 rfl (wr_2 _) (Nat.le_of_ble_eq_true rfl) ?_
  refine mm_iload_n (pc' := 8) d_R_headerOf_7 rfl rfl rfl ?_
  refine mm_iconst (v := 1) (pc' := 9) d_R_headerOf_8 rfl (by decide) ?_
  refine wr_icmp_ge hw (pc' := 12) d_R_headerOf_9 rfl rfl (fun hw => ?_) (fun hw => ?_)
  · refine mm_iconst (v := 0) (pc' := 15) d_R_headerOf_14 rfl (by decide) ?_
    refine mm_ist2 (pc' := 16) d_R_headerOf_15 rfl rfl (Nat.le_of_ble_eq_true rfl) ?_
    obtain ⟨n, hw⟩ := hw
    exact mm_drop (mm_le.s (mm_le.s (mm_le.s (mm_le.n mm_le.e)))) (sq_R_headerOf_16  n _ _ _ _ _ _ hV hw)
  · refine wr_null (pc' := 13) d_R_headerOf_12 rfl ?_
    exact wr_aret hV d_R_headerOf_13 rfl (by first | exact Or.inl ⟨_, rfl⟩ | exact Or.inr ⟨_, rfl⟩) hw
theorem d_X_isDigit_0 : decode prog_12_method_3_code 0 = .ok (.iload_n 0, 1) := by decide +kernel
theorem d_X_isDigit_1 : decode prog_12_method_3_code 1 = .ok (.bipush 48, 2) := by decide +kernel
theorem d_X_isDigit_3 : decode prog_12_method_3_code 3 = .ok (.if_icmp .lt 13, 3) := by decide +kernel
theorem d_X_isDigit_6 : decode prog_12_method_3_code 6 = .ok (.iload_n 0, 1) := by decide +kernel
theorem d_X_isDigit_7 : decode prog_12_method_3_code 7 = .ok (.bipush 57, 2) := by decide +kernel
theorem d_X_isDigit_9 : decode prog_12_method_3_code 9 = .ok (.if_icmp .gt 7, 3) := by decide +kernel
theorem d_X_isDigit_12 : decode prog_12_method_3_code 12 = .ok (.iconst 1, 1) := by decide +kernel
theorem d_X_isDigit_13 : decode prog_12_method_3_code 13 = .ok (.goto 4, 3) := by decide +kernel
theorem d_X_isDigit_16 : decode prog_12_method_3_code 16 = .ok (.iconst 0, 1) := by decide +kernel
theorem d_X_isDigit_17 : decode prog_12_method_3_code 17 = .ok (.ireturn, 1) := by decide +kernel
def wp_X_isDigit (p0 : Int32) (A : ab_H) (Q : Int32 → ab_H → Prop) : Prop := if p0 < (48 : Int32) then (Q (0 : Int32) A) else (if (57 : Int32) < p0 then (Q (0 : Int32) A) else (Q (1 : Int32) A))
set_option maxRecDepth 100000 in
set_option maxHeartbeats 4000000 in
theorem sd_X_isDigit {l : Launch} {G : mm_G} {h : mm_H} {A : ab_H} {p0 : Int32} {Q : Int32 → ab_H → Prop} (hV : Vw G h A) (hw : wp_X_isDigit p0 A Q) : mm_S l G M_X_isDigit [.int p0] h 0 0 (wQI G Q) := by
  unfold wp_X_isDigit at hw
  refine mm_start rfl (Nat.le_of_ble_eq_true rfl) ?_
  show mm_V l G M_X_isDigit 0 0 0 [some (.int p0)] [] h _
  refine mm_iload_n (pc' := 1) d_X_isDigit_0 rfl rfl rfl ?_
  refine mm_bipush (v := 48) (pc' := 3) d_X_isDigit_1 rfl (by decide) ?_
  refine wr_icmp_lt hw (pc' := 6) d_X_isDigit_3 rfl rfl (fun hw => ?_) (fun hw => ?_)
  · refine mm_iconst (v := 0) (pc' := 17) d_X_isDigit_16 rfl (by decide) ?_
    exact wr_iret hV d_X_isDigit_17 rfl rfl hw
  · refine mm_iload_n (pc' := 7) d_X_isDigit_6 rfl rfl rfl ?_
    refine mm_bipush (v := 57) (pc' := 9) d_X_isDigit_7 rfl (by decide) ?_
    refine wr_icmp_gt hw (pc' := 12) d_X_isDigit_9 rfl rfl (fun hw => ?_) (fun hw => ?_)
    · refine mm_iconst (v := 0) (pc' := 17) d_X_isDigit_16 rfl (by decide) ?_
      exact wr_iret hV d_X_isDigit_17 rfl rfl hw
    · refine mm_iconst (v := 1) (pc' := 13) d_X_isDigit_12 rfl (by decide) ?_
      refine mm_goto (tgt := 17) d_X_isDigit_13 rfl ?_
      exact wr_iret hV d_X_isDigit_17 rfl rfl hw
theorem d_R_readLength_0 : decode prog_6_method_11_code 0 = .ok (.aload_n 1, 1) := by decide +kernel
theorem d_R_readLength_1 : decode prog_6_method_11_code 1 = .ok (.invokevirtual 107, 3) := by decide +kernel
theorem d_R_readLength_4 : decode prog_6_method_11_code 4 = .ok (.ifCond .ne 11, 3) := by decide +kernel
theorem d_R_readLength_7 : decode prog_6_method_11_code 7 = .ok (.aload_n 1, 1) := by decide +kernel
theorem d_R_readLength_8 : decode prog_6_method_11_code 8 = .ok (.invokevirtual 195, 3) := by decide +kernel
theorem d_R_readLength_11 : decode prog_6_method_11_code 11 = .ok (.iconst 3, 1) := by decide +kernel
theorem d_R_readLength_12 : decode prog_6_method_11_code 12 = .ok (.if_icmp .le 7, 3) := by decide +kernel
theorem d_R_readLength_15 : decode prog_6_method_11_code 15 = .ok (.sipush 400, 3) := by decide +kernel
theorem d_R_readLength_18 : decode prog_6_method_11_code 18 = .ok (.ireturn, 1) := by decide +kernel
theorem d_R_readLength_19 : decode prog_6_method_11_code 19 = .ok (.iconst 0, 1) := by decide +kernel
theorem d_R_readLength_20 : decode prog_6_method_11_code 20 = .ok (.istore_n 2, 1) := by decide +kernel
theorem d_R_readLength_21 : decode prog_6_method_11_code 21 = .ok (.iload_n 2, 1) := by decide +kernel
theorem d_R_readLength_22 : decode prog_6_method_11_code 22 = .ok (.aload_n 1, 1) := by decide +kernel
theorem d_R_readLength_23 : decode prog_6_method_11_code 23 = .ok (.invokevirtual 195, 3) := by decide +kernel
theorem d_R_readLength_26 : decode prog_6_method_11_code 26 = .ok (.if_icmp .ge 42, 3) := by decide +kernel
theorem d_R_readLength_29 : decode prog_6_method_11_code 29 = .ok (.aload_n 1, 1) := by decide +kernel
theorem d_R_readLength_30 : decode prog_6_method_11_code 30 = .ok (.iload_n 2, 1) := by decide +kernel
theorem d_R_readLength_31 : decode prog_6_method_11_code 31 = .ok (.invokevirtual 154, 3) := by decide +kernel
theorem d_R_readLength_34 : decode prog_6_method_11_code 34 = .ok (.istore_n 3, 1) := by decide +kernel
theorem d_R_readLength_35 : decode prog_6_method_11_code 35 = .ok (.iload_n 3, 1) := by decide +kernel
theorem d_R_readLength_36 : decode prog_6_method_11_code 36 = .ok (.invokestatic 196, 3) := by decide +kernel
theorem d_R_readLength_39 : decode prog_6_method_11_code 39 = .ok (.ifCond .ne 7, 3) := by decide +kernel
theorem d_R_readLength_42 : decode prog_6_method_11_code 42 = .ok (.sipush 400, 3) := by decide +kernel
theorem d_R_readLength_45 : decode prog_6_method_11_code 45 = .ok (.ireturn, 1) := by decide +kernel
theorem d_R_readLength_46 : decode prog_6_method_11_code 46 = .ok (.aload_n 0, 1) := by decide +kernel
theorem d_R_readLength_47 : decode prog_6_method_11_code 47 = .ok (.bipush 10, 2) := by decide +kernel
theorem d_R_readLength_49 : decode prog_6_method_11_code 49 = .ok (.aload_n 0, 1) := by decide +kernel
theorem d_R_readLength_50 : decode prog_6_method_11_code 50 = .ok (.getfield 51, 3) := by decide +kernel
theorem d_R_readLength_53 : decode prog_6_method_11_code 53 = .ok (.imul, 1) := by decide +kernel
theorem d_R_readLength_54 : decode prog_6_method_11_code 54 = .ok (.iload_n 3, 1) := by decide +kernel
theorem d_R_readLength_55 : decode prog_6_method_11_code 55 = .ok (.bipush 48, 2) := by decide +kernel
theorem d_R_readLength_57 : decode prog_6_method_11_code 57 = .ok (.isub, 1) := by decide +kernel
theorem d_R_readLength_58 : decode prog_6_method_11_code 58 = .ok (.iadd, 1) := by decide +kernel
theorem d_R_readLength_59 : decode prog_6_method_11_code 59 = .ok (.putfield 51, 3) := by decide +kernel
theorem d_R_readLength_62 : decode prog_6_method_11_code 62 = .ok (.iinc 2 1, 3) := by decide +kernel
theorem d_R_readLength_65 : decode prog_6_method_11_code 65 = .ok (.goto (-44), 3) := by decide +kernel
theorem d_R_readLength_68 : decode prog_6_method_11_code 68 = .ok (.aload_n 0, 1) := by decide +kernel
theorem d_R_readLength_69 : decode prog_6_method_11_code 69 = .ok (.getfield 51, 3) := by decide +kernel
theorem d_R_readLength_72 : decode prog_6_method_11_code 72 = .ok (.bipush 40, 2) := by decide +kernel
theorem d_R_readLength_74 : decode prog_6_method_11_code 74 = .ok (.if_icmp .le 9, 3) := by decide +kernel
theorem d_R_readLength_77 : decode prog_6_method_11_code 77 = .ok (.sipush 413, 3) := by decide +kernel
theorem d_R_readLength_80 : decode prog_6_method_11_code 80 = .ok (.goto 4, 3) := by decide +kernel
theorem d_R_readLength_83 : decode prog_6_method_11_code 83 = .ok (.iconst 0, 1) := by decide +kernel
theorem d_R_readLength_84 : decode prog_6_method_11_code 84 = .ok (.ireturn, 1) := by decide +kernel
def wq_R_readLength_68 (a : Nat) (p0 : Option Nat) (Q : Int32 → ab_H → Prop)   (A : ab_H) : Prop := wgI A (some a) 5 8 (fun x1 => if x1 ≤ (40 : Int32) then (Q (0 : Int32) A) else (Q (413 : Int32) A))
set_option maxRecDepth 100000 in
set_option maxHeartbeats 4000000 in
theorem sq_R_readLength_68 {l : Launch} {G : mm_G} {a : Nat} {p0 : Option Nat} {Q : Int32 → ab_H → Prop}   : ∀ (A : ab_H) (h : mm_H), Vw G h A → wq_R_readLength_68 a p0 Q  A → mm_V l G M_R_readLength 0 0 68 [some (va_rf (some a)), some (va_rf p0), none, none] [] h (wQI G Q) := by
  intro A h hV hw
  unfold wq_R_readLength_68 at hw
  refine wr_aload_n (some a) (pc' := 69) d_R_readLength_68 rfl rfl rfl ?_
  refine wr_getI hV hw (pc' := 72) d_R_readLength_69 rfl fl_R_51 (fun x1 hw => ?_)
  refine mm_bipush (v := 40) (pc' := 74) d_R_readLength_72 rfl (by decide) ?_
  refine wr_icmp_le hw (pc' := 77) d_R_readLength_74 rfl rfl (fun hw => ?_) (fun hw => ?_)
  · refine mm_iconst (v := 0) (pc' := 84) d_R_readLength_83 rfl (by decide) ?_
    exact wr_iret hV d_R_readLength_84 rfl rfl hw
  · refine mm_sipush (v := 413) (pc' := 80) d_R_readLength_77 rfl (by decide) ?_
    refine mm_goto (tgt := 84) d_R_readLength_80 rfl ?_
    exact wr_iret hV d_R_readLength_84 rfl rfl hw
def wb_R_readLength_21 (a : Nat) (p0 : Option Nat) (Q : Int32 → ab_H → Prop)  (k21 : Int32 → ab_H → Prop) (u2 : Int32) (A : ab_H) : Prop := wj_ST_length A p0  (fun x2 => if x2 ≤ u2 then (wq_R_readLength_68 a p0 Q A) else (wj_ST_charAt A p0 u2 (fun x3 => wp_X_isDigit x3 A (fun x4 A => if x4 = 0 then (Q (400 : Int32) A) else (wgI A (some a) 5 8 (fun x5 => wp A (some a) 5 8 (.int (((10 : Int32) * x5) + (x3 - (48 : Int32)))) (fun A => k21 (u2 + 1) A)))))))
def wq_R_readLength_21 (a : Nat) (p0 : Option Nat) (Q : Int32 → ab_H → Prop)  : Nat → Int32 → ab_H → Prop
  | 0 => fun _ _ => False
  | n + 1 => wb_R_readLength_21 a p0 Q  (wq_R_readLength_21 a p0 Q  n)
set_option maxRecDepth 100000 in
set_option maxHeartbeats 4000000 in
theorem sq_R_readLength_21 {l : Launch} {G : mm_G} {a : Nat} {p0 : Option Nat} {Q : Int32 → ab_H → Prop}   : ∀ (n : Nat) (u2 : Int32) (A : ab_H) (h : mm_H), Vw G h A → wq_R_readLength_21 a p0 Q  n u2 A → mm_V l G M_R_readLength 0 0 21 [some (va_rf (some a)), some (va_rf p0), some (.int u2), none] [] h (wQI G Q) := by
  intro n
  induction n with
  | zero =>
    intro u2 A h hV hw
    exact absurd hw id
  | succ n hk21 =>
    intro u2 A h hV hw
    have hw : wb_R_readLength_21 a p0 Q  (wq_R_readLength_21 a p0 Q  n) u2 A := hw
    unfold wb_R_readLength_21 at hw
    refine mm_iload_n (pc' := 22) d_R_readLength_21 rfl rfl rfl ?_
    refine wr_aload_n p0 (pc' := 23) d_R_readLength_22 rfl rfl rfl ?_
    refine wr_ST_length hV hw (pc' := 26) d_R_readLength_23 rfl cs_R_195 (Nat.le_of_ble_eq_true rfl) (Nat.le_of_ble_eq_true rfl) (fun x2 hw => ?_)
    refine wr_icmp_ge hw (pc' := 29) d_R_readLength_26 rfl rfl (fun hw => ?_) (fun hw => ?_)
    · exact mm_drop (mm_le.s (mm_le.s (mm_le.n (mm_le.n mm_le.e)))) (sq_R_readLength_68  _ _ hV hw)
    · refine wr_aload_n p0 (pc' := 30) d_R_readLength_29 rfl rfl rfl ?_
      refine mm_iload_n (pc' := 31) d_R_readLength_30 rfl rfl rfl ?_
      refine wr_ST_charAt hV hw (pc' := 34) d_R_readLength_31 rfl cs_R_154 (Nat.le_of_ble_eq_true rfl) (Nat.le_of_ble_eq_true rfl) (fun x3 hw => ?_)
      refine mm_ist3 (pc' := 35) d_R_readLength_34 rfl rfl (Nat.le_of_ble_eq_true rfl) ?_
      refine mm_iload_n (pc' := 36) d_R_readLength_35 rfl rfl rfl ?_
      refine wr_cSI (pc' := 39) (as := [.int x3]) (st := []) d_R_readLength_36 rfl cs_R_196 (sd_X_isDigit hV hw) rfl rfl (Nat.le_of_ble_eq_true rfl) (Nat.le_of_ble_eq_true rfl) (fun x4 h A hV hw => ?_)
      refine wr_if_ne hw (pc' := 42) d_R_readLength_39 rfl rfl (fun hw => ?_) (fun hw => ?_)
      · refine wr_aload_n (some a) (pc' := 47) d_R_readLength_46 rfl rfl rfl ?_
        refine mm_bipush (v := 10) (pc' := 49) d_R_readLength_47 rfl (by decide) ?_
        refine wr_aload_n (some a) (pc' := 50) d_R_readLength_49 rfl rfl rfl ?_
        refine wr_getI hV hw (pc' := 53) d_R_readLength_50 rfl fl_R_51 (fun x5 hw => ?_)
        refine mm_imul (pc' := 54) d_R_readLength_53 rfl ?_
        refine mm_iload_n (pc' := 55) d_R_readLength_54 rfl rfl rfl ?_
        refine mm_bipush (v := 48) (pc' := 57) d_R_readLength_55 rfl (by decide) ?_
        refine mm_isub (pc' := 58) d_R_readLength_57 rfl ?_
        refine mm_iadd (pc' := 59) d_R_readLength_58 rfl ?_
        refine wr_put hV hw (pc' := 62) d_R_readLength_59 rfl pl_R_readLength_51 (Nat.le_of_ble_eq_true rfl) (wn_I _) (fun h A hV hw => ?_)
        refine mm_iinc2 (v := (u2 + 1)) (pc' := 65) d_R_readLength_62 rfl (wr_2 _) rfl (Nat.le_of_ble_eq_true rfl) ?_
        refine mm_goto (tgt := 21) d_R_readLength_65 rfl ?_
        exact mm_drop (mm_le.s (mm_le.s (mm_le.s (mm_le.n mm_le.e)))) (hk21 _ _ _ hV hw)
      · refine mm_sipush (v := 400) (pc' := 45) d_R_readLength_42 rfl (by decide) ?_
        exact wr_iret hV d_R_readLength_45 rfl rfl hw
def wp_R_readLength (a : Nat) (p0 : Option Nat) (A : ab_H) (Q : Int32 → ab_H → Prop) : Prop := wj_ST_isEmpty A p0  (fun x6 => if x6 = 0 then (wj_ST_length A p0  (fun x7 => if x7 ≤ (3 : Int32) then (∃ n, wq_R_readLength_21 a p0 Q n (0 : Int32) A) else (Q (400 : Int32) A))) else (Q (400 : Int32) A))
set_option maxRecDepth 100000 in
set_option maxHeartbeats 4000000 in
theorem sd_R_readLength {l : Launch} {G : mm_G} {h : mm_H} {A : ab_H} {a : Nat} {p0 : Option Nat} {Q : Int32 → ab_H → Prop} (hV : Vw G h A) (hw : wp_R_readLength a p0 A Q) : mm_S l G M_R_readLength [.ref a, va_rf p0] h 0 0 (wQI G Q) := by
  unfold wp_R_readLength at hw
  refine mm_start rfl (by simp [mm_as, wr_cat, wr_catI, wr_catJ, wr_catN]) ?_
  rw [show mm_en [.ref a, va_rf p0] M_R_readLength.2.2.1 = [some (.ref a), some (va_rf p0), none, none] from by simp [mm_en, mm_as, wr_cat, wr_catI, wr_catJ, wr_catN]]
  show mm_V l G M_R_readLength 0 0 0 [some (va_rf (some a)), some (va_rf p0), none, none] [] h _
  refine wr_aload_n p0 (pc' := 1) d_R_readLength_0 rfl rfl rfl ?_
  refine wr_ST_isEmpty hV hw (pc' := 4) d_R_readLength_1 rfl cs_R_107 (Nat.le_of_ble_eq_true rfl) (Nat.le_of_ble_eq_true rfl) (fun x6 hw => ?_)
  refine wr_if_ne hw (pc' := 7) d_R_readLength_4 rfl rfl (fun hw => ?_) (fun hw => ?_)
  · refine mm_sipush (v := 400) (pc' := 18) d_R_readLength_15 rfl (by decide) ?_
    exact wr_iret hV d_R_readLength_18 rfl rfl hw
  · refine wr_aload_n p0 (pc' := 8) d_R_readLength_7 rfl rfl rfl ?_
    refine wr_ST_length hV hw (pc' := 11) d_R_readLength_8 rfl cs_R_195 (Nat.le_of_ble_eq_true rfl) (Nat.le_of_ble_eq_true rfl) (fun x7 hw => ?_)
    refine mm_iconst (v := 3) (pc' := 12) d_R_readLength_11 rfl (by decide) ?_
    refine wr_icmp_le hw (pc' := 15) d_R_readLength_12 rfl rfl (fun hw => ?_) (fun hw => ?_)
    · refine mm_iconst (v := 0) (pc' := 20) d_R_readLength_19 rfl (by decide) ?_
      refine mm_ist2 (pc' := 21) d_R_readLength_20 rfl (wr_2 _) (Nat.le_of_ble_eq_true rfl) ?_
      obtain ⟨n, hw⟩ := hw
      exact mm_drop (mm_le.s (mm_le.s (mm_le.s (mm_le.n mm_le.e)))) (sq_R_readLength_21  n _ _ _ hV hw)
    · refine mm_sipush (v := 400) (pc' := 18) d_R_readLength_15 rfl (by decide) ?_
      exact wr_iret hV d_R_readLength_18 rfl rfl hw
theorem d_R_lookForSize_0 : decode prog_6_method_10_code 0 = .ok (.aload_n 1, 1) := by decide +kernel
theorem d_R_lookForSize_1 : decode prog_6_method_10_code 1 = .ok (.getfield 176, 3) := by decide +kernel
theorem d_R_lookForSize_4 : decode prog_6_method_10_code 4 = .ok (.ldc 180, 2) := by decide +kernel
theorem d_R_lookForSize_6 : decode prog_6_method_10_code 6 = .ok (.invokevirtual 182, 3) := by decide +kernel
theorem d_R_lookForSize_9 : decode prog_6_method_10_code 9 = .ok (.istore_n 2, 1) := by decide +kernel
theorem d_R_lookForSize_10 : decode prog_6_method_10_code 10 = .ok (.iload_n 2, 1) := by decide +kernel
theorem d_R_lookForSize_11 : decode prog_6_method_10_code 11 = .ok (.ifCond .ne 17, 3) := by decide +kernel
theorem d_R_lookForSize_14 : decode prog_6_method_10_code 14 = .ok (.aload_n 1, 1) := by decide +kernel
theorem d_R_lookForSize_15 : decode prog_6_method_10_code 15 = .ok (.getfield 176, 3) := by decide +kernel
theorem d_R_lookForSize_18 : decode prog_6_method_10_code 18 = .ok (.ldc 185, 2) := by decide +kernel
theorem d_R_lookForSize_20 : decode prog_6_method_10_code 20 = .ok (.invokevirtual 182, 3) := by decide +kernel
theorem d_R_lookForSize_23 : decode prog_6_method_10_code 23 = .ok (.ifCond .ne 5, 3) := by decide +kernel
theorem d_R_lookForSize_26 : decode prog_6_method_10_code 26 = .ok (.iconst 0, 1) := by decide +kernel
theorem d_R_lookForSize_27 : decode prog_6_method_10_code 27 = .ok (.ireturn, 1) := by decide +kernel
theorem d_R_lookForSize_28 : decode prog_6_method_10_code 28 = .ok (.aload_n 0, 1) := by decide +kernel
theorem d_R_lookForSize_29 : decode prog_6_method_10_code 29 = .ok (.getfield 45, 3) := by decide +kernel
theorem d_R_lookForSize_32 : decode prog_6_method_10_code 32 = .ok (.ifCond .eq 7, 3) := by decide +kernel
theorem d_R_lookForSize_35 : decode prog_6_method_10_code 35 = .ok (.sipush 400, 3) := by decide +kernel
theorem d_R_lookForSize_38 : decode prog_6_method_10_code 38 = .ok (.ireturn, 1) := by decide +kernel
theorem d_R_lookForSize_39 : decode prog_6_method_10_code 39 = .ok (.aload_n 0, 1) := by decide +kernel
theorem d_R_lookForSize_40 : decode prog_6_method_10_code 40 = .ok (.iconst 1, 1) := by decide +kernel
theorem d_R_lookForSize_41 : decode prog_6_method_10_code 41 = .ok (.putfield 45, 3) := by decide +kernel
theorem d_R_lookForSize_44 : decode prog_6_method_10_code 44 = .ok (.iload_n 2, 1) := by decide +kernel
theorem d_R_lookForSize_45 : decode prog_6_method_10_code 45 = .ok (.ifCond .eq 12, 3) := by decide +kernel
theorem d_R_lookForSize_48 : decode prog_6_method_10_code 48 = .ok (.aload_n 0, 1) := by decide +kernel
theorem d_R_lookForSize_49 : decode prog_6_method_10_code 49 = .ok (.aload_n 1, 1) := by decide +kernel
theorem d_R_lookForSize_50 : decode prog_6_method_10_code 50 = .ok (.getfield 186, 3) := by decide +kernel
theorem d_R_lookForSize_53 : decode prog_6_method_10_code 53 = .ok (.invokevirtual 189, 3) := by decide +kernel
theorem d_R_lookForSize_56 : decode prog_6_method_10_code 56 = .ok (.ireturn, 1) := by decide +kernel
theorem d_R_lookForSize_57 : decode prog_6_method_10_code 57 = .ok (.aload_n 0, 1) := by decide +kernel
theorem d_R_lookForSize_58 : decode prog_6_method_10_code 58 = .ok (.iconst 1, 1) := by decide +kernel
theorem d_R_lookForSize_59 : decode prog_6_method_10_code 59 = .ok (.putfield 48, 3) := by decide +kernel
theorem d_R_lookForSize_62 : decode prog_6_method_10_code 62 = .ok (.aload_n 1, 1) := by decide +kernel
theorem d_R_lookForSize_63 : decode prog_6_method_10_code 63 = .ok (.getfield 186, 3) := by decide +kernel
theorem d_R_lookForSize_66 : decode prog_6_method_10_code 66 = .ok (.ldc 193, 2) := by decide +kernel
theorem d_R_lookForSize_68 : decode prog_6_method_10_code 68 = .ok (.invokevirtual 182, 3) := by decide +kernel
theorem d_R_lookForSize_71 : decode prog_6_method_10_code 71 = .ok (.ifCond .eq 7, 3) := by decide +kernel
theorem d_R_lookForSize_74 : decode prog_6_method_10_code 74 = .ok (.iconst 0, 1) := by decide +kernel
theorem d_R_lookForSize_75 : decode prog_6_method_10_code 75 = .ok (.goto 6, 3) := by decide +kernel
theorem d_R_lookForSize_78 : decode prog_6_method_10_code 78 = .ok (.sipush 400, 3) := by decide +kernel
theorem d_R_lookForSize_81 : decode prog_6_method_10_code 81 = .ok (.ireturn, 1) := by decide +kernel
def wq_R_lookForSize_28 (a : Nat) (p0 : Option Nat) (Q : Int32 → ab_H → Prop)  (u2 : Int32) (A : ab_H) : Prop := wgI A (some a) 5 6 (fun x1 => if x1 = 0 then (wp A (some a) 5 6 (.int (1 : Int32)) (fun A => if u2 = 0 then (wp A (some a) 5 7 (.int (1 : Int32)) (fun A => wgR A p0 8 1 (fun r2 => wj_ST_equals A r2 (some 5) (fun x3 => if x3 = 0 then (Q (400 : Int32) A) else (Q (0 : Int32) A))))) else (wgR A p0 8 1 (fun r4 => wC A (some a) 5 (fun b => wp_R_readLength b r4 A (fun x5 A => Q x5 A)))))) else (Q (400 : Int32) A))
set_option maxRecDepth 100000 in
set_option maxHeartbeats 4000000 in
theorem sq_R_lookForSize_28 {l : Launch} {G : mm_G} {a : Nat} {p0 : Option Nat} {Q : Int32 → ab_H → Prop}   : ∀ (u2 : Int32) (A : ab_H) (h : mm_H), Vw G h A → wq_R_lookForSize_28 a p0 Q  u2 A → mm_V l G M_R_lookForSize 0 0 28 [some (va_rf (some a)), some (va_rf p0), some (.int u2)] [] h (wQI G Q) := by
  intro u2 A h hV hw
  unfold wq_R_lookForSize_28 at hw
  refine wr_aload_n (some a) (pc' := 29) d_R_lookForSize_28 rfl rfl rfl ?_
  refine wr_getI hV hw (pc' := 32) d_R_lookForSize_29 rfl fl_R_45 (fun x1 hw => ?_)
  refine wr_if_eq hw (pc' := 35) d_R_lookForSize_32 rfl rfl (fun hw => ?_) (fun hw => ?_)
  · refine wr_aload_n (some a) (pc' := 40) d_R_lookForSize_39 rfl rfl rfl ?_
    refine mm_iconst (v := 1) (pc' := 41) d_R_lookForSize_40 rfl (by decide) ?_
    refine wr_put hV hw (pc' := 44) d_R_lookForSize_41 rfl pl_R_lookForSize_45 (Nat.le_of_ble_eq_true rfl) (fun _ => ⟨rfl, rfl⟩) (fun h A hV hw => ?_)
    refine mm_iload_n (pc' := 45) d_R_lookForSize_44 rfl rfl rfl ?_
    refine wr_if_eq hw (pc' := 48) d_R_lookForSize_45 rfl rfl (fun hw => ?_) (fun hw => ?_)
    · refine wr_aload_n (some a) (pc' := 58) d_R_lookForSize_57 rfl rfl rfl ?_
      refine mm_iconst (v := 1) (pc' := 59) d_R_lookForSize_58 rfl (by decide) ?_
      refine wr_put hV hw (pc' := 62) d_R_lookForSize_59 rfl pl_R_lookForSize_48 (Nat.le_of_ble_eq_true rfl) (fun _ => ⟨rfl, rfl⟩) (fun h A hV hw => ?_)
      refine wr_aload_n p0 (pc' := 63) d_R_lookForSize_62 rfl rfl rfl ?_
      refine wr_getR hV hw (pc' := 66) d_R_lookForSize_63 rfl fl_R_186 (fun r2 hw => ?_)
      refine wr_ldcS (pc' := 68) d_R_lookForSize_66 rfl ld_R_193 ?_
      refine wr_ST_equals hV hw (pc' := 71) d_R_lookForSize_68 rfl cs_R_182 (Nat.le_of_ble_eq_true rfl) (Nat.le_of_ble_eq_true rfl) (fun x3 hw => ?_)
      refine wr_if_eq hw (pc' := 74) d_R_lookForSize_71 rfl rfl (fun hw => ?_) (fun hw => ?_)
      · refine mm_sipush (v := 400) (pc' := 81) d_R_lookForSize_78 rfl (by decide) ?_
        exact wr_iret hV d_R_lookForSize_81 rfl rfl hw
      · refine mm_iconst (v := 0) (pc' := 75) d_R_lookForSize_74 rfl (by decide) ?_
        refine mm_goto (tgt := 81) d_R_lookForSize_75 rfl ?_
        exact wr_iret hV d_R_lookForSize_81 rfl rfl hw
    · refine wr_aload_n (some a) (pc' := 49) d_R_lookForSize_48 rfl rfl rfl ?_
      refine wr_aload_n p0 (pc' := 50) d_R_lookForSize_49 rfl rfl rfl ?_
      refine wr_getR hV hw (pc' := 53) d_R_lookForSize_50 rfl fl_R_186 (fun r4 hw => ?_)
      refine wr_cVI (pc' := 56) (as := [va_rf r4]) (st := []) d_R_lookForSize_53 rfl cs_R_189 rfl (W := fun b Q' => wp_R_readLength b r4 A Q') hV hw (fun b Q' hw => sd_R_readLength hV hw) rfl rfl (Nat.le_of_ble_eq_true rfl) (Nat.le_of_ble_eq_true rfl) (fun x5 h A hV hw => ?_)
      exact wr_iret hV d_R_lookForSize_56 rfl rfl hw
  · refine mm_sipush (v := 400) (pc' := 38) d_R_lookForSize_35 rfl (by decide) ?_
    exact wr_iret hV d_R_lookForSize_38 rfl rfl hw
def wp_R_lookForSize (a : Nat) (p0 : Option Nat) (A : ab_H) (Q : Int32 → ab_H → Prop) : Prop := wgR A p0 8 0 (fun r6 => wj_ST_equals A r6 (some 3) (fun x7 => if x7 = 0 then (wgR A p0 8 0 (fun r8 => wj_ST_equals A r8 (some 4) (fun x9 => if x9 = 0 then (Q (0 : Int32) A) else (wq_R_lookForSize_28 a p0 Q x7 A)))) else (wq_R_lookForSize_28 a p0 Q x7 A)))
set_option maxRecDepth 100000 in
set_option maxHeartbeats 4000000 in
theorem sd_R_lookForSize {l : Launch} {G : mm_G} {h : mm_H} {A : ab_H} {a : Nat} {p0 : Option Nat} {Q : Int32 → ab_H → Prop} (hV : Vw G h A) (hw : wp_R_lookForSize a p0 A Q) : mm_S l G M_R_lookForSize [.ref a, va_rf p0] h 0 0 (wQI G Q) := by
  unfold wp_R_lookForSize at hw
  refine mm_start rfl (by simp [mm_as, wr_cat, wr_catI, wr_catJ, wr_catN]) ?_
  rw [show mm_en [.ref a, va_rf p0] M_R_lookForSize.2.2.1 = [some (.ref a), some (va_rf p0), none] from by simp [mm_en, mm_as, wr_cat, wr_catI, wr_catJ, wr_catN]]
  show mm_V l G M_R_lookForSize 0 0 0 [some (va_rf (some a)), some (va_rf p0), none] [] h _
  refine wr_aload_n p0 (pc' := 1) d_R_lookForSize_0 rfl rfl rfl ?_
  refine wr_getR hV hw (pc' := 4) d_R_lookForSize_1 rfl fl_R_176 (fun r6 hw => ?_)
  refine wr_ldcS (pc' := 6) d_R_lookForSize_4 rfl ld_R_180 ?_
  refine wr_ST_equals hV hw (pc' := 9) d_R_lookForSize_6 rfl cs_R_182 (Nat.le_of_ble_eq_true rfl) (Nat.le_of_ble_eq_true rfl) (fun x7 hw => ?_)
  refine mm_ist2 (pc' := 10) d_R_lookForSize_9 rfl (wr_2 _) (Nat.le_of_ble_eq_true rfl) ?_
  refine mm_iload_n (pc' := 11) d_R_lookForSize_10 rfl rfl rfl ?_
  refine wr_if_ne hw (pc' := 14) d_R_lookForSize_11 rfl rfl (fun hw => ?_) (fun hw => ?_)
  · exact mm_drop (mm_le.s (mm_le.s (mm_le.s mm_le.e))) (sq_R_lookForSize_28  _ _ _ hV hw)
  · refine wr_aload_n p0 (pc' := 15) d_R_lookForSize_14 rfl rfl rfl ?_
    refine wr_getR hV hw (pc' := 18) d_R_lookForSize_15 rfl fl_R_176 (fun r8 hw => ?_)
    refine wr_ldcS (pc' := 20) d_R_lookForSize_18 rfl ld_R_185 ?_
    refine wr_ST_equals hV hw (pc' := 23) d_R_lookForSize_20 rfl cs_R_182 (Nat.le_of_ble_eq_true rfl) (Nat.le_of_ble_eq_true rfl) (fun x9 hw => ?_)
    refine wr_if_ne hw (pc' := 26) d_R_lookForSize_23 rfl rfl (fun hw => ?_) (fun hw => ?_)
    · exact mm_drop (mm_le.s (mm_le.s (mm_le.s mm_le.e))) (sq_R_lookForSize_28  _ _ _ hV hw)
    · refine mm_iconst (v := 0) (pc' := 27) d_R_lookForSize_26 rfl (by decide) ?_
      exact wr_iret hV d_R_lookForSize_27 rfl rfl hw
theorem d_R_takeInHeaders_0 : decode prog_6_method_6_code 0 = .ok (.aload_n 0, 1) := by decide +kernel
theorem d_R_takeInHeaders_1 : decode prog_6_method_6_code 1 = .ok (.iload_n 1, 1) := by decide +kernel
theorem d_R_takeInHeaders_2 : decode prog_6_method_6_code 2 = .ok (.bipush 32, 2) := by decide +kernel
theorem d_R_takeInHeaders_4 : decode prog_6_method_6_code 4 = .ok (.sipush 431, 3) := by decide +kernel
theorem d_R_takeInHeaders_7 : decode prog_6_method_6_code 7 = .ok (.invokevirtual 96, 3) := by decide +kernel
theorem d_R_takeInHeaders_10 : decode prog_6_method_6_code 10 = .ok (.istore_n 2, 1) := by decide +kernel
theorem d_R_takeInHeaders_11 : decode prog_6_method_6_code 11 = .ok (.iload_n 2, 1) := by decide +kernel
theorem d_R_takeInHeaders_12 : decode prog_6_method_6_code 12 = .ok (.iconst 2, 1) := by decide +kernel
theorem d_R_takeInHeaders_13 : decode prog_6_method_6_code 13 = .ok (.if_icmp .eq 5, 3) := by decide +kernel
theorem d_R_takeInHeaders_16 : decode prog_6_method_6_code 16 = .ok (.iload_n 2, 1) := by decide +kernel
theorem d_R_takeInHeaders_17 : decode prog_6_method_6_code 17 = .ok (.ireturn, 1) := by decide +kernel
theorem d_R_takeInHeaders_18 : decode prog_6_method_6_code 18 = .ok (.aload_n 0, 1) := by decide +kernel
theorem d_R_takeInHeaders_19 : decode prog_6_method_6_code 19 = .ok (.invokevirtual 100, 3) := by decide +kernel
theorem d_R_takeInHeaders_22 : decode prog_6_method_6_code 22 = .ok (.astore_n 3, 1) := by decide +kernel
theorem d_R_takeInHeaders_23 : decode prog_6_method_6_code 23 = .ok (.aload_n 3, 1) := by decide +kernel
theorem d_R_takeInHeaders_24 : decode prog_6_method_6_code 24 = .ok (.invokevirtual 107, 3) := by decide +kernel
theorem d_R_takeInHeaders_27 : decode prog_6_method_6_code 27 = .ok (.ifCond .eq 8, 3) := by decide +kernel
theorem d_R_takeInHeaders_30 : decode prog_6_method_6_code 30 = .ok (.aload_n 0, 1) := by decide +kernel
theorem d_R_takeInHeaders_31 : decode prog_6_method_6_code 31 = .ok (.invokevirtual 113, 3) := by decide +kernel
theorem d_R_takeInHeaders_34 : decode prog_6_method_6_code 34 = .ok (.ireturn, 1) := by decide +kernel
theorem d_R_takeInHeaders_35 : decode prog_6_method_6_code 35 = .ok (.aload_n 0, 1) := by decide +kernel
theorem d_R_takeInHeaders_36 : decode prog_6_method_6_code 36 = .ok (.getfield 29, 3) := by decide +kernel
theorem d_R_takeInHeaders_39 : decode prog_6_method_6_code 39 = .ok (.getfield 117, 3) := by decide +kernel
theorem d_R_takeInHeaders_42 : decode prog_6_method_6_code 42 = .ok (.invokevirtual 121, 3) := by decide +kernel
theorem d_R_takeInHeaders_45 : decode prog_6_method_6_code 45 = .ok (.iconst 4, 1) := by decide +kernel
theorem d_R_takeInHeaders_46 : decode prog_6_method_6_code 46 = .ok (.if_icmp .lt 7, 3) := by decide +kernel
theorem d_R_takeInHeaders_49 : decode prog_6_method_6_code 49 = .ok (.sipush 431, 3) := by decide +kernel
theorem d_R_takeInHeaders_52 : decode prog_6_method_6_code 52 = .ok (.ireturn, 1) := by decide +kernel
theorem d_R_takeInHeaders_53 : decode prog_6_method_6_code 53 = .ok (.aload_n 3, 1) := by decide +kernel
theorem d_R_takeInHeaders_54 : decode prog_6_method_6_code 54 = .ok (.invokestatic 126, 3) := by decide +kernel
theorem d_R_takeInHeaders_57 : decode prog_6_method_6_code 57 = .ok (.astore 4, 2) := by decide +kernel
theorem d_R_takeInHeaders_59 : decode prog_6_method_6_code 59 = .ok (.aload 4, 2) := by decide +kernel
theorem d_R_takeInHeaders_61 : decode prog_6_method_6_code 61 = .ok (.ifnonnull 7, 3) := by decide +kernel
theorem d_R_takeInHeaders_64 : decode prog_6_method_6_code 64 = .ok (.sipush 400, 3) := by decide +kernel
theorem d_R_takeInHeaders_67 : decode prog_6_method_6_code 67 = .ok (.ireturn, 1) := by decide +kernel
theorem d_R_takeInHeaders_68 : decode prog_6_method_6_code 68 = .ok (.aload_n 0, 1) := by decide +kernel
theorem d_R_takeInHeaders_69 : decode prog_6_method_6_code 69 = .ok (.getfield 29, 3) := by decide +kernel
theorem d_R_takeInHeaders_72 : decode prog_6_method_6_code 72 = .ok (.getfield 117, 3) := by decide +kernel
theorem d_R_takeInHeaders_75 : decode prog_6_method_6_code 75 = .ok (.aload 4, 2) := by decide +kernel
theorem d_R_takeInHeaders_77 : decode prog_6_method_6_code 77 = .ok (.invokevirtual 130, 3) := by decide +kernel
theorem d_R_takeInHeaders_80 : decode prog_6_method_6_code 80 = .ok (.pop, 1) := by decide +kernel
theorem d_R_takeInHeaders_81 : decode prog_6_method_6_code 81 = .ok (.aload_n 0, 1) := by decide +kernel
theorem d_R_takeInHeaders_82 : decode prog_6_method_6_code 82 = .ok (.aload 4, 2) := by decide +kernel
theorem d_R_takeInHeaders_84 : decode prog_6_method_6_code 84 = .ok (.invokevirtual 134, 3) := by decide +kernel
theorem d_R_takeInHeaders_87 : decode prog_6_method_6_code 87 = .ok (.ireturn, 1) := by decide +kernel
def wp_R_takeInHeaders (a : Nat) (p0 : Int32) (A : ab_H) (kc ks : Nat) (Q : Int32 → ab_H → Prop) : Prop := wC A (some a) 5 (fun b => wX kc ks (wp_R_takeInLine b p0 (32 : Int32) (431 : Int32) A) (fun x1 A kc ks => if x1 = (2 : Int32) then (wC A (some a) 5 (fun b => wX kc ks (wp_R_endLine b  A) (fun r2 A kc ks => wj_ST_isEmpty A r2  (fun x3 => if x3 = 0 then (wgR A (some a) 5 3 (fun r4 => wgR A r4 7 1 (fun r5 => wj_AL_size A r5  (fun x6 => if x6 < (4 : Int32) then (wX kc ks (wp_R_headerOf r2 A) (fun r7 A kc ks => if r7 = none then (Q (400 : Int32) A) else (wgR A (some a) 5 3 (fun r8 => wgR A r8 7 1 (fun r9 => wj_AL_add_O A kc ks r9 r7 (fun x10 A kc ks => wC A (some a) 5 (fun b => wp_R_lookForSize b r7 A (fun x11 A => Q x11 A)))))))) else (Q (431 : Int32) A))))) else (wC A (some a) 5 (fun b => wp_R_endHeaders b  A (fun x12 A => Q x12 A))))))) else (Q x1 A)))
set_option maxRecDepth 100000 in
set_option maxHeartbeats 4000000 in
theorem sd_R_takeInHeaders {l : Launch} {G : mm_G} {h : mm_H} {A : ab_H} {a : Nat} {p0 : Int32} {kc ks : Nat} {Q : Int32 → ab_H → Prop} (hV : Vw G h A) (hw : wp_R_takeInHeaders a p0 A kc ks Q) : mm_S l G M_R_takeInHeaders [.ref a, .int p0] h kc ks (wQI G Q) := by
  unfold wp_R_takeInHeaders at hw
  refine mm_start rfl (Nat.le_of_ble_eq_true rfl) ?_
  show mm_V l G M_R_takeInHeaders kc ks 0 [some (va_rf (some a)), some (.int p0), none, none, none] [] h _
  refine wr_aload_n (some a) (pc' := 1) d_R_takeInHeaders_0 rfl rfl rfl ?_
  refine mm_iload_n (pc' := 2) d_R_takeInHeaders_1 rfl rfl rfl ?_
  refine mm_bipush (v := 32) (pc' := 4) d_R_takeInHeaders_2 rfl (by decide) ?_
  refine mm_sipush (v := 431) (pc' := 7) d_R_takeInHeaders_4 rfl (by decide) ?_
  refine wr_cVIx (pc' := 10) (as := [.int p0, .int (32 : Int32), .int (431 : Int32)]) (st := []) d_R_takeInHeaders_7 rfl cs_R_96 rfl (W := fun b c s Q' => wp_R_takeInLine b p0 (32 : Int32) (431 : Int32) A c s Q') hV hw (fun b c s Q' hw => sd_R_takeInLine hV hw) rfl rfl (Nat.le_of_ble_eq_true rfl) (Nat.le_of_ble_eq_true rfl) (fun x1 h A kc ks hV hw => ?_)
  refine mm_ist2 (pc' := 11) d_R_takeInHeaders_10 rfl rfl (Nat.le_of_ble_eq_true rfl) ?_
  refine mm_iload_n (pc' := 12) d_R_takeInHeaders_11 rfl rfl rfl ?_
  refine mm_iconst (v := 2) (pc' := 13) d_R_takeInHeaders_12 rfl (by decide) ?_
  refine wr_icmp_eq hw (pc' := 16) d_R_takeInHeaders_13 rfl rfl (fun hw => ?_) (fun hw => ?_)
  · refine wr_aload_n (some a) (pc' := 19) d_R_takeInHeaders_18 rfl rfl rfl ?_
    refine wr_cVRx (pc' := 22) (as := []) (st := []) d_R_takeInHeaders_19 rfl cs_R_100 rfl (W := fun b c s Q' => wp_R_endLine b  A c s Q') hV hw (fun b c s Q' hw => sd_R_endLine hV hw) rfl rfl (Nat.le_of_ble_eq_true rfl) (Nat.le_of_ble_eq_true rfl) (fun r2 h A kc ks hV hw => ?_)
    refine wr_ast3 (pc' := 23) d_R_takeInHeaders_22 rfl rfl (Nat.le_of_ble_eq_true rfl) ?_
    refine wr_aload_n r2 (pc' := 24) d_R_takeInHeaders_23 rfl rfl rfl ?_
    refine wr_ST_isEmpty hV hw (pc' := 27) d_R_takeInHeaders_24 rfl cs_R_107 (Nat.le_of_ble_eq_true rfl) (Nat.le_of_ble_eq_true rfl) (fun x3 hw => ?_)
    refine wr_if_eq hw (pc' := 30) d_R_takeInHeaders_27 rfl rfl (fun hw => ?_) (fun hw => ?_)
    · refine wr_aload_n (some a) (pc' := 36) d_R_takeInHeaders_35 rfl rfl rfl ?_
      refine wr_getR hV hw (pc' := 39) d_R_takeInHeaders_36 rfl fl_R_29 (fun r4 hw => ?_)
      refine wr_getR hV hw (pc' := 42) d_R_takeInHeaders_39 rfl fl_R_117 (fun r5 hw => ?_)
      refine wr_AL_size hV hw (pc' := 45) d_R_takeInHeaders_42 rfl cs_R_121 (Nat.le_of_ble_eq_true rfl) (Nat.le_of_ble_eq_true rfl) (fun x6 hw => ?_)
      refine mm_iconst (v := 4) (pc' := 46) d_R_takeInHeaders_45 rfl (by decide) ?_
      refine wr_icmp_lt hw (pc' := 49) d_R_takeInHeaders_46 rfl rfl (fun hw => ?_) (fun hw => ?_)
      · refine wr_aload_n r2 (pc' := 54) d_R_takeInHeaders_53 rfl rfl rfl ?_
        refine wr_cSRx (pc' := 57) (as := [va_rf r2]) (st := []) d_R_takeInHeaders_54 rfl cs_R_126 (W := fun c s Q' => wp_R_headerOf r2 A c s Q') hw (fun c s Q' hw => sd_R_headerOf hV hw) rfl rfl (Nat.le_of_ble_eq_true rfl) (Nat.le_of_ble_eq_true rfl) (fun r7 h A kc ks hV hw => ?_)
        refine wr_ast4 (pc' := 59) d_R_takeInHeaders_57 rfl (wr_2 _) (Nat.le_of_ble_eq_true rfl) ?_
        refine wr_aload r7 (pc' := 61) d_R_takeInHeaders_59 rfl rfl ?_
        refine wr_ifnonnull hw (pc' := 64) d_R_takeInHeaders_61 rfl rfl (fun hw => ?_) (fun hw => ?_)
        · refine wr_aload_n (some a) (pc' := 69) d_R_takeInHeaders_68 rfl rfl rfl ?_
          refine wr_getR hV hw (pc' := 72) d_R_takeInHeaders_69 rfl fl_R_29 (fun r8 hw => ?_)
          refine wr_getR hV hw (pc' := 75) d_R_takeInHeaders_72 rfl fl_R_117 (fun r9 hw => ?_)
          refine wr_aload r7 (pc' := 77) d_R_takeInHeaders_75 rfl rfl ?_
          refine wr_AL_add_O hV hw (pc' := 80) d_R_takeInHeaders_77 rfl cs_R_130 (Nat.le_of_ble_eq_true rfl) (Nat.le_of_ble_eq_true rfl) (fun x10 h A kc ks hV hw => ?_)
          refine mm_pop (pc' := 81) d_R_takeInHeaders_80 rfl rfl ?_
          refine wr_aload_n (some a) (pc' := 82) d_R_takeInHeaders_81 rfl rfl rfl ?_
          refine wr_aload r7 (pc' := 84) d_R_takeInHeaders_82 rfl rfl ?_
          refine wr_cVI (pc' := 87) (as := [va_rf r7]) (st := []) d_R_takeInHeaders_84 rfl cs_R_134 rfl (W := fun b Q' => wp_R_lookForSize b r7 A Q') hV hw (fun b Q' hw => sd_R_lookForSize hV hw) rfl rfl (Nat.le_of_ble_eq_true rfl) (Nat.le_of_ble_eq_true rfl) (fun x11 h A hV hw => ?_)
          exact wr_iret hV d_R_takeInHeaders_87 rfl rfl hw
        · refine mm_sipush (v := 400) (pc' := 67) d_R_takeInHeaders_64 rfl (by decide) ?_
          exact wr_iret hV d_R_takeInHeaders_67 rfl rfl hw
      · refine mm_sipush (v := 431) (pc' := 52) d_R_takeInHeaders_49 rfl (by decide) ?_
        exact wr_iret hV d_R_takeInHeaders_52 rfl rfl hw
    · refine wr_aload_n (some a) (pc' := 31) d_R_takeInHeaders_30 rfl rfl rfl ?_
      refine wr_cVI (pc' := 34) (as := []) (st := []) d_R_takeInHeaders_31 rfl cs_R_113 rfl (W := fun b Q' => wp_R_endHeaders b  A Q') hV hw (fun b Q' hw => sd_R_endHeaders hV hw) rfl rfl (Nat.le_of_ble_eq_true rfl) (Nat.le_of_ble_eq_true rfl) (fun x12 h A hV hw => ?_)
      exact wr_iret hV d_R_takeInHeaders_34 rfl rfl hw
  · refine mm_iload_n (pc' := 17) d_R_takeInHeaders_16 rfl rfl rfl ?_
    exact wr_iret hV d_R_takeInHeaders_17 rfl rfl hw
theorem d_R_takeInBody_0 : decode prog_6_method_13_code 0 = .ok (.aload_n 0, 1) := by decide +kernel
theorem d_R_takeInBody_1 : decode prog_6_method_13_code 1 = .ok (.getfield 16, 3) := by decide +kernel
theorem d_R_takeInBody_4 : decode prog_6_method_13_code 4 = .ok (.iload_n 1, 1) := by decide +kernel
theorem d_R_takeInBody_5 : decode prog_6_method_13_code 5 = .ok (.i2c, 1) := by decide +kernel
theorem d_R_takeInBody_6 : decode prog_6_method_13_code 6 = .ok (.invokevirtual 147, 3) := by decide +kernel
theorem d_R_takeInBody_9 : decode prog_6_method_13_code 9 = .ok (.pop, 1) := by decide +kernel
theorem d_R_takeInBody_10 : decode prog_6_method_13_code 10 = .ok (.aload_n 0, 1) := by decide +kernel
theorem d_R_takeInBody_11 : decode prog_6_method_13_code 11 = .ok (.dup, 1) := by decide +kernel
theorem d_R_takeInBody_12 : decode prog_6_method_13_code 12 = .ok (.getfield 51, 3) := by decide +kernel
theorem d_R_takeInBody_15 : decode prog_6_method_13_code 15 = .ok (.iconst 1, 1) := by decide +kernel
theorem d_R_takeInBody_16 : decode prog_6_method_13_code 16 = .ok (.isub, 1) := by decide +kernel
theorem d_R_takeInBody_17 : decode prog_6_method_13_code 17 = .ok (.putfield 51, 3) := by decide +kernel
theorem d_R_takeInBody_20 : decode prog_6_method_13_code 20 = .ok (.aload_n 0, 1) := by decide +kernel
theorem d_R_takeInBody_21 : decode prog_6_method_13_code 21 = .ok (.getfield 51, 3) := by decide +kernel
theorem d_R_takeInBody_24 : decode prog_6_method_13_code 24 = .ok (.ifCond .le 7, 3) := by decide +kernel
theorem d_R_takeInBody_27 : decode prog_6_method_13_code 27 = .ok (.iconst 0, 1) := by decide +kernel
theorem d_R_takeInBody_28 : decode prog_6_method_13_code 28 = .ok (.goto 4, 3) := by decide +kernel
theorem d_R_takeInBody_31 : decode prog_6_method_13_code 31 = .ok (.iconst 1, 1) := by decide +kernel
theorem d_R_takeInBody_32 : decode prog_6_method_13_code 32 = .ok (.ireturn, 1) := by decide +kernel
def wp_R_takeInBody (a : Nat) (p0 : Int32) (A : ab_H) (kc ks : Nat) (Q : Int32 → ab_H → Prop) : Prop := wgR A (some a) 5 1 (fun r1 => wj_SB_append_C A kc ks r1 (wch p0) (fun r2 A kc ks => wgI A (some a) 5 8 (fun x3 => wp A (some a) 5 8 (.int (x3 - (1 : Int32))) (fun A => wgI A (some a) 5 8 (fun x4 => if x4 ≤ 0 then (Q (1 : Int32) A) else (Q (0 : Int32) A))))))
set_option maxRecDepth 100000 in
set_option maxHeartbeats 4000000 in
theorem sd_R_takeInBody {l : Launch} {G : mm_G} {h : mm_H} {A : ab_H} {a : Nat} {p0 : Int32} {kc ks : Nat} {Q : Int32 → ab_H → Prop} (hV : Vw G h A) (hw : wp_R_takeInBody a p0 A kc ks Q) : mm_S l G M_R_takeInBody [.ref a, .int p0] h kc ks (wQI G Q) := by
  unfold wp_R_takeInBody at hw
  refine mm_start rfl (Nat.le_of_ble_eq_true rfl) ?_
  show mm_V l G M_R_takeInBody kc ks 0 [some (va_rf (some a)), some (.int p0)] [] h _
  refine wr_aload_n (some a) (pc' := 1) d_R_takeInBody_0 rfl rfl rfl ?_
  refine wr_getR hV hw (pc' := 4) d_R_takeInBody_1 rfl fl_R_16 (fun r1 hw => ?_)
  refine mm_iload_n (pc' := 5) d_R_takeInBody_4 rfl rfl rfl ?_
  refine mm_i2c (v := wch p0) (pc' := 6) d_R_takeInBody_5 rfl rfl ?_
  refine wr_SB_append_C hV hw (pc' := 9) d_R_takeInBody_6 rfl cs_R_147 (Nat.le_of_ble_eq_true rfl) (Nat.le_of_ble_eq_true rfl) (fun r2 h A kc ks hV hw => ?_)
  refine mm_pop (pc' := 10) d_R_takeInBody_9 rfl (wr_cat _) ?_
  refine wr_aload_n (some a) (pc' := 11) d_R_takeInBody_10 rfl rfl rfl ?_
  refine mm_dup (pc' := 12) d_R_takeInBody_11 rfl (wr_cat _) ?_
  refine wr_getI hV hw (pc' := 15) d_R_takeInBody_12 rfl fl_R_51 (fun x3 hw => ?_)
  refine mm_iconst (v := 1) (pc' := 16) d_R_takeInBody_15 rfl (by decide) ?_
  refine mm_isub (pc' := 17) d_R_takeInBody_16 rfl ?_
  refine wr_put hV hw (pc' := 20) d_R_takeInBody_17 rfl pl_R_takeInBody_51 (Nat.le_of_ble_eq_true rfl) (wn_I _) (fun h A hV hw => ?_)
  refine wr_aload_n (some a) (pc' := 21) d_R_takeInBody_20 rfl rfl rfl ?_
  refine wr_getI hV hw (pc' := 24) d_R_takeInBody_21 rfl fl_R_51 (fun x4 hw => ?_)
  refine wr_if_le hw (pc' := 27) d_R_takeInBody_24 rfl rfl (fun hw => ?_) (fun hw => ?_)
  · refine mm_iconst (v := 1) (pc' := 32) d_R_takeInBody_31 rfl (by decide) ?_
    exact wr_iret hV d_R_takeInBody_32 rfl rfl hw
  · refine mm_iconst (v := 0) (pc' := 28) d_R_takeInBody_27 rfl (by decide) ?_
    refine mm_goto (tgt := 32) d_R_takeInBody_28 rfl ?_
    exact wr_iret hV d_R_takeInBody_32 rfl rfl hw
theorem d_R_endChunkSize_0 : decode prog_6_method_15_code 0 = .ok (.aload_n 0, 1) := by decide +kernel
theorem d_R_endChunkSize_1 : decode prog_6_method_15_code 1 = .ok (.iconst 0, 1) := by decide +kernel
theorem d_R_endChunkSize_2 : decode prog_6_method_15_code 2 = .ok (.putfield 41, 3) := by decide +kernel
theorem d_R_endChunkSize_5 : decode prog_6_method_15_code 5 = .ok (.aload_n 0, 1) := by decide +kernel
theorem d_R_endChunkSize_6 : decode prog_6_method_15_code 6 = .ok (.iconst 0, 1) := by decide +kernel
theorem d_R_endChunkSize_7 : decode prog_6_method_15_code 7 = .ok (.putfield 54, 3) := by decide +kernel
theorem d_R_endChunkSize_10 : decode prog_6_method_15_code 10 = .ok (.aload_n 0, 1) := by decide +kernel
theorem d_R_endChunkSize_11 : decode prog_6_method_15_code 11 = .ok (.dup, 1) := by decide +kernel
theorem d_R_endChunkSize_12 : decode prog_6_method_15_code 12 = .ok (.getfield 57, 3) := by decide +kernel
theorem d_R_endChunkSize_15 : decode prog_6_method_15_code 15 = .ok (.aload_n 0, 1) := by decide +kernel
theorem d_R_endChunkSize_16 : decode prog_6_method_15_code 16 = .ok (.getfield 51, 3) := by decide +kernel
theorem d_R_endChunkSize_19 : decode prog_6_method_15_code 19 = .ok (.iadd, 1) := by decide +kernel
theorem d_R_endChunkSize_20 : decode prog_6_method_15_code 20 = .ok (.putfield 57, 3) := by decide +kernel
theorem d_R_endChunkSize_23 : decode prog_6_method_15_code 23 = .ok (.aload_n 0, 1) := by decide +kernel
theorem d_R_endChunkSize_24 : decode prog_6_method_15_code 24 = .ok (.getfield 57, 3) := by decide +kernel
theorem d_R_endChunkSize_27 : decode prog_6_method_15_code 27 = .ok (.bipush 40, 2) := by decide +kernel
theorem d_R_endChunkSize_29 : decode prog_6_method_15_code 29 = .ok (.if_icmp .le 7, 3) := by decide +kernel
theorem d_R_endChunkSize_32 : decode prog_6_method_15_code 32 = .ok (.sipush 413, 3) := by decide +kernel
theorem d_R_endChunkSize_35 : decode prog_6_method_15_code 35 = .ok (.ireturn, 1) := by decide +kernel
theorem d_R_endChunkSize_36 : decode prog_6_method_15_code 36 = .ok (.aload_n 0, 1) := by decide +kernel
theorem d_R_endChunkSize_37 : decode prog_6_method_15_code 37 = .ok (.aload_n 0, 1) := by decide +kernel
theorem d_R_endChunkSize_38 : decode prog_6_method_15_code 38 = .ok (.getfield 51, 3) := by decide +kernel
theorem d_R_endChunkSize_41 : decode prog_6_method_15_code 41 = .ok (.ifCond .le 7, 3) := by decide +kernel
theorem d_R_endChunkSize_44 : decode prog_6_method_15_code 44 = .ok (.iconst 1, 1) := by decide +kernel
theorem d_R_endChunkSize_45 : decode prog_6_method_15_code 45 = .ok (.goto 4, 3) := by decide +kernel
theorem d_R_endChunkSize_48 : decode prog_6_method_15_code 48 = .ok (.iconst 0, 1) := by decide +kernel
theorem d_R_endChunkSize_49 : decode prog_6_method_15_code 49 = .ok (.putfield 48, 3) := by decide +kernel
theorem d_R_endChunkSize_52 : decode prog_6_method_15_code 52 = .ok (.aload_n 0, 1) := by decide +kernel
theorem d_R_endChunkSize_53 : decode prog_6_method_15_code 53 = .ok (.aload_n 0, 1) := by decide +kernel
theorem d_R_endChunkSize_54 : decode prog_6_method_15_code 54 = .ok (.getfield 48, 3) := by decide +kernel
theorem d_R_endChunkSize_57 : decode prog_6_method_15_code 57 = .ok (.ifCond .eq 7, 3) := by decide +kernel
theorem d_R_endChunkSize_60 : decode prog_6_method_15_code 60 = .ok (.iconst 4, 1) := by decide +kernel
theorem d_R_endChunkSize_61 : decode prog_6_method_15_code 61 = .ok (.goto 4, 3) := by decide +kernel
theorem d_R_endChunkSize_64 : decode prog_6_method_15_code 64 = .ok (.iconst 5, 1) := by decide +kernel
theorem d_R_endChunkSize_65 : decode prog_6_method_15_code 65 = .ok (.putfield 33, 3) := by decide +kernel
theorem d_R_endChunkSize_68 : decode prog_6_method_15_code 68 = .ok (.iconst 0, 1) := by decide +kernel
theorem d_R_endChunkSize_69 : decode prog_6_method_15_code 69 = .ok (.ireturn, 1) := by decide +kernel
def wq_R_endChunkSize_65 (a : Nat) (Q : Int32 → ab_H → Prop)  (s0 : Option Nat) (s1 : Int32) (A : ab_H) : Prop := wp A s0 5 4 (.int s1) (fun A => Q (0 : Int32) A)
set_option maxRecDepth 100000 in
set_option maxHeartbeats 4000000 in
theorem sq_R_endChunkSize_65 {l : Launch} {G : mm_G} {a : Nat} {Q : Int32 → ab_H → Prop}   : ∀ (s0 : Option Nat) (s1 : Int32) (A : ab_H) (h : mm_H), Vw G h A → wq_R_endChunkSize_65 a Q  s0 s1 A → mm_V l G M_R_endChunkSize 0 0 65 [some (va_rf (some a))] [.int s1, va_rf s0] h (wQI G Q) := by
  intro s0 s1 A h hV hw
  unfold wq_R_endChunkSize_65 at hw
  refine wr_put hV hw (pc' := 68) d_R_endChunkSize_65 rfl pl_R_endChunkSize_33 (Nat.le_of_ble_eq_true rfl) (wn_I _) (fun h A hV hw => ?_)
  refine mm_iconst (v := 0) (pc' := 69) d_R_endChunkSize_68 rfl (by decide) ?_
  exact wr_iret hV d_R_endChunkSize_69 rfl rfl hw
def wq_R_endChunkSize_49 (a : Nat) (Q : Int32 → ab_H → Prop)  (s0 : Option Nat) (s1 : Int32) (A : ab_H) : Prop := wB s1 (wp A s0 5 7 (.int s1) (fun A => wgI A (some a) 5 7 (fun x1 => if x1 = 0 then (wq_R_endChunkSize_65 a Q (some a) (5 : Int32) A) else (wq_R_endChunkSize_65 a Q (some a) (4 : Int32) A))))
set_option maxRecDepth 100000 in
set_option maxHeartbeats 4000000 in
theorem sq_R_endChunkSize_49 {l : Launch} {G : mm_G} {a : Nat} {Q : Int32 → ab_H → Prop}   : ∀ (s0 : Option Nat) (s1 : Int32) (A : ab_H) (h : mm_H), Vw G h A → wq_R_endChunkSize_49 a Q  s0 s1 A → mm_V l G M_R_endChunkSize 0 0 49 [some (va_rf (some a))] [.int s1, va_rf s0] h (wQI G Q) := by
  intro s0 s1 A h hV hw
  unfold wq_R_endChunkSize_49 at hw
  obtain ⟨hb, hw⟩ := hw
  refine wr_put hV hw (pc' := 52) d_R_endChunkSize_49 rfl pl_R_endChunkSize_48 (Nat.le_of_ble_eq_true rfl) (wn_Z hb) (fun h A hV hw => ?_)
  refine wr_aload_n (some a) (pc' := 53) d_R_endChunkSize_52 rfl rfl rfl ?_
  refine wr_aload_n (some a) (pc' := 54) d_R_endChunkSize_53 rfl rfl rfl ?_
  refine wr_getI hV hw (pc' := 57) d_R_endChunkSize_54 rfl fl_R_48 (fun x1 hw => ?_)
  refine wr_if_eq hw (pc' := 60) d_R_endChunkSize_57 rfl rfl (fun hw => ?_) (fun hw => ?_)
  · refine mm_iconst (v := 5) (pc' := 65) d_R_endChunkSize_64 rfl (by decide) ?_
    exact mm_drop (mm_le.s mm_le.e) (sq_R_endChunkSize_65  _ _ _ _ hV hw)
  · refine mm_iconst (v := 4) (pc' := 61) d_R_endChunkSize_60 rfl (by decide) ?_
    refine mm_goto (tgt := 65) d_R_endChunkSize_61 rfl ?_
    exact mm_drop (mm_le.s mm_le.e) (sq_R_endChunkSize_65  _ _ _ _ hV hw)
def wp_R_endChunkSize (a : Nat) (A : ab_H) (Q : Int32 → ab_H → Prop) : Prop := wp A (some a) 5 5 (.int (0 : Int32)) (fun A => wp A (some a) 5 9 (.int (0 : Int32)) (fun A => wgI A (some a) 5 10 (fun x2 => wgI A (some a) 5 8 (fun x3 => wp A (some a) 5 10 (.int (x2 + x3)) (fun A => wgI A (some a) 5 10 (fun x4 => if x4 ≤ (40 : Int32) then (wgI A (some a) 5 8 (fun x5 => if x5 ≤ 0 then (wq_R_endChunkSize_49 a Q (some a) (0 : Int32) A) else (wq_R_endChunkSize_49 a Q (some a) (1 : Int32) A))) else (Q (413 : Int32) A)))))))
set_option maxRecDepth 100000 in
set_option maxHeartbeats 4000000 in
theorem sd_R_endChunkSize {l : Launch} {G : mm_G} {h : mm_H} {A : ab_H} {a : Nat} {Q : Int32 → ab_H → Prop} (hV : Vw G h A) (hw : wp_R_endChunkSize a A Q) : mm_S l G M_R_endChunkSize [.ref a] h 0 0 (wQI G Q) := by
  unfold wp_R_endChunkSize at hw
  refine mm_start rfl (Nat.le_of_ble_eq_true rfl) ?_
  show mm_V l G M_R_endChunkSize 0 0 0 [some (va_rf (some a))] [] h _
  refine wr_aload_n (some a) (pc' := 1) d_R_endChunkSize_0 rfl rfl rfl ?_
  refine mm_iconst (v := 0) (pc' := 2) d_R_endChunkSize_1 rfl (by decide) ?_
  refine wr_put hV hw (pc' := 5) d_R_endChunkSize_2 rfl pl_R_endChunkSize_41 (Nat.le_of_ble_eq_true rfl) (fun _ => ⟨rfl, rfl⟩) (fun h A hV hw => ?_)
  refine wr_aload_n (some a) (pc' := 6) d_R_endChunkSize_5 rfl rfl rfl ?_
  refine mm_iconst (v := 0) (pc' := 7) d_R_endChunkSize_6 rfl (by decide) ?_
  refine wr_put hV hw (pc' := 10) d_R_endChunkSize_7 rfl pl_R_endChunkSize_54 (Nat.le_of_ble_eq_true rfl) (wn_I _) (fun h A hV hw => ?_)
  refine wr_aload_n (some a) (pc' := 11) d_R_endChunkSize_10 rfl rfl rfl ?_
  refine mm_dup (pc' := 12) d_R_endChunkSize_11 rfl (wr_cat _) ?_
  refine wr_getI hV hw (pc' := 15) d_R_endChunkSize_12 rfl fl_R_57 (fun x2 hw => ?_)
  refine wr_aload_n (some a) (pc' := 16) d_R_endChunkSize_15 rfl rfl rfl ?_
  refine wr_getI hV hw (pc' := 19) d_R_endChunkSize_16 rfl fl_R_51 (fun x3 hw => ?_)
  refine mm_iadd (pc' := 20) d_R_endChunkSize_19 rfl ?_
  refine wr_put hV hw (pc' := 23) d_R_endChunkSize_20 rfl pl_R_endChunkSize_57 (Nat.le_of_ble_eq_true rfl) (wn_I _) (fun h A hV hw => ?_)
  refine wr_aload_n (some a) (pc' := 24) d_R_endChunkSize_23 rfl rfl rfl ?_
  refine wr_getI hV hw (pc' := 27) d_R_endChunkSize_24 rfl fl_R_57 (fun x4 hw => ?_)
  refine mm_bipush (v := 40) (pc' := 29) d_R_endChunkSize_27 rfl (by decide) ?_
  refine wr_icmp_le hw (pc' := 32) d_R_endChunkSize_29 rfl rfl (fun hw => ?_) (fun hw => ?_)
  · refine wr_aload_n (some a) (pc' := 37) d_R_endChunkSize_36 rfl rfl rfl ?_
    refine wr_aload_n (some a) (pc' := 38) d_R_endChunkSize_37 rfl rfl rfl ?_
    refine wr_getI hV hw (pc' := 41) d_R_endChunkSize_38 rfl fl_R_51 (fun x5 hw => ?_)
    refine wr_if_le hw (pc' := 44) d_R_endChunkSize_41 rfl rfl (fun hw => ?_) (fun hw => ?_)
    · refine mm_iconst (v := 0) (pc' := 49) d_R_endChunkSize_48 rfl (by decide) ?_
      exact mm_drop (mm_le.s mm_le.e) (sq_R_endChunkSize_49  _ _ _ _ hV hw)
    · refine mm_iconst (v := 1) (pc' := 45) d_R_endChunkSize_44 rfl (by decide) ?_
      refine mm_goto (tgt := 49) d_R_endChunkSize_45 rfl ?_
      exact mm_drop (mm_le.s mm_le.e) (sq_R_endChunkSize_49  _ _ _ _ hV hw)
  · refine mm_sipush (v := 413) (pc' := 35) d_R_endChunkSize_32 rfl (by decide) ?_
    exact wr_iret hV d_R_endChunkSize_35 rfl rfl hw
theorem d_R_takeInChunkSize_0 : decode prog_6_method_14_code 0 = .ok (.aload_n 0, 1) := by decide +kernel
theorem d_R_takeInChunkSize_1 : decode prog_6_method_14_code 1 = .ok (.getfield 41, 3) := by decide +kernel
theorem d_R_takeInChunkSize_4 : decode prog_6_method_14_code 4 = .ok (.ifCond .eq 20, 3) := by decide +kernel
theorem d_R_takeInChunkSize_7 : decode prog_6_method_14_code 7 = .ok (.iload_n 1, 1) := by decide +kernel
theorem d_R_takeInChunkSize_8 : decode prog_6_method_14_code 8 = .ok (.bipush 10, 2) := by decide +kernel
theorem d_R_takeInChunkSize_10 : decode prog_6_method_14_code 10 = .ok (.if_icmp .ne 10, 3) := by decide +kernel
theorem d_R_takeInChunkSize_13 : decode prog_6_method_14_code 13 = .ok (.aload_n 0, 1) := by decide +kernel
theorem d_R_takeInChunkSize_14 : decode prog_6_method_14_code 14 = .ok (.invokevirtual 199, 3) := by decide +kernel
theorem d_R_takeInChunkSize_17 : decode prog_6_method_14_code 17 = .ok (.goto 6, 3) := by decide +kernel
theorem d_R_takeInChunkSize_20 : decode prog_6_method_14_code 20 = .ok (.sipush 400, 3) := by decide +kernel
theorem d_R_takeInChunkSize_23 : decode prog_6_method_14_code 23 = .ok (.ireturn, 1) := by decide +kernel
theorem d_R_takeInChunkSize_24 : decode prog_6_method_14_code 24 = .ok (.iload_n 1, 1) := by decide +kernel
theorem d_R_takeInChunkSize_25 : decode prog_6_method_14_code 25 = .ok (.bipush 13, 2) := by decide +kernel
theorem d_R_takeInChunkSize_27 : decode prog_6_method_14_code 27 = .ok (.if_icmp .ne 17, 3) := by decide +kernel
theorem d_R_takeInChunkSize_30 : decode prog_6_method_14_code 30 = .ok (.aload_n 0, 1) := by decide +kernel
theorem d_R_takeInChunkSize_31 : decode prog_6_method_14_code 31 = .ok (.getfield 54, 3) := by decide +kernel
theorem d_R_takeInChunkSize_34 : decode prog_6_method_14_code 34 = .ok (.ifCond .le 10, 3) := by decide +kernel
theorem d_R_takeInChunkSize_37 : decode prog_6_method_14_code 37 = .ok (.aload_n 0, 1) := by decide +kernel
theorem d_R_takeInChunkSize_38 : decode prog_6_method_14_code 38 = .ok (.iconst 1, 1) := by decide +kernel
theorem d_R_takeInChunkSize_39 : decode prog_6_method_14_code 39 = .ok (.putfield 41, 3) := by decide +kernel
theorem d_R_takeInChunkSize_42 : decode prog_6_method_14_code 42 = .ok (.iconst 0, 1) := by decide +kernel
theorem d_R_takeInChunkSize_43 : decode prog_6_method_14_code 43 = .ok (.ireturn, 1) := by decide +kernel
theorem d_R_takeInChunkSize_44 : decode prog_6_method_14_code 44 = .ok (.iload_n 1, 1) := by decide +kernel
theorem d_R_takeInChunkSize_45 : decode prog_6_method_14_code 45 = .ok (.invokestatic 202, 3) := by decide +kernel
theorem d_R_takeInChunkSize_48 : decode prog_6_method_14_code 48 = .ok (.istore_n 2, 1) := by decide +kernel
theorem d_R_takeInChunkSize_49 : decode prog_6_method_14_code 49 = .ok (.iload_n 2, 1) := by decide +kernel
theorem d_R_takeInChunkSize_50 : decode prog_6_method_14_code 50 = .ok (.ifCond .lt 18, 3) := by decide +kernel
theorem d_R_takeInChunkSize_53 : decode prog_6_method_14_code 53 = .ok (.iload_n 1, 1) := by decide +kernel
theorem d_R_takeInChunkSize_54 : decode prog_6_method_14_code 54 = .ok (.invokestatic 158, 3) := by decide +kernel
theorem d_R_takeInChunkSize_57 : decode prog_6_method_14_code 57 = .ok (.ifCond .ne 11, 3) := by decide +kernel
theorem d_R_takeInChunkSize_60 : decode prog_6_method_14_code 60 = .ok (.aload_n 0, 1) := by decide +kernel
theorem d_R_takeInChunkSize_61 : decode prog_6_method_14_code 61 = .ok (.getfield 54, 3) := by decide +kernel
theorem d_R_takeInChunkSize_64 : decode prog_6_method_14_code 64 = .ok (.iconst 2, 1) := by decide +kernel
theorem d_R_takeInChunkSize_65 : decode prog_6_method_14_code 65 = .ok (.if_icmp .lt 7, 3) := by decide +kernel
theorem d_R_takeInChunkSize_68 : decode prog_6_method_14_code 68 = .ok (.sipush 400, 3) := by decide +kernel
theorem d_R_takeInChunkSize_71 : decode prog_6_method_14_code 71 = .ok (.ireturn, 1) := by decide +kernel
theorem d_R_takeInChunkSize_72 : decode prog_6_method_14_code 72 = .ok (.aload_n 0, 1) := by decide +kernel
theorem d_R_takeInChunkSize_73 : decode prog_6_method_14_code 73 = .ok (.bipush 16, 2) := by decide +kernel
theorem d_R_takeInChunkSize_75 : decode prog_6_method_14_code 75 = .ok (.aload_n 0, 1) := by decide +kernel
theorem d_R_takeInChunkSize_76 : decode prog_6_method_14_code 76 = .ok (.getfield 51, 3) := by decide +kernel
theorem d_R_takeInChunkSize_79 : decode prog_6_method_14_code 79 = .ok (.imul, 1) := by decide +kernel
theorem d_R_takeInChunkSize_80 : decode prog_6_method_14_code 80 = .ok (.iload_n 2, 1) := by decide +kernel
theorem d_R_takeInChunkSize_81 : decode prog_6_method_14_code 81 = .ok (.iadd, 1) := by decide +kernel
theorem d_R_takeInChunkSize_82 : decode prog_6_method_14_code 82 = .ok (.putfield 51, 3) := by decide +kernel
theorem d_R_takeInChunkSize_85 : decode prog_6_method_14_code 85 = .ok (.aload_n 0, 1) := by decide +kernel
theorem d_R_takeInChunkSize_86 : decode prog_6_method_14_code 86 = .ok (.dup, 1) := by decide +kernel
theorem d_R_takeInChunkSize_87 : decode prog_6_method_14_code 87 = .ok (.getfield 54, 3) := by decide +kernel
theorem d_R_takeInChunkSize_90 : decode prog_6_method_14_code 90 = .ok (.iconst 1, 1) := by decide +kernel
theorem d_R_takeInChunkSize_91 : decode prog_6_method_14_code 91 = .ok (.iadd, 1) := by decide +kernel
theorem d_R_takeInChunkSize_92 : decode prog_6_method_14_code 92 = .ok (.putfield 54, 3) := by decide +kernel
theorem d_R_takeInChunkSize_95 : decode prog_6_method_14_code 95 = .ok (.iconst 0, 1) := by decide +kernel
theorem d_R_takeInChunkSize_96 : decode prog_6_method_14_code 96 = .ok (.ireturn, 1) := by decide +kernel
def wq_R_takeInChunkSize_44 (a : Nat) (p0 : Int32) (Q : Int32 → ab_H → Prop)   (A : ab_H) : Prop := wp_X_hexDigit p0 A (fun x1 A => if x1 < 0 then (Q (400 : Int32) A) else (wp_X_isCapital p0 A (fun x2 A => if x2 = 0 then (wgI A (some a) 5 9 (fun x3 => if x3 < (2 : Int32) then (wgI A (some a) 5 8 (fun x4 => wp A (some a) 5 8 (.int (((16 : Int32) * x4) + x1)) (fun A => wgI A (some a) 5 9 (fun x5 => wp A (some a) 5 9 (.int (x5 + (1 : Int32))) (fun A => Q (0 : Int32) A))))) else (Q (400 : Int32) A))) else (Q (400 : Int32) A))))
set_option maxRecDepth 100000 in
set_option maxHeartbeats 4000000 in
theorem sq_R_takeInChunkSize_44 {l : Launch} {G : mm_G} {a : Nat} {p0 : Int32} {Q : Int32 → ab_H → Prop}   : ∀ (A : ab_H) (h : mm_H), Vw G h A → wq_R_takeInChunkSize_44 a p0 Q  A → mm_V l G M_R_takeInChunkSize 0 0 44 [some (va_rf (some a)), some (.int p0), none] [] h (wQI G Q) := by
  intro A h hV hw
  unfold wq_R_takeInChunkSize_44 at hw
  refine mm_iload_n (pc' := 45) d_R_takeInChunkSize_44 rfl rfl rfl ?_
  refine wr_cSI (pc' := 48) (as := [.int p0]) (st := []) d_R_takeInChunkSize_45 rfl cs_R_202 (sd_X_hexDigit hV hw) rfl rfl (Nat.le_of_ble_eq_true rfl) (Nat.le_of_ble_eq_true rfl) (fun x1 h A hV hw => ?_)
  refine mm_ist2 (pc' := 49) d_R_takeInChunkSize_48 rfl rfl (Nat.le_of_ble_eq_true rfl) ?_
  refine mm_iload_n (pc' := 50) d_R_takeInChunkSize_49 rfl rfl rfl ?_
  refine wr_if_lt hw (pc' := 53) d_R_takeInChunkSize_50 rfl rfl (fun hw => ?_) (fun hw => ?_)
  · refine mm_sipush (v := 400) (pc' := 71) d_R_takeInChunkSize_68 rfl (by decide) ?_
    exact wr_iret hV d_R_takeInChunkSize_71 rfl rfl hw
  · refine mm_iload_n (pc' := 54) d_R_takeInChunkSize_53 rfl rfl rfl ?_
    refine wr_cSI (pc' := 57) (as := [.int p0]) (st := []) d_R_takeInChunkSize_54 rfl cs_R_158 (sd_X_isCapital hV hw) rfl rfl (Nat.le_of_ble_eq_true rfl) (Nat.le_of_ble_eq_true rfl) (fun x2 h A hV hw => ?_)
    refine wr_if_ne hw (pc' := 60) d_R_takeInChunkSize_57 rfl rfl (fun hw => ?_) (fun hw => ?_)
    · refine mm_sipush (v := 400) (pc' := 71) d_R_takeInChunkSize_68 rfl (by decide) ?_
      exact wr_iret hV d_R_takeInChunkSize_71 rfl rfl hw
    · refine wr_aload_n (some a) (pc' := 61) d_R_takeInChunkSize_60 rfl rfl rfl ?_
      refine wr_getI hV hw (pc' := 64) d_R_takeInChunkSize_61 rfl fl_R_54 (fun x3 hw => ?_)
      refine mm_iconst (v := 2) (pc' := 65) d_R_takeInChunkSize_64 rfl (by decide) ?_
      refine wr_icmp_lt hw (pc' := 68) d_R_takeInChunkSize_65 rfl rfl (fun hw => ?_) (fun hw => ?_)
      · refine wr_aload_n (some a) (pc' := 73) d_R_takeInChunkSize_72 rfl rfl rfl ?_
        refine mm_bipush (v := 16) (pc' := 75) d_R_takeInChunkSize_73 rfl (by decide) ?_
        refine wr_aload_n (some a) (pc' := 76) d_R_takeInChunkSize_75 rfl rfl rfl ?_
        refine wr_getI hV hw (pc' := 79) d_R_takeInChunkSize_76 rfl fl_R_51 (fun x4 hw => ?_)
        refine mm_imul (pc' := 80) d_R_takeInChunkSize_79 rfl ?_
        refine mm_iload_n (pc' := 81) d_R_takeInChunkSize_80 rfl rfl rfl ?_
        refine mm_iadd (pc' := 82) d_R_takeInChunkSize_81 rfl ?_
        refine wr_put hV hw (pc' := 85) d_R_takeInChunkSize_82 rfl pl_R_takeInChunkSize_51 (Nat.le_of_ble_eq_true rfl) (wn_I _) (fun h A hV hw => ?_)
        refine wr_aload_n (some a) (pc' := 86) d_R_takeInChunkSize_85 rfl rfl rfl ?_
        refine mm_dup (pc' := 87) d_R_takeInChunkSize_86 rfl (wr_cat _) ?_
        refine wr_getI hV hw (pc' := 90) d_R_takeInChunkSize_87 rfl fl_R_54 (fun x5 hw => ?_)
        refine mm_iconst (v := 1) (pc' := 91) d_R_takeInChunkSize_90 rfl (by decide) ?_
        refine mm_iadd (pc' := 92) d_R_takeInChunkSize_91 rfl ?_
        refine wr_put hV hw (pc' := 95) d_R_takeInChunkSize_92 rfl pl_R_takeInChunkSize_54 (Nat.le_of_ble_eq_true rfl) (wn_I _) (fun h A hV hw => ?_)
        refine mm_iconst (v := 0) (pc' := 96) d_R_takeInChunkSize_95 rfl (by decide) ?_
        exact wr_iret hV d_R_takeInChunkSize_96 rfl rfl hw
      · refine mm_sipush (v := 400) (pc' := 71) d_R_takeInChunkSize_68 rfl (by decide) ?_
        exact wr_iret hV d_R_takeInChunkSize_71 rfl rfl hw
def wp_R_takeInChunkSize (a : Nat) (p0 : Int32) (A : ab_H) (Q : Int32 → ab_H → Prop) : Prop := wgI A (some a) 5 5 (fun x6 => if x6 = 0 then (if p0 = (13 : Int32) then (wgI A (some a) 5 9 (fun x7 => if x7 ≤ 0 then (wq_R_takeInChunkSize_44 a p0 Q A) else (wp A (some a) 5 5 (.int (1 : Int32)) (fun A => Q (0 : Int32) A)))) else (wq_R_takeInChunkSize_44 a p0 Q A)) else (if p0 = (10 : Int32) then (wC A (some a) 5 (fun b => wp_R_endChunkSize b  A (fun x8 A => Q x8 A))) else (Q (400 : Int32) A)))
set_option maxRecDepth 100000 in
set_option maxHeartbeats 4000000 in
theorem sd_R_takeInChunkSize {l : Launch} {G : mm_G} {h : mm_H} {A : ab_H} {a : Nat} {p0 : Int32} {Q : Int32 → ab_H → Prop} (hV : Vw G h A) (hw : wp_R_takeInChunkSize a p0 A Q) : mm_S l G M_R_takeInChunkSize [.ref a, .int p0] h 0 0 (wQI G Q) := by
  unfold wp_R_takeInChunkSize at hw
  refine mm_start rfl (Nat.le_of_ble_eq_true rfl) ?_
  show mm_V l G M_R_takeInChunkSize 0 0 0 [some (va_rf (some a)), some (.int p0), none] [] h _
  refine wr_aload_n (some a) (pc' := 1) d_R_takeInChunkSize_0 rfl rfl rfl ?_
  refine wr_getI hV hw (pc' := 4) d_R_takeInChunkSize_1 rfl fl_R_41 (fun x6 hw => ?_)
  refine wr_if_eq hw (pc' := 7) d_R_takeInChunkSize_4 rfl rfl (fun hw => ?_) (fun hw => ?_)
  · refine mm_iload_n (pc' := 25) d_R_takeInChunkSize_24 rfl rfl rfl ?_
    refine mm_bipush (v := 13) (pc' := 27) d_R_takeInChunkSize_25 rfl (by decide) ?_
    refine wr_icmp_ne hw (pc' := 30) d_R_takeInChunkSize_27 rfl rfl (fun hw => ?_) (fun hw => ?_)
    · exact mm_drop (mm_le.s (mm_le.s (mm_le.n mm_le.e))) (sq_R_takeInChunkSize_44  _ _ hV hw)
    · refine wr_aload_n (some a) (pc' := 31) d_R_takeInChunkSize_30 rfl rfl rfl ?_
      refine wr_getI hV hw (pc' := 34) d_R_takeInChunkSize_31 rfl fl_R_54 (fun x7 hw => ?_)
      refine wr_if_le hw (pc' := 37) d_R_takeInChunkSize_34 rfl rfl (fun hw => ?_) (fun hw => ?_)
      · exact mm_drop (mm_le.s (mm_le.s (mm_le.n mm_le.e))) (sq_R_takeInChunkSize_44  _ _ hV hw)
      · refine wr_aload_n (some a) (pc' := 38) d_R_takeInChunkSize_37 rfl rfl rfl ?_
        refine mm_iconst (v := 1) (pc' := 39) d_R_takeInChunkSize_38 rfl (by decide) ?_
        refine wr_put hV hw (pc' := 42) d_R_takeInChunkSize_39 rfl pl_R_takeInChunkSize_41 (Nat.le_of_ble_eq_true rfl) (fun _ => ⟨rfl, rfl⟩) (fun h A hV hw => ?_)
        refine mm_iconst (v := 0) (pc' := 43) d_R_takeInChunkSize_42 rfl (by decide) ?_
        exact wr_iret hV d_R_takeInChunkSize_43 rfl rfl hw
  · refine mm_iload_n (pc' := 8) d_R_takeInChunkSize_7 rfl rfl rfl ?_
    refine mm_bipush (v := 10) (pc' := 10) d_R_takeInChunkSize_8 rfl (by decide) ?_
    refine wr_icmp_ne hw (pc' := 13) d_R_takeInChunkSize_10 rfl rfl (fun hw => ?_) (fun hw => ?_)
    · refine mm_sipush (v := 400) (pc' := 23) d_R_takeInChunkSize_20 rfl (by decide) ?_
      exact wr_iret hV d_R_takeInChunkSize_23 rfl rfl hw
    · refine wr_aload_n (some a) (pc' := 14) d_R_takeInChunkSize_13 rfl rfl rfl ?_
      refine wr_cVI (pc' := 17) (as := []) (st := []) d_R_takeInChunkSize_14 rfl cs_R_199 rfl (W := fun b Q' => wp_R_endChunkSize b  A Q') hV hw (fun b Q' hw => sd_R_endChunkSize hV hw) rfl rfl (Nat.le_of_ble_eq_true rfl) (Nat.le_of_ble_eq_true rfl) (fun x8 h A hV hw => ?_)
      refine mm_goto (tgt := 23) d_R_takeInChunkSize_17 rfl ?_
      exact wr_iret hV d_R_takeInChunkSize_23 rfl rfl hw
theorem d_R_takeInChunk_0 : decode prog_6_method_16_code 0 = .ok (.aload_n 0, 1) := by decide +kernel
theorem d_R_takeInChunk_1 : decode prog_6_method_16_code 1 = .ok (.getfield 16, 3) := by decide +kernel
theorem d_R_takeInChunk_4 : decode prog_6_method_16_code 4 = .ok (.iload_n 1, 1) := by decide +kernel
theorem d_R_takeInChunk_5 : decode prog_6_method_16_code 5 = .ok (.i2c, 1) := by decide +kernel
theorem d_R_takeInChunk_6 : decode prog_6_method_16_code 6 = .ok (.invokevirtual 147, 3) := by decide +kernel
theorem d_R_takeInChunk_9 : decode prog_6_method_16_code 9 = .ok (.pop, 1) := by decide +kernel
theorem d_R_takeInChunk_10 : decode prog_6_method_16_code 10 = .ok (.aload_n 0, 1) := by decide +kernel
theorem d_R_takeInChunk_11 : decode prog_6_method_16_code 11 = .ok (.dup, 1) := by decide +kernel
theorem d_R_takeInChunk_12 : decode prog_6_method_16_code 12 = .ok (.getfield 51, 3) := by decide +kernel
theorem d_R_takeInChunk_15 : decode prog_6_method_16_code 15 = .ok (.iconst 1, 1) := by decide +kernel
theorem d_R_takeInChunk_16 : decode prog_6_method_16_code 16 = .ok (.isub, 1) := by decide +kernel
theorem d_R_takeInChunk_17 : decode prog_6_method_16_code 17 = .ok (.putfield 51, 3) := by decide +kernel
theorem d_R_takeInChunk_20 : decode prog_6_method_16_code 20 = .ok (.aload_n 0, 1) := by decide +kernel
theorem d_R_takeInChunk_21 : decode prog_6_method_16_code 21 = .ok (.getfield 51, 3) := by decide +kernel
theorem d_R_takeInChunk_24 : decode prog_6_method_16_code 24 = .ok (.ifCond .gt 8, 3) := by decide +kernel
theorem d_R_takeInChunk_27 : decode prog_6_method_16_code 27 = .ok (.aload_n 0, 1) := by decide +kernel
theorem d_R_takeInChunk_28 : decode prog_6_method_16_code 28 = .ok (.iconst 5, 1) := by decide +kernel
theorem d_R_takeInChunk_29 : decode prog_6_method_16_code 29 = .ok (.putfield 33, 3) := by decide +kernel
theorem d_R_takeInChunk_32 : decode prog_6_method_16_code 32 = .ok (.iconst 0, 1) := by decide +kernel
theorem d_R_takeInChunk_33 : decode prog_6_method_16_code 33 = .ok (.ireturn, 1) := by decide +kernel
def wp_R_takeInChunk (a : Nat) (p0 : Int32) (A : ab_H) (kc ks : Nat) (Q : Int32 → ab_H → Prop) : Prop := wgR A (some a) 5 1 (fun r1 => wj_SB_append_C A kc ks r1 (wch p0) (fun r2 A kc ks => wgI A (some a) 5 8 (fun x3 => wp A (some a) 5 8 (.int (x3 - (1 : Int32))) (fun A => wgI A (some a) 5 8 (fun x4 => if 0 < x4 then (Q (0 : Int32) A) else (wp A (some a) 5 4 (.int (5 : Int32)) (fun A => Q (0 : Int32) A)))))))
set_option maxRecDepth 100000 in
set_option maxHeartbeats 4000000 in
theorem sd_R_takeInChunk {l : Launch} {G : mm_G} {h : mm_H} {A : ab_H} {a : Nat} {p0 : Int32} {kc ks : Nat} {Q : Int32 → ab_H → Prop} (hV : Vw G h A) (hw : wp_R_takeInChunk a p0 A kc ks Q) : mm_S l G M_R_takeInChunk [.ref a, .int p0] h kc ks (wQI G Q) := by
  unfold wp_R_takeInChunk at hw
  refine mm_start rfl (Nat.le_of_ble_eq_true rfl) ?_
  show mm_V l G M_R_takeInChunk kc ks 0 [some (va_rf (some a)), some (.int p0)] [] h _
  refine wr_aload_n (some a) (pc' := 1) d_R_takeInChunk_0 rfl rfl rfl ?_
  refine wr_getR hV hw (pc' := 4) d_R_takeInChunk_1 rfl fl_R_16 (fun r1 hw => ?_)
  refine mm_iload_n (pc' := 5) d_R_takeInChunk_4 rfl rfl rfl ?_
  refine mm_i2c (v := wch p0) (pc' := 6) d_R_takeInChunk_5 rfl rfl ?_
  refine wr_SB_append_C hV hw (pc' := 9) d_R_takeInChunk_6 rfl cs_R_147 (Nat.le_of_ble_eq_true rfl) (Nat.le_of_ble_eq_true rfl) (fun r2 h A kc ks hV hw => ?_)
  refine mm_pop (pc' := 10) d_R_takeInChunk_9 rfl (wr_cat _) ?_
  refine wr_aload_n (some a) (pc' := 11) d_R_takeInChunk_10 rfl rfl rfl ?_
  refine mm_dup (pc' := 12) d_R_takeInChunk_11 rfl (wr_cat _) ?_
  refine wr_getI hV hw (pc' := 15) d_R_takeInChunk_12 rfl fl_R_51 (fun x3 hw => ?_)
  refine mm_iconst (v := 1) (pc' := 16) d_R_takeInChunk_15 rfl (by decide) ?_
  refine mm_isub (pc' := 17) d_R_takeInChunk_16 rfl ?_
  refine wr_put hV hw (pc' := 20) d_R_takeInChunk_17 rfl pl_R_takeInChunk_51 (Nat.le_of_ble_eq_true rfl) (wn_I _) (fun h A hV hw => ?_)
  refine wr_aload_n (some a) (pc' := 21) d_R_takeInChunk_20 rfl rfl rfl ?_
  refine wr_getI hV hw (pc' := 24) d_R_takeInChunk_21 rfl fl_R_51 (fun x4 hw => ?_)
  refine wr_if_gt hw (pc' := 27) d_R_takeInChunk_24 rfl rfl (fun hw => ?_) (fun hw => ?_)
  · refine mm_iconst (v := 0) (pc' := 33) d_R_takeInChunk_32 rfl (by decide) ?_
    exact wr_iret hV d_R_takeInChunk_33 rfl rfl hw
  · refine wr_aload_n (some a) (pc' := 28) d_R_takeInChunk_27 rfl rfl rfl ?_
    refine mm_iconst (v := 5) (pc' := 29) d_R_takeInChunk_28 rfl (by decide) ?_
    refine wr_put hV hw (pc' := 32) d_R_takeInChunk_29 rfl pl_R_takeInChunk_33 (Nat.le_of_ble_eq_true rfl) (wn_I _) (fun h A hV hw => ?_)
    refine mm_iconst (v := 0) (pc' := 33) d_R_takeInChunk_32 rfl (by decide) ?_
    exact wr_iret hV d_R_takeInChunk_33 rfl rfl hw
theorem d_R_takeInChunkEnd_0 : decode prog_6_method_17_code 0 = .ok (.aload_n 0, 1) := by decide +kernel
theorem d_R_takeInChunkEnd_1 : decode prog_6_method_17_code 1 = .ok (.getfield 41, 3) := by decide +kernel
theorem d_R_takeInChunkEnd_4 : decode prog_6_method_17_code 4 = .ok (.ifCond .ne 33, 3) := by decide +kernel
theorem d_R_takeInChunkEnd_7 : decode prog_6_method_17_code 7 = .ok (.aload_n 0, 1) := by decide +kernel
theorem d_R_takeInChunkEnd_8 : decode prog_6_method_17_code 8 = .ok (.iload_n 1, 1) := by decide +kernel
theorem d_R_takeInChunkEnd_9 : decode prog_6_method_17_code 9 = .ok (.bipush 13, 2) := by decide +kernel
theorem d_R_takeInChunkEnd_11 : decode prog_6_method_17_code 11 = .ok (.if_icmp .ne 7, 3) := by decide +kernel
theorem d_R_takeInChunkEnd_14 : decode prog_6_method_17_code 14 = .ok (.iconst 1, 1) := by decide +kernel
theorem d_R_takeInChunkEnd_15 : decode prog_6_method_17_code 15 = .ok (.goto 4, 3) := by decide +kernel
theorem d_R_takeInChunkEnd_18 : decode prog_6_method_17_code 18 = .ok (.iconst 0, 1) := by decide +kernel
theorem d_R_takeInChunkEnd_19 : decode prog_6_method_17_code 19 = .ok (.putfield 41, 3) := by decide +kernel
theorem d_R_takeInChunkEnd_22 : decode prog_6_method_17_code 22 = .ok (.aload_n 0, 1) := by decide +kernel
theorem d_R_takeInChunkEnd_23 : decode prog_6_method_17_code 23 = .ok (.getfield 41, 3) := by decide +kernel
theorem d_R_takeInChunkEnd_26 : decode prog_6_method_17_code 26 = .ok (.ifCond .eq 7, 3) := by decide +kernel
theorem d_R_takeInChunkEnd_29 : decode prog_6_method_17_code 29 = .ok (.iconst 0, 1) := by decide +kernel
theorem d_R_takeInChunkEnd_30 : decode prog_6_method_17_code 30 = .ok (.goto 6, 3) := by decide +kernel
theorem d_R_takeInChunkEnd_33 : decode prog_6_method_17_code 33 = .ok (.sipush 400, 3) := by decide +kernel
theorem d_R_takeInChunkEnd_36 : decode prog_6_method_17_code 36 = .ok (.ireturn, 1) := by decide +kernel
theorem d_R_takeInChunkEnd_37 : decode prog_6_method_17_code 37 = .ok (.iload_n 1, 1) := by decide +kernel
theorem d_R_takeInChunkEnd_38 : decode prog_6_method_17_code 38 = .ok (.bipush 10, 2) := by decide +kernel
theorem d_R_takeInChunkEnd_40 : decode prog_6_method_17_code 40 = .ok (.if_icmp .eq 7, 3) := by decide +kernel
theorem d_R_takeInChunkEnd_43 : decode prog_6_method_17_code 43 = .ok (.sipush 400, 3) := by decide +kernel
theorem d_R_takeInChunkEnd_46 : decode prog_6_method_17_code 46 = .ok (.ireturn, 1) := by decide +kernel
theorem d_R_takeInChunkEnd_47 : decode prog_6_method_17_code 47 = .ok (.aload_n 0, 1) := by decide +kernel
theorem d_R_takeInChunkEnd_48 : decode prog_6_method_17_code 48 = .ok (.iconst 0, 1) := by decide +kernel
theorem d_R_takeInChunkEnd_49 : decode prog_6_method_17_code 49 = .ok (.putfield 41, 3) := by decide +kernel
theorem d_R_takeInChunkEnd_52 : decode prog_6_method_17_code 52 = .ok (.aload_n 0, 1) := by decide +kernel
theorem d_R_takeInChunkEnd_53 : decode prog_6_method_17_code 53 = .ok (.iconst 3, 1) := by decide +kernel
theorem d_R_takeInChunkEnd_54 : decode prog_6_method_17_code 54 = .ok (.putfield 33, 3) := by decide +kernel
theorem d_R_takeInChunkEnd_57 : decode prog_6_method_17_code 57 = .ok (.aload_n 0, 1) := by decide +kernel
theorem d_R_takeInChunkEnd_58 : decode prog_6_method_17_code 58 = .ok (.getfield 48, 3) := by decide +kernel
theorem d_R_takeInChunkEnd_61 : decode prog_6_method_17_code 61 = .ok (.ifCond .eq 7, 3) := by decide +kernel
theorem d_R_takeInChunkEnd_64 : decode prog_6_method_17_code 64 = .ok (.iconst 0, 1) := by decide +kernel
theorem d_R_takeInChunkEnd_65 : decode prog_6_method_17_code 65 = .ok (.goto 4, 3) := by decide +kernel
theorem d_R_takeInChunkEnd_68 : decode prog_6_method_17_code 68 = .ok (.iconst 1, 1) := by decide +kernel
theorem d_R_takeInChunkEnd_69 : decode prog_6_method_17_code 69 = .ok (.ireturn, 1) := by decide +kernel
def wq_R_takeInChunkEnd_19 (a : Nat) (p0 : Int32) (Q : Int32 → ab_H → Prop)  (s0 : Option Nat) (s1 : Int32) (A : ab_H) : Prop := wB s1 (wp A s0 5 5 (.int s1) (fun A => wgI A (some a) 5 5 (fun x1 => if x1 = 0 then (Q (400 : Int32) A) else (Q (0 : Int32) A))))
set_option maxRecDepth 100000 in
set_option maxHeartbeats 4000000 in
theorem sq_R_takeInChunkEnd_19 {l : Launch} {G : mm_G} {a : Nat} {p0 : Int32} {Q : Int32 → ab_H → Prop}   : ∀ (s0 : Option Nat) (s1 : Int32) (A : ab_H) (h : mm_H), Vw G h A → wq_R_takeInChunkEnd_19 a p0 Q  s0 s1 A → mm_V l G M_R_takeInChunkEnd 0 0 19 [some (va_rf (some a)), some (.int p0)] [.int s1, va_rf s0] h (wQI G Q) := by
  intro s0 s1 A h hV hw
  unfold wq_R_takeInChunkEnd_19 at hw
  obtain ⟨hb, hw⟩ := hw
  refine wr_put hV hw (pc' := 22) d_R_takeInChunkEnd_19 rfl pl_R_takeInChunkEnd_41 (Nat.le_of_ble_eq_true rfl) (wn_Z hb) (fun h A hV hw => ?_)
  refine wr_aload_n (some a) (pc' := 23) d_R_takeInChunkEnd_22 rfl rfl rfl ?_
  refine wr_getI hV hw (pc' := 26) d_R_takeInChunkEnd_23 rfl fl_R_41 (fun x1 hw => ?_)
  refine wr_if_eq hw (pc' := 29) d_R_takeInChunkEnd_26 rfl rfl (fun hw => ?_) (fun hw => ?_)
  · refine mm_sipush (v := 400) (pc' := 36) d_R_takeInChunkEnd_33 rfl (by decide) ?_
    exact wr_iret hV d_R_takeInChunkEnd_36 rfl rfl hw
  · refine mm_iconst (v := 0) (pc' := 30) d_R_takeInChunkEnd_29 rfl (by decide) ?_
    refine mm_goto (tgt := 36) d_R_takeInChunkEnd_30 rfl ?_
    exact wr_iret hV d_R_takeInChunkEnd_36 rfl rfl hw
def wp_R_takeInChunkEnd (a : Nat) (p0 : Int32) (A : ab_H) (Q : Int32 → ab_H → Prop) : Prop := wgI A (some a) 5 5 (fun x2 => if x2 = 0 then (if p0 = (13 : Int32) then (wq_R_takeInChunkEnd_19 a p0 Q (some a) (1 : Int32) A) else (wq_R_takeInChunkEnd_19 a p0 Q (some a) (0 : Int32) A)) else (if p0 = (10 : Int32) then (wp A (some a) 5 5 (.int (0 : Int32)) (fun A => wp A (some a) 5 4 (.int (3 : Int32)) (fun A => wgI A (some a) 5 7 (fun x3 => if x3 = 0 then (Q (1 : Int32) A) else (Q (0 : Int32) A))))) else (Q (400 : Int32) A)))
set_option maxRecDepth 100000 in
set_option maxHeartbeats 4000000 in
theorem sd_R_takeInChunkEnd {l : Launch} {G : mm_G} {h : mm_H} {A : ab_H} {a : Nat} {p0 : Int32} {Q : Int32 → ab_H → Prop} (hV : Vw G h A) (hw : wp_R_takeInChunkEnd a p0 A Q) : mm_S l G M_R_takeInChunkEnd [.ref a, .int p0] h 0 0 (wQI G Q) := by
  unfold wp_R_takeInChunkEnd at hw
  refine mm_start rfl (Nat.le_of_ble_eq_true rfl) ?_
  show mm_V l G M_R_takeInChunkEnd 0 0 0 [some (va_rf (some a)), some (.int p0)] [] h _
  refine wr_aload_n (some a) (pc' := 1) d_R_takeInChunkEnd_0 rfl rfl rfl ?_
  refine wr_getI hV hw (pc' := 4) d_R_takeInChunkEnd_1 rfl fl_R_41 (fun x2 hw => ?_)
  refine wr_if_ne hw (pc' := 7) d_R_takeInChunkEnd_4 rfl rfl (fun hw => ?_) (fun hw => ?_)
  · refine mm_iload_n (pc' := 38) d_R_takeInChunkEnd_37 rfl rfl rfl ?_
    refine mm_bipush (v := 10) (pc' := 40) d_R_takeInChunkEnd_38 rfl (by decide) ?_
    refine wr_icmp_eq hw (pc' := 43) d_R_takeInChunkEnd_40 rfl rfl (fun hw => ?_) (fun hw => ?_)
    · refine wr_aload_n (some a) (pc' := 48) d_R_takeInChunkEnd_47 rfl rfl rfl ?_
      refine mm_iconst (v := 0) (pc' := 49) d_R_takeInChunkEnd_48 rfl (by decide) ?_
      refine wr_put hV hw (pc' := 52) d_R_takeInChunkEnd_49 rfl pl_R_takeInChunkEnd_41 (Nat.le_of_ble_eq_true rfl) (fun _ => ⟨rfl, rfl⟩) (fun h A hV hw => ?_)
      refine wr_aload_n (some a) (pc' := 53) d_R_takeInChunkEnd_52 rfl rfl rfl ?_
      refine mm_iconst (v := 3) (pc' := 54) d_R_takeInChunkEnd_53 rfl (by decide) ?_
      refine wr_put hV hw (pc' := 57) d_R_takeInChunkEnd_54 rfl pl_R_takeInChunkEnd_33 (Nat.le_of_ble_eq_true rfl) (wn_I _) (fun h A hV hw => ?_)
      refine wr_aload_n (some a) (pc' := 58) d_R_takeInChunkEnd_57 rfl rfl rfl ?_
      refine wr_getI hV hw (pc' := 61) d_R_takeInChunkEnd_58 rfl fl_R_48 (fun x3 hw => ?_)
      refine wr_if_eq hw (pc' := 64) d_R_takeInChunkEnd_61 rfl rfl (fun hw => ?_) (fun hw => ?_)
      · refine mm_iconst (v := 1) (pc' := 69) d_R_takeInChunkEnd_68 rfl (by decide) ?_
        exact wr_iret hV d_R_takeInChunkEnd_69 rfl rfl hw
      · refine mm_iconst (v := 0) (pc' := 65) d_R_takeInChunkEnd_64 rfl (by decide) ?_
        refine mm_goto (tgt := 69) d_R_takeInChunkEnd_65 rfl ?_
        exact wr_iret hV d_R_takeInChunkEnd_69 rfl rfl hw
    · refine mm_sipush (v := 400) (pc' := 46) d_R_takeInChunkEnd_43 rfl (by decide) ?_
      exact wr_iret hV d_R_takeInChunkEnd_46 rfl rfl hw
  · refine wr_aload_n (some a) (pc' := 8) d_R_takeInChunkEnd_7 rfl rfl rfl ?_
    refine mm_iload_n (pc' := 9) d_R_takeInChunkEnd_8 rfl rfl rfl ?_
    refine mm_bipush (v := 13) (pc' := 11) d_R_takeInChunkEnd_9 rfl (by decide) ?_
    refine wr_icmp_ne hw (pc' := 14) d_R_takeInChunkEnd_11 rfl rfl (fun hw => ?_) (fun hw => ?_)
    · refine mm_iconst (v := 0) (pc' := 19) d_R_takeInChunkEnd_18 rfl (by decide) ?_
      exact mm_drop (mm_le.s (mm_le.s mm_le.e)) (sq_R_takeInChunkEnd_19  _ _ _ _ hV hw)
    · refine mm_iconst (v := 1) (pc' := 15) d_R_takeInChunkEnd_14 rfl (by decide) ?_
      refine mm_goto (tgt := 19) d_R_takeInChunkEnd_15 rfl ?_
      exact mm_drop (mm_le.s (mm_le.s mm_le.e)) (sq_R_takeInChunkEnd_19  _ _ _ _ hV hw)
theorem d_R_take_0 : decode prog_6_method_4_code 0 = .ok (.aload_n 0, 1) := by decide +kernel
theorem d_R_take_1 : decode prog_6_method_4_code 1 = .ok (.getfield 33, 3) := by decide +kernel
theorem d_R_take_4 : decode prog_6_method_4_code 4 = .ok (.tableswitch 66 0 4 #[36, 42, 48, 54, 60], 36) := by decide +kernel
theorem d_R_take_40 : decode prog_6_method_4_code 40 = .ok (.aload_n 0, 1) := by decide +kernel
theorem d_R_take_41 : decode prog_6_method_4_code 41 = .ok (.iload_n 1, 1) := by decide +kernel
theorem d_R_take_42 : decode prog_6_method_4_code 42 = .ok (.invokevirtual 77, 3) := by decide +kernel
theorem d_R_take_45 : decode prog_6_method_4_code 45 = .ok (.ireturn, 1) := by decide +kernel
theorem d_R_take_46 : decode prog_6_method_4_code 46 = .ok (.aload_n 0, 1) := by decide +kernel
theorem d_R_take_47 : decode prog_6_method_4_code 47 = .ok (.iload_n 1, 1) := by decide +kernel
theorem d_R_take_48 : decode prog_6_method_4_code 48 = .ok (.invokevirtual 81, 3) := by decide +kernel
theorem d_R_take_51 : decode prog_6_method_4_code 51 = .ok (.ireturn, 1) := by decide +kernel
theorem d_R_take_52 : decode prog_6_method_4_code 52 = .ok (.aload_n 0, 1) := by decide +kernel
theorem d_R_take_53 : decode prog_6_method_4_code 53 = .ok (.iload_n 1, 1) := by decide +kernel
theorem d_R_take_54 : decode prog_6_method_4_code 54 = .ok (.invokevirtual 84, 3) := by decide +kernel
theorem d_R_take_57 : decode prog_6_method_4_code 57 = .ok (.ireturn, 1) := by decide +kernel
theorem d_R_take_58 : decode prog_6_method_4_code 58 = .ok (.aload_n 0, 1) := by decide +kernel
theorem d_R_take_59 : decode prog_6_method_4_code 59 = .ok (.iload_n 1, 1) := by decide +kernel
theorem d_R_take_60 : decode prog_6_method_4_code 60 = .ok (.invokevirtual 87, 3) := by decide +kernel
theorem d_R_take_63 : decode prog_6_method_4_code 63 = .ok (.ireturn, 1) := by decide +kernel
theorem d_R_take_64 : decode prog_6_method_4_code 64 = .ok (.aload_n 0, 1) := by decide +kernel
theorem d_R_take_65 : decode prog_6_method_4_code 65 = .ok (.iload_n 1, 1) := by decide +kernel
theorem d_R_take_66 : decode prog_6_method_4_code 66 = .ok (.invokevirtual 90, 3) := by decide +kernel
theorem d_R_take_69 : decode prog_6_method_4_code 69 = .ok (.ireturn, 1) := by decide +kernel
theorem d_R_take_70 : decode prog_6_method_4_code 70 = .ok (.aload_n 0, 1) := by decide +kernel
theorem d_R_take_71 : decode prog_6_method_4_code 71 = .ok (.iload_n 1, 1) := by decide +kernel
theorem d_R_take_72 : decode prog_6_method_4_code 72 = .ok (.invokevirtual 93, 3) := by decide +kernel
theorem d_R_take_75 : decode prog_6_method_4_code 75 = .ok (.ireturn, 1) := by decide +kernel
def wp_R_take (a : Nat) (p0 : Int32) (A : ab_H) (kc ks : Nat) (Q : Int32 → ab_H → Prop) : Prop := wgI A (some a) 5 4 (fun x1 => if x1 = 0 then (wC A (some a) 5 (fun b => wX kc ks (wp_R_takeInRequestLine b p0 A) (fun x2 A kc ks => Q x2 A))) else (if x1 = 1 then (wC A (some a) 5 (fun b => wX kc ks (wp_R_takeInHeaders b p0 A) (fun x3 A kc ks => Q x3 A))) else (if x1 = 2 then (wC A (some a) 5 (fun b => wX kc ks (wp_R_takeInBody b p0 A) (fun x4 A kc ks => Q x4 A))) else (if x1 = 3 then (wC A (some a) 5 (fun b => wp_R_takeInChunkSize b p0 A (fun x5 A => Q x5 A))) else (if x1 = 4 then (wC A (some a) 5 (fun b => wX kc ks (wp_R_takeInChunk b p0 A) (fun x6 A kc ks => Q x6 A))) else (wC A (some a) 5 (fun b => wp_R_takeInChunkEnd b p0 A (fun x7 A => Q x7 A))))))))
set_option maxRecDepth 100000 in
set_option maxHeartbeats 4000000 in
theorem sd_R_take {l : Launch} {G : mm_G} {h : mm_H} {A : ab_H} {a : Nat} {p0 : Int32} {kc ks : Nat} {Q : Int32 → ab_H → Prop} (hV : Vw G h A) (hw : wp_R_take a p0 A kc ks Q) : mm_S l G M_R_take [.ref a, .int p0] h kc ks (wQI G Q) := by
  unfold wp_R_take at hw
  refine mm_start rfl (Nat.le_of_ble_eq_true rfl) ?_
  show mm_V l G M_R_take kc ks 0 [some (va_rf (some a)), some (.int p0)] [] h _
  refine wr_aload_n (some a) (pc' := 1) d_R_take_0 rfl rfl rfl ?_
  refine wr_getI hV hw (pc' := 4) d_R_take_1 rfl fl_R_33 (fun x1 hw => ?_)
  refine wr_ite hw (fun hs hw => ?_) (fun hs0 hw => ?_)
  · rw [hs]
    refine mm_tableIn (tgt := 40) d_R_take_4 (by decide) (by decide) rfl rfl ?_
    refine wr_aload_n (some a) (pc' := 41) d_R_take_40 rfl rfl rfl ?_
    refine mm_iload_n (pc' := 42) d_R_take_41 rfl rfl rfl ?_
    refine wr_cVIx (pc' := 45) (as := [.int p0]) (st := []) d_R_take_42 rfl cs_R_77 rfl (W := fun b c s Q' => wp_R_takeInRequestLine b p0 A c s Q') hV hw (fun b c s Q' hw => sd_R_takeInRequestLine hV hw) rfl rfl (Nat.le_of_ble_eq_true rfl) (Nat.le_of_ble_eq_true rfl) (fun x2 h A kc ks hV hw => ?_)
    exact wr_iret hV d_R_take_45 rfl rfl hw
  refine wr_ite hw (fun hs hw => ?_) (fun hs1 hw => ?_)
  · rw [hs]
    refine mm_tableIn (tgt := 46) d_R_take_4 (by decide) (by decide) rfl rfl ?_
    refine wr_aload_n (some a) (pc' := 47) d_R_take_46 rfl rfl rfl ?_
    refine mm_iload_n (pc' := 48) d_R_take_47 rfl rfl rfl ?_
    refine wr_cVIx (pc' := 51) (as := [.int p0]) (st := []) d_R_take_48 rfl cs_R_81 rfl (W := fun b c s Q' => wp_R_takeInHeaders b p0 A c s Q') hV hw (fun b c s Q' hw => sd_R_takeInHeaders hV hw) rfl rfl (Nat.le_of_ble_eq_true rfl) (Nat.le_of_ble_eq_true rfl) (fun x3 h A kc ks hV hw => ?_)
    exact wr_iret hV d_R_take_51 rfl rfl hw
  refine wr_ite hw (fun hs hw => ?_) (fun hs2 hw => ?_)
  · rw [hs]
    refine mm_tableIn (tgt := 52) d_R_take_4 (by decide) (by decide) rfl rfl ?_
    refine wr_aload_n (some a) (pc' := 53) d_R_take_52 rfl rfl rfl ?_
    refine mm_iload_n (pc' := 54) d_R_take_53 rfl rfl rfl ?_
    refine wr_cVIx (pc' := 57) (as := [.int p0]) (st := []) d_R_take_54 rfl cs_R_84 rfl (W := fun b c s Q' => wp_R_takeInBody b p0 A c s Q') hV hw (fun b c s Q' hw => sd_R_takeInBody hV hw) rfl rfl (Nat.le_of_ble_eq_true rfl) (Nat.le_of_ble_eq_true rfl) (fun x4 h A kc ks hV hw => ?_)
    exact wr_iret hV d_R_take_57 rfl rfl hw
  refine wr_ite hw (fun hs hw => ?_) (fun hs3 hw => ?_)
  · rw [hs]
    refine mm_tableIn (tgt := 58) d_R_take_4 (by decide) (by decide) rfl rfl ?_
    refine wr_aload_n (some a) (pc' := 59) d_R_take_58 rfl rfl rfl ?_
    refine mm_iload_n (pc' := 60) d_R_take_59 rfl rfl rfl ?_
    refine wr_cVI (pc' := 63) (as := [.int p0]) (st := []) d_R_take_60 rfl cs_R_87 rfl (W := fun b Q' => wp_R_takeInChunkSize b p0 A Q') hV hw (fun b Q' hw => sd_R_takeInChunkSize hV hw) rfl rfl (Nat.le_of_ble_eq_true rfl) (Nat.le_of_ble_eq_true rfl) (fun x5 h A hV hw => ?_)
    exact wr_iret hV d_R_take_63 rfl rfl hw
  refine wr_ite hw (fun hs hw => ?_) (fun hs4 hw => ?_)
  · rw [hs]
    refine mm_tableIn (tgt := 64) d_R_take_4 (by decide) (by decide) rfl rfl ?_
    refine wr_aload_n (some a) (pc' := 65) d_R_take_64 rfl rfl rfl ?_
    refine mm_iload_n (pc' := 66) d_R_take_65 rfl rfl rfl ?_
    refine wr_cVIx (pc' := 69) (as := [.int p0]) (st := []) d_R_take_66 rfl cs_R_90 rfl (W := fun b c s Q' => wp_R_takeInChunk b p0 A c s Q') hV hw (fun b c s Q' hw => sd_R_takeInChunk hV hw) rfl rfl (Nat.le_of_ble_eq_true rfl) (Nat.le_of_ble_eq_true rfl) (fun x6 h A kc ks hV hw => ?_)
    exact wr_iret hV d_R_take_69 rfl rfl hw
  have ht0 := wr_toInt hs0
  have ht1 := wr_toInt hs1
  have ht2 := wr_toInt hs2
  have ht3 := wr_toInt hs3
  have ht4 := wr_toInt hs4
  rw [show (0 : Int32).toInt = 0 from rfl] at ht0
  rw [show (1 : Int32).toInt = 1 from rfl] at ht1
  rw [show (2 : Int32).toInt = 2 from rfl] at ht2
  rw [show (3 : Int32).toInt = 3 from rfl] at ht3
  rw [show (4 : Int32).toInt = 4 from rfl] at ht4
  refine mm_tableOut (tgt := 70) d_R_take_4 (by omega) rfl ?_
  refine wr_aload_n (some a) (pc' := 71) d_R_take_70 rfl rfl rfl ?_
  refine mm_iload_n (pc' := 72) d_R_take_71 rfl rfl rfl ?_
  refine wr_cVI (pc' := 75) (as := [.int p0]) (st := []) d_R_take_72 rfl cs_R_93 rfl (W := fun b Q' => wp_R_takeInChunkEnd b p0 A Q') hV hw (fun b Q' hw => sd_R_takeInChunkEnd hV hw) rfl rfl (Nat.le_of_ble_eq_true rfl) (Nat.le_of_ble_eq_true rfl) (fun x7 h A hV hw => ?_)
  exact wr_iret hV d_R_take_75 rfl rfl hw
theorem d_R_begin_0 : decode prog_6_method_2_code 0 = .ok (.aload_n 0, 1) := by decide +kernel
theorem d_R_begin_1 : decode prog_6_method_2_code 1 = .ok (.getfield 10, 3) := by decide +kernel
theorem d_R_begin_4 : decode prog_6_method_2_code 4 = .ok (.iconst 0, 1) := by decide +kernel
theorem d_R_begin_5 : decode prog_6_method_2_code 5 = .ok (.invokevirtual 37, 3) := by decide +kernel
theorem d_R_begin_8 : decode prog_6_method_2_code 8 = .ok (.aload_n 0, 1) := by decide +kernel
theorem d_R_begin_9 : decode prog_6_method_2_code 9 = .ok (.getfield 16, 3) := by decide +kernel
theorem d_R_begin_12 : decode prog_6_method_2_code 12 = .ok (.iconst 0, 1) := by decide +kernel
theorem d_R_begin_13 : decode prog_6_method_2_code 13 = .ok (.invokevirtual 37, 3) := by decide +kernel
theorem d_R_begin_16 : decode prog_6_method_2_code 16 = .ok (.aload_n 0, 1) := by decide +kernel
theorem d_R_begin_17 : decode prog_6_method_2_code 17 = .ok (.new 26, 3) := by decide +kernel
theorem d_R_begin_20 : decode prog_6_method_2_code 20 = .ok (.dup, 1) := by decide +kernel
theorem d_R_begin_21 : decode prog_6_method_2_code 21 = .ok (.invokespecial 28, 3) := by decide +kernel
theorem d_R_begin_24 : decode prog_6_method_2_code 24 = .ok (.putfield 29, 3) := by decide +kernel
theorem d_R_begin_27 : decode prog_6_method_2_code 27 = .ok (.aload_n 0, 1) := by decide +kernel
theorem d_R_begin_28 : decode prog_6_method_2_code 28 = .ok (.iconst 0, 1) := by decide +kernel
theorem d_R_begin_29 : decode prog_6_method_2_code 29 = .ok (.putfield 33, 3) := by decide +kernel
theorem d_R_begin_32 : decode prog_6_method_2_code 32 = .ok (.aload_n 0, 1) := by decide +kernel
theorem d_R_begin_33 : decode prog_6_method_2_code 33 = .ok (.iconst 0, 1) := by decide +kernel
theorem d_R_begin_34 : decode prog_6_method_2_code 34 = .ok (.putfield 41, 3) := by decide +kernel
theorem d_R_begin_37 : decode prog_6_method_2_code 37 = .ok (.aload_n 0, 1) := by decide +kernel
theorem d_R_begin_38 : decode prog_6_method_2_code 38 = .ok (.iconst 0, 1) := by decide +kernel
theorem d_R_begin_39 : decode prog_6_method_2_code 39 = .ok (.putfield 45, 3) := by decide +kernel
theorem d_R_begin_42 : decode prog_6_method_2_code 42 = .ok (.aload_n 0, 1) := by decide +kernel
theorem d_R_begin_43 : decode prog_6_method_2_code 43 = .ok (.iconst 0, 1) := by decide +kernel
theorem d_R_begin_44 : decode prog_6_method_2_code 44 = .ok (.putfield 48, 3) := by decide +kernel
theorem d_R_begin_47 : decode prog_6_method_2_code 47 = .ok (.aload_n 0, 1) := by decide +kernel
theorem d_R_begin_48 : decode prog_6_method_2_code 48 = .ok (.iconst 0, 1) := by decide +kernel
theorem d_R_begin_49 : decode prog_6_method_2_code 49 = .ok (.putfield 51, 3) := by decide +kernel
theorem d_R_begin_52 : decode prog_6_method_2_code 52 = .ok (.aload_n 0, 1) := by decide +kernel
theorem d_R_begin_53 : decode prog_6_method_2_code 53 = .ok (.iconst 0, 1) := by decide +kernel
theorem d_R_begin_54 : decode prog_6_method_2_code 54 = .ok (.putfield 54, 3) := by decide +kernel
theorem d_R_begin_57 : decode prog_6_method_2_code 57 = .ok (.aload_n 0, 1) := by decide +kernel
theorem d_R_begin_58 : decode prog_6_method_2_code 58 = .ok (.iconst 0, 1) := by decide +kernel
theorem d_R_begin_59 : decode prog_6_method_2_code 59 = .ok (.putfield 57, 3) := by decide +kernel
theorem d_R_begin_62 : decode prog_6_method_2_code 62 = .ok (.return_, 1) := by decide +kernel
def wp_R_begin (a : Nat) (A : ab_H) (kc ks : Nat) (Q : ab_H → Prop) : Prop := wgR A (some a) 5 0 (fun r1 => wj_SB_setLength A kc ks r1 (0 : Int32) (fun A kc ks => wgR A (some a) 5 1 (fun r2 => wj_SB_setLength A kc ks r2 (0 : Int32) (fun A kc ks => wNew A kc ks 7 6 (fun b3 A kc ks => wD (some b3) (fun b => wXV kc ks (wp_E_init b  A) (fun A kc ks => wp A (some a) 5 3 (va_rf (some b3)) (fun A => wp A (some a) 5 4 (.int (0 : Int32)) (fun A => wp A (some a) 5 5 (.int (0 : Int32)) (fun A => wp A (some a) 5 6 (.int (0 : Int32)) (fun A => wp A (some a) 5 7 (.int (0 : Int32)) (fun A => wp A (some a) 5 8 (.int (0 : Int32)) (fun A => wp A (some a) 5 9 (.int (0 : Int32)) (fun A => wp A (some a) 5 10 (.int (0 : Int32)) (fun A => Q A)))))))))))))))
set_option maxRecDepth 100000 in
set_option maxHeartbeats 4000000 in
theorem sd_R_begin {l : Launch} {G : mm_G} {h : mm_H} {A : ab_H} {a : Nat} {kc ks : Nat} {Q : ab_H → Prop} (hV : Vw G h A) (hw : wp_R_begin a A kc ks Q) : mm_S l G M_R_begin [.ref a] h kc ks (wQV G Q) := by
  unfold wp_R_begin at hw
  refine mm_start rfl (Nat.le_of_ble_eq_true rfl) ?_
  show mm_V l G M_R_begin kc ks 0 [some (va_rf (some a))] [] h _
  refine wr_aload_n (some a) (pc' := 1) d_R_begin_0 rfl rfl rfl ?_
  refine wr_getR hV hw (pc' := 4) d_R_begin_1 rfl fl_R_10 (fun r1 hw => ?_)
  refine mm_iconst (v := 0) (pc' := 5) d_R_begin_4 rfl (by decide) ?_
  refine wr_SB_setLength hV hw (pc' := 8) d_R_begin_5 rfl cs_R_37 (Nat.le_of_ble_eq_true rfl) (Nat.le_of_ble_eq_true rfl) (fun h A kc ks hV hw => ?_)
  refine wr_aload_n (some a) (pc' := 9) d_R_begin_8 rfl rfl rfl ?_
  refine wr_getR hV hw (pc' := 12) d_R_begin_9 rfl fl_R_16 (fun r2 hw => ?_)
  refine mm_iconst (v := 0) (pc' := 13) d_R_begin_12 rfl (by decide) ?_
  refine wr_SB_setLength hV hw (pc' := 16) d_R_begin_13 rfl cs_R_37 (Nat.le_of_ble_eq_true rfl) (Nat.le_of_ble_eq_true rfl) (fun h A kc ks hV hw => ?_)
  refine wr_aload_n (some a) (pc' := 17) d_R_begin_16 rfl rfl rfl ?_
  refine wr_new hV hw (pc' := 20) d_R_begin_17 rfl nl_R_26 rfl (fun b3 h A kc ks hV hw => ?_)
  refine mm_dup (pc' := 21) d_R_begin_20 rfl (wr_cat _) ?_
  refine wr_cNx (pc' := 24) (as := []) (st := [va_rf (some b3), va_rf (some a)]) d_R_begin_21 rfl cs_R_28 rfl (W := fun b c s Q' => wp_E_init b  A c s Q') hV hw (fun b c s Q' hw => sd_E_init hV hw) rfl rfl (Nat.le_of_ble_eq_true rfl) (Nat.le_trans (wr_hR (wr_hR wr_h0)) (Nat.le_of_ble_eq_true rfl)) (fun h A kc ks hV hw => ?_)
  refine wr_put hV hw (pc' := 27) d_R_begin_24 rfl pl_R_begin_29 (Nat.le_of_ble_eq_true rfl) (wn_O _ _) (fun h A hV hw => ?_)
  refine wr_aload_n (some a) (pc' := 28) d_R_begin_27 rfl rfl rfl ?_
  refine mm_iconst (v := 0) (pc' := 29) d_R_begin_28 rfl (by decide) ?_
  refine wr_put hV hw (pc' := 32) d_R_begin_29 rfl pl_R_begin_33 (Nat.le_of_ble_eq_true rfl) (wn_I _) (fun h A hV hw => ?_)
  refine wr_aload_n (some a) (pc' := 33) d_R_begin_32 rfl rfl rfl ?_
  refine mm_iconst (v := 0) (pc' := 34) d_R_begin_33 rfl (by decide) ?_
  refine wr_put hV hw (pc' := 37) d_R_begin_34 rfl pl_R_begin_41 (Nat.le_of_ble_eq_true rfl) (fun _ => ⟨rfl, rfl⟩) (fun h A hV hw => ?_)
  refine wr_aload_n (some a) (pc' := 38) d_R_begin_37 rfl rfl rfl ?_
  refine mm_iconst (v := 0) (pc' := 39) d_R_begin_38 rfl (by decide) ?_
  refine wr_put hV hw (pc' := 42) d_R_begin_39 rfl pl_R_begin_45 (Nat.le_of_ble_eq_true rfl) (fun _ => ⟨rfl, rfl⟩) (fun h A hV hw => ?_)
  refine wr_aload_n (some a) (pc' := 43) d_R_begin_42 rfl rfl rfl ?_
  refine mm_iconst (v := 0) (pc' := 44) d_R_begin_43 rfl (by decide) ?_
  refine wr_put hV hw (pc' := 47) d_R_begin_44 rfl pl_R_begin_48 (Nat.le_of_ble_eq_true rfl) (fun _ => ⟨rfl, rfl⟩) (fun h A hV hw => ?_)
  refine wr_aload_n (some a) (pc' := 48) d_R_begin_47 rfl rfl rfl ?_
  refine mm_iconst (v := 0) (pc' := 49) d_R_begin_48 rfl (by decide) ?_
  refine wr_put hV hw (pc' := 52) d_R_begin_49 rfl pl_R_begin_51 (Nat.le_of_ble_eq_true rfl) (wn_I _) (fun h A hV hw => ?_)
  refine wr_aload_n (some a) (pc' := 53) d_R_begin_52 rfl rfl rfl ?_
  refine mm_iconst (v := 0) (pc' := 54) d_R_begin_53 rfl (by decide) ?_
  refine wr_put hV hw (pc' := 57) d_R_begin_54 rfl pl_R_begin_54 (Nat.le_of_ble_eq_true rfl) (wn_I _) (fun h A hV hw => ?_)
  refine wr_aload_n (some a) (pc' := 58) d_R_begin_57 rfl rfl rfl ?_
  refine mm_iconst (v := 0) (pc' := 59) d_R_begin_58 rfl (by decide) ?_
  refine wr_put hV hw (pc' := 62) d_R_begin_59 rfl pl_R_begin_57 (Nat.le_of_ble_eq_true rfl) (wn_I _) (fun h A hV hw => ?_)
  exact wr_vret hV d_R_begin_62 rfl hw
