theorem d_S_keep_0 : decode prog_1_method_27_code 0 = .ok (.aload_n 0, 1) := by decide +kernel
theorem d_S_keep_1 : decode prog_1_method_27_code 1 = .ok (.getfield 34, 3) := by decide +kernel
theorem d_S_keep_4 : decode prog_1_method_27_code 4 = .ok (.invokevirtual 99, 3) := by decide +kernel
theorem d_S_keep_7 : decode prog_1_method_27_code 7 = .ok (.iconst 5, 1) := by decide +kernel
theorem d_S_keep_8 : decode prog_1_method_27_code 8 = .ok (.if_icmp .lt 12, 3) := by decide +kernel
theorem d_S_keep_11 : decode prog_1_method_27_code 11 = .ok (.aload_n 0, 1) := by decide +kernel
theorem d_S_keep_12 : decode prog_1_method_27_code 12 = .ok (.getfield 34, 3) := by decide +kernel
theorem d_S_keep_15 : decode prog_1_method_27_code 15 = .ok (.iconst 0, 1) := by decide +kernel
theorem d_S_keep_16 : decode prog_1_method_27_code 16 = .ok (.invokevirtual 149, 3) := by decide +kernel
theorem d_S_keep_19 : decode prog_1_method_27_code 19 = .ok (.pop, 1) := by decide +kernel
theorem d_S_keep_20 : decode prog_1_method_27_code 20 = .ok (.aload_n 0, 1) := by decide +kernel
theorem d_S_keep_21 : decode prog_1_method_27_code 21 = .ok (.getfield 34, 3) := by decide +kernel
theorem d_S_keep_24 : decode prog_1_method_27_code 24 = .ok (.aload_n 1, 1) := by decide +kernel
theorem d_S_keep_25 : decode prog_1_method_27_code 25 = .ok (.invokevirtual 111, 3) := by decide +kernel
theorem d_S_keep_28 : decode prog_1_method_27_code 28 = .ok (.pop, 1) := by decide +kernel
theorem d_S_keep_29 : decode prog_1_method_27_code 29 = .ok (.return_, 1) := by decide +kernel
def wq_S_keep_20 (a : Nat) (p0 : Option Nat) (Q : ab_H → Prop)   (A : ab_H) (kc ks : Nat) : Prop := wgR A (some a) 3 4 (fun r1 => wj_AL_add_O A kc ks r1 p0 (fun x2 A kc ks => Q A))
set_option maxRecDepth 100000 in
set_option maxHeartbeats 4000000 in
theorem sq_S_keep_20 {l : Launch} {G : mm_G} {a : Nat} {p0 : Option Nat} {Q : ab_H → Prop}   : ∀ (A : ab_H) (kc ks : Nat) (h : mm_H), Vw G h A → wq_S_keep_20 a p0 Q  A kc ks → mm_V l G M_S_keep kc ks 20 [some (va_rf (some a)), some (va_rf p0)] [] h (wQV G Q) := by
  intro A kc ks h hV hw
  unfold wq_S_keep_20 at hw
  refine wr_aload_n (some a) (pc' := 21) d_S_keep_20 rfl rfl rfl ?_
  refine wr_getR hV hw (pc' := 24) d_S_keep_21 rfl fl_S_34 (fun r1 hw => ?_)
  refine wr_aload_n p0 (pc' := 25) d_S_keep_24 rfl rfl rfl ?_
  refine wr_AL_add_O hV hw (pc' := 28) d_S_keep_25 rfl cs_S_111 (Nat.le_of_ble_eq_true rfl) (Nat.le_of_ble_eq_true rfl) (fun x2 h A kc ks hV hw => ?_)
  refine mm_pop (pc' := 29) d_S_keep_28 rfl rfl ?_
  exact wr_vret hV d_S_keep_29 rfl hw
def wp_S_keep (a : Nat) (p0 : Option Nat) (A : ab_H) (kc ks : Nat) (Q : ab_H → Prop) : Prop := wgR A (some a) 3 4 (fun r3 => wj_AL_size A r3  (fun x4 => if x4 < (5 : Int32) then (wq_S_keep_20 a p0 Q A kc ks) else (wgR A (some a) 3 4 (fun r5 => wj_AL_remove A r5 (0 : Int32) (fun r6 A => wq_S_keep_20 a p0 Q A kc ks)))))
set_option maxRecDepth 100000 in
set_option maxHeartbeats 4000000 in
theorem sd_S_keep {l : Launch} {G : mm_G} {h : mm_H} {A : ab_H} {a : Nat} {p0 : Option Nat} {kc ks : Nat} {Q : ab_H → Prop} (hV : Vw G h A) (hw : wp_S_keep a p0 A kc ks Q) : mm_S l G M_S_keep [.ref a, va_rf p0] h kc ks (wQV G Q) := by
  unfold wp_S_keep at hw
  refine mm_start rfl (by simp [mm_as, wr_cat, wr_catI, wr_catJ, wr_catN]) ?_
  rw [show mm_en [.ref a, va_rf p0] M_S_keep.2.2.1 = [some (.ref a), some (va_rf p0)] from by simp [mm_en, mm_as, wr_cat, wr_catI, wr_catJ, wr_catN]]
  show mm_V l G M_S_keep kc ks 0 [some (va_rf (some a)), some (va_rf p0)] [] h _
  refine wr_aload_n (some a) (pc' := 1) d_S_keep_0 rfl rfl rfl ?_
  refine wr_getR hV hw (pc' := 4) d_S_keep_1 rfl fl_S_34 (fun r3 hw => ?_)
  refine wr_AL_size hV hw (pc' := 7) d_S_keep_4 rfl cs_S_99 (Nat.le_of_ble_eq_true rfl) (Nat.le_of_ble_eq_true rfl) (fun x4 hw => ?_)
  refine mm_iconst (v := 5) (pc' := 8) d_S_keep_7 rfl (by decide) ?_
  refine wr_icmp_lt hw (pc' := 11) d_S_keep_8 rfl rfl (fun hw => ?_) (fun hw => ?_)
  · exact mm_drop (mm_le.s (mm_le.s mm_le.e)) (sq_S_keep_20  _ _ _ _ hV hw)
  · refine wr_aload_n (some a) (pc' := 12) d_S_keep_11 rfl rfl rfl ?_
    refine wr_getR hV hw (pc' := 15) d_S_keep_12 rfl fl_S_34 (fun r5 hw => ?_)
    refine mm_iconst (v := 0) (pc' := 16) d_S_keep_15 rfl (by decide) ?_
    refine wr_AL_remove hV hw (pc' := 19) d_S_keep_16 rfl cs_S_149 (Nat.le_of_ble_eq_true rfl) (Nat.le_of_ble_eq_true rfl) (fun r6 h A hV hw => ?_)
    refine mm_pop (pc' := 20) d_S_keep_19 rfl (wr_cat _) ?_
    exact mm_drop (mm_le.s (mm_le.s mm_le.e)) (sq_S_keep_20  _ _ _ _ hV hw)
theorem d_E_asksToClose_0 : decode prog_7_method_4_code 0 = .ok (.iconst 0, 1) := by decide +kernel
theorem d_E_asksToClose_1 : decode prog_7_method_4_code 1 = .ok (.istore_n 1, 1) := by decide +kernel
theorem d_E_asksToClose_2 : decode prog_7_method_4_code 2 = .ok (.iload_n 1, 1) := by decide +kernel
theorem d_E_asksToClose_3 : decode prog_7_method_4_code 3 = .ok (.aload_n 0, 1) := by decide +kernel
theorem d_E_asksToClose_4 : decode prog_7_method_4_code 4 = .ok (.getfield 16, 3) := by decide +kernel
theorem d_E_asksToClose_7 : decode prog_7_method_4_code 7 = .ok (.invokevirtual 44, 3) := by decide +kernel
theorem d_E_asksToClose_10 : decode prog_7_method_4_code 10 = .ok (.if_icmp .ge 47, 3) := by decide +kernel
theorem d_E_asksToClose_13 : decode prog_7_method_4_code 13 = .ok (.aload_n 0, 1) := by decide +kernel
theorem d_E_asksToClose_14 : decode prog_7_method_4_code 14 = .ok (.getfield 16, 3) := by decide +kernel
theorem d_E_asksToClose_17 : decode prog_7_method_4_code 17 = .ok (.iload_n 1, 1) := by decide +kernel
theorem d_E_asksToClose_18 : decode prog_7_method_4_code 18 = .ok (.invokevirtual 48, 3) := by decide +kernel
theorem d_E_asksToClose_21 : decode prog_7_method_4_code 21 = .ok (.checkcast 19, 3) := by decide +kernel
theorem d_E_asksToClose_24 : decode prog_7_method_4_code 24 = .ok (.astore_n 2, 1) := by decide +kernel
theorem d_E_asksToClose_25 : decode prog_7_method_4_code 25 = .ok (.aload_n 2, 1) := by decide +kernel
theorem d_E_asksToClose_26 : decode prog_7_method_4_code 26 = .ok (.getfield 52, 3) := by decide +kernel
theorem d_E_asksToClose_29 : decode prog_7_method_4_code 29 = .ok (.ldc 62, 2) := by decide +kernel
theorem d_E_asksToClose_31 : decode prog_7_method_4_code 31 = .ok (.invokevirtual 56, 3) := by decide +kernel
theorem d_E_asksToClose_34 : decode prog_7_method_4_code 34 = .ok (.ifCond .eq 17, 3) := by decide +kernel
theorem d_E_asksToClose_37 : decode prog_7_method_4_code 37 = .ok (.aload_n 2, 1) := by decide +kernel
theorem d_E_asksToClose_38 : decode prog_7_method_4_code 38 = .ok (.getfield 64, 3) := by decide +kernel
theorem d_E_asksToClose_41 : decode prog_7_method_4_code 41 = .ok (.ldc 67, 2) := by decide +kernel
theorem d_E_asksToClose_43 : decode prog_7_method_4_code 43 = .ok (.invokevirtual 56, 3) := by decide +kernel
theorem d_E_asksToClose_46 : decode prog_7_method_4_code 46 = .ok (.ifCond .eq 5, 3) := by decide +kernel
theorem d_E_asksToClose_49 : decode prog_7_method_4_code 49 = .ok (.iconst 1, 1) := by decide +kernel
theorem d_E_asksToClose_50 : decode prog_7_method_4_code 50 = .ok (.ireturn, 1) := by decide +kernel
theorem d_E_asksToClose_51 : decode prog_7_method_4_code 51 = .ok (.iinc 1 1, 3) := by decide +kernel
theorem d_E_asksToClose_54 : decode prog_7_method_4_code 54 = .ok (.goto (-52), 3) := by decide +kernel
theorem d_E_asksToClose_57 : decode prog_7_method_4_code 57 = .ok (.iconst 0, 1) := by decide +kernel
theorem d_E_asksToClose_58 : decode prog_7_method_4_code 58 = .ok (.ireturn, 1) := by decide +kernel
def wb_E_asksToClose_2 (a : Nat) (Q : Int32 → ab_H → Prop)  (k2 : Int32 → ab_H → Prop) (u1 : Int32) (A : ab_H) : Prop := wgR A (some a) 7 1 (fun r1 => wj_AL_size A r1  (fun x2 => if x2 ≤ u1 then (Q (0 : Int32) A) else (wgR A (some a) 7 1 (fun r3 => wj_AL_get A r3 u1 (fun r4 => wC A r4 8 (fun b5 => wgR A (some b5) 8 0 (fun r6 => wj_ST_equals A r6 (some 6) (fun x7 => if x7 = 0 then (k2 (u1 + 1) A) else (wgR A (some b5) 8 1 (fun r8 => wj_ST_equals A r8 (some 7) (fun x9 => if x9 = 0 then (k2 (u1 + 1) A) else (Q (1 : Int32) A))))))))))))
def wq_E_asksToClose_2 (a : Nat) (Q : Int32 → ab_H → Prop)  : Nat → Int32 → ab_H → Prop
  | 0 => fun _ _ => False
  | n + 1 => wb_E_asksToClose_2 a Q  (wq_E_asksToClose_2 a Q  n)
set_option maxRecDepth 100000 in
set_option maxHeartbeats 4000000 in
theorem sq_E_asksToClose_2 {l : Launch} {G : mm_G} {a : Nat} {Q : Int32 → ab_H → Prop}   : ∀ (n : Nat) (u1 : Int32) (A : ab_H) (h : mm_H), Vw G h A → wq_E_asksToClose_2 a Q  n u1 A → mm_V l G M_E_asksToClose 0 0 2 [some (va_rf (some a)), some (.int u1), none] [] h (wQI G Q) := by
  intro n
  induction n with
  | zero =>
    intro u1 A h hV hw
    exact absurd hw id
  | succ n hk2 =>
    intro u1 A h hV hw
    have hw : wb_E_asksToClose_2 a Q  (wq_E_asksToClose_2 a Q  n) u1 A := hw
    unfold wb_E_asksToClose_2 at hw
    refine mm_iload_n (pc' := 3) d_E_asksToClose_2 rfl rfl rfl ?_
    refine wr_aload_n (some a) (pc' := 4) d_E_asksToClose_3 rfl rfl rfl ?_
    refine wr_getR hV hw (pc' := 7) d_E_asksToClose_4 rfl fl_E_16 (fun r1 hw => ?_)
    refine wr_AL_size hV hw (pc' := 10) d_E_asksToClose_7 rfl cs_E_44 (Nat.le_of_ble_eq_true rfl) (Nat.le_of_ble_eq_true rfl) (fun x2 hw => ?_)
    refine wr_icmp_ge hw (pc' := 13) d_E_asksToClose_10 rfl rfl (fun hw => ?_) (fun hw => ?_)
    · refine mm_iconst (v := 0) (pc' := 58) d_E_asksToClose_57 rfl (by decide) ?_
      exact wr_iret hV d_E_asksToClose_58 rfl rfl hw
    · refine wr_aload_n (some a) (pc' := 14) d_E_asksToClose_13 rfl rfl rfl ?_
      refine wr_getR hV hw (pc' := 17) d_E_asksToClose_14 rfl fl_E_16 (fun r3 hw => ?_)
      refine mm_iload_n (pc' := 18) d_E_asksToClose_17 rfl rfl rfl ?_
      refine wr_AL_get hV hw (pc' := 21) d_E_asksToClose_18 rfl cs_E_48 (Nat.le_of_ble_eq_true rfl) (Nat.le_of_ble_eq_true rfl) (fun r4 hw => ?_)
      refine wr_cast hV hw (pc' := 24) d_E_asksToClose_21 rfl rfl cl_E_19 (fun b5 hw => ?_)
      refine wr_ast2 (pc' := 25) d_E_asksToClose_24 rfl rfl (Nat.le_of_ble_eq_true rfl) ?_
      refine wr_aload_n (some b5) (pc' := 26) d_E_asksToClose_25 rfl rfl rfl ?_
      refine wr_getR hV hw (pc' := 29) d_E_asksToClose_26 rfl fl_E_52 (fun r6 hw => ?_)
      refine wr_ldcS (pc' := 31) d_E_asksToClose_29 rfl ld_E_62 ?_
      refine wr_ST_equals hV hw (pc' := 34) d_E_asksToClose_31 rfl cs_E_56 (Nat.le_of_ble_eq_true rfl) (Nat.le_of_ble_eq_true rfl) (fun x7 hw => ?_)
      refine wr_if_eq hw (pc' := 37) d_E_asksToClose_34 rfl rfl (fun hw => ?_) (fun hw => ?_)
      · refine mm_iinc1 (v := (u1 + 1)) (pc' := 54) d_E_asksToClose_51 rfl (wr_2 _) rfl (Nat.le_of_ble_eq_true rfl) ?_
        refine mm_goto (tgt := 2) d_E_asksToClose_54 rfl ?_
        exact mm_drop (mm_le.s (mm_le.s (mm_le.n mm_le.e))) (hk2 _ _ _ hV hw)
      · refine wr_aload_n (some b5) (pc' := 38) d_E_asksToClose_37 rfl rfl rfl ?_
        refine wr_getR hV hw (pc' := 41) d_E_asksToClose_38 rfl fl_E_64 (fun r8 hw => ?_)
        refine wr_ldcS (pc' := 43) d_E_asksToClose_41 rfl ld_E_67 ?_
        refine wr_ST_equals hV hw (pc' := 46) d_E_asksToClose_43 rfl cs_E_56 (Nat.le_of_ble_eq_true rfl) (Nat.le_of_ble_eq_true rfl) (fun x9 hw => ?_)
        refine wr_if_eq hw (pc' := 49) d_E_asksToClose_46 rfl rfl (fun hw => ?_) (fun hw => ?_)
        · refine mm_iinc1 (v := (u1 + 1)) (pc' := 54) d_E_asksToClose_51 rfl (wr_2 _) rfl (Nat.le_of_ble_eq_true rfl) ?_
          refine mm_goto (tgt := 2) d_E_asksToClose_54 rfl ?_
          exact mm_drop (mm_le.s (mm_le.s (mm_le.n mm_le.e))) (hk2 _ _ _ hV hw)
        · refine mm_iconst (v := 1) (pc' := 50) d_E_asksToClose_49 rfl (by decide) ?_
          exact wr_iret hV d_E_asksToClose_50 rfl rfl hw
def wp_E_asksToClose (a : Nat) (A : ab_H) (Q : Int32 → ab_H → Prop) : Prop := ∃ n, wq_E_asksToClose_2 a Q n (0 : Int32) A
set_option maxRecDepth 100000 in
set_option maxHeartbeats 4000000 in
theorem sd_E_asksToClose {l : Launch} {G : mm_G} {h : mm_H} {A : ab_H} {a : Nat} {Q : Int32 → ab_H → Prop} (hV : Vw G h A) (hw : wp_E_asksToClose a A Q) : mm_S l G M_E_asksToClose [.ref a] h 0 0 (wQI G Q) := by
  unfold wp_E_asksToClose at hw
  refine mm_start rfl (Nat.le_of_ble_eq_true rfl) ?_
  show mm_V l G M_E_asksToClose 0 0 0 [some (va_rf (some a)), none, none] [] h _
  refine mm_iconst (v := 0) (pc' := 1) d_E_asksToClose_0 rfl (by decide) ?_
  refine mm_ist1 (pc' := 2) d_E_asksToClose_1 rfl (wr_2 _) (Nat.le_of_ble_eq_true rfl) ?_
  obtain ⟨n, hw⟩ := hw
  exact mm_drop (mm_le.s (mm_le.s (mm_le.n mm_le.e))) (sq_E_asksToClose_2  n _ _ _ hV hw)
theorem d_S_serve_0 : decode prog_1_method_25_code 0 = .ok (.aload_n 1, 1) := by decide +kernel
theorem d_S_serve_1 : decode prog_1_method_25_code 1 = .ok (.getfield 44, 3) := by decide +kernel
theorem d_S_serve_4 : decode prog_1_method_25_code 4 = .ok (.invokevirtual 180, 3) := by decide +kernel
theorem d_S_serve_7 : decode prog_1_method_25_code 7 = .ok (.astore_n 2, 1) := by decide +kernel
theorem d_S_serve_8 : decode prog_1_method_25_code 8 = .ok (.aload_n 0, 1) := by decide +kernel
theorem d_S_serve_9 : decode prog_1_method_25_code 9 = .ok (.dup, 1) := by decide +kernel
theorem d_S_serve_10 : decode prog_1_method_25_code 10 = .ok (.getfield 177, 3) := by decide +kernel
theorem d_S_serve_13 : decode prog_1_method_25_code 13 = .ok (.iconst 1, 1) := by decide +kernel
theorem d_S_serve_14 : decode prog_1_method_25_code 14 = .ok (.iadd, 1) := by decide +kernel
theorem d_S_serve_15 : decode prog_1_method_25_code 15 = .ok (.putfield 177, 3) := by decide +kernel
theorem d_S_serve_18 : decode prog_1_method_25_code 18 = .ok (.aload_n 0, 1) := by decide +kernel
theorem d_S_serve_19 : decode prog_1_method_25_code 19 = .ok (.aload_n 2, 1) := by decide +kernel
theorem d_S_serve_20 : decode prog_1_method_25_code 20 = .ok (.invokevirtual 167, 3) := by decide +kernel
theorem d_S_serve_23 : decode prog_1_method_25_code 23 = .ok (.astore_n 3, 1) := by decide +kernel
theorem d_S_serve_24 : decode prog_1_method_25_code 24 = .ok (.aload_n 3, 1) := by decide +kernel
theorem d_S_serve_25 : decode prog_1_method_25_code 25 = .ok (.ifnull 19, 3) := by decide +kernel
theorem d_S_serve_28 : decode prog_1_method_25_code 28 = .ok (.aload_n 0, 1) := by decide +kernel
theorem d_S_serve_29 : decode prog_1_method_25_code 29 = .ok (.aload_n 3, 1) := by decide +kernel
theorem d_S_serve_30 : decode prog_1_method_25_code 30 = .ok (.getfield 174, 3) := by decide +kernel
theorem d_S_serve_33 : decode prog_1_method_25_code 33 = .ok (.aload_n 3, 1) := by decide +kernel
theorem d_S_serve_34 : decode prog_1_method_25_code 34 = .ok (.getfield 145, 3) := by decide +kernel
theorem d_S_serve_37 : decode prog_1_method_25_code 37 = .ok (.aload_n 2, 1) := by decide +kernel
theorem d_S_serve_38 : decode prog_1_method_25_code 38 = .ok (.invokevirtual 157, 3) := by decide +kernel
theorem d_S_serve_41 : decode prog_1_method_25_code 41 = .ok (.ifCond .le 15, 3) := by decide +kernel
theorem d_S_serve_44 : decode prog_1_method_25_code 44 = .ok (.aload_n 1, 1) := by decide +kernel
theorem d_S_serve_45 : decode prog_1_method_25_code 45 = .ok (.sipush 404, 3) := by decide +kernel
theorem d_S_serve_48 : decode prog_1_method_25_code 48 = .ok (.ldc 184, 2) := by decide +kernel
theorem d_S_serve_50 : decode prog_1_method_25_code 50 = .ok (.invokevirtual 186, 3) := by decide +kernel
theorem d_S_serve_53 : decode prog_1_method_25_code 53 = .ok (.goto 39, 3) := by decide +kernel
theorem d_S_serve_56 : decode prog_1_method_25_code 56 = .ok (.aload_n 2, 1) := by decide +kernel
theorem d_S_serve_57 : decode prog_1_method_25_code 57 = .ok (.aload_n 3, 1) := by decide +kernel
theorem d_S_serve_58 : decode prog_1_method_25_code 58 = .ok (.getfield 171, 3) := by decide +kernel
theorem d_S_serve_61 : decode prog_1_method_25_code 61 = .ok (.putfield 164, 3) := by decide +kernel
theorem d_S_serve_64 : decode prog_1_method_25_code 64 = .ok (.aload_n 0, 1) := by decide +kernel
theorem d_S_serve_65 : decode prog_1_method_25_code 65 = .ok (.aload_n 3, 1) := by decide +kernel
theorem d_S_serve_66 : decode prog_1_method_25_code 66 = .ok (.getfield 145, 3) := by decide +kernel
theorem d_S_serve_69 : decode prog_1_method_25_code 69 = .ok (.invokevirtual 190, 3) := by decide +kernel
theorem d_S_serve_72 : decode prog_1_method_25_code 72 = .ok (.aload_n 1, 1) := by decide +kernel
theorem d_S_serve_73 : decode prog_1_method_25_code 73 = .ok (.aload_n 3, 1) := by decide +kernel
theorem d_S_serve_74 : decode prog_1_method_25_code 74 = .ok (.getfield 194, 3) := by decide +kernel
theorem d_S_serve_77 : decode prog_1_method_25_code 77 = .ok (.aload_n 3, 1) := by decide +kernel
theorem d_S_serve_78 : decode prog_1_method_25_code 78 = .ok (.getfield 197, 3) := by decide +kernel
theorem d_S_serve_81 : decode prog_1_method_25_code 81 = .ok (.aload_n 2, 1) := by decide +kernel
theorem d_S_serve_82 : decode prog_1_method_25_code 82 = .ok (.aload_n 0, 1) := by decide +kernel
theorem d_S_serve_83 : decode prog_1_method_25_code 83 = .ok (.getfield 177, 3) := by decide +kernel
theorem d_S_serve_86 : decode prog_1_method_25_code 86 = .ok (.invokevirtual 201, 3) := by decide +kernel
theorem d_S_serve_89 : decode prog_1_method_25_code 89 = .ok (.invokevirtual 186, 3) := by decide +kernel
theorem d_S_serve_92 : decode prog_1_method_25_code 92 = .ok (.aload_n 0, 1) := by decide +kernel
theorem d_S_serve_93 : decode prog_1_method_25_code 93 = .ok (.aload_n 2, 1) := by decide +kernel
theorem d_S_serve_94 : decode prog_1_method_25_code 94 = .ok (.invokevirtual 207, 3) := by decide +kernel
theorem d_S_serve_97 : decode prog_1_method_25_code 97 = .ok (.aload_n 2, 1) := by decide +kernel
theorem d_S_serve_98 : decode prog_1_method_25_code 98 = .ok (.invokevirtual 211, 3) := by decide +kernel
theorem d_S_serve_101 : decode prog_1_method_25_code 101 = .ok (.ifCond .eq 8, 3) := by decide +kernel
theorem d_S_serve_104 : decode prog_1_method_25_code 104 = .ok (.aload_n 1, 1) := by decide +kernel
theorem d_S_serve_105 : decode prog_1_method_25_code 105 = .ok (.iconst 0, 1) := by decide +kernel
theorem d_S_serve_106 : decode prog_1_method_25_code 106 = .ok (.putfield 66, 3) := by decide +kernel
theorem d_S_serve_109 : decode prog_1_method_25_code 109 = .ok (.return_, 1) := by decide +kernel
def wq_S_serve_92 (a : Nat) (p0 : Option Nat) (Q : ab_H → Prop)  (u2 : Option Nat) (A : ab_H) (kc ks : Nat) : Prop := wC A (some a) 3 (fun b => wXV kc ks (wp_S_keep b u2 A) (fun A kc ks => wC A u2 7 (fun b => wp_E_asksToClose b  A (fun x1 A => if x1 = 0 then (Q A) else (wp A p0 4 2 (.int (0 : Int32)) (fun A => Q A))))))
set_option maxRecDepth 100000 in
set_option maxHeartbeats 4000000 in
theorem sq_S_serve_92 {l : Launch} {G : mm_G} {a : Nat} {p0 : Option Nat} {Q : ab_H → Prop}   : ∀ (u2 : Option Nat) (A : ab_H) (kc ks : Nat) (h : mm_H), Vw G h A → wq_S_serve_92 a p0 Q  u2 A kc ks → mm_V l G M_S_serve kc ks 92 [some (va_rf (some a)), some (va_rf p0), some (va_rf u2), none] [] h (wQV G Q) := by
  intro u2 A kc ks h hV hw
  unfold wq_S_serve_92 at hw
  refine wr_aload_n (some a) (pc' := 93) d_S_serve_92 rfl rfl rfl ?_
  refine wr_aload_n u2 (pc' := 94) d_S_serve_93 rfl rfl rfl ?_
  refine wr_cVVx (pc' := 97) (as := [va_rf u2]) (st := []) d_S_serve_94 rfl cs_S_207 rfl (W := fun b c s Q' => wp_S_keep b u2 A c s Q') hV hw (fun b c s Q' hw => sd_S_keep hV hw) rfl rfl (Nat.le_of_ble_eq_true rfl) (Nat.le_of_ble_eq_true rfl) (fun h A kc ks hV hw => ?_)
  refine wr_aload_n u2 (pc' := 98) d_S_serve_97 rfl rfl rfl ?_
  refine wr_cVI (pc' := 101) (as := []) (st := []) d_S_serve_98 rfl cs_S_211 rfl (W := fun b Q' => wp_E_asksToClose b  A Q') hV hw (fun b Q' hw => sd_E_asksToClose hV hw) rfl rfl (Nat.le_of_ble_eq_true rfl) (Nat.le_of_ble_eq_true rfl) (fun x1 h A hV hw => ?_)
  refine wr_if_eq hw (pc' := 104) d_S_serve_101 rfl rfl (fun hw => ?_) (fun hw => ?_)
  · exact wr_vret hV d_S_serve_109 rfl hw
  · refine wr_aload_n p0 (pc' := 105) d_S_serve_104 rfl rfl rfl ?_
    refine mm_iconst (v := 0) (pc' := 106) d_S_serve_105 rfl (by decide) ?_
    refine wr_put hV hw (pc' := 109) d_S_serve_106 rfl pl_S_serve_66 (Nat.le_of_ble_eq_true rfl) (fun _ => ⟨rfl, rfl⟩) (fun h A hV hw => ?_)
    exact wr_vret hV d_S_serve_109 rfl hw
def wq_S_serve_44 (a : Nat) (p0 : Option Nat) (Q : ab_H → Prop)  (u2 : Option Nat) (A : ab_H) (kc ks : Nat) : Prop := wC A p0 4 (fun b => wXV kc ks (wp_C_respond b (404 : Int32) (some 1) A) (fun A kc ks => wq_S_serve_92 a p0 Q u2 A kc ks))
set_option maxRecDepth 100000 in
set_option maxHeartbeats 4000000 in
theorem sq_S_serve_44 {l : Launch} {G : mm_G} {a : Nat} {p0 : Option Nat} {Q : ab_H → Prop}   : ∀ (u2 : Option Nat) (A : ab_H) (kc ks : Nat) (h : mm_H), Vw G h A → wq_S_serve_44 a p0 Q  u2 A kc ks → mm_V l G M_S_serve kc ks 44 [some (va_rf (some a)), some (va_rf p0), some (va_rf u2), none] [] h (wQV G Q) := by
  intro u2 A kc ks h hV hw
  unfold wq_S_serve_44 at hw
  refine wr_aload_n p0 (pc' := 45) d_S_serve_44 rfl rfl rfl ?_
  refine mm_sipush (v := 404) (pc' := 48) d_S_serve_45 rfl (by decide) ?_
  refine wr_ldcS (pc' := 50) d_S_serve_48 rfl ld_S_184 ?_
  refine wr_cVVx (pc' := 53) (as := [.int (404 : Int32), va_rf (some 1)]) (st := []) d_S_serve_50 rfl cs_S_186 rfl (W := fun b c s Q' => wp_C_respond b (404 : Int32) (some 1) A c s Q') hV hw (fun b c s Q' hw => sd_C_respond hV hw) rfl rfl (Nat.le_of_ble_eq_true rfl) (Nat.le_of_ble_eq_true rfl) (fun h A kc ks hV hw => ?_)
  refine mm_goto (tgt := 92) d_S_serve_53 rfl ?_
  exact mm_drop (mm_le.s (mm_le.s (mm_le.s (mm_le.n mm_le.e)))) (sq_S_serve_92  _ _ _ _ _ hV hw)
def wp_S_serve (a : Nat) (p0 : Option Nat) (A : ab_H) (kc ks : Nat) (Q : ab_H → Prop) : Prop := wgR A p0 4 0 (fun r2 => wC A r2 5 (fun b => wX kc ks (wp_R_handOver b  A) (fun r3 A kc ks => wgI A (some a) 3 7 (fun x4 => wp A (some a) 3 7 (.int (x4 + (1 : Int32))) (fun A => wC A (some a) 3 (fun b => wp_S_nearest b r3 A (fun r5 A => if r5 = none then (wq_S_serve_44 a p0 Q r3 A kc ks) else (wgR A r5 12 4 (fun r6 => wgR A r5 12 5 (fun r7 => wC A (some a) 3 (fun b => wp_S_conditionsMissed b r6 r7 r3 A (fun x8 A => if x8 ≤ 0 then (wgI A r5 12 0 (fun x9 => wp A r3 7 5 (.int x9) (fun A => wgR A r5 12 5 (fun r10 => wC A (some a) 3 (fun b => wp_S_moveOn b r10 A (fun A => wgI A r5 12 2 (fun x11 => wgR A r5 12 3 (fun r12 => wgI A (some a) 3 7 (fun x13 => wC A r12 11 (fun b => wX kc ks (wp_T_fill b r3 x13 A) (fun r14 A kc ks => wC A p0 4 (fun b => wXV kc ks (wp_C_respond b x11 r14 A) (fun A kc ks => wq_S_serve_92 a p0 Q r3 A kc ks))))))))))))) else (wq_S_serve_44 a p0 Q r3 A kc ks)))))))))))))
set_option maxRecDepth 100000 in
set_option maxHeartbeats 4000000 in
theorem sd_S_serve {l : Launch} {G : mm_G} {h : mm_H} {A : ab_H} {a : Nat} {p0 : Option Nat} {kc ks : Nat} {Q : ab_H → Prop} (hV : Vw G h A) (hw : wp_S_serve a p0 A kc ks Q) : mm_S l G M_S_serve [.ref a, va_rf p0] h kc ks (wQV G Q) := by
  unfold wp_S_serve at hw
  refine mm_start rfl (by simp [mm_as, wr_cat, wr_catI, wr_catJ, wr_catN]) ?_
  rw [show mm_en [.ref a, va_rf p0] M_S_serve.2.2.1 = [some (.ref a), some (va_rf p0), none, none] from by simp [mm_en, mm_as, wr_cat, wr_catI, wr_catJ, wr_catN]]
  show mm_V l G M_S_serve kc ks 0 [some (va_rf (some a)), some (va_rf p0), none, none] [] h _
  refine wr_aload_n p0 (pc' := 1) d_S_serve_0 rfl rfl rfl ?_
  refine wr_getR hV hw (pc' := 4) d_S_serve_1 rfl fl_S_44 (fun r2 hw => ?_)
  refine wr_cVRx (pc' := 7) (as := []) (st := []) d_S_serve_4 rfl cs_S_180 rfl (W := fun b c s Q' => wp_R_handOver b  A c s Q') hV hw (fun b c s Q' hw => sd_R_handOver hV hw) rfl rfl (Nat.le_of_ble_eq_true rfl) (Nat.le_of_ble_eq_true rfl) (fun r3 h A kc ks hV hw => ?_)
  refine wr_ast2 (pc' := 8) d_S_serve_7 rfl (wr_2 _) (Nat.le_of_ble_eq_true rfl) ?_
  refine wr_aload_n (some a) (pc' := 9) d_S_serve_8 rfl rfl rfl ?_
  refine mm_dup (pc' := 10) d_S_serve_9 rfl (wr_cat _) ?_
  refine wr_getI hV hw (pc' := 13) d_S_serve_10 rfl fl_S_177 (fun x4 hw => ?_)
  refine mm_iconst (v := 1) (pc' := 14) d_S_serve_13 rfl (by decide) ?_
  refine mm_iadd (pc' := 15) d_S_serve_14 rfl ?_
  refine wr_put hV hw (pc' := 18) d_S_serve_15 rfl pl_S_serve_177 (Nat.le_of_ble_eq_true rfl) (wn_I _) (fun h A hV hw => ?_)
  refine wr_aload_n (some a) (pc' := 19) d_S_serve_18 rfl rfl rfl ?_
  refine wr_aload_n r3 (pc' := 20) d_S_serve_19 rfl rfl rfl ?_
  refine wr_cVR (pc' := 23) (as := [va_rf r3]) (st := []) d_S_serve_20 rfl cs_S_167 rfl (W := fun b Q' => wp_S_nearest b r3 A Q') hV hw (fun b Q' hw => sd_S_nearest hV hw) rfl rfl (Nat.le_of_ble_eq_true rfl) (Nat.le_of_ble_eq_true rfl) (fun r5 h A hV hw => ?_)
  refine wr_ast3 (pc' := 24) d_S_serve_23 rfl (wr_2 _) (Nat.le_of_ble_eq_true rfl) ?_
  refine wr_aload_n r5 (pc' := 25) d_S_serve_24 rfl rfl rfl ?_
  refine wr_ifnull hw (pc' := 28) d_S_serve_25 rfl rfl (fun hw => ?_) (fun hw => ?_)
  · exact mm_drop (mm_le.s (mm_le.s (mm_le.s (mm_le.n mm_le.e)))) (sq_S_serve_44  _ _ _ _ _ hV hw)
  · refine wr_aload_n (some a) (pc' := 29) d_S_serve_28 rfl rfl rfl ?_
    refine wr_aload_n r5 (pc' := 30) d_S_serve_29 rfl rfl rfl ?_
    refine wr_getR hV hw (pc' := 33) d_S_serve_30 rfl fl_S_174 (fun r6 hw => ?_)
    refine wr_aload_n r5 (pc' := 34) d_S_serve_33 rfl rfl rfl ?_
    refine wr_getR hV hw (pc' := 37) d_S_serve_34 rfl fl_S_145 (fun r7 hw => ?_)
    refine wr_aload_n r3 (pc' := 38) d_S_serve_37 rfl rfl rfl ?_
    refine wr_cVI (pc' := 41) (as := [va_rf r6, va_rf r7, va_rf r3]) (st := []) d_S_serve_38 rfl cs_S_157 rfl (W := fun b Q' => wp_S_conditionsMissed b r6 r7 r3 A Q') hV hw (fun b Q' hw => sd_S_conditionsMissed hV hw) rfl rfl (Nat.le_of_ble_eq_true rfl) (Nat.le_of_ble_eq_true rfl) (fun x8 h A hV hw => ?_)
    refine wr_if_le hw (pc' := 44) d_S_serve_41 rfl rfl (fun hw => ?_) (fun hw => ?_)
    · refine wr_aload_n r3 (pc' := 57) d_S_serve_56 rfl rfl rfl ?_
      refine wr_aload_n r5 (pc' := 58) d_S_serve_57 rfl rfl rfl ?_
      refine wr_getI hV hw (pc' := 61) d_S_serve_58 rfl fl_S_171 (fun x9 hw => ?_)
      refine wr_put hV hw (pc' := 64) d_S_serve_61 rfl pl_S_serve_164 (Nat.le_of_ble_eq_true rfl) (wn_I _) (fun h A hV hw => ?_)
      refine wr_aload_n (some a) (pc' := 65) d_S_serve_64 rfl rfl rfl ?_
      refine wr_aload_n r5 (pc' := 66) d_S_serve_65 rfl rfl rfl ?_
      refine wr_getR hV hw (pc' := 69) d_S_serve_66 rfl fl_S_145 (fun r10 hw => ?_)
      refine wr_cVV (pc' := 72) (as := [va_rf r10]) (st := []) d_S_serve_69 rfl cs_S_190 rfl (W := fun b Q' => wp_S_moveOn b r10 A Q') hV hw (fun b Q' hw => sd_S_moveOn hV hw) rfl rfl (Nat.le_of_ble_eq_true rfl) (Nat.le_of_ble_eq_true rfl) (fun h A hV hw => ?_)
      refine wr_aload_n p0 (pc' := 73) d_S_serve_72 rfl rfl rfl ?_
      refine wr_aload_n r5 (pc' := 74) d_S_serve_73 rfl rfl rfl ?_
      refine wr_getI hV hw (pc' := 77) d_S_serve_74 rfl fl_S_194 (fun x11 hw => ?_)
      refine wr_aload_n r5 (pc' := 78) d_S_serve_77 rfl rfl rfl ?_
      refine wr_getR hV hw (pc' := 81) d_S_serve_78 rfl fl_S_197 (fun r12 hw => ?_)
      refine wr_aload_n r3 (pc' := 82) d_S_serve_81 rfl rfl rfl ?_
      refine wr_aload_n (some a) (pc' := 83) d_S_serve_82 rfl rfl rfl ?_
      refine wr_getI hV hw (pc' := 86) d_S_serve_83 rfl fl_S_177 (fun x13 hw => ?_)
      refine wr_cVRx (pc' := 89) (as := [va_rf r3, .int x13]) (st := [.int x11, va_rf p0]) d_S_serve_86 rfl cs_S_201 rfl (W := fun b c s Q' => wp_T_fill b r3 x13 A c s Q') hV hw (fun b c s Q' hw => sd_T_fill hV hw) rfl rfl (Nat.le_of_ble_eq_true rfl) (Nat.le_trans (wr_hI (wr_hR wr_h0)) (Nat.le_of_ble_eq_true rfl)) (fun r14 h A kc ks hV hw => ?_)
      refine wr_cVVx (pc' := 92) (as := [.int x11, va_rf r14]) (st := []) d_S_serve_89 rfl cs_S_186 rfl (W := fun b c s Q' => wp_C_respond b x11 r14 A c s Q') hV hw (fun b c s Q' hw => sd_C_respond hV hw) rfl rfl (Nat.le_of_ble_eq_true rfl) (Nat.le_of_ble_eq_true rfl) (fun h A kc ks hV hw => ?_)
      exact mm_drop (mm_le.s (mm_le.s (mm_le.s (mm_le.n mm_le.e)))) (sq_S_serve_92  _ _ _ _ _ hV hw)
    · exact mm_drop (mm_le.s (mm_le.s (mm_le.s (mm_le.n mm_le.e)))) (sq_S_serve_44  _ _ _ _ _ hV hw)
theorem d_C_refuse_0 : decode prog_2_method_3_code 0 = .ok (.aload_n 0, 1) := by decide +kernel
theorem d_C_refuse_1 : decode prog_2_method_3_code 1 = .ok (.iload_n 1, 1) := by decide +kernel
theorem d_C_refuse_2 : decode prog_2_method_3_code 2 = .ok (.ldc 34, 2) := by decide +kernel
theorem d_C_refuse_4 : decode prog_2_method_3_code 4 = .ok (.invokevirtual 36, 3) := by decide +kernel
theorem d_C_refuse_7 : decode prog_2_method_3_code 7 = .ok (.aload_n 0, 1) := by decide +kernel
theorem d_C_refuse_8 : decode prog_2_method_3_code 8 = .ok (.iconst 0, 1) := by decide +kernel
theorem d_C_refuse_9 : decode prog_2_method_3_code 9 = .ok (.putfield 23, 3) := by decide +kernel
theorem d_C_refuse_12 : decode prog_2_method_3_code 12 = .ok (.return_, 1) := by decide +kernel
def wp_C_refuse (a : Nat) (p0 : Int32) (A : ab_H) (kc ks : Nat) (Q : ab_H → Prop) : Prop := wC A (some a) 4 (fun b => wXV kc ks (wp_C_respond b p0 (some 1) A) (fun A kc ks => wp A (some a) 4 2 (.int (0 : Int32)) (fun A => Q A)))
set_option maxRecDepth 100000 in
set_option maxHeartbeats 4000000 in
theorem sd_C_refuse {l : Launch} {G : mm_G} {h : mm_H} {A : ab_H} {a : Nat} {p0 : Int32} {kc ks : Nat} {Q : ab_H → Prop} (hV : Vw G h A) (hw : wp_C_refuse a p0 A kc ks Q) : mm_S l G M_C_refuse [.ref a, .int p0] h kc ks (wQV G Q) := by
  unfold wp_C_refuse at hw
  refine mm_start rfl (Nat.le_of_ble_eq_true rfl) ?_
  show mm_V l G M_C_refuse kc ks 0 [some (va_rf (some a)), some (.int p0)] [] h _
  refine wr_aload_n (some a) (pc' := 1) d_C_refuse_0 rfl rfl rfl ?_
  refine mm_iload_n (pc' := 2) d_C_refuse_1 rfl rfl rfl ?_
  refine wr_ldcS (pc' := 4) d_C_refuse_2 rfl ld_C_34 ?_
  refine wr_cVVx (pc' := 7) (as := [.int p0, va_rf (some 1)]) (st := []) d_C_refuse_4 rfl cs_C_36 rfl (W := fun b c s Q' => wp_C_respond b p0 (some 1) A c s Q') hV hw (fun b c s Q' hw => sd_C_respond hV hw) rfl rfl (Nat.le_of_ble_eq_true rfl) (Nat.le_of_ble_eq_true rfl) (fun h A kc ks hV hw => ?_)
  refine wr_aload_n (some a) (pc' := 8) d_C_refuse_7 rfl rfl rfl ?_
  refine mm_iconst (v := 0) (pc' := 9) d_C_refuse_8 rfl (by decide) ?_
  refine wr_put hV hw (pc' := 12) d_C_refuse_9 rfl pl_C_refuse_23 (Nat.le_of_ble_eq_true rfl) (fun _ => ⟨rfl, rfl⟩) (fun h A hV hw => ?_)
  exact wr_vret hV d_C_refuse_12 rfl hw
theorem d_S_send_0 : decode prog_1_method_2_code 0 = .ok (.aload_n 0, 1) := by decide +kernel
theorem d_S_send_1 : decode prog_1_method_2_code 1 = .ok (.iload_n 1, 1) := by decide +kernel
theorem d_S_send_2 : decode prog_1_method_2_code 2 = .ok (.invokevirtual 40, 3) := by decide +kernel
theorem d_S_send_5 : decode prog_1_method_2_code 5 = .ok (.ifCond .eq 13, 3) := by decide +kernel
theorem d_S_send_8 : decode prog_1_method_2_code 8 = .ok (.iload_n 3, 1) := by decide +kernel
theorem d_S_send_9 : decode prog_1_method_2_code 9 = .ok (.iconst 1, 1) := by decide +kernel
theorem d_S_send_10 : decode prog_1_method_2_code 10 = .ok (.if_icmp .lt 8, 3) := by decide +kernel
theorem d_S_send_13 : decode prog_1_method_2_code 13 = .ok (.iload_n 3, 1) := by decide +kernel
theorem d_S_send_14 : decode prog_1_method_2_code 14 = .ok (.iconst 4, 1) := by decide +kernel
theorem d_S_send_15 : decode prog_1_method_2_code 15 = .ok (.if_icmp .le 5, 3) := by decide +kernel
theorem d_S_send_18 : decode prog_1_method_2_code 18 = .ok (.iconst (-1), 1) := by decide +kernel
theorem d_S_send_19 : decode prog_1_method_2_code 19 = .ok (.ireturn, 1) := by decide +kernel
theorem d_S_send_20 : decode prog_1_method_2_code 20 = .ok (.aload_n 0, 1) := by decide +kernel
theorem d_S_send_21 : decode prog_1_method_2_code 21 = .ok (.getfield 11, 3) := by decide +kernel
theorem d_S_send_24 : decode prog_1_method_2_code 24 = .ok (.iload_n 1, 1) := by decide +kernel
theorem d_S_send_25 : decode prog_1_method_2_code 25 = .ok (.aaload, 1) := by decide +kernel
theorem d_S_send_26 : decode prog_1_method_2_code 26 = .ok (.astore 4, 2) := by decide +kernel
theorem d_S_send_28 : decode prog_1_method_2_code 28 = .ok (.iconst 1, 1) := by decide +kernel
theorem d_S_send_29 : decode prog_1_method_2_code 29 = .ok (.istore 5, 2) := by decide +kernel
theorem d_S_send_31 : decode prog_1_method_2_code 31 = .ok (.iload 5, 2) := by decide +kernel
theorem d_S_send_33 : decode prog_1_method_2_code 33 = .ok (.iload_n 3, 1) := by decide +kernel
theorem d_S_send_34 : decode prog_1_method_2_code 34 = .ok (.if_icmp .gt 65, 3) := by decide +kernel
theorem d_S_send_37 : decode prog_1_method_2_code 37 = .ok (.aload 4, 2) := by decide +kernel
theorem d_S_send_39 : decode prog_1_method_2_code 39 = .ok (.getfield 44, 3) := by decide +kernel
theorem d_S_send_42 : decode prog_1_method_2_code 42 = .ok (.iload_n 2, 1) := by decide +kernel
theorem d_S_send_43 : decode prog_1_method_2_code 43 = .ok (.iload_n 3, 1) := by decide +kernel
theorem d_S_send_44 : decode prog_1_method_2_code 44 = .ok (.iload 5, 2) := by decide +kernel
theorem d_S_send_46 : decode prog_1_method_2_code 46 = .ok (.isub, 1) := by decide +kernel
theorem d_S_send_47 : decode prog_1_method_2_code 47 = .ok (.invokestatic 48, 3) := by decide +kernel
theorem d_S_send_50 : decode prog_1_method_2_code 50 = .ok (.invokevirtual 52, 3) := by decide +kernel
theorem d_S_send_53 : decode prog_1_method_2_code 53 = .ok (.istore 6, 2) := by decide +kernel
theorem d_S_send_55 : decode prog_1_method_2_code 55 = .ok (.iload 6, 2) := by decide +kernel
theorem d_S_send_57 : decode prog_1_method_2_code 57 = .ok (.iconst 1, 1) := by decide +kernel
theorem d_S_send_58 : decode prog_1_method_2_code 58 = .ok (.if_icmp .ne 12, 3) := by decide +kernel
theorem d_S_send_61 : decode prog_1_method_2_code 61 = .ok (.aload_n 0, 1) := by decide +kernel
theorem d_S_send_62 : decode prog_1_method_2_code 62 = .ok (.aload 4, 2) := by decide +kernel
theorem d_S_send_64 : decode prog_1_method_2_code 64 = .ok (.invokevirtual 58, 3) := by decide +kernel
theorem d_S_send_67 : decode prog_1_method_2_code 67 = .ok (.goto 15, 3) := by decide +kernel
theorem d_S_send_70 : decode prog_1_method_2_code 70 = .ok (.iload 6, 2) := by decide +kernel
theorem d_S_send_72 : decode prog_1_method_2_code 72 = .ok (.ifCond .eq 10, 3) := by decide +kernel
theorem d_S_send_75 : decode prog_1_method_2_code 75 = .ok (.aload 4, 2) := by decide +kernel
theorem d_S_send_77 : decode prog_1_method_2_code 77 = .ok (.iload 6, 2) := by decide +kernel
theorem d_S_send_79 : decode prog_1_method_2_code 79 = .ok (.invokevirtual 62, 3) := by decide +kernel
theorem d_S_send_82 : decode prog_1_method_2_code 82 = .ok (.aload 4, 2) := by decide +kernel
theorem d_S_send_84 : decode prog_1_method_2_code 84 = .ok (.getfield 66, 3) := by decide +kernel
theorem d_S_send_87 : decode prog_1_method_2_code 87 = .ok (.ifCond .ne 6, 3) := by decide +kernel
theorem d_S_send_90 : decode prog_1_method_2_code 90 = .ok (.iload 5, 2) := by decide +kernel
theorem d_S_send_92 : decode prog_1_method_2_code 92 = .ok (.ireturn, 1) := by decide +kernel
theorem d_S_send_93 : decode prog_1_method_2_code 93 = .ok (.iinc 5 1, 3) := by decide +kernel
theorem d_S_send_96 : decode prog_1_method_2_code 96 = .ok (.goto (-65), 3) := by decide +kernel
theorem d_S_send_99 : decode prog_1_method_2_code 99 = .ok (.iload_n 3, 1) := by decide +kernel
theorem d_S_send_100 : decode prog_1_method_2_code 100 = .ok (.ireturn, 1) := by decide +kernel
def wq_S_send_82 (a : Nat) (p0 : Int32) (p1 : Int32) (p2 : Int32) (Q : Int32 → ab_H → Prop) (k31 : Option Nat → Int32 → ab_H → Nat → Nat → Prop) (u4 : Option Nat) (u5 : Int32) (A : ab_H) (kc ks : Nat) : Prop := wgI A u4 4 2 (fun x1 => if x1 = 0 then (Q u5 A) else (k31 u4 (u5 + 1) A kc ks))
set_option maxRecDepth 100000 in
set_option maxHeartbeats 4000000 in
theorem sq_S_send_82 {l : Launch} {G : mm_G} {a : Nat} {p0 : Int32} {p1 : Int32} {p2 : Int32} {Q : Int32 → ab_H → Prop} {k31 : Option Nat → Int32 → ab_H → Nat → Nat → Prop} (hk31 : ∀ (u4 : Option Nat) (u5 : Int32) (A : ab_H) (kc ks : Nat) (h : mm_H), Vw G h A → k31 u4 u5 A kc ks → mm_V l G M_S_send kc ks 31 [some (va_rf (some a)), some (.int p0), some (.int p1), some (.int p2), some (va_rf u4), some (.int u5), none] [] h (wQI G Q)) : ∀ (u4 : Option Nat) (u5 : Int32) (A : ab_H) (kc ks : Nat) (h : mm_H), Vw G h A → wq_S_send_82 a p0 p1 p2 Q k31 u4 u5 A kc ks → mm_V l G M_S_send kc ks 82 [some (va_rf (some a)), some (.int p0), some (.int p1), some (.int p2), some (va_rf u4), some (.int u5), none] [] h (wQI G Q) := by
  intro u4 u5 A kc ks h hV hw
  unfold wq_S_send_82 at hw
  refine wr_aload u4 (pc' := 84) d_S_send_82 rfl rfl ?_
  refine wr_getI hV hw (pc' := 87) d_S_send_84 rfl fl_S_66 (fun x1 hw => ?_)
  refine wr_if_ne hw (pc' := 90) d_S_send_87 rfl rfl (fun hw => ?_) (fun hw => ?_)
  · refine mm_iinc5 (v := (u5 + 1)) (pc' := 96) d_S_send_93 rfl (wr_2 _) rfl (Nat.le_of_ble_eq_true rfl) ?_
    refine mm_goto (tgt := 31) d_S_send_96 rfl ?_
    exact mm_drop (mm_le.s (mm_le.s (mm_le.s (mm_le.s (mm_le.s (mm_le.s (mm_le.n mm_le.e))))))) (hk31 _ _ _ _ _ _ hV hw)
  · refine mm_iload (pc' := 92) d_S_send_90 rfl rfl ?_
    exact wr_iret hV d_S_send_92 rfl rfl hw
def wb_S_send_31 (a : Nat) (p0 : Int32) (p1 : Int32) (p2 : Int32) (Q : Int32 → ab_H → Prop)  (k31 : Option Nat → Int32 → ab_H → Nat → Nat → Prop) (u4 : Option Nat) (u5 : Int32) (A : ab_H) (kc ks : Nat) : Prop := if p2 < u5 then (Q p2 A) else (wgR A u4 4 0 (fun r2 => wp_S_byteOf p1 (p2 - u5) A (fun x3 A => wC A r2 5 (fun b => wX kc ks (wp_R_take b x3 A) (fun x4 A kc ks => if x4 = (1 : Int32) then (wC A (some a) 3 (fun b => wXV kc ks (wp_S_serve b u4 A) (fun A kc ks => wq_S_send_82 a p0 p1 p2 Q k31 u4 u5 A kc ks))) else (if x4 = 0 then (wq_S_send_82 a p0 p1 p2 Q k31 u4 u5 A kc ks) else (wC A u4 4 (fun b => wXV kc ks (wp_C_refuse b x4 A) (fun A kc ks => wq_S_send_82 a p0 p1 p2 Q k31 u4 u5 A kc ks)))))))))
def wq_S_send_31 (a : Nat) (p0 : Int32) (p1 : Int32) (p2 : Int32) (Q : Int32 → ab_H → Prop)  : Nat → Option Nat → Int32 → ab_H → Nat → Nat → Prop
  | 0 => fun _ _ _ _ _ => False
  | n + 1 => wb_S_send_31 a p0 p1 p2 Q  (wq_S_send_31 a p0 p1 p2 Q  n)
set_option maxRecDepth 100000 in
set_option maxHeartbeats 4000000 in
theorem sq_S_send_31 {l : Launch} {G : mm_G} {a : Nat} {p0 : Int32} {p1 : Int32} {p2 : Int32} {Q : Int32 → ab_H → Prop}   : ∀ (n : Nat) (u4 : Option Nat) (u5 : Int32) (A : ab_H) (kc ks : Nat) (h : mm_H), Vw G h A → wq_S_send_31 a p0 p1 p2 Q  n u4 u5 A kc ks → mm_V l G M_S_send kc ks 31 [some (va_rf (some a)), some (.int p0), some (.int p1), some (.int p2), some (va_rf u4), some (.int u5), none] [] h (wQI G Q) := by
  intro n
  induction n with
  | zero =>
    intro u4 u5 A kc ks h hV hw
    exact absurd hw id
  | succ n hk31 =>
    intro u4 u5 A kc ks h hV hw
    have hw : wb_S_send_31 a p0 p1 p2 Q  (wq_S_send_31 a p0 p1 p2 Q  n) u4 u5 A kc ks := hw
    unfold wb_S_send_31 at hw
    refine mm_iload (pc' := 33) d_S_send_31 rfl rfl ?_
    refine mm_iload_n (pc' := 34) d_S_send_33 rfl rfl rfl ?_
    refine wr_icmp_gt hw (pc' := 37) d_S_send_34 rfl rfl (fun hw => ?_) (fun hw => ?_)
    · refine mm_iload_n (pc' := 100) d_S_send_99 rfl rfl rfl ?_
      exact wr_iret hV d_S_send_100 rfl rfl hw
    · refine wr_aload u4 (pc' := 39) d_S_send_37 rfl rfl ?_
      refine wr_getR hV hw (pc' := 42) d_S_send_39 rfl fl_S_44 (fun r2 hw => ?_)
      refine mm_iload_n (pc' := 43) d_S_send_42 rfl rfl rfl ?_
      refine mm_iload_n (pc' := 44) d_S_send_43 rfl rfl rfl ?_
      refine mm_iload (pc' := 46) d_S_send_44 rfl rfl ?_
      refine mm_isub (pc' := 47) d_S_send_46 rfl ?_
      refine wr_cSI (pc' := 50) (as := [.int p1, .int (p2 - u5)]) (st := [va_rf r2]) d_S_send_47 rfl cs_S_48 (sd_S_byteOf hV hw) rfl rfl (Nat.le_of_ble_eq_true rfl) (Nat.le_trans (wr_hR wr_h0) (Nat.le_of_ble_eq_true rfl)) (fun x3 h A hV hw => ?_)
      refine wr_cVIx (pc' := 53) (as := [.int x3]) (st := []) d_S_send_50 rfl cs_S_52 rfl (W := fun b c s Q' => wp_R_take b x3 A c s Q') hV hw (fun b c s Q' hw => sd_R_take hV hw) rfl rfl (Nat.le_of_ble_eq_true rfl) (Nat.le_of_ble_eq_true rfl) (fun x4 h A kc ks hV hw => ?_)
      refine mm_ist6 (pc' := 55) d_S_send_53 rfl rfl (Nat.le_of_ble_eq_true rfl) ?_
      refine mm_iload (pc' := 57) d_S_send_55 rfl rfl ?_
      refine mm_iconst (v := 1) (pc' := 58) d_S_send_57 rfl (by decide) ?_
      refine wr_icmp_ne hw (pc' := 61) d_S_send_58 rfl rfl (fun hw => ?_) (fun hw => ?_)
      · refine mm_iload (pc' := 72) d_S_send_70 rfl rfl ?_
        refine wr_if_eq hw (pc' := 75) d_S_send_72 rfl rfl (fun hw => ?_) (fun hw => ?_)
        · exact mm_drop (mm_le.s (mm_le.s (mm_le.s (mm_le.s (mm_le.s (mm_le.s (mm_le.n mm_le.e))))))) (sq_S_send_82 hk31 _ _ _ _ _ _ hV hw)
        · refine wr_aload u4 (pc' := 77) d_S_send_75 rfl rfl ?_
          refine mm_iload (pc' := 79) d_S_send_77 rfl rfl ?_
          refine wr_cVVx (pc' := 82) (as := [.int x4]) (st := []) d_S_send_79 rfl cs_S_62 rfl (W := fun b c s Q' => wp_C_refuse b x4 A c s Q') hV hw (fun b c s Q' hw => sd_C_refuse hV hw) rfl rfl (Nat.le_of_ble_eq_true rfl) (Nat.le_of_ble_eq_true rfl) (fun h A kc ks hV hw => ?_)
          exact mm_drop (mm_le.s (mm_le.s (mm_le.s (mm_le.s (mm_le.s (mm_le.s (mm_le.n mm_le.e))))))) (sq_S_send_82 hk31 _ _ _ _ _ _ hV hw)
      · refine wr_aload_n (some a) (pc' := 62) d_S_send_61 rfl rfl rfl ?_
        refine wr_aload u4 (pc' := 64) d_S_send_62 rfl rfl ?_
        refine wr_cVVx (pc' := 67) (as := [va_rf u4]) (st := []) d_S_send_64 rfl cs_S_58 rfl (W := fun b c s Q' => wp_S_serve b u4 A c s Q') hV hw (fun b c s Q' hw => sd_S_serve hV hw) rfl rfl (Nat.le_of_ble_eq_true rfl) (Nat.le_of_ble_eq_true rfl) (fun h A kc ks hV hw => ?_)
        refine mm_goto (tgt := 82) d_S_send_67 rfl ?_
        exact mm_drop (mm_le.s (mm_le.s (mm_le.s (mm_le.s (mm_le.s (mm_le.s (mm_le.n mm_le.e))))))) (sq_S_send_82 hk31 _ _ _ _ _ _ hV hw)
def wp_S_send (a : Nat) (p0 : Int32) (p1 : Int32) (p2 : Int32) (A : ab_H) (kc ks : Nat) (Q : Int32 → ab_H → Prop) : Prop := wC A (some a) 3 (fun b => wp_S_isOpen b p0 A (fun x5 A => if x5 = 0 then (Q ((-1) : Int32) A) else (if p2 < (1 : Int32) then (Q ((-1) : Int32) A) else (if p2 ≤ (4 : Int32) then (wgR A (some a) 3 0 (fun r6 => wAO A r6 p0 (fun r7 => ∃ n, wq_S_send_31 a p0 p1 p2 Q n r7 (1 : Int32) A kc ks))) else (Q ((-1) : Int32) A)))))
set_option maxRecDepth 100000 in
set_option maxHeartbeats 4000000 in
theorem sd_S_send {l : Launch} {G : mm_G} {h : mm_H} {A : ab_H} {a : Nat} {p0 : Int32} {p1 : Int32} {p2 : Int32} {kc ks : Nat} {Q : Int32 → ab_H → Prop} (hV : Vw G h A) (hw : wp_S_send a p0 p1 p2 A kc ks Q) : mm_S l G M_S_send [.ref a, .int p0, .int p1, .int p2] h kc ks (wQI G Q) := by
  unfold wp_S_send at hw
  refine mm_start rfl (Nat.le_of_ble_eq_true rfl) ?_
  show mm_V l G M_S_send kc ks 0 [some (va_rf (some a)), some (.int p0), some (.int p1), some (.int p2), none, none, none] [] h _
  refine wr_aload_n (some a) (pc' := 1) d_S_send_0 rfl rfl rfl ?_
  refine mm_iload_n (pc' := 2) d_S_send_1 rfl rfl rfl ?_
  refine wr_cVI (pc' := 5) (as := [.int p0]) (st := []) d_S_send_2 rfl cs_S_40 rfl (W := fun b Q' => wp_S_isOpen b p0 A Q') hV hw (fun b Q' hw => sd_S_isOpen hV hw) rfl rfl (Nat.le_of_ble_eq_true rfl) (Nat.le_of_ble_eq_true rfl) (fun x5 h A hV hw => ?_)
  refine wr_if_eq hw (pc' := 8) d_S_send_5 rfl rfl (fun hw => ?_) (fun hw => ?_)
  · refine mm_iconst (v := (-1)) (pc' := 19) d_S_send_18 rfl (by decide) ?_
    exact wr_iret hV d_S_send_19 rfl rfl hw
  · refine mm_iload_n (pc' := 9) d_S_send_8 rfl rfl rfl ?_
    refine mm_iconst (v := 1) (pc' := 10) d_S_send_9 rfl (by decide) ?_
    refine wr_icmp_lt hw (pc' := 13) d_S_send_10 rfl rfl (fun hw => ?_) (fun hw => ?_)
    · refine mm_iconst (v := (-1)) (pc' := 19) d_S_send_18 rfl (by decide) ?_
      exact wr_iret hV d_S_send_19 rfl rfl hw
    · refine mm_iload_n (pc' := 14) d_S_send_13 rfl rfl rfl ?_
      refine mm_iconst (v := 4) (pc' := 15) d_S_send_14 rfl (by decide) ?_
      refine wr_icmp_le hw (pc' := 18) d_S_send_15 rfl rfl (fun hw => ?_) (fun hw => ?_)
      · refine wr_aload_n (some a) (pc' := 21) d_S_send_20 rfl rfl rfl ?_
        refine wr_getR hV hw (pc' := 24) d_S_send_21 rfl fl_S_11 (fun r6 hw => ?_)
        refine mm_iload_n (pc' := 25) d_S_send_24 rfl rfl rfl ?_
        refine wr_aldO hV hw (pc' := 26) d_S_send_25 rfl (fun r7 hw => ?_)
        refine wr_ast4 (pc' := 28) d_S_send_26 rfl rfl (Nat.le_of_ble_eq_true rfl) ?_
        refine mm_iconst (v := 1) (pc' := 29) d_S_send_28 rfl (by decide) ?_
        refine mm_ist5 (pc' := 31) d_S_send_29 rfl (wr_2 _) (Nat.le_of_ble_eq_true rfl) ?_
        obtain ⟨n, hw⟩ := hw
        exact mm_drop (mm_le.s (mm_le.s (mm_le.s (mm_le.s (mm_le.s (mm_le.s (mm_le.n mm_le.e))))))) (sq_S_send_31  n _ _ _ _ _ _ hV hw)
      · refine mm_iconst (v := (-1)) (pc' := 19) d_S_send_18 rfl (by decide) ?_
        exact wr_iret hV d_S_send_19 rfl rfl hw
theorem d_C_renew_0 : decode prog_2_method_2_code 0 = .ok (.aload_n 0, 1) := by decide +kernel
theorem d_C_renew_1 : decode prog_2_method_2_code 1 = .ok (.getfield 10, 3) := by decide +kernel
theorem d_C_renew_4 : decode prog_2_method_2_code 4 = .ok (.invokevirtual 27, 3) := by decide +kernel
theorem d_C_renew_7 : decode prog_2_method_2_code 7 = .ok (.aload_n 0, 1) := by decide +kernel
theorem d_C_renew_8 : decode prog_2_method_2_code 8 = .ok (.getfield 19, 3) := by decide +kernel
theorem d_C_renew_11 : decode prog_2_method_2_code 11 = .ok (.iconst 0, 1) := by decide +kernel
theorem d_C_renew_12 : decode prog_2_method_2_code 12 = .ok (.invokevirtual 30, 3) := by decide +kernel
theorem d_C_renew_15 : decode prog_2_method_2_code 15 = .ok (.aload_n 0, 1) := by decide +kernel
theorem d_C_renew_16 : decode prog_2_method_2_code 16 = .ok (.iconst 1, 1) := by decide +kernel
theorem d_C_renew_17 : decode prog_2_method_2_code 17 = .ok (.putfield 23, 3) := by decide +kernel
theorem d_C_renew_20 : decode prog_2_method_2_code 20 = .ok (.return_, 1) := by decide +kernel
def wp_C_renew (a : Nat) (A : ab_H) (kc ks : Nat) (Q : ab_H → Prop) : Prop := wgR A (some a) 4 0 (fun r1 => wC A r1 5 (fun b => wXV kc ks (wp_R_begin b  A) (fun A kc ks => wgR A (some a) 4 1 (fun r2 => wj_SB_setLength A kc ks r2 (0 : Int32) (fun A kc ks => wp A (some a) 4 2 (.int (1 : Int32)) (fun A => Q A))))))
set_option maxRecDepth 100000 in
set_option maxHeartbeats 4000000 in
theorem sd_C_renew {l : Launch} {G : mm_G} {h : mm_H} {A : ab_H} {a : Nat} {kc ks : Nat} {Q : ab_H → Prop} (hV : Vw G h A) (hw : wp_C_renew a A kc ks Q) : mm_S l G M_C_renew [.ref a] h kc ks (wQV G Q) := by
  unfold wp_C_renew at hw
  refine mm_start rfl (Nat.le_of_ble_eq_true rfl) ?_
  show mm_V l G M_C_renew kc ks 0 [some (va_rf (some a))] [] h _
  refine wr_aload_n (some a) (pc' := 1) d_C_renew_0 rfl rfl rfl ?_
  refine wr_getR hV hw (pc' := 4) d_C_renew_1 rfl fl_C_10 (fun r1 hw => ?_)
  refine wr_cVVx (pc' := 7) (as := []) (st := []) d_C_renew_4 rfl cs_C_27 rfl (W := fun b c s Q' => wp_R_begin b  A c s Q') hV hw (fun b c s Q' hw => sd_R_begin hV hw) rfl rfl (Nat.le_of_ble_eq_true rfl) (Nat.le_of_ble_eq_true rfl) (fun h A kc ks hV hw => ?_)
  refine wr_aload_n (some a) (pc' := 8) d_C_renew_7 rfl rfl rfl ?_
  refine wr_getR hV hw (pc' := 11) d_C_renew_8 rfl fl_C_19 (fun r2 hw => ?_)
  refine mm_iconst (v := 0) (pc' := 12) d_C_renew_11 rfl (by decide) ?_
  refine wr_SB_setLength hV hw (pc' := 15) d_C_renew_12 rfl cs_C_30 (Nat.le_of_ble_eq_true rfl) (Nat.le_of_ble_eq_true rfl) (fun h A kc ks hV hw => ?_)
  refine wr_aload_n (some a) (pc' := 16) d_C_renew_15 rfl rfl rfl ?_
  refine mm_iconst (v := 1) (pc' := 17) d_C_renew_16 rfl (by decide) ?_
  refine wr_put hV hw (pc' := 20) d_C_renew_17 rfl pl_C_renew_23 (Nat.le_of_ble_eq_true rfl) (fun _ => ⟨rfl, rfl⟩) (fun h A hV hw => ?_)
  exact wr_vret hV d_C_renew_20 rfl hw
theorem d_S_open_0 : decode prog_1_method_3_code 0 = .ok (.iload_n 1, 1) := by decide +kernel
theorem d_S_open_1 : decode prog_1_method_3_code 1 = .ok (.invokestatic 70, 3) := by decide +kernel
theorem d_S_open_4 : decode prog_1_method_3_code 4 = .ok (.ifCond .ne 5, 3) := by decide +kernel
theorem d_S_open_7 : decode prog_1_method_3_code 7 = .ok (.iconst 0, 1) := by decide +kernel
theorem d_S_open_8 : decode prog_1_method_3_code 8 = .ok (.ireturn, 1) := by decide +kernel
theorem d_S_open_9 : decode prog_1_method_3_code 9 = .ok (.aload_n 0, 1) := by decide +kernel
theorem d_S_open_10 : decode prog_1_method_3_code 10 = .ok (.getfield 11, 3) := by decide +kernel
theorem d_S_open_13 : decode prog_1_method_3_code 13 = .ok (.iload_n 1, 1) := by decide +kernel
theorem d_S_open_14 : decode prog_1_method_3_code 14 = .ok (.aaload, 1) := by decide +kernel
theorem d_S_open_15 : decode prog_1_method_3_code 15 = .ok (.invokevirtual 73, 3) := by decide +kernel
theorem d_S_open_18 : decode prog_1_method_3_code 18 = .ok (.iconst 1, 1) := by decide +kernel
theorem d_S_open_19 : decode prog_1_method_3_code 19 = .ok (.ireturn, 1) := by decide +kernel
def wp_S_open (a : Nat) (p0 : Int32) (A : ab_H) (kc ks : Nat) (Q : Int32 → ab_H → Prop) : Prop := wp_S_isConnection p0 A (fun x1 A => if x1 = 0 then (Q (0 : Int32) A) else (wgR A (some a) 3 0 (fun r2 => wAO A r2 p0 (fun r3 => wC A r3 4 (fun b => wXV kc ks (wp_C_renew b  A) (fun A kc ks => Q (1 : Int32) A))))))
set_option maxRecDepth 100000 in
set_option maxHeartbeats 4000000 in
theorem sd_S_open {l : Launch} {G : mm_G} {h : mm_H} {A : ab_H} {a : Nat} {p0 : Int32} {kc ks : Nat} {Q : Int32 → ab_H → Prop} (hV : Vw G h A) (hw : wp_S_open a p0 A kc ks Q) : mm_S l G M_S_open [.ref a, .int p0] h kc ks (wQI G Q) := by
  unfold wp_S_open at hw
  refine mm_start rfl (Nat.le_of_ble_eq_true rfl) ?_
  show mm_V l G M_S_open kc ks 0 [some (va_rf (some a)), some (.int p0)] [] h _
  refine mm_iload_n (pc' := 1) d_S_open_0 rfl rfl rfl ?_
  refine wr_cSI (pc' := 4) (as := [.int p0]) (st := []) d_S_open_1 rfl cs_S_70 (sd_S_isConnection hV hw) rfl rfl (Nat.le_of_ble_eq_true rfl) (Nat.le_of_ble_eq_true rfl) (fun x1 h A hV hw => ?_)
  refine wr_if_ne hw (pc' := 7) d_S_open_4 rfl rfl (fun hw => ?_) (fun hw => ?_)
  · refine wr_aload_n (some a) (pc' := 10) d_S_open_9 rfl rfl rfl ?_
    refine wr_getR hV hw (pc' := 13) d_S_open_10 rfl fl_S_11 (fun r2 hw => ?_)
    refine mm_iload_n (pc' := 14) d_S_open_13 rfl rfl rfl ?_
    refine wr_aldO hV hw (pc' := 15) d_S_open_14 rfl (fun r3 hw => ?_)
    refine wr_cVVx (pc' := 18) (as := []) (st := []) d_S_open_15 rfl cs_S_73 rfl (W := fun b c s Q' => wp_C_renew b  A c s Q') hV hw (fun b c s Q' hw => sd_C_renew hV hw) rfl rfl (Nat.le_of_ble_eq_true rfl) (Nat.le_of_ble_eq_true rfl) (fun h A kc ks hV hw => ?_)
    refine mm_iconst (v := 1) (pc' := 19) d_S_open_18 rfl (by decide) ?_
    exact wr_iret hV d_S_open_19 rfl rfl hw
  · refine mm_iconst (v := 0) (pc' := 8) d_S_open_7 rfl (by decide) ?_
    exact wr_iret hV d_S_open_8 rfl rfl hw
theorem d_S_size_0 : decode prog_1_method_5_code 0 = .ok (.iload_n 1, 1) := by decide +kernel
theorem d_S_size_1 : decode prog_1_method_5_code 1 = .ok (.invokestatic 70, 3) := by decide +kernel
theorem d_S_size_4 : decode prog_1_method_5_code 4 = .ok (.ifCond .eq 18, 3) := by decide +kernel
theorem d_S_size_7 : decode prog_1_method_5_code 7 = .ok (.aload_n 0, 1) := by decide +kernel
theorem d_S_size_8 : decode prog_1_method_5_code 8 = .ok (.getfield 11, 3) := by decide +kernel
theorem d_S_size_11 : decode prog_1_method_5_code 11 = .ok (.iload_n 1, 1) := by decide +kernel
theorem d_S_size_12 : decode prog_1_method_5_code 12 = .ok (.aaload, 1) := by decide +kernel
theorem d_S_size_13 : decode prog_1_method_5_code 13 = .ok (.getfield 76, 3) := by decide +kernel
theorem d_S_size_16 : decode prog_1_method_5_code 16 = .ok (.invokevirtual 79, 3) := by decide +kernel
theorem d_S_size_19 : decode prog_1_method_5_code 19 = .ok (.goto 4, 3) := by decide +kernel
theorem d_S_size_22 : decode prog_1_method_5_code 22 = .ok (.iconst 0, 1) := by decide +kernel
theorem d_S_size_23 : decode prog_1_method_5_code 23 = .ok (.ireturn, 1) := by decide +kernel
def wp_S_size (a : Nat) (p0 : Int32) (A : ab_H) (Q : Int32 → ab_H → Prop) : Prop := wp_S_isConnection p0 A (fun x1 A => if x1 = 0 then (Q (0 : Int32) A) else (wgR A (some a) 3 0 (fun r2 => wAO A r2 p0 (fun r3 => wgR A r3 4 1 (fun r4 => wj_SB_length A r4  (fun x5 => Q x5 A))))))
set_option maxRecDepth 100000 in
set_option maxHeartbeats 4000000 in
theorem sd_S_size {l : Launch} {G : mm_G} {h : mm_H} {A : ab_H} {a : Nat} {p0 : Int32} {Q : Int32 → ab_H → Prop} (hV : Vw G h A) (hw : wp_S_size a p0 A Q) : mm_S l G M_S_size [.ref a, .int p0] h 0 0 (wQI G Q) := by
  unfold wp_S_size at hw
  refine mm_start rfl (Nat.le_of_ble_eq_true rfl) ?_
  show mm_V l G M_S_size 0 0 0 [some (va_rf (some a)), some (.int p0)] [] h _
  refine mm_iload_n (pc' := 1) d_S_size_0 rfl rfl rfl ?_
  refine wr_cSI (pc' := 4) (as := [.int p0]) (st := []) d_S_size_1 rfl cs_S_70 (sd_S_isConnection hV hw) rfl rfl (Nat.le_of_ble_eq_true rfl) (Nat.le_of_ble_eq_true rfl) (fun x1 h A hV hw => ?_)
  refine wr_if_eq hw (pc' := 7) d_S_size_4 rfl rfl (fun hw => ?_) (fun hw => ?_)
  · refine mm_iconst (v := 0) (pc' := 23) d_S_size_22 rfl (by decide) ?_
    exact wr_iret hV d_S_size_23 rfl rfl hw
  · refine wr_aload_n (some a) (pc' := 8) d_S_size_7 rfl rfl rfl ?_
    refine wr_getR hV hw (pc' := 11) d_S_size_8 rfl fl_S_11 (fun r2 hw => ?_)
    refine mm_iload_n (pc' := 12) d_S_size_11 rfl rfl rfl ?_
    refine wr_aldO hV hw (pc' := 13) d_S_size_12 rfl (fun r3 hw => ?_)
    refine wr_getR hV hw (pc' := 16) d_S_size_13 rfl fl_S_76 (fun r4 hw => ?_)
    refine wr_SB_length hV hw (pc' := 19) d_S_size_16 rfl cs_S_79 (Nat.le_of_ble_eq_true rfl) (Nat.le_of_ble_eq_true rfl) (fun x5 hw => ?_)
    refine mm_goto (tgt := 23) d_S_size_19 rfl ?_
    exact wr_iret hV d_S_size_23 rfl rfl hw
theorem d_S_at_0 : decode prog_1_method_6_code 0 = .ok (.iload_n 2, 1) := by decide +kernel
theorem d_S_at_1 : decode prog_1_method_6_code 1 = .ok (.ifCond .lt 28, 3) := by decide +kernel
theorem d_S_at_4 : decode prog_1_method_6_code 4 = .ok (.iload_n 2, 1) := by decide +kernel
theorem d_S_at_5 : decode prog_1_method_6_code 5 = .ok (.aload_n 0, 1) := by decide +kernel
theorem d_S_at_6 : decode prog_1_method_6_code 6 = .ok (.iload_n 1, 1) := by decide +kernel
theorem d_S_at_7 : decode prog_1_method_6_code 7 = .ok (.invokevirtual 83, 3) := by decide +kernel
theorem d_S_at_10 : decode prog_1_method_6_code 10 = .ok (.if_icmp .ge 19, 3) := by decide +kernel
theorem d_S_at_13 : decode prog_1_method_6_code 13 = .ok (.aload_n 0, 1) := by decide +kernel
theorem d_S_at_14 : decode prog_1_method_6_code 14 = .ok (.getfield 11, 3) := by decide +kernel
theorem d_S_at_17 : decode prog_1_method_6_code 17 = .ok (.iload_n 1, 1) := by decide +kernel
theorem d_S_at_18 : decode prog_1_method_6_code 18 = .ok (.aaload, 1) := by decide +kernel
theorem d_S_at_19 : decode prog_1_method_6_code 19 = .ok (.getfield 76, 3) := by decide +kernel
theorem d_S_at_22 : decode prog_1_method_6_code 22 = .ok (.iload_n 2, 1) := by decide +kernel
theorem d_S_at_23 : decode prog_1_method_6_code 23 = .ok (.invokevirtual 86, 3) := by decide +kernel
theorem d_S_at_26 : decode prog_1_method_6_code 26 = .ok (.goto 4, 3) := by decide +kernel
theorem d_S_at_29 : decode prog_1_method_6_code 29 = .ok (.iconst (-1), 1) := by decide +kernel
theorem d_S_at_30 : decode prog_1_method_6_code 30 = .ok (.ireturn, 1) := by decide +kernel
def wp_S_at (a : Nat) (p0 : Int32) (p1 : Int32) (A : ab_H) (Q : Int32 → ab_H → Prop) : Prop := if p1 < 0 then (Q ((-1) : Int32) A) else (wC A (some a) 3 (fun b => wp_S_size b p0 A (fun x1 A => if x1 ≤ p1 then (Q ((-1) : Int32) A) else (wgR A (some a) 3 0 (fun r2 => wAO A r2 p0 (fun r3 => wgR A r3 4 1 (fun r4 => wj_SB_charAt A r4 p1 (fun x5 => Q x5 A))))))))
set_option maxRecDepth 100000 in
set_option maxHeartbeats 4000000 in
theorem sd_S_at {l : Launch} {G : mm_G} {h : mm_H} {A : ab_H} {a : Nat} {p0 : Int32} {p1 : Int32} {Q : Int32 → ab_H → Prop} (hV : Vw G h A) (hw : wp_S_at a p0 p1 A Q) : mm_S l G M_S_at [.ref a, .int p0, .int p1] h 0 0 (wQI G Q) := by
  unfold wp_S_at at hw
  refine mm_start rfl (Nat.le_of_ble_eq_true rfl) ?_
  show mm_V l G M_S_at 0 0 0 [some (va_rf (some a)), some (.int p0), some (.int p1)] [] h _
  refine mm_iload_n (pc' := 1) d_S_at_0 rfl rfl rfl ?_
  refine wr_if_lt hw (pc' := 4) d_S_at_1 rfl rfl (fun hw => ?_) (fun hw => ?_)
  · refine mm_iconst (v := (-1)) (pc' := 30) d_S_at_29 rfl (by decide) ?_
    exact wr_iret hV d_S_at_30 rfl rfl hw
  · refine mm_iload_n (pc' := 5) d_S_at_4 rfl rfl rfl ?_
    refine wr_aload_n (some a) (pc' := 6) d_S_at_5 rfl rfl rfl ?_
    refine mm_iload_n (pc' := 7) d_S_at_6 rfl rfl rfl ?_
    refine wr_cVI (pc' := 10) (as := [.int p0]) (st := [.int p1]) d_S_at_7 rfl cs_S_83 rfl (W := fun b Q' => wp_S_size b p0 A Q') hV hw (fun b Q' hw => sd_S_size hV hw) rfl rfl (Nat.le_of_ble_eq_true rfl) (Nat.le_of_ble_eq_true rfl) (fun x1 h A hV hw => ?_)
    refine wr_icmp_ge hw (pc' := 13) d_S_at_10 rfl rfl (fun hw => ?_) (fun hw => ?_)
    · refine mm_iconst (v := (-1)) (pc' := 30) d_S_at_29 rfl (by decide) ?_
      exact wr_iret hV d_S_at_30 rfl rfl hw
    · refine wr_aload_n (some a) (pc' := 14) d_S_at_13 rfl rfl rfl ?_
      refine wr_getR hV hw (pc' := 17) d_S_at_14 rfl fl_S_11 (fun r2 hw => ?_)
      refine mm_iload_n (pc' := 18) d_S_at_17 rfl rfl rfl ?_
      refine wr_aldO hV hw (pc' := 19) d_S_at_18 rfl (fun r3 hw => ?_)
      refine wr_getR hV hw (pc' := 22) d_S_at_19 rfl fl_S_76 (fun r4 hw => ?_)
      refine mm_iload_n (pc' := 23) d_S_at_22 rfl rfl rfl ?_
      refine wr_SB_charAt hV hw (pc' := 26) d_S_at_23 rfl cs_S_86 (Nat.le_of_ble_eq_true rfl) (Nat.le_of_ble_eq_true rfl) (fun x5 hw => ?_)
      refine mm_goto (tgt := 30) d_S_at_26 rfl ?_
      exact wr_iret hV d_S_at_30 rfl rfl hw
theorem d_S_type_0 : decode prog_1_method_7_code 0 = .ok (.iload_n 2, 1) := by decide +kernel
theorem d_S_type_1 : decode prog_1_method_7_code 1 = .ok (.iconst 1, 1) := by decide +kernel
theorem d_S_type_2 : decode prog_1_method_7_code 2 = .ok (.if_icmp .lt 22, 3) := by decide +kernel
theorem d_S_type_5 : decode prog_1_method_7_code 5 = .ok (.iload_n 2, 1) := by decide +kernel
theorem d_S_type_6 : decode prog_1_method_7_code 6 = .ok (.iconst 4, 1) := by decide +kernel
theorem d_S_type_7 : decode prog_1_method_7_code 7 = .ok (.if_icmp .gt 17, 3) := by decide +kernel
theorem d_S_type_10 : decode prog_1_method_7_code 10 = .ok (.aload_n 0, 1) := by decide +kernel
theorem d_S_type_11 : decode prog_1_method_7_code 11 = .ok (.getfield 23, 3) := by decide +kernel
theorem d_S_type_14 : decode prog_1_method_7_code 14 = .ok (.invokevirtual 79, 3) := by decide +kernel
theorem d_S_type_17 : decode prog_1_method_7_code 17 = .ok (.iload_n 2, 1) := by decide +kernel
theorem d_S_type_18 : decode prog_1_method_7_code 18 = .ok (.iadd, 1) := by decide +kernel
theorem d_S_type_19 : decode prog_1_method_7_code 19 = .ok (.bipush 40, 2) := by decide +kernel
theorem d_S_type_21 : decode prog_1_method_7_code 21 = .ok (.if_icmp .le 5, 3) := by decide +kernel
theorem d_S_type_24 : decode prog_1_method_7_code 24 = .ok (.iconst 0, 1) := by decide +kernel
theorem d_S_type_25 : decode prog_1_method_7_code 25 = .ok (.ireturn, 1) := by decide +kernel
theorem d_S_type_26 : decode prog_1_method_7_code 26 = .ok (.iconst 0, 1) := by decide +kernel
theorem d_S_type_27 : decode prog_1_method_7_code 27 = .ok (.istore_n 3, 1) := by decide +kernel
theorem d_S_type_28 : decode prog_1_method_7_code 28 = .ok (.iload_n 3, 1) := by decide +kernel
theorem d_S_type_29 : decode prog_1_method_7_code 29 = .ok (.iload_n 2, 1) := by decide +kernel
theorem d_S_type_30 : decode prog_1_method_7_code 30 = .ok (.if_icmp .ge 22, 3) := by decide +kernel
theorem d_S_type_33 : decode prog_1_method_7_code 33 = .ok (.iload_n 1, 1) := by decide +kernel
theorem d_S_type_34 : decode prog_1_method_7_code 34 = .ok (.iload_n 3, 1) := by decide +kernel
theorem d_S_type_35 : decode prog_1_method_7_code 35 = .ok (.invokestatic 48, 3) := by decide +kernel
theorem d_S_type_38 : decode prog_1_method_7_code 38 = .ok (.invokestatic 90, 3) := by decide +kernel
theorem d_S_type_41 : decode prog_1_method_7_code 41 = .ok (.ifCond .ne 5, 3) := by decide +kernel
theorem d_S_type_44 : decode prog_1_method_7_code 44 = .ok (.iconst 0, 1) := by decide +kernel
theorem d_S_type_45 : decode prog_1_method_7_code 45 = .ok (.ireturn, 1) := by decide +kernel
theorem d_S_type_46 : decode prog_1_method_7_code 46 = .ok (.iinc 3 1, 3) := by decide +kernel
theorem d_S_type_49 : decode prog_1_method_7_code 49 = .ok (.goto (-21), 3) := by decide +kernel
theorem d_S_type_52 : decode prog_1_method_7_code 52 = .ok (.iload_n 2, 1) := by decide +kernel
theorem d_S_type_53 : decode prog_1_method_7_code 53 = .ok (.iconst 1, 1) := by decide +kernel
theorem d_S_type_54 : decode prog_1_method_7_code 54 = .ok (.isub, 1) := by decide +kernel
theorem d_S_type_55 : decode prog_1_method_7_code 55 = .ok (.istore_n 3, 1) := by decide +kernel
theorem d_S_type_56 : decode prog_1_method_7_code 56 = .ok (.iload_n 3, 1) := by decide +kernel
theorem d_S_type_57 : decode prog_1_method_7_code 57 = .ok (.ifCond .lt 23, 3) := by decide +kernel
theorem d_S_type_60 : decode prog_1_method_7_code 60 = .ok (.aload_n 0, 1) := by decide +kernel
theorem d_S_type_61 : decode prog_1_method_7_code 61 = .ok (.getfield 23, 3) := by decide +kernel
theorem d_S_type_64 : decode prog_1_method_7_code 64 = .ok (.iload_n 1, 1) := by decide +kernel
theorem d_S_type_65 : decode prog_1_method_7_code 65 = .ok (.iload_n 3, 1) := by decide +kernel
theorem d_S_type_66 : decode prog_1_method_7_code 66 = .ok (.invokestatic 48, 3) := by decide +kernel
theorem d_S_type_69 : decode prog_1_method_7_code 69 = .ok (.i2c, 1) := by decide +kernel
theorem d_S_type_70 : decode prog_1_method_7_code 70 = .ok (.invokevirtual 95, 3) := by decide +kernel
theorem d_S_type_73 : decode prog_1_method_7_code 73 = .ok (.pop, 1) := by decide +kernel
theorem d_S_type_74 : decode prog_1_method_7_code 74 = .ok (.iinc 3 (-1), 3) := by decide +kernel
theorem d_S_type_77 : decode prog_1_method_7_code 77 = .ok (.goto (-21), 3) := by decide +kernel
theorem d_S_type_80 : decode prog_1_method_7_code 80 = .ok (.iconst 1, 1) := by decide +kernel
theorem d_S_type_81 : decode prog_1_method_7_code 81 = .ok (.ireturn, 1) := by decide +kernel
def wb_S_type_56 (a : Nat) (p0 : Int32) (p1 : Int32) (Q : Int32 → ab_H → Prop)  (k56 : Int32 → ab_H → Nat → Nat → Prop) (u3 : Int32) (A : ab_H) (kc ks : Nat) : Prop := if u3 < 0 then (Q (1 : Int32) A) else (wgR A (some a) 3 2 (fun r1 => wp_S_byteOf p0 u3 A (fun x2 A => wj_SB_append_C A kc ks r1 (wch x2) (fun r3 A kc ks => k56 (u3 - 1) A kc ks))))
def wq_S_type_56 (a : Nat) (p0 : Int32) (p1 : Int32) (Q : Int32 → ab_H → Prop)  : Nat → Int32 → ab_H → Nat → Nat → Prop
  | 0 => fun _ _ _ _ => False
  | n + 1 => wb_S_type_56 a p0 p1 Q  (wq_S_type_56 a p0 p1 Q  n)
set_option maxRecDepth 100000 in
set_option maxHeartbeats 4000000 in
theorem sq_S_type_56 {l : Launch} {G : mm_G} {a : Nat} {p0 : Int32} {p1 : Int32} {Q : Int32 → ab_H → Prop}   : ∀ (n : Nat) (u3 : Int32) (A : ab_H) (kc ks : Nat) (h : mm_H), Vw G h A → wq_S_type_56 a p0 p1 Q  n u3 A kc ks → mm_V l G M_S_type kc ks 56 [some (va_rf (some a)), some (.int p0), some (.int p1), some (.int u3)] [] h (wQI G Q) := by
  intro n
  induction n with
  | zero =>
    intro u3 A kc ks h hV hw
    exact absurd hw id
  | succ n hk56 =>
    intro u3 A kc ks h hV hw
    have hw : wb_S_type_56 a p0 p1 Q  (wq_S_type_56 a p0 p1 Q  n) u3 A kc ks := hw
    unfold wb_S_type_56 at hw
    refine mm_iload_n (pc' := 57) d_S_type_56 rfl rfl rfl ?_
    refine wr_if_lt hw (pc' := 60) d_S_type_57 rfl rfl (fun hw => ?_) (fun hw => ?_)
    · refine mm_iconst (v := 1) (pc' := 81) d_S_type_80 rfl (by decide) ?_
      exact wr_iret hV d_S_type_81 rfl rfl hw
    · refine wr_aload_n (some a) (pc' := 61) d_S_type_60 rfl rfl rfl ?_
      refine wr_getR hV hw (pc' := 64) d_S_type_61 rfl fl_S_23 (fun r1 hw => ?_)
      refine mm_iload_n (pc' := 65) d_S_type_64 rfl rfl rfl ?_
      refine mm_iload_n (pc' := 66) d_S_type_65 rfl rfl rfl ?_
      refine wr_cSI (pc' := 69) (as := [.int p0, .int u3]) (st := [va_rf r1]) d_S_type_66 rfl cs_S_48 (sd_S_byteOf hV hw) rfl rfl (Nat.le_of_ble_eq_true rfl) (Nat.le_trans (wr_hR wr_h0) (Nat.le_of_ble_eq_true rfl)) (fun x2 h A hV hw => ?_)
      refine mm_i2c (v := wch x2) (pc' := 70) d_S_type_69 rfl rfl ?_
      refine wr_SB_append_C hV hw (pc' := 73) d_S_type_70 rfl cs_S_95 (Nat.le_of_ble_eq_true rfl) (Nat.le_of_ble_eq_true rfl) (fun r3 h A kc ks hV hw => ?_)
      refine mm_pop (pc' := 74) d_S_type_73 rfl (wr_cat _) ?_
      refine mm_iinc3 (v := (u3 - 1)) (pc' := 77) d_S_type_74 rfl rfl (mm_dec _) (Nat.le_of_ble_eq_true rfl) ?_
      refine mm_goto (tgt := 56) d_S_type_77 rfl ?_
      exact mm_drop (mm_le.s (mm_le.s (mm_le.s (mm_le.s mm_le.e)))) (hk56 _ _ _ _ _ hV hw)
def wq_S_type_52 (a : Nat) (p0 : Int32) (p1 : Int32) (Q : Int32 → ab_H → Prop)   (A : ab_H) (kc ks : Nat) : Prop := wL ((p1 - (1 : Int32))) (fun x4 => ∃ n, wq_S_type_56 a p0 p1 Q n x4 A kc ks)
set_option maxRecDepth 100000 in
set_option maxHeartbeats 4000000 in
theorem sq_S_type_52 {l : Launch} {G : mm_G} {a : Nat} {p0 : Int32} {p1 : Int32} {Q : Int32 → ab_H → Prop}   : ∀ (A : ab_H) (kc ks : Nat) (h : mm_H), Vw G h A → wq_S_type_52 a p0 p1 Q  A kc ks → mm_V l G M_S_type kc ks 52 [some (va_rf (some a)), some (.int p0), some (.int p1), none] [] h (wQI G Q) := by
  intro A kc ks h hV hw
  unfold wq_S_type_52 at hw
  refine mm_iload_n (pc' := 53) d_S_type_52 rfl rfl rfl ?_
  refine mm_iconst (v := 1) (pc' := 54) d_S_type_53 rfl (by decide) ?_
  refine mm_isub (pc' := 55) d_S_type_54 rfl ?_
  refine wr_let (P := fun z => mm_V l G M_S_type kc ks 55 [some (va_rf (some a)), some (.int p0), some (.int p1), none] (.int z :: []) h _) hw (fun x4 hw => ?_)
  refine mm_ist3 (pc' := 56) d_S_type_55 rfl rfl (Nat.le_of_ble_eq_true rfl) ?_
  obtain ⟨n, hw⟩ := hw
  exact mm_drop (mm_le.s (mm_le.s (mm_le.s (mm_le.s mm_le.e)))) (sq_S_type_56  n _ _ _ _ _ hV hw)
def wb_S_type_28 (a : Nat) (p0 : Int32) (p1 : Int32) (Q : Int32 → ab_H → Prop)  (k28 : Int32 → ab_H → Nat → Nat → Prop) (u3 : Int32) (A : ab_H) (kc ks : Nat) : Prop := if p1 ≤ u3 then (wq_S_type_52 a p0 p1 Q A kc ks) else (wp_S_byteOf p0 u3 A (fun x5 A => wp_X_isPlain x5 A (fun x6 A => if x6 = 0 then (Q (0 : Int32) A) else (k28 (u3 + 1) A kc ks))))
def wq_S_type_28 (a : Nat) (p0 : Int32) (p1 : Int32) (Q : Int32 → ab_H → Prop)  : Nat → Int32 → ab_H → Nat → Nat → Prop
  | 0 => fun _ _ _ _ => False
  | n + 1 => wb_S_type_28 a p0 p1 Q  (wq_S_type_28 a p0 p1 Q  n)
set_option maxRecDepth 100000 in
set_option maxHeartbeats 4000000 in
theorem sq_S_type_28 {l : Launch} {G : mm_G} {a : Nat} {p0 : Int32} {p1 : Int32} {Q : Int32 → ab_H → Prop}   : ∀ (n : Nat) (u3 : Int32) (A : ab_H) (kc ks : Nat) (h : mm_H), Vw G h A → wq_S_type_28 a p0 p1 Q  n u3 A kc ks → mm_V l G M_S_type kc ks 28 [some (va_rf (some a)), some (.int p0), some (.int p1), some (.int u3)] [] h (wQI G Q) := by
  intro n
  induction n with
  | zero =>
    intro u3 A kc ks h hV hw
    exact absurd hw id
  | succ n hk28 =>
    intro u3 A kc ks h hV hw
    have hw : wb_S_type_28 a p0 p1 Q  (wq_S_type_28 a p0 p1 Q  n) u3 A kc ks := hw
    unfold wb_S_type_28 at hw
    refine mm_iload_n (pc' := 29) d_S_type_28 rfl rfl rfl ?_
    refine mm_iload_n (pc' := 30) d_S_type_29 rfl rfl rfl ?_
    refine wr_icmp_ge hw (pc' := 33) d_S_type_30 rfl rfl (fun hw => ?_) (fun hw => ?_)
    · exact mm_drop (mm_le.s (mm_le.s (mm_le.s (mm_le.n mm_le.e)))) (sq_S_type_52  _ _ _ _ hV hw)
    · refine mm_iload_n (pc' := 34) d_S_type_33 rfl rfl rfl ?_
      refine mm_iload_n (pc' := 35) d_S_type_34 rfl rfl rfl ?_
      refine wr_cSI (pc' := 38) (as := [.int p0, .int u3]) (st := []) d_S_type_35 rfl cs_S_48 (sd_S_byteOf hV hw) rfl rfl (Nat.le_of_ble_eq_true rfl) (Nat.le_of_ble_eq_true rfl) (fun x5 h A hV hw => ?_)
      refine wr_cSI (pc' := 41) (as := [.int x5]) (st := []) d_S_type_38 rfl cs_S_90 (sd_X_isPlain hV hw) rfl rfl (Nat.le_of_ble_eq_true rfl) (Nat.le_of_ble_eq_true rfl) (fun x6 h A hV hw => ?_)
      refine wr_if_ne hw (pc' := 44) d_S_type_41 rfl rfl (fun hw => ?_) (fun hw => ?_)
      · refine mm_iinc3 (v := (u3 + 1)) (pc' := 49) d_S_type_46 rfl rfl rfl (Nat.le_of_ble_eq_true rfl) ?_
        refine mm_goto (tgt := 28) d_S_type_49 rfl ?_
        exact mm_drop (mm_le.s (mm_le.s (mm_le.s (mm_le.s mm_le.e)))) (hk28 _ _ _ _ _ hV hw)
      · refine mm_iconst (v := 0) (pc' := 45) d_S_type_44 rfl (by decide) ?_
        exact wr_iret hV d_S_type_45 rfl rfl hw
def wp_S_type (a : Nat) (p0 : Int32) (p1 : Int32) (A : ab_H) (kc ks : Nat) (Q : Int32 → ab_H → Prop) : Prop := if p1 < (1 : Int32) then (Q (0 : Int32) A) else (if (4 : Int32) < p1 then (Q (0 : Int32) A) else (wgR A (some a) 3 2 (fun r7 => wj_SB_length A r7  (fun x8 => if (x8 + p1) ≤ (40 : Int32) then (∃ n, wq_S_type_28 a p0 p1 Q n (0 : Int32) A kc ks) else (Q (0 : Int32) A)))))
set_option maxRecDepth 100000 in
set_option maxHeartbeats 4000000 in
theorem sd_S_type {l : Launch} {G : mm_G} {h : mm_H} {A : ab_H} {a : Nat} {p0 : Int32} {p1 : Int32} {kc ks : Nat} {Q : Int32 → ab_H → Prop} (hV : Vw G h A) (hw : wp_S_type a p0 p1 A kc ks Q) : mm_S l G M_S_type [.ref a, .int p0, .int p1] h kc ks (wQI G Q) := by
  unfold wp_S_type at hw
  refine mm_start rfl (Nat.le_of_ble_eq_true rfl) ?_
  show mm_V l G M_S_type kc ks 0 [some (va_rf (some a)), some (.int p0), some (.int p1), none] [] h _
  refine mm_iload_n (pc' := 1) d_S_type_0 rfl rfl rfl ?_
  refine mm_iconst (v := 1) (pc' := 2) d_S_type_1 rfl (by decide) ?_
  refine wr_icmp_lt hw (pc' := 5) d_S_type_2 rfl rfl (fun hw => ?_) (fun hw => ?_)
  · refine mm_iconst (v := 0) (pc' := 25) d_S_type_24 rfl (by decide) ?_
    exact wr_iret hV d_S_type_25 rfl rfl hw
  · refine mm_iload_n (pc' := 6) d_S_type_5 rfl rfl rfl ?_
    refine mm_iconst (v := 4) (pc' := 7) d_S_type_6 rfl (by decide) ?_
    refine wr_icmp_gt hw (pc' := 10) d_S_type_7 rfl rfl (fun hw => ?_) (fun hw => ?_)
    · refine mm_iconst (v := 0) (pc' := 25) d_S_type_24 rfl (by decide) ?_
      exact wr_iret hV d_S_type_25 rfl rfl hw
    · refine wr_aload_n (some a) (pc' := 11) d_S_type_10 rfl rfl rfl ?_
      refine wr_getR hV hw (pc' := 14) d_S_type_11 rfl fl_S_23 (fun r7 hw => ?_)
      refine wr_SB_length hV hw (pc' := 17) d_S_type_14 rfl cs_S_79 (Nat.le_of_ble_eq_true rfl) (Nat.le_of_ble_eq_true rfl) (fun x8 hw => ?_)
      refine mm_iload_n (pc' := 18) d_S_type_17 rfl rfl rfl ?_
      refine mm_iadd (pc' := 19) d_S_type_18 rfl ?_
      refine mm_bipush (v := 40) (pc' := 21) d_S_type_19 rfl (by decide) ?_
      refine wr_icmp_le hw (pc' := 24) d_S_type_21 rfl rfl (fun hw => ?_) (fun hw => ?_)
      · refine mm_iconst (v := 0) (pc' := 27) d_S_type_26 rfl (by decide) ?_
        refine mm_ist3 (pc' := 28) d_S_type_27 rfl rfl (Nat.le_of_ble_eq_true rfl) ?_
        obtain ⟨n, hw⟩ := hw
        exact mm_drop (mm_le.s (mm_le.s (mm_le.s (mm_le.s mm_le.e)))) (sq_S_type_28  n _ _ _ _ _ hV hw)
      · refine mm_iconst (v := 0) (pc' := 25) d_S_type_24 rfl (by decide) ?_
        exact wr_iret hV d_S_type_25 rfl rfl hw
theorem d_H_init_0 : decode prog_3_method_1_code 0 = .ok (.aload_n 0, 1) := by decide +kernel
theorem d_H_init_1 : decode prog_3_method_1_code 1 = .ok (.invokespecial 1, 3) := by decide +kernel
theorem d_H_init_4 : decode prog_3_method_1_code 4 = .ok (.aload_n 0, 1) := by decide +kernel
theorem d_H_init_5 : decode prog_3_method_1_code 5 = .ok (.iload_n 1, 1) := by decide +kernel
theorem d_H_init_6 : decode prog_3_method_1_code 6 = .ok (.putfield 7, 3) := by decide +kernel
theorem d_H_init_9 : decode prog_3_method_1_code 9 = .ok (.aload_n 0, 1) := by decide +kernel
theorem d_H_init_10 : decode prog_3_method_1_code 10 = .ok (.iload_n 2, 1) := by decide +kernel
theorem d_H_init_11 : decode prog_3_method_1_code 11 = .ok (.putfield 13, 3) := by decide +kernel
theorem d_H_init_14 : decode prog_3_method_1_code 14 = .ok (.aload_n 0, 1) := by decide +kernel
theorem d_H_init_15 : decode prog_3_method_1_code 15 = .ok (.aload_n 3, 1) := by decide +kernel
theorem d_H_init_16 : decode prog_3_method_1_code 16 = .ok (.putfield 16, 3) := by decide +kernel
theorem d_H_init_19 : decode prog_3_method_1_code 19 = .ok (.aload_n 0, 1) := by decide +kernel
theorem d_H_init_20 : decode prog_3_method_1_code 20 = .ok (.aload 4, 2) := by decide +kernel
theorem d_H_init_22 : decode prog_3_method_1_code 22 = .ok (.putfield 20, 3) := by decide +kernel
theorem d_H_init_25 : decode prog_3_method_1_code 25 = .ok (.aload_n 0, 1) := by decide +kernel
theorem d_H_init_26 : decode prog_3_method_1_code 26 = .ok (.aload 5, 2) := by decide +kernel
theorem d_H_init_28 : decode prog_3_method_1_code 28 = .ok (.putfield 23, 3) := by decide +kernel
theorem d_H_init_31 : decode prog_3_method_1_code 31 = .ok (.return_, 1) := by decide +kernel
def wp_H_init (a : Nat) (p0 : Int32) (p1 : Int32) (p2 : Option Nat) (p3 : Option Nat) (p4 : Option Nat) (A : ab_H) (Q : ab_H → Prop) : Prop := (∃ b, (some a) = some b) ∧ (wp A (some a) 9 0 (.int p0) (fun A => wp A (some a) 9 1 (.int p1) (fun A => wp A (some a) 9 2 (va_rf p2) (fun A => wp A (some a) 9 3 (va_rf p3) (fun A => wp A (some a) 9 4 (va_rf p4) (fun A => Q A))))))
set_option maxRecDepth 100000 in
set_option maxHeartbeats 4000000 in
theorem sd_H_init {l : Launch} {G : mm_G} {h : mm_H} {A : ab_H} {a : Nat} {p0 : Int32} {p1 : Int32} {p2 : Option Nat} {p3 : Option Nat} {p4 : Option Nat} {Q : ab_H → Prop} (hV : Vw G h A) (hw : wp_H_init a p0 p1 p2 p3 p4 A Q) : mm_S l G M_H_init [.ref a, .int p0, .int p1, va_rf p2, va_rf p3, va_rf p4] h 0 0 (wQV G Q) := by
  unfold wp_H_init at hw
  refine mm_start rfl (by simp [mm_as, wr_cat, wr_catI, wr_catJ, wr_catN]) ?_
  rw [show mm_en [.ref a, .int p0, .int p1, va_rf p2, va_rf p3, va_rf p4] M_H_init.2.2.1 = [some (.ref a), some (.int p0), some (.int p1), some (va_rf p2), some (va_rf p3), some (va_rf p4)] from by simp [mm_en, mm_as, wr_cat, wr_catI, wr_catJ, wr_catN]]
  show mm_V l G M_H_init 0 0 0 [some (va_rf (some a)), some (.int p0), some (.int p1), some (va_rf p2), some (va_rf p3), some (va_rf p4)] [] h _
  refine wr_aload_n (some a) (pc' := 1) d_H_init_0 rfl rfl rfl ?_
  obtain ⟨ho, hw⟩ := hw
  refine wr_objInit ho (pc' := 4) d_H_init_1 rfl oi_H_1 (Nat.le_of_ble_eq_true rfl) (Nat.le_of_ble_eq_true rfl) ?_
  refine wr_aload_n (some a) (pc' := 5) d_H_init_4 rfl rfl rfl ?_
  refine mm_iload_n (pc' := 6) d_H_init_5 rfl rfl rfl ?_
  refine wr_put hV hw (pc' := 9) d_H_init_6 rfl pl_H_init_7 (Nat.le_of_ble_eq_true rfl) (wn_I _) (fun h A hV hw => ?_)
  refine wr_aload_n (some a) (pc' := 10) d_H_init_9 rfl rfl rfl ?_
  refine mm_iload_n (pc' := 11) d_H_init_10 rfl rfl rfl ?_
  refine wr_put hV hw (pc' := 14) d_H_init_11 rfl pl_H_init_13 (Nat.le_of_ble_eq_true rfl) (wn_I _) (fun h A hV hw => ?_)
  refine wr_aload_n (some a) (pc' := 15) d_H_init_14 rfl rfl rfl ?_
  refine wr_aload_n p2 (pc' := 16) d_H_init_15 rfl rfl rfl ?_
  refine wr_put hV hw (pc' := 19) d_H_init_16 rfl pl_H_init_16 (Nat.le_of_ble_eq_true rfl) (wn_O _ _) (fun h A hV hw => ?_)
  refine wr_aload_n (some a) (pc' := 20) d_H_init_19 rfl rfl rfl ?_
  refine wr_aload p3 (pc' := 22) d_H_init_20 rfl rfl ?_
  refine wr_put hV hw (pc' := 25) d_H_init_22 rfl pl_H_init_20 (Nat.le_of_ble_eq_true rfl) (wn_O _ _) (fun h A hV hw => ?_)
  refine wr_aload_n (some a) (pc' := 26) d_H_init_25 rfl rfl rfl ?_
  refine wr_aload p4 (pc' := 28) d_H_init_26 rfl rfl ?_
  refine wr_put hV hw (pc' := 31) d_H_init_28 rfl pl_H_init_23 (Nat.le_of_ble_eq_true rfl) (wn_O _ _) (fun h A hV hw => ?_)
  exact wr_vret hV d_H_init_31 rfl hw
theorem d_N_endRow_0 : decode prog_5_method_6_code 0 = .ok (.aload_n 0, 1) := by decide +kernel
theorem d_N_endRow_1 : decode prog_5_method_6_code 1 = .ok (.dup, 1) := by decide +kernel
theorem d_N_endRow_2 : decode prog_5_method_6_code 2 = .ok (.getfield 63, 3) := by decide +kernel
theorem d_N_endRow_5 : decode prog_5_method_6_code 5 = .ok (.lconst 1, 1) := by decide +kernel
theorem d_N_endRow_6 : decode prog_5_method_6_code 6 = .ok (.aload_n 0, 1) := by decide +kernel
theorem d_N_endRow_7 : decode prog_5_method_6_code 7 = .ok (.getfield 42, 3) := by decide +kernel
theorem d_N_endRow_10 : decode prog_5_method_6_code 10 = .ok (.lshl, 1) := by decide +kernel
theorem d_N_endRow_11 : decode prog_5_method_6_code 11 = .ok (.lor, 1) := by decide +kernel
theorem d_N_endRow_12 : decode prog_5_method_6_code 12 = .ok (.putfield 63, 3) := by decide +kernel
theorem d_N_endRow_15 : decode prog_5_method_6_code 15 = .ok (.aload_n 0, 1) := by decide +kernel
theorem d_N_endRow_16 : decode prog_5_method_6_code 16 = .ok (.dup, 1) := by decide +kernel
theorem d_N_endRow_17 : decode prog_5_method_6_code 17 = .ok (.getfield 42, 3) := by decide +kernel
theorem d_N_endRow_20 : decode prog_5_method_6_code 20 = .ok (.iconst 1, 1) := by decide +kernel
theorem d_N_endRow_21 : decode prog_5_method_6_code 21 = .ok (.iadd, 1) := by decide +kernel
theorem d_N_endRow_22 : decode prog_5_method_6_code 22 = .ok (.putfield 42, 3) := by decide +kernel
theorem d_N_endRow_25 : decode prog_5_method_6_code 25 = .ok (.return_, 1) := by decide +kernel
def wp_N_endRow (a : Nat) (A : ab_H) (Q : ab_H → Prop) : Prop := wgJ A (some a) 10 4 (fun y1 => wgI A (some a) 10 2 (fun x2 => wp A (some a) 10 4 (.long (y1 ||| (wsl (1 : Int64) x2))) (fun A => wgI A (some a) 10 2 (fun x3 => wp A (some a) 10 2 (.int (x3 + (1 : Int32))) (fun A => Q A)))))
set_option maxRecDepth 100000 in
set_option maxHeartbeats 4000000 in
theorem sd_N_endRow {l : Launch} {G : mm_G} {h : mm_H} {A : ab_H} {a : Nat} {Q : ab_H → Prop} (hV : Vw G h A) (hw : wp_N_endRow a A Q) : mm_S l G M_N_endRow [.ref a] h 0 0 (wQV G Q) := by
  unfold wp_N_endRow at hw
  refine mm_start rfl (Nat.le_of_ble_eq_true rfl) ?_
  show mm_V l G M_N_endRow 0 0 0 [some (va_rf (some a))] [] h _
  refine wr_aload_n (some a) (pc' := 1) d_N_endRow_0 rfl rfl rfl ?_
  refine mm_dup (pc' := 2) d_N_endRow_1 rfl (wr_cat _) ?_
  refine wr_getJ hV hw (pc' := 5) d_N_endRow_2 rfl fl_N_63 (fun y1 hw => ?_)
  refine mm_lconst (v := 1) (pc' := 6) d_N_endRow_5 rfl (by decide) ?_
  refine wr_aload_n (some a) (pc' := 7) d_N_endRow_6 rfl rfl rfl ?_
  refine wr_getI hV hw (pc' := 10) d_N_endRow_7 rfl fl_N_42 (fun x2 hw => ?_)
  refine mm_lshl (v := wsl (1 : Int64) x2) (pc' := 11) d_N_endRow_10 rfl rfl ?_
  refine mm_lor (pc' := 12) d_N_endRow_11 rfl ?_
  refine wr_put hV hw (pc' := 15) d_N_endRow_12 rfl pl_N_endRow_63 (Nat.le_of_ble_eq_true rfl) (wn_J _) (fun h A hV hw => ?_)
  refine wr_aload_n (some a) (pc' := 16) d_N_endRow_15 rfl rfl rfl ?_
  refine mm_dup (pc' := 17) d_N_endRow_16 rfl (wr_cat _) ?_
  refine wr_getI hV hw (pc' := 20) d_N_endRow_17 rfl fl_N_42 (fun x3 hw => ?_)
  refine mm_iconst (v := 1) (pc' := 21) d_N_endRow_20 rfl (by decide) ?_
  refine mm_iadd (pc' := 22) d_N_endRow_21 rfl ?_
  refine wr_put hV hw (pc' := 25) d_N_endRow_22 rfl pl_N_endRow_42 (Nat.le_of_ble_eq_true rfl) (wn_I _) (fun h A hV hw => ?_)
  exact wr_vret hV d_N_endRow_25 rfl hw
theorem d_N_markPiece_0 : decode prog_5_method_5_code 0 = .ok (.lconst 1, 1) := by decide +kernel
theorem d_N_markPiece_1 : decode prog_5_method_5_code 1 = .ok (.aload_n 0, 1) := by decide +kernel
theorem d_N_markPiece_2 : decode prog_5_method_5_code 2 = .ok (.getfield 42, 3) := by decide +kernel
theorem d_N_markPiece_5 : decode prog_5_method_5_code 5 = .ok (.iconst 1, 1) := by decide +kernel
theorem d_N_markPiece_6 : decode prog_5_method_5_code 6 = .ok (.isub, 1) := by decide +kernel
theorem d_N_markPiece_7 : decode prog_5_method_5_code 7 = .ok (.lshl, 1) := by decide +kernel
theorem d_N_markPiece_8 : decode prog_5_method_5_code 8 = .ok (.lstore_n 2, 1) := by decide +kernel
theorem d_N_markPiece_9 : decode prog_5_method_5_code 9 = .ok (.aload_n 0, 1) := by decide +kernel
theorem d_N_markPiece_10 : decode prog_5_method_5_code 10 = .ok (.dup, 1) := by decide +kernel
theorem d_N_markPiece_11 : decode prog_5_method_5_code 11 = .ok (.getfield 57, 3) := by decide +kernel
theorem d_N_markPiece_14 : decode prog_5_method_5_code 14 = .ok (.lload_n 2, 1) := by decide +kernel
theorem d_N_markPiece_15 : decode prog_5_method_5_code 15 = .ok (.lor, 1) := by decide +kernel
theorem d_N_markPiece_16 : decode prog_5_method_5_code 16 = .ok (.putfield 57, 3) := by decide +kernel
theorem d_N_markPiece_19 : decode prog_5_method_5_code 19 = .ok (.aload_n 0, 1) := by decide +kernel
theorem d_N_markPiece_20 : decode prog_5_method_5_code 20 = .ok (.dup, 1) := by decide +kernel
theorem d_N_markPiece_21 : decode prog_5_method_5_code 21 = .ok (.getfield 60, 3) := by decide +kernel
theorem d_N_markPiece_24 : decode prog_5_method_5_code 24 = .ok (.iload_n 1, 1) := by decide +kernel
theorem d_N_markPiece_25 : decode prog_5_method_5_code 25 = .ok (.ifCond .eq 7, 3) := by decide +kernel
theorem d_N_markPiece_28 : decode prog_5_method_5_code 28 = .ok (.lload_n 2, 1) := by decide +kernel
theorem d_N_markPiece_29 : decode prog_5_method_5_code 29 = .ok (.goto 4, 3) := by decide +kernel
theorem d_N_markPiece_32 : decode prog_5_method_5_code 32 = .ok (.lconst 0, 1) := by decide +kernel
theorem d_N_markPiece_33 : decode prog_5_method_5_code 33 = .ok (.lor, 1) := by decide +kernel
theorem d_N_markPiece_34 : decode prog_5_method_5_code 34 = .ok (.putfield 60, 3) := by decide +kernel
theorem d_N_markPiece_37 : decode prog_5_method_5_code 37 = .ok (.return_, 1) := by decide +kernel
def wq_N_markPiece_33 (a : Nat) (p0 : Int32) (Q : ab_H → Prop)  (s0 : Option Nat) (s1 : Int64) (s2 : Int64) (A : ab_H) : Prop := wp A s0 10 7 (.long (s1 ||| s2)) (fun A => Q A)
set_option maxRecDepth 100000 in
set_option maxHeartbeats 4000000 in
theorem sq_N_markPiece_33 {l : Launch} {G : mm_G} {a : Nat} {p0 : Int32} {Q : ab_H → Prop}   : ∀ (s0 : Option Nat) (s1 : Int64) (s2 : Int64) (A : ab_H) (h : mm_H), Vw G h A → wq_N_markPiece_33 a p0 Q  s0 s1 s2 A → mm_V l G M_N_markPiece 0 0 33 [some (va_rf (some a)), some (.int p0), none, none] [.long s2, .long s1, va_rf s0] h (wQV G Q) := by
  intro s0 s1 s2 A h hV hw
  unfold wq_N_markPiece_33 at hw
  refine mm_lor (pc' := 34) d_N_markPiece_33 rfl ?_
  refine wr_put hV hw (pc' := 37) d_N_markPiece_34 rfl pl_N_markPiece_60 (Nat.le_of_ble_eq_true rfl) (wn_J _) (fun h A hV hw => ?_)
  exact wr_vret hV d_N_markPiece_37 rfl hw
def wp_N_markPiece (a : Nat) (p0 : Int32) (A : ab_H) (Q : ab_H → Prop) : Prop := wgI A (some a) 10 2 (fun x1 => wL ((wsl (1 : Int64) (x1 - (1 : Int32)))) (fun y2 => wgJ A (some a) 10 6 (fun y3 => wp A (some a) 10 6 (.long (y3 ||| y2)) (fun A => wgJ A (some a) 10 7 (fun y4 => if p0 = 0 then (wq_N_markPiece_33 a p0 Q (some a) y4 (0 : Int64) A) else (wq_N_markPiece_33 a p0 Q (some a) y4 y2 A))))))
set_option maxRecDepth 100000 in
set_option maxHeartbeats 4000000 in
theorem sd_N_markPiece {l : Launch} {G : mm_G} {h : mm_H} {A : ab_H} {a : Nat} {p0 : Int32} {Q : ab_H → Prop} (hV : Vw G h A) (hw : wp_N_markPiece a p0 A Q) : mm_S l G M_N_markPiece [.ref a, .int p0] h 0 0 (wQV G Q) := by
  unfold wp_N_markPiece at hw
  refine mm_start rfl (Nat.le_of_ble_eq_true rfl) ?_
  show mm_V l G M_N_markPiece 0 0 0 [some (va_rf (some a)), some (.int p0), none, none] [] h _
  refine mm_lconst (v := 1) (pc' := 1) d_N_markPiece_0 rfl (by decide) ?_
  refine wr_aload_n (some a) (pc' := 2) d_N_markPiece_1 rfl rfl rfl ?_
  refine wr_getI hV hw (pc' := 5) d_N_markPiece_2 rfl fl_N_42 (fun x1 hw => ?_)
  refine mm_iconst (v := 1) (pc' := 6) d_N_markPiece_5 rfl (by decide) ?_
  refine mm_isub (pc' := 7) d_N_markPiece_6 rfl ?_
  refine mm_lshl (v := wsl (1 : Int64) (x1 - (1 : Int32))) (pc' := 8) d_N_markPiece_7 rfl rfl ?_
  refine wr_let (P := fun z => mm_V l G M_N_markPiece 0 0 8 [some (va_rf (some a)), some (.int p0), none, none] (.long z :: []) h _) hw (fun y2 hw => ?_)
  refine mm_lst2 (pc' := 9) d_N_markPiece_8 rfl rfl (Nat.le_of_ble_eq_true rfl) ?_
  refine wr_aload_n (some a) (pc' := 10) d_N_markPiece_9 rfl rfl rfl ?_
  refine mm_dup (pc' := 11) d_N_markPiece_10 rfl (wr_cat _) ?_
  refine wr_getJ hV hw (pc' := 14) d_N_markPiece_11 rfl fl_N_57 (fun y3 hw => ?_)
  refine mm_lload_n (pc' := 15) d_N_markPiece_14 rfl rfl rfl ?_
  refine mm_lor (pc' := 16) d_N_markPiece_15 rfl ?_
  refine wr_put hV hw (pc' := 19) d_N_markPiece_16 rfl pl_N_markPiece_57 (Nat.le_of_ble_eq_true rfl) (wn_J _) (fun h A hV hw => ?_)
  refine wr_aload_n (some a) (pc' := 20) d_N_markPiece_19 rfl rfl rfl ?_
  refine mm_dup (pc' := 21) d_N_markPiece_20 rfl (wr_cat _) ?_
  refine wr_getJ hV hw (pc' := 24) d_N_markPiece_21 rfl fl_N_60 (fun y4 hw => ?_)
  refine mm_iload_n (pc' := 25) d_N_markPiece_24 rfl rfl rfl ?_
  refine wr_if_eq hw (pc' := 28) d_N_markPiece_25 rfl rfl (fun hw => ?_) (fun hw => ?_)
  · refine mm_lconst (v := 0) (pc' := 33) d_N_markPiece_32 rfl (by decide) ?_
    exact mm_drop (mm_le.s (mm_le.s (mm_le.n (mm_le.n mm_le.e)))) (sq_N_markPiece_33  _ _ _ _ _ hV hw)
  · refine mm_lload_n (pc' := 29) d_N_markPiece_28 rfl rfl rfl ?_
    refine mm_goto (tgt := 33) d_N_markPiece_29 rfl ?_
    exact mm_drop (mm_le.s (mm_le.s (mm_le.n (mm_le.n mm_le.e)))) (sq_N_markPiece_33  _ _ _ _ _ hV hw)
theorem d_N_addPiece_0 : decode prog_5_method_4_code 0 = .ok (.iload_n 1, 1) := by decide +kernel
theorem d_N_addPiece_1 : decode prog_5_method_4_code 1 = .ok (.bipush 46, 2) := by decide +kernel
theorem d_N_addPiece_3 : decode prog_5_method_4_code 3 = .ok (.if_icmp .ne 21, 3) := by decide +kernel
theorem d_N_addPiece_6 : decode prog_5_method_4_code 6 = .ok (.aload_n 0, 1) := by decide +kernel
theorem d_N_addPiece_7 : decode prog_5_method_4_code 7 = .ok (.dup, 1) := by decide +kernel
theorem d_N_addPiece_8 : decode prog_5_method_4_code 8 = .ok (.getfield 54, 3) := by decide +kernel
theorem d_N_addPiece_11 : decode prog_5_method_4_code 11 = .ok (.lconst 1, 1) := by decide +kernel
theorem d_N_addPiece_12 : decode prog_5_method_4_code 12 = .ok (.aload_n 0, 1) := by decide +kernel
theorem d_N_addPiece_13 : decode prog_5_method_4_code 13 = .ok (.getfield 42, 3) := by decide +kernel
theorem d_N_addPiece_16 : decode prog_5_method_4_code 16 = .ok (.lshl, 1) := by decide +kernel
theorem d_N_addPiece_17 : decode prog_5_method_4_code 17 = .ok (.lor, 1) := by decide +kernel
theorem d_N_addPiece_18 : decode prog_5_method_4_code 18 = .ok (.putfield 54, 3) := by decide +kernel
theorem d_N_addPiece_21 : decode prog_5_method_4_code 21 = .ok (.goto 13, 3) := by decide +kernel
theorem d_N_addPiece_24 : decode prog_5_method_4_code 24 = .ok (.aload_n 0, 1) := by decide +kernel
theorem d_N_addPiece_25 : decode prog_5_method_4_code 25 = .ok (.getfield 23, 3) := by decide +kernel
theorem d_N_addPiece_28 : decode prog_5_method_4_code 28 = .ok (.iload_n 2, 1) := by decide +kernel
theorem d_N_addPiece_29 : decode prog_5_method_4_code 29 = .ok (.aload_n 0, 1) := by decide +kernel
theorem d_N_addPiece_30 : decode prog_5_method_4_code 30 = .ok (.getfield 42, 3) := by decide +kernel
theorem d_N_addPiece_33 : decode prog_5_method_4_code 33 = .ok (.iastore, 1) := by decide +kernel
theorem d_N_addPiece_34 : decode prog_5_method_4_code 34 = .ok (.aload_n 0, 1) := by decide +kernel
theorem d_N_addPiece_35 : decode prog_5_method_4_code 35 = .ok (.dup, 1) := by decide +kernel
theorem d_N_addPiece_36 : decode prog_5_method_4_code 36 = .ok (.getfield 42, 3) := by decide +kernel
theorem d_N_addPiece_39 : decode prog_5_method_4_code 39 = .ok (.iconst 1, 1) := by decide +kernel
theorem d_N_addPiece_40 : decode prog_5_method_4_code 40 = .ok (.iadd, 1) := by decide +kernel
theorem d_N_addPiece_41 : decode prog_5_method_4_code 41 = .ok (.putfield 42, 3) := by decide +kernel
theorem d_N_addPiece_44 : decode prog_5_method_4_code 44 = .ok (.return_, 1) := by decide +kernel
def wq_N_addPiece_34 (a : Nat) (p0 : Int32) (p1 : Int32) (Q : ab_H → Prop)   (A : ab_H) : Prop := wgI A (some a) 10 2 (fun x1 => wp A (some a) 10 2 (.int (x1 + (1 : Int32))) (fun A => Q A))
set_option maxRecDepth 100000 in
set_option maxHeartbeats 4000000 in
theorem sq_N_addPiece_34 {l : Launch} {G : mm_G} {a : Nat} {p0 : Int32} {p1 : Int32} {Q : ab_H → Prop}   : ∀ (A : ab_H) (h : mm_H), Vw G h A → wq_N_addPiece_34 a p0 p1 Q  A → mm_V l G M_N_addPiece 0 0 34 [some (va_rf (some a)), some (.int p0), some (.int p1)] [] h (wQV G Q) := by
  intro A h hV hw
  unfold wq_N_addPiece_34 at hw
  refine wr_aload_n (some a) (pc' := 35) d_N_addPiece_34 rfl rfl rfl ?_
  refine mm_dup (pc' := 36) d_N_addPiece_35 rfl (wr_cat _) ?_
  refine wr_getI hV hw (pc' := 39) d_N_addPiece_36 rfl fl_N_42 (fun x1 hw => ?_)
  refine mm_iconst (v := 1) (pc' := 40) d_N_addPiece_39 rfl (by decide) ?_
  refine mm_iadd (pc' := 41) d_N_addPiece_40 rfl ?_
  refine wr_put hV hw (pc' := 44) d_N_addPiece_41 rfl pl_N_addPiece_42 (Nat.le_of_ble_eq_true rfl) (wn_I _) (fun h A hV hw => ?_)
  exact wr_vret hV d_N_addPiece_44 rfl hw
def wp_N_addPiece (a : Nat) (p0 : Int32) (p1 : Int32) (A : ab_H) (Q : ab_H → Prop) : Prop := if p0 = (46 : Int32) then (wgJ A (some a) 10 5 (fun y4 => wgI A (some a) 10 2 (fun x5 => wp A (some a) 10 5 (.long (y4 ||| (wsl (1 : Int64) x5))) (fun A => wq_N_addPiece_34 a p0 p1 Q A)))) else (wgR A (some a) 10 1 (fun r2 => wgI A (some a) 10 2 (fun x3 => wSI A r2 p1 x3 (fun A => wq_N_addPiece_34 a p0 p1 Q A))))
set_option maxRecDepth 100000 in
set_option maxHeartbeats 4000000 in
theorem sd_N_addPiece {l : Launch} {G : mm_G} {h : mm_H} {A : ab_H} {a : Nat} {p0 : Int32} {p1 : Int32} {Q : ab_H → Prop} (hV : Vw G h A) (hw : wp_N_addPiece a p0 p1 A Q) : mm_S l G M_N_addPiece [.ref a, .int p0, .int p1] h 0 0 (wQV G Q) := by
  unfold wp_N_addPiece at hw
  refine mm_start rfl (Nat.le_of_ble_eq_true rfl) ?_
  show mm_V l G M_N_addPiece 0 0 0 [some (va_rf (some a)), some (.int p0), some (.int p1)] [] h _
  refine mm_iload_n (pc' := 1) d_N_addPiece_0 rfl rfl rfl ?_
  refine mm_bipush (v := 46) (pc' := 3) d_N_addPiece_1 rfl (by decide) ?_
  refine wr_icmp_ne hw (pc' := 6) d_N_addPiece_3 rfl rfl (fun hw => ?_) (fun hw => ?_)
  · refine wr_aload_n (some a) (pc' := 25) d_N_addPiece_24 rfl rfl rfl ?_
    refine wr_getR hV hw (pc' := 28) d_N_addPiece_25 rfl fl_N_23 (fun r2 hw => ?_)
    refine mm_iload_n (pc' := 29) d_N_addPiece_28 rfl rfl rfl ?_
    refine wr_aload_n (some a) (pc' := 30) d_N_addPiece_29 rfl rfl rfl ?_
    refine wr_getI hV hw (pc' := 33) d_N_addPiece_30 rfl fl_N_42 (fun x3 hw => ?_)
    refine wr_astI hV hw (pc' := 34) d_N_addPiece_33 rfl (fun h A hV hw => ?_)
    exact mm_drop (mm_le.s (mm_le.s (mm_le.s mm_le.e))) (sq_N_addPiece_34  _ _ hV hw)
  · refine wr_aload_n (some a) (pc' := 7) d_N_addPiece_6 rfl rfl rfl ?_
    refine mm_dup (pc' := 8) d_N_addPiece_7 rfl (wr_cat _) ?_
    refine wr_getJ hV hw (pc' := 11) d_N_addPiece_8 rfl fl_N_54 (fun y4 hw => ?_)
    refine mm_lconst (v := 1) (pc' := 12) d_N_addPiece_11 rfl (by decide) ?_
    refine wr_aload_n (some a) (pc' := 13) d_N_addPiece_12 rfl rfl rfl ?_
    refine wr_getI hV hw (pc' := 16) d_N_addPiece_13 rfl fl_N_42 (fun x5 hw => ?_)
    refine mm_lshl (v := wsl (1 : Int64) x5) (pc' := 17) d_N_addPiece_16 rfl rfl ?_
    refine mm_lor (pc' := 18) d_N_addPiece_17 rfl ?_
    refine wr_put hV hw (pc' := 21) d_N_addPiece_18 rfl pl_N_addPiece_54 (Nat.le_of_ble_eq_true rfl) (wn_J _) (fun h A hV hw => ?_)
    refine mm_goto (tgt := 34) d_N_addPiece_21 rfl ?_
    exact mm_drop (mm_le.s (mm_le.s (mm_le.s mm_le.e))) (sq_N_addPiece_34  _ _ hV hw)
theorem d_N_readPieces_0 : decode prog_5_method_3_code 0 = .ok (.iconst 0, 1) := by decide +kernel
theorem d_N_readPieces_1 : decode prog_5_method_3_code 1 = .ok (.istore_n 1, 1) := by decide +kernel
theorem d_N_readPieces_2 : decode prog_5_method_3_code 2 = .ok (.iconst 0, 1) := by decide +kernel
theorem d_N_readPieces_3 : decode prog_5_method_3_code 3 = .ok (.istore_n 2, 1) := by decide +kernel
theorem d_N_readPieces_4 : decode prog_5_method_3_code 4 = .ok (.iconst 0, 1) := by decide +kernel
theorem d_N_readPieces_5 : decode prog_5_method_3_code 5 = .ok (.istore_n 3, 1) := by decide +kernel
theorem d_N_readPieces_6 : decode prog_5_method_3_code 6 = .ok (.iconst 0, 1) := by decide +kernel
theorem d_N_readPieces_7 : decode prog_5_method_3_code 7 = .ok (.istore 4, 2) := by decide +kernel
theorem d_N_readPieces_9 : decode prog_5_method_3_code 9 = .ok (.iload 4, 2) := by decide +kernel
theorem d_N_readPieces_11 : decode prog_5_method_3_code 11 = .ok (.aload_n 0, 1) := by decide +kernel
theorem d_N_readPieces_12 : decode prog_5_method_3_code 12 = .ok (.getfield 13, 3) := by decide +kernel
theorem d_N_readPieces_15 : decode prog_5_method_3_code 15 = .ok (.invokevirtual 17, 3) := by decide +kernel
theorem d_N_readPieces_18 : decode prog_5_method_3_code 18 = .ok (.if_icmp .ge 201, 3) := by decide +kernel
theorem d_N_readPieces_21 : decode prog_5_method_3_code 21 = .ok (.aload_n 0, 1) := by decide +kernel
theorem d_N_readPieces_22 : decode prog_5_method_3_code 22 = .ok (.getfield 13, 3) := by decide +kernel
theorem d_N_readPieces_25 : decode prog_5_method_3_code 25 = .ok (.iload 4, 2) := by decide +kernel
theorem d_N_readPieces_27 : decode prog_5_method_3_code 27 = .ok (.invokevirtual 38, 3) := by decide +kernel
theorem d_N_readPieces_30 : decode prog_5_method_3_code 30 = .ok (.istore 5, 2) := by decide +kernel
theorem d_N_readPieces_32 : decode prog_5_method_3_code 32 = .ok (.aload_n 0, 1) := by decide +kernel
theorem d_N_readPieces_33 : decode prog_5_method_3_code 33 = .ok (.getfield 23, 3) := by decide +kernel
theorem d_N_readPieces_36 : decode prog_5_method_3_code 36 = .ok (.iload 4, 2) := by decide +kernel
theorem d_N_readPieces_38 : decode prog_5_method_3_code 38 = .ok (.iconst (-1), 1) := by decide +kernel
theorem d_N_readPieces_39 : decode prog_5_method_3_code 39 = .ok (.iastore, 1) := by decide +kernel
theorem d_N_readPieces_40 : decode prog_5_method_3_code 40 = .ok (.iload_n 1, 1) := by decide +kernel
theorem d_N_readPieces_41 : decode prog_5_method_3_code 41 = .ok (.ifCond .eq 33, 3) := by decide +kernel
theorem d_N_readPieces_44 : decode prog_5_method_3_code 44 = .ok (.iload 5, 2) := by decide +kernel
theorem d_N_readPieces_46 : decode prog_5_method_3_code 46 = .ok (.bipush 91, 2) := by decide +kernel
theorem d_N_readPieces_48 : decode prog_5_method_3_code 48 = .ok (.if_icmp .eq 26, 3) := by decide +kernel
theorem d_N_readPieces_51 : decode prog_5_method_3_code 51 = .ok (.iload 5, 2) := by decide +kernel
theorem d_N_readPieces_53 : decode prog_5_method_3_code 53 = .ok (.bipush 93, 2) := by decide +kernel
theorem d_N_readPieces_55 : decode prog_5_method_3_code 55 = .ok (.if_icmp .eq 19, 3) := by decide +kernel
theorem d_N_readPieces_58 : decode prog_5_method_3_code 58 = .ok (.aload_n 0, 1) := by decide +kernel
theorem d_N_readPieces_59 : decode prog_5_method_3_code 59 = .ok (.getfield 23, 3) := by decide +kernel
theorem d_N_readPieces_62 : decode prog_5_method_3_code 62 = .ok (.iload 4, 2) := by decide +kernel
theorem d_N_readPieces_64 : decode prog_5_method_3_code 64 = .ok (.aload_n 0, 1) := by decide +kernel
theorem d_N_readPieces_65 : decode prog_5_method_3_code 65 = .ok (.getfield 42, 3) := by decide +kernel
theorem d_N_readPieces_68 : decode prog_5_method_3_code 68 = .ok (.iastore, 1) := by decide +kernel
theorem d_N_readPieces_69 : decode prog_5_method_3_code 69 = .ok (.iconst 0, 1) := by decide +kernel
theorem d_N_readPieces_70 : decode prog_5_method_3_code 70 = .ok (.istore_n 2, 1) := by decide +kernel
theorem d_N_readPieces_71 : decode prog_5_method_3_code 71 = .ok (.goto 142, 3) := by decide +kernel
theorem d_N_readPieces_74 : decode prog_5_method_3_code 74 = .ok (.iload_n 1, 1) := by decide +kernel
theorem d_N_readPieces_75 : decode prog_5_method_3_code 75 = .ok (.ifCond .eq 33, 3) := by decide +kernel
theorem d_N_readPieces_78 : decode prog_5_method_3_code 78 = .ok (.iload 5, 2) := by decide +kernel
theorem d_N_readPieces_80 : decode prog_5_method_3_code 80 = .ok (.bipush 91, 2) := by decide +kernel
theorem d_N_readPieces_82 : decode prog_5_method_3_code 82 = .ok (.if_icmp .eq 7, 3) := by decide +kernel
theorem d_N_readPieces_85 : decode prog_5_method_3_code 85 = .ok (.iload_n 2, 1) := by decide +kernel
theorem d_N_readPieces_86 : decode prog_5_method_3_code 86 = .ok (.ifCond .eq 5, 3) := by decide +kernel
theorem d_N_readPieces_89 : decode prog_5_method_3_code 89 = .ok (.iconst 0, 1) := by decide +kernel
theorem d_N_readPieces_90 : decode prog_5_method_3_code 90 = .ok (.ireturn, 1) := by decide +kernel
theorem d_N_readPieces_91 : decode prog_5_method_3_code 91 = .ok (.aload_n 0, 1) := by decide +kernel
theorem d_N_readPieces_92 : decode prog_5_method_3_code 92 = .ok (.dup, 1) := by decide +kernel
theorem d_N_readPieces_93 : decode prog_5_method_3_code 93 = .ok (.getfield 42, 3) := by decide +kernel
theorem d_N_readPieces_96 : decode prog_5_method_3_code 96 = .ok (.iconst 1, 1) := by decide +kernel
theorem d_N_readPieces_97 : decode prog_5_method_3_code 97 = .ok (.iadd, 1) := by decide +kernel
theorem d_N_readPieces_98 : decode prog_5_method_3_code 98 = .ok (.putfield 42, 3) := by decide +kernel
theorem d_N_readPieces_101 : decode prog_5_method_3_code 101 = .ok (.iconst 0, 1) := by decide +kernel
theorem d_N_readPieces_102 : decode prog_5_method_3_code 102 = .ok (.istore_n 1, 1) := by decide +kernel
theorem d_N_readPieces_103 : decode prog_5_method_3_code 103 = .ok (.iconst 1, 1) := by decide +kernel
theorem d_N_readPieces_104 : decode prog_5_method_3_code 104 = .ok (.istore_n 3, 1) := by decide +kernel
theorem d_N_readPieces_105 : decode prog_5_method_3_code 105 = .ok (.goto 108, 3) := by decide +kernel
theorem d_N_readPieces_108 : decode prog_5_method_3_code 108 = .ok (.iload 5, 2) := by decide +kernel
theorem d_N_readPieces_110 : decode prog_5_method_3_code 110 = .ok (.bipush 91, 2) := by decide +kernel
theorem d_N_readPieces_112 : decode prog_5_method_3_code 112 = .ok (.if_icmp .ne 10, 3) := by decide +kernel
theorem d_N_readPieces_115 : decode prog_5_method_3_code 115 = .ok (.iconst 1, 1) := by decide +kernel
theorem d_N_readPieces_116 : decode prog_5_method_3_code 116 = .ok (.istore_n 1, 1) := by decide +kernel
theorem d_N_readPieces_117 : decode prog_5_method_3_code 117 = .ok (.iconst 1, 1) := by decide +kernel
theorem d_N_readPieces_118 : decode prog_5_method_3_code 118 = .ok (.istore_n 2, 1) := by decide +kernel
theorem d_N_readPieces_119 : decode prog_5_method_3_code 119 = .ok (.goto 94, 3) := by decide +kernel
theorem d_N_readPieces_122 : decode prog_5_method_3_code 122 = .ok (.iload 5, 2) := by decide +kernel
theorem d_N_readPieces_124 : decode prog_5_method_3_code 124 = .ok (.bipush 124, 2) := by decide +kernel
theorem d_N_readPieces_126 : decode prog_5_method_3_code 126 = .ok (.if_icmp .ne 27, 3) := by decide +kernel
theorem d_N_readPieces_129 : decode prog_5_method_3_code 129 = .ok (.aload_n 0, 1) := by decide +kernel
theorem d_N_readPieces_130 : decode prog_5_method_3_code 130 = .ok (.invokevirtual 35, 3) := by decide +kernel
theorem d_N_readPieces_133 : decode prog_5_method_3_code 133 = .ok (.aload_n 0, 1) := by decide +kernel
theorem d_N_readPieces_134 : decode prog_5_method_3_code 134 = .ok (.dup, 1) := by decide +kernel
theorem d_N_readPieces_135 : decode prog_5_method_3_code 135 = .ok (.getfield 7, 3) := by decide +kernel
theorem d_N_readPieces_138 : decode prog_5_method_3_code 138 = .ok (.lconst 1, 1) := by decide +kernel
theorem d_N_readPieces_139 : decode prog_5_method_3_code 139 = .ok (.aload_n 0, 1) := by decide +kernel
theorem d_N_readPieces_140 : decode prog_5_method_3_code 140 = .ok (.getfield 42, 3) := by decide +kernel
theorem d_N_readPieces_143 : decode prog_5_method_3_code 143 = .ok (.lshl, 1) := by decide +kernel
theorem d_N_readPieces_144 : decode prog_5_method_3_code 144 = .ok (.lor, 1) := by decide +kernel
theorem d_N_readPieces_145 : decode prog_5_method_3_code 145 = .ok (.putfield 7, 3) := by decide +kernel
theorem d_N_readPieces_148 : decode prog_5_method_3_code 148 = .ok (.iconst 0, 1) := by decide +kernel
theorem d_N_readPieces_149 : decode prog_5_method_3_code 149 = .ok (.istore_n 3, 1) := by decide +kernel
theorem d_N_readPieces_150 : decode prog_5_method_3_code 150 = .ok (.goto 63, 3) := by decide +kernel
theorem d_N_readPieces_153 : decode prog_5_method_3_code 153 = .ok (.iload 5, 2) := by decide +kernel
theorem d_N_readPieces_155 : decode prog_5_method_3_code 155 = .ok (.bipush 42, 2) := by decide +kernel
theorem d_N_readPieces_157 : decode prog_5_method_3_code 157 = .ok (.if_icmp .eq 10, 3) := by decide +kernel
theorem d_N_readPieces_160 : decode prog_5_method_3_code 160 = .ok (.iload 5, 2) := by decide +kernel
theorem d_N_readPieces_162 : decode prog_5_method_3_code 162 = .ok (.bipush 63, 2) := by decide +kernel
theorem d_N_readPieces_164 : decode prog_5_method_3_code 164 = .ok (.if_icmp .ne 30, 3) := by decide +kernel
theorem d_N_readPieces_167 : decode prog_5_method_3_code 167 = .ok (.iload_n 3, 1) := by decide +kernel
theorem d_N_readPieces_168 : decode prog_5_method_3_code 168 = .ok (.ifCond .ne 5, 3) := by decide +kernel
theorem d_N_readPieces_171 : decode prog_5_method_3_code 171 = .ok (.iconst 0, 1) := by decide +kernel
theorem d_N_readPieces_172 : decode prog_5_method_3_code 172 = .ok (.ireturn, 1) := by decide +kernel
theorem d_N_readPieces_173 : decode prog_5_method_3_code 173 = .ok (.aload_n 0, 1) := by decide +kernel
theorem d_N_readPieces_174 : decode prog_5_method_3_code 174 = .ok (.iload 5, 2) := by decide +kernel
theorem d_N_readPieces_176 : decode prog_5_method_3_code 176 = .ok (.bipush 42, 2) := by decide +kernel
theorem d_N_readPieces_178 : decode prog_5_method_3_code 178 = .ok (.if_icmp .ne 7, 3) := by decide +kernel
theorem d_N_readPieces_181 : decode prog_5_method_3_code 181 = .ok (.iconst 1, 1) := by decide +kernel
theorem d_N_readPieces_182 : decode prog_5_method_3_code 182 = .ok (.goto 4, 3) := by decide +kernel
theorem d_N_readPieces_185 : decode prog_5_method_3_code 185 = .ok (.iconst 0, 1) := by decide +kernel
theorem d_N_readPieces_186 : decode prog_5_method_3_code 186 = .ok (.invokevirtual 46, 3) := by decide +kernel
theorem d_N_readPieces_189 : decode prog_5_method_3_code 189 = .ok (.iconst 0, 1) := by decide +kernel
theorem d_N_readPieces_190 : decode prog_5_method_3_code 190 = .ok (.istore_n 3, 1) := by decide +kernel
theorem d_N_readPieces_191 : decode prog_5_method_3_code 191 = .ok (.goto 22, 3) := by decide +kernel
theorem d_N_readPieces_194 : decode prog_5_method_3_code 194 = .ok (.iload 5, 2) := by decide +kernel
theorem d_N_readPieces_196 : decode prog_5_method_3_code 196 = .ok (.bipush 93, 2) := by decide +kernel
theorem d_N_readPieces_198 : decode prog_5_method_3_code 198 = .ok (.if_icmp .ne 5, 3) := by decide +kernel
theorem d_N_readPieces_201 : decode prog_5_method_3_code 201 = .ok (.iconst 0, 1) := by decide +kernel
theorem d_N_readPieces_202 : decode prog_5_method_3_code 202 = .ok (.ireturn, 1) := by decide +kernel
theorem d_N_readPieces_203 : decode prog_5_method_3_code 203 = .ok (.aload_n 0, 1) := by decide +kernel
theorem d_N_readPieces_204 : decode prog_5_method_3_code 204 = .ok (.iload 5, 2) := by decide +kernel
theorem d_N_readPieces_206 : decode prog_5_method_3_code 206 = .ok (.iload 4, 2) := by decide +kernel
theorem d_N_readPieces_208 : decode prog_5_method_3_code 208 = .ok (.invokevirtual 50, 3) := by decide +kernel
theorem d_N_readPieces_211 : decode prog_5_method_3_code 211 = .ok (.iconst 1, 1) := by decide +kernel
theorem d_N_readPieces_212 : decode prog_5_method_3_code 212 = .ok (.istore_n 3, 1) := by decide +kernel
theorem d_N_readPieces_213 : decode prog_5_method_3_code 213 = .ok (.iinc 4 1, 3) := by decide +kernel
theorem d_N_readPieces_216 : decode prog_5_method_3_code 216 = .ok (.goto (-207), 3) := by decide +kernel
theorem d_N_readPieces_219 : decode prog_5_method_3_code 219 = .ok (.iload_n 1, 1) := by decide +kernel
theorem d_N_readPieces_220 : decode prog_5_method_3_code 220 = .ok (.ifCond .ne 7, 3) := by decide +kernel
theorem d_N_readPieces_223 : decode prog_5_method_3_code 223 = .ok (.iconst 1, 1) := by decide +kernel
theorem d_N_readPieces_224 : decode prog_5_method_3_code 224 = .ok (.goto 4, 3) := by decide +kernel
theorem d_N_readPieces_227 : decode prog_5_method_3_code 227 = .ok (.iconst 0, 1) := by decide +kernel
theorem d_N_readPieces_228 : decode prog_5_method_3_code 228 = .ok (.ireturn, 1) := by decide +kernel
def wq_N_readPieces_219 (a : Nat) (Q : Int32 → ab_H → Prop)  (u1 : Int32) (A : ab_H) : Prop := if u1 = 0 then (Q (1 : Int32) A) else (Q (0 : Int32) A)
set_option maxRecDepth 100000 in
set_option maxHeartbeats 4000000 in
theorem sq_N_readPieces_219 {l : Launch} {G : mm_G} {a : Nat} {Q : Int32 → ab_H → Prop}   : ∀ (u1 : Int32) (A : ab_H) (h : mm_H), Vw G h A → wq_N_readPieces_219 a Q  u1 A → mm_V l G M_N_readPieces 0 0 219 [some (va_rf (some a)), some (.int u1), none, none, none, none] [] h (wQI G Q) := by
  intro u1 A h hV hw
  unfold wq_N_readPieces_219 at hw
  refine mm_iload_n (pc' := 220) d_N_readPieces_219 rfl rfl rfl ?_
  refine wr_if_ne hw (pc' := 223) d_N_readPieces_220 rfl rfl (fun hw => ?_) (fun hw => ?_)
  · refine mm_iconst (v := 0) (pc' := 228) d_N_readPieces_227 rfl (by decide) ?_
    exact wr_iret hV d_N_readPieces_228 rfl rfl hw
  · refine mm_iconst (v := 1) (pc' := 224) d_N_readPieces_223 rfl (by decide) ?_
    refine mm_goto (tgt := 228) d_N_readPieces_224 rfl ?_
    exact wr_iret hV d_N_readPieces_228 rfl rfl hw
def wq_N_readPieces_186 (a : Nat) (Q : Int32 → ab_H → Prop) (k9 : Int32 → Int32 → Int32 → Int32 → ab_H → Prop) (u1 : Int32) (u2 : Int32) (u4 : Int32) (s0 : Option Nat) (s1 : Int32) (A : ab_H) : Prop := wC A s0 10 (fun b => wp_N_markPiece b s1 A (fun A => k9 u1 u2 (0 : Int32) (u4 + 1) A))
set_option maxRecDepth 100000 in
set_option maxHeartbeats 4000000 in
theorem sq_N_readPieces_186 {l : Launch} {G : mm_G} {a : Nat} {Q : Int32 → ab_H → Prop} {k9 : Int32 → Int32 → Int32 → Int32 → ab_H → Prop} (hk9 : ∀ (u1 : Int32) (u2 : Int32) (u3 : Int32) (u4 : Int32) (A : ab_H) (h : mm_H), Vw G h A → k9 u1 u2 u3 u4 A → mm_V l G M_N_readPieces 0 0 9 [some (va_rf (some a)), some (.int u1), some (.int u2), some (.int u3), some (.int u4), none] [] h (wQI G Q)) : ∀ (u1 : Int32) (u2 : Int32) (u4 : Int32) (s0 : Option Nat) (s1 : Int32) (A : ab_H) (h : mm_H), Vw G h A → wq_N_readPieces_186 a Q k9 u1 u2 u4 s0 s1 A → mm_V l G M_N_readPieces 0 0 186 [some (va_rf (some a)), some (.int u1), some (.int u2), none, some (.int u4), none] [.int s1, va_rf s0] h (wQI G Q) := by
  intro u1 u2 u4 s0 s1 A h hV hw
  unfold wq_N_readPieces_186 at hw
  refine wr_cVV (pc' := 189) (as := [.int s1]) (st := []) d_N_readPieces_186 rfl cs_N_46 rfl (W := fun b Q' => wp_N_markPiece b s1 A Q') hV hw (fun b Q' hw => sd_N_markPiece hV hw) rfl rfl (Nat.le_of_ble_eq_true rfl) (Nat.le_of_ble_eq_true rfl) (fun h A hV hw => ?_)
  refine mm_iconst (v := 0) (pc' := 190) d_N_readPieces_189 rfl (by decide) ?_
  refine mm_ist3 (pc' := 191) d_N_readPieces_190 rfl rfl (Nat.le_of_ble_eq_true rfl) ?_
  refine mm_goto (tgt := 213) d_N_readPieces_191 rfl ?_
  refine mm_iinc4 (v := (u4 + 1)) (pc' := 216) d_N_readPieces_213 rfl rfl rfl (Nat.le_of_ble_eq_true rfl) ?_
  refine mm_goto (tgt := 9) d_N_readPieces_216 rfl ?_
  exact mm_drop (mm_le.s (mm_le.s (mm_le.s (mm_le.s (mm_le.s (mm_le.n mm_le.e)))))) (hk9 _ _ _ _ _ _ hV hw)
def wq_N_readPieces_167 (a : Nat) (Q : Int32 → ab_H → Prop) (k9 : Int32 → Int32 → Int32 → Int32 → ab_H → Prop) (u1 : Int32) (u2 : Int32) (u3 : Int32) (u4 : Int32) (u5 : Int32) (A : ab_H) : Prop := if u3 = 0 then (Q (0 : Int32) A) else (if u5 = (42 : Int32) then (wq_N_readPieces_186 a Q k9 u1 u2 u4 (some a) (1 : Int32) A) else (wq_N_readPieces_186 a Q k9 u1 u2 u4 (some a) (0 : Int32) A))
set_option maxRecDepth 100000 in
set_option maxHeartbeats 4000000 in
theorem sq_N_readPieces_167 {l : Launch} {G : mm_G} {a : Nat} {Q : Int32 → ab_H → Prop} {k9 : Int32 → Int32 → Int32 → Int32 → ab_H → Prop} (hk9 : ∀ (u1 : Int32) (u2 : Int32) (u3 : Int32) (u4 : Int32) (A : ab_H) (h : mm_H), Vw G h A → k9 u1 u2 u3 u4 A → mm_V l G M_N_readPieces 0 0 9 [some (va_rf (some a)), some (.int u1), some (.int u2), some (.int u3), some (.int u4), none] [] h (wQI G Q)) : ∀ (u1 : Int32) (u2 : Int32) (u3 : Int32) (u4 : Int32) (u5 : Int32) (A : ab_H) (h : mm_H), Vw G h A → wq_N_readPieces_167 a Q k9 u1 u2 u3 u4 u5 A → mm_V l G M_N_readPieces 0 0 167 [some (va_rf (some a)), some (.int u1), some (.int u2), some (.int u3), some (.int u4), some (.int u5)] [] h (wQI G Q) := by
  intro u1 u2 u3 u4 u5 A h hV hw
  unfold wq_N_readPieces_167 at hw
  refine mm_iload_n (pc' := 168) d_N_readPieces_167 rfl rfl rfl ?_
  refine wr_if_ne hw (pc' := 171) d_N_readPieces_168 rfl rfl (fun hw => ?_) (fun hw => ?_)
  · refine wr_aload_n (some a) (pc' := 174) d_N_readPieces_173 rfl rfl rfl ?_
    refine mm_iload (pc' := 176) d_N_readPieces_174 rfl rfl ?_
    refine mm_bipush (v := 42) (pc' := 178) d_N_readPieces_176 rfl (by decide) ?_
    refine wr_icmp_ne hw (pc' := 181) d_N_readPieces_178 rfl rfl (fun hw => ?_) (fun hw => ?_)
    · refine mm_iconst (v := 0) (pc' := 186) d_N_readPieces_185 rfl (by decide) ?_
      exact mm_drop (mm_le.s (mm_le.s (mm_le.s (mm_le.n (mm_le.s (mm_le.n mm_le.e)))))) (sq_N_readPieces_186 hk9 _ _ _ _ _ _ _ hV hw)
    · refine mm_iconst (v := 1) (pc' := 182) d_N_readPieces_181 rfl (by decide) ?_
      refine mm_goto (tgt := 186) d_N_readPieces_182 rfl ?_
      exact mm_drop (mm_le.s (mm_le.s (mm_le.s (mm_le.n (mm_le.s (mm_le.n mm_le.e)))))) (sq_N_readPieces_186 hk9 _ _ _ _ _ _ _ hV hw)
  · refine mm_iconst (v := 0) (pc' := 172) d_N_readPieces_171 rfl (by decide) ?_
    exact wr_iret hV d_N_readPieces_172 rfl rfl hw
def wq_N_readPieces_74 (a : Nat) (Q : Int32 → ab_H → Prop) (k9 : Int32 → Int32 → Int32 → Int32 → ab_H → Prop) (u1 : Int32) (u2 : Int32) (u3 : Int32) (u4 : Int32) (u5 : Int32) (A : ab_H) : Prop := if u1 = 0 then (if u5 = (91 : Int32) then (k9 (1 : Int32) (1 : Int32) u3 (u4 + 1) A) else (if u5 = (124 : Int32) then (wC A (some a) 10 (fun b => wp_N_endRow b  A (fun A => wgJ A (some a) 10 3 (fun y1 => wgI A (some a) 10 2 (fun x2 => wp A (some a) 10 3 (.long (y1 ||| (wsl (1 : Int64) x2))) (fun A => k9 u1 u2 (0 : Int32) (u4 + 1) A)))))) else (if u5 = (42 : Int32) then (wq_N_readPieces_167 a Q k9 u1 u2 u3 u4 u5 A) else (if u5 = (63 : Int32) then (wq_N_readPieces_167 a Q k9 u1 u2 u3 u4 u5 A) else (if u5 = (93 : Int32) then (Q (0 : Int32) A) else (wC A (some a) 10 (fun b => wp_N_addPiece b u5 u4 A (fun A => k9 u1 u2 (1 : Int32) (u4 + 1) A)))))))) else (if u5 = (91 : Int32) then (Q (0 : Int32) A) else (if u2 = 0 then (wgI A (some a) 10 2 (fun x3 => wp A (some a) 10 2 (.int (x3 + (1 : Int32))) (fun A => k9 (0 : Int32) u2 (1 : Int32) (u4 + 1) A))) else (Q (0 : Int32) A)))
set_option maxRecDepth 100000 in
set_option maxHeartbeats 4000000 in
theorem sq_N_readPieces_74 {l : Launch} {G : mm_G} {a : Nat} {Q : Int32 → ab_H → Prop} {k9 : Int32 → Int32 → Int32 → Int32 → ab_H → Prop} (hk9 : ∀ (u1 : Int32) (u2 : Int32) (u3 : Int32) (u4 : Int32) (A : ab_H) (h : mm_H), Vw G h A → k9 u1 u2 u3 u4 A → mm_V l G M_N_readPieces 0 0 9 [some (va_rf (some a)), some (.int u1), some (.int u2), some (.int u3), some (.int u4), none] [] h (wQI G Q)) : ∀ (u1 : Int32) (u2 : Int32) (u3 : Int32) (u4 : Int32) (u5 : Int32) (A : ab_H) (h : mm_H), Vw G h A → wq_N_readPieces_74 a Q k9 u1 u2 u3 u4 u5 A → mm_V l G M_N_readPieces 0 0 74 [some (va_rf (some a)), some (.int u1), some (.int u2), some (.int u3), some (.int u4), some (.int u5)] [] h (wQI G Q) := by
  intro u1 u2 u3 u4 u5 A h hV hw
  unfold wq_N_readPieces_74 at hw
  refine mm_iload_n (pc' := 75) d_N_readPieces_74 rfl rfl rfl ?_
  refine wr_if_eq hw (pc' := 78) d_N_readPieces_75 rfl rfl (fun hw => ?_) (fun hw => ?_)
  · refine mm_iload (pc' := 110) d_N_readPieces_108 rfl rfl ?_
    refine mm_bipush (v := 91) (pc' := 112) d_N_readPieces_110 rfl (by decide) ?_
    refine wr_icmp_ne hw (pc' := 115) d_N_readPieces_112 rfl rfl (fun hw => ?_) (fun hw => ?_)
    · refine mm_iload (pc' := 124) d_N_readPieces_122 rfl rfl ?_
      refine mm_bipush (v := 124) (pc' := 126) d_N_readPieces_124 rfl (by decide) ?_
      refine wr_icmp_ne hw (pc' := 129) d_N_readPieces_126 rfl rfl (fun hw => ?_) (fun hw => ?_)
      · refine mm_iload (pc' := 155) d_N_readPieces_153 rfl rfl ?_
        refine mm_bipush (v := 42) (pc' := 157) d_N_readPieces_155 rfl (by decide) ?_
        refine wr_icmp_eq hw (pc' := 160) d_N_readPieces_157 rfl rfl (fun hw => ?_) (fun hw => ?_)
        · exact mm_drop (mm_le.s (mm_le.s (mm_le.s (mm_le.s (mm_le.s (mm_le.s mm_le.e)))))) (sq_N_readPieces_167 hk9 _ _ _ _ _ _ _ hV hw)
        · refine mm_iload (pc' := 162) d_N_readPieces_160 rfl rfl ?_
          refine mm_bipush (v := 63) (pc' := 164) d_N_readPieces_162 rfl (by decide) ?_
          refine wr_icmp_ne hw (pc' := 167) d_N_readPieces_164 rfl rfl (fun hw => ?_) (fun hw => ?_)
          · refine mm_iload (pc' := 196) d_N_readPieces_194 rfl rfl ?_
            refine mm_bipush (v := 93) (pc' := 198) d_N_readPieces_196 rfl (by decide) ?_
            refine wr_icmp_ne hw (pc' := 201) d_N_readPieces_198 rfl rfl (fun hw => ?_) (fun hw => ?_)
            · refine wr_aload_n (some a) (pc' := 204) d_N_readPieces_203 rfl rfl rfl ?_
              refine mm_iload (pc' := 206) d_N_readPieces_204 rfl rfl ?_
              refine mm_iload (pc' := 208) d_N_readPieces_206 rfl rfl ?_
              refine wr_cVV (pc' := 211) (as := [.int u5, .int u4]) (st := []) d_N_readPieces_208 rfl cs_N_50 rfl (W := fun b Q' => wp_N_addPiece b u5 u4 A Q') hV hw (fun b Q' hw => sd_N_addPiece hV hw) rfl rfl (Nat.le_of_ble_eq_true rfl) (Nat.le_of_ble_eq_true rfl) (fun h A hV hw => ?_)
              refine mm_iconst (v := 1) (pc' := 212) d_N_readPieces_211 rfl (by decide) ?_
              refine mm_ist3 (pc' := 213) d_N_readPieces_212 rfl rfl (Nat.le_of_ble_eq_true rfl) ?_
              refine mm_iinc4 (v := (u4 + 1)) (pc' := 216) d_N_readPieces_213 rfl rfl rfl (Nat.le_of_ble_eq_true rfl) ?_
              refine mm_goto (tgt := 9) d_N_readPieces_216 rfl ?_
              exact mm_drop (mm_le.s (mm_le.s (mm_le.s (mm_le.s (mm_le.s (mm_le.n mm_le.e)))))) (hk9 _ _ _ _ _ _ hV hw)
            · refine mm_iconst (v := 0) (pc' := 202) d_N_readPieces_201 rfl (by decide) ?_
              exact wr_iret hV d_N_readPieces_202 rfl rfl hw
          · exact mm_drop (mm_le.s (mm_le.s (mm_le.s (mm_le.s (mm_le.s (mm_le.s mm_le.e)))))) (sq_N_readPieces_167 hk9 _ _ _ _ _ _ _ hV hw)
      · refine wr_aload_n (some a) (pc' := 130) d_N_readPieces_129 rfl rfl rfl ?_
        refine wr_cVV (pc' := 133) (as := []) (st := []) d_N_readPieces_130 rfl cs_N_35 rfl (W := fun b Q' => wp_N_endRow b  A Q') hV hw (fun b Q' hw => sd_N_endRow hV hw) rfl rfl (Nat.le_of_ble_eq_true rfl) (Nat.le_of_ble_eq_true rfl) (fun h A hV hw => ?_)
        refine wr_aload_n (some a) (pc' := 134) d_N_readPieces_133 rfl rfl rfl ?_
        refine mm_dup (pc' := 135) d_N_readPieces_134 rfl (wr_cat _) ?_
        refine wr_getJ hV hw (pc' := 138) d_N_readPieces_135 rfl fl_N_7 (fun y1 hw => ?_)
        refine mm_lconst (v := 1) (pc' := 139) d_N_readPieces_138 rfl (by decide) ?_
        refine wr_aload_n (some a) (pc' := 140) d_N_readPieces_139 rfl rfl rfl ?_
        refine wr_getI hV hw (pc' := 143) d_N_readPieces_140 rfl fl_N_42 (fun x2 hw => ?_)
        refine mm_lshl (v := wsl (1 : Int64) x2) (pc' := 144) d_N_readPieces_143 rfl rfl ?_
        refine mm_lor (pc' := 145) d_N_readPieces_144 rfl ?_
        refine wr_put hV hw (pc' := 148) d_N_readPieces_145 rfl pl_N_readPieces_7 (Nat.le_of_ble_eq_true rfl) (wn_J _) (fun h A hV hw => ?_)
        refine mm_iconst (v := 0) (pc' := 149) d_N_readPieces_148 rfl (by decide) ?_
        refine mm_ist3 (pc' := 150) d_N_readPieces_149 rfl rfl (Nat.le_of_ble_eq_true rfl) ?_
        refine mm_goto (tgt := 213) d_N_readPieces_150 rfl ?_
        refine mm_iinc4 (v := (u4 + 1)) (pc' := 216) d_N_readPieces_213 rfl rfl rfl (Nat.le_of_ble_eq_true rfl) ?_
        refine mm_goto (tgt := 9) d_N_readPieces_216 rfl ?_
        exact mm_drop (mm_le.s (mm_le.s (mm_le.s (mm_le.s (mm_le.s (mm_le.n mm_le.e)))))) (hk9 _ _ _ _ _ _ hV hw)
    · refine mm_iconst (v := 1) (pc' := 116) d_N_readPieces_115 rfl (by decide) ?_
      refine mm_ist1 (pc' := 117) d_N_readPieces_116 rfl (wr_2 _) (Nat.le_of_ble_eq_true rfl) ?_
      refine mm_iconst (v := 1) (pc' := 118) d_N_readPieces_117 rfl (by decide) ?_
      refine mm_ist2 (pc' := 119) d_N_readPieces_118 rfl rfl (Nat.le_of_ble_eq_true rfl) ?_
      refine mm_goto (tgt := 213) d_N_readPieces_119 rfl ?_
      refine mm_iinc4 (v := (u4 + 1)) (pc' := 216) d_N_readPieces_213 rfl rfl rfl (Nat.le_of_ble_eq_true rfl) ?_
      refine mm_goto (tgt := 9) d_N_readPieces_216 rfl ?_
      exact mm_drop (mm_le.s (mm_le.s (mm_le.s (mm_le.s (mm_le.s (mm_le.n mm_le.e)))))) (hk9 _ _ _ _ _ _ hV hw)
  · refine mm_iload (pc' := 80) d_N_readPieces_78 rfl rfl ?_
    refine mm_bipush (v := 91) (pc' := 82) d_N_readPieces_80 rfl (by decide) ?_
    refine wr_icmp_eq hw (pc' := 85) d_N_readPieces_82 rfl rfl (fun hw => ?_) (fun hw => ?_)
    · refine mm_iconst (v := 0) (pc' := 90) d_N_readPieces_89 rfl (by decide) ?_
      exact wr_iret hV d_N_readPieces_90 rfl rfl hw
    · refine mm_iload_n (pc' := 86) d_N_readPieces_85 rfl rfl rfl ?_
      refine wr_if_eq hw (pc' := 89) d_N_readPieces_86 rfl rfl (fun hw => ?_) (fun hw => ?_)
      · refine wr_aload_n (some a) (pc' := 92) d_N_readPieces_91 rfl rfl rfl ?_
        refine mm_dup (pc' := 93) d_N_readPieces_92 rfl (wr_cat _) ?_
        refine wr_getI hV hw (pc' := 96) d_N_readPieces_93 rfl fl_N_42 (fun x3 hw => ?_)
        refine mm_iconst (v := 1) (pc' := 97) d_N_readPieces_96 rfl (by decide) ?_
        refine mm_iadd (pc' := 98) d_N_readPieces_97 rfl ?_
        refine wr_put hV hw (pc' := 101) d_N_readPieces_98 rfl pl_N_readPieces_42 (Nat.le_of_ble_eq_true rfl) (wn_I _) (fun h A hV hw => ?_)
        refine mm_iconst (v := 0) (pc' := 102) d_N_readPieces_101 rfl (by decide) ?_
        refine mm_ist1 (pc' := 103) d_N_readPieces_102 rfl (wr_2 _) (Nat.le_of_ble_eq_true rfl) ?_
        refine mm_iconst (v := 1) (pc' := 104) d_N_readPieces_103 rfl (by decide) ?_
        refine mm_ist3 (pc' := 105) d_N_readPieces_104 rfl rfl (Nat.le_of_ble_eq_true rfl) ?_
        refine mm_goto (tgt := 213) d_N_readPieces_105 rfl ?_
        refine mm_iinc4 (v := (u4 + 1)) (pc' := 216) d_N_readPieces_213 rfl rfl rfl (Nat.le_of_ble_eq_true rfl) ?_
        refine mm_goto (tgt := 9) d_N_readPieces_216 rfl ?_
        exact mm_drop (mm_le.s (mm_le.s (mm_le.s (mm_le.s (mm_le.s (mm_le.n mm_le.e)))))) (hk9 _ _ _ _ _ _ hV hw)
      · refine mm_iconst (v := 0) (pc' := 90) d_N_readPieces_89 rfl (by decide) ?_
        exact wr_iret hV d_N_readPieces_90 rfl rfl hw
def wb_N_readPieces_9 (a : Nat) (Q : Int32 → ab_H → Prop)  (k9 : Int32 → Int32 → Int32 → Int32 → ab_H → Prop) (u1 : Int32) (u2 : Int32) (u3 : Int32) (u4 : Int32) (A : ab_H) : Prop := wgR A (some a) 10 0 (fun r4 => wj_ST_length A r4  (fun x5 => if x5 ≤ u4 then (wq_N_readPieces_219 a Q u1 A) else (wgR A (some a) 10 0 (fun r6 => wj_ST_charAt A r6 u4 (fun x7 => wgR A (some a) 10 1 (fun r8 => wSI A r8 u4 ((-1) : Int32) (fun A => if u1 = 0 then (wq_N_readPieces_74 a Q k9 u1 u2 u3 u4 x7 A) else (if x7 = (91 : Int32) then (wq_N_readPieces_74 a Q k9 u1 u2 u3 u4 x7 A) else (if x7 = (93 : Int32) then (wq_N_readPieces_74 a Q k9 u1 u2 u3 u4 x7 A) else (wgR A (some a) 10 1 (fun r9 => wgI A (some a) 10 2 (fun x10 => wSI A r9 u4 x10 (fun A => k9 u1 (0 : Int32) u3 (u4 + 1) A)))))))))))))
def wq_N_readPieces_9 (a : Nat) (Q : Int32 → ab_H → Prop)  : Nat → Int32 → Int32 → Int32 → Int32 → ab_H → Prop
  | 0 => fun _ _ _ _ _ => False
  | n + 1 => wb_N_readPieces_9 a Q  (wq_N_readPieces_9 a Q  n)
set_option maxRecDepth 100000 in
set_option maxHeartbeats 4000000 in
theorem sq_N_readPieces_9 {l : Launch} {G : mm_G} {a : Nat} {Q : Int32 → ab_H → Prop}   : ∀ (n : Nat) (u1 : Int32) (u2 : Int32) (u3 : Int32) (u4 : Int32) (A : ab_H) (h : mm_H), Vw G h A → wq_N_readPieces_9 a Q  n u1 u2 u3 u4 A → mm_V l G M_N_readPieces 0 0 9 [some (va_rf (some a)), some (.int u1), some (.int u2), some (.int u3), some (.int u4), none] [] h (wQI G Q) := by
  intro n
  induction n with
  | zero =>
    intro u1 u2 u3 u4 A h hV hw
    exact absurd hw id
  | succ n hk9 =>
    intro u1 u2 u3 u4 A h hV hw
    have hw : wb_N_readPieces_9 a Q  (wq_N_readPieces_9 a Q  n) u1 u2 u3 u4 A := hw
    unfold wb_N_readPieces_9 at hw
    refine mm_iload (pc' := 11) d_N_readPieces_9 rfl rfl ?_
    refine wr_aload_n (some a) (pc' := 12) d_N_readPieces_11 rfl rfl rfl ?_
    refine wr_getR hV hw (pc' := 15) d_N_readPieces_12 rfl fl_N_13 (fun r4 hw => ?_)
    refine wr_ST_length hV hw (pc' := 18) d_N_readPieces_15 rfl cs_N_17 (Nat.le_of_ble_eq_true rfl) (Nat.le_of_ble_eq_true rfl) (fun x5 hw => ?_)
    refine wr_icmp_ge hw (pc' := 21) d_N_readPieces_18 rfl rfl (fun hw => ?_) (fun hw => ?_)
    · exact mm_drop (mm_le.s (mm_le.s (mm_le.n (mm_le.n (mm_le.n (mm_le.n mm_le.e)))))) (sq_N_readPieces_219  _ _ _ hV hw)
    · refine wr_aload_n (some a) (pc' := 22) d_N_readPieces_21 rfl rfl rfl ?_
      refine wr_getR hV hw (pc' := 25) d_N_readPieces_22 rfl fl_N_13 (fun r6 hw => ?_)
      refine mm_iload (pc' := 27) d_N_readPieces_25 rfl rfl ?_
      refine wr_ST_charAt hV hw (pc' := 30) d_N_readPieces_27 rfl cs_N_38 (Nat.le_of_ble_eq_true rfl) (Nat.le_of_ble_eq_true rfl) (fun x7 hw => ?_)
      refine mm_ist5 (pc' := 32) d_N_readPieces_30 rfl rfl (Nat.le_of_ble_eq_true rfl) ?_
      refine wr_aload_n (some a) (pc' := 33) d_N_readPieces_32 rfl rfl rfl ?_
      refine wr_getR hV hw (pc' := 36) d_N_readPieces_33 rfl fl_N_23 (fun r8 hw => ?_)
      refine mm_iload (pc' := 38) d_N_readPieces_36 rfl rfl ?_
      refine mm_iconst (v := (-1)) (pc' := 39) d_N_readPieces_38 rfl (by decide) ?_
      refine wr_astI hV hw (pc' := 40) d_N_readPieces_39 rfl (fun h A hV hw => ?_)
      refine mm_iload_n (pc' := 41) d_N_readPieces_40 rfl rfl rfl ?_
      refine wr_if_eq hw (pc' := 44) d_N_readPieces_41 rfl rfl (fun hw => ?_) (fun hw => ?_)
      · exact mm_drop (mm_le.s (mm_le.s (mm_le.s (mm_le.s (mm_le.s (mm_le.s mm_le.e)))))) (sq_N_readPieces_74 hk9 _ _ _ _ _ _ _ hV hw)
      · refine mm_iload (pc' := 46) d_N_readPieces_44 rfl rfl ?_
        refine mm_bipush (v := 91) (pc' := 48) d_N_readPieces_46 rfl (by decide) ?_
        refine wr_icmp_eq hw (pc' := 51) d_N_readPieces_48 rfl rfl (fun hw => ?_) (fun hw => ?_)
        · exact mm_drop (mm_le.s (mm_le.s (mm_le.s (mm_le.s (mm_le.s (mm_le.s mm_le.e)))))) (sq_N_readPieces_74 hk9 _ _ _ _ _ _ _ hV hw)
        · refine mm_iload (pc' := 53) d_N_readPieces_51 rfl rfl ?_
          refine mm_bipush (v := 93) (pc' := 55) d_N_readPieces_53 rfl (by decide) ?_
          refine wr_icmp_eq hw (pc' := 58) d_N_readPieces_55 rfl rfl (fun hw => ?_) (fun hw => ?_)
          · exact mm_drop (mm_le.s (mm_le.s (mm_le.s (mm_le.s (mm_le.s (mm_le.s mm_le.e)))))) (sq_N_readPieces_74 hk9 _ _ _ _ _ _ _ hV hw)
          · refine wr_aload_n (some a) (pc' := 59) d_N_readPieces_58 rfl rfl rfl ?_
            refine wr_getR hV hw (pc' := 62) d_N_readPieces_59 rfl fl_N_23 (fun r9 hw => ?_)
            refine mm_iload (pc' := 64) d_N_readPieces_62 rfl rfl ?_
            refine wr_aload_n (some a) (pc' := 65) d_N_readPieces_64 rfl rfl rfl ?_
            refine wr_getI hV hw (pc' := 68) d_N_readPieces_65 rfl fl_N_42 (fun x10 hw => ?_)
            refine wr_astI hV hw (pc' := 69) d_N_readPieces_68 rfl (fun h A hV hw => ?_)
            refine mm_iconst (v := 0) (pc' := 70) d_N_readPieces_69 rfl (by decide) ?_
            refine mm_ist2 (pc' := 71) d_N_readPieces_70 rfl rfl (Nat.le_of_ble_eq_true rfl) ?_
            refine mm_goto (tgt := 213) d_N_readPieces_71 rfl ?_
            refine mm_iinc4 (v := (u4 + 1)) (pc' := 216) d_N_readPieces_213 rfl rfl rfl (Nat.le_of_ble_eq_true rfl) ?_
            refine mm_goto (tgt := 9) d_N_readPieces_216 rfl ?_
            exact mm_drop (mm_le.s (mm_le.s (mm_le.s (mm_le.s (mm_le.s (mm_le.n mm_le.e)))))) (hk9 _ _ _ _ _ _ hV hw)
def wp_N_readPieces (a : Nat) (A : ab_H) (Q : Int32 → ab_H → Prop) : Prop := ∃ n, wq_N_readPieces_9 a Q n (0 : Int32) (0 : Int32) (0 : Int32) (0 : Int32) A
set_option maxRecDepth 100000 in
set_option maxHeartbeats 4000000 in
theorem sd_N_readPieces {l : Launch} {G : mm_G} {h : mm_H} {A : ab_H} {a : Nat} {Q : Int32 → ab_H → Prop} (hV : Vw G h A) (hw : wp_N_readPieces a A Q) : mm_S l G M_N_readPieces [.ref a] h 0 0 (wQI G Q) := by
  unfold wp_N_readPieces at hw
  refine mm_start rfl (Nat.le_of_ble_eq_true rfl) ?_
  show mm_V l G M_N_readPieces 0 0 0 [some (va_rf (some a)), none, none, none, none, none] [] h _
  refine mm_iconst (v := 0) (pc' := 1) d_N_readPieces_0 rfl (by decide) ?_
  refine mm_ist1 (pc' := 2) d_N_readPieces_1 rfl (wr_2 _) (Nat.le_of_ble_eq_true rfl) ?_
  refine mm_iconst (v := 0) (pc' := 3) d_N_readPieces_2 rfl (by decide) ?_
  refine mm_ist2 (pc' := 4) d_N_readPieces_3 rfl rfl (Nat.le_of_ble_eq_true rfl) ?_
  refine mm_iconst (v := 0) (pc' := 5) d_N_readPieces_4 rfl (by decide) ?_
  refine mm_ist3 (pc' := 6) d_N_readPieces_5 rfl rfl (Nat.le_of_ble_eq_true rfl) ?_
  refine mm_iconst (v := 0) (pc' := 7) d_N_readPieces_6 rfl (by decide) ?_
  refine mm_ist4 (pc' := 9) d_N_readPieces_7 rfl rfl (Nat.le_of_ble_eq_true rfl) ?_
  obtain ⟨n, hw⟩ := hw
  exact mm_drop (mm_le.s (mm_le.s (mm_le.s (mm_le.s (mm_le.s (mm_le.n mm_le.e)))))) (sq_N_readPieces_9  n _ _ _ _ _ _ hV hw)
theorem d_N_init_0 : decode prog_5_method_1_code 0 = .ok (.aload_n 0, 1) := by decide +kernel
theorem d_N_init_1 : decode prog_5_method_1_code 1 = .ok (.invokespecial 1, 3) := by decide +kernel
theorem d_N_init_4 : decode prog_5_method_1_code 4 = .ok (.aload_n 0, 1) := by decide +kernel
theorem d_N_init_5 : decode prog_5_method_1_code 5 = .ok (.lconst 1, 1) := by decide +kernel
theorem d_N_init_6 : decode prog_5_method_1_code 6 = .ok (.putfield 7, 3) := by decide +kernel
theorem d_N_init_9 : decode prog_5_method_1_code 9 = .ok (.aload_n 0, 1) := by decide +kernel
theorem d_N_init_10 : decode prog_5_method_1_code 10 = .ok (.aload_n 1, 1) := by decide +kernel
theorem d_N_init_11 : decode prog_5_method_1_code 11 = .ok (.putfield 13, 3) := by decide +kernel
theorem d_N_init_14 : decode prog_5_method_1_code 14 = .ok (.aload_n 0, 1) := by decide +kernel
theorem d_N_init_15 : decode prog_5_method_1_code 15 = .ok (.aload_n 1, 1) := by decide +kernel
theorem d_N_init_16 : decode prog_5_method_1_code 16 = .ok (.invokevirtual 17, 3) := by decide +kernel
theorem d_N_init_19 : decode prog_5_method_1_code 19 = .ok (.newarray .int, 2) := by decide +kernel
theorem d_N_init_21 : decode prog_5_method_1_code 21 = .ok (.putfield 23, 3) := by decide +kernel
theorem d_N_init_24 : decode prog_5_method_1_code 24 = .ok (.aload_n 0, 1) := by decide +kernel
theorem d_N_init_25 : decode prog_5_method_1_code 25 = .ok (.aload_n 0, 1) := by decide +kernel
theorem d_N_init_26 : decode prog_5_method_1_code 26 = .ok (.invokevirtual 27, 3) := by decide +kernel
theorem d_N_init_29 : decode prog_5_method_1_code 29 = .ok (.putfield 31, 3) := by decide +kernel
theorem d_N_init_32 : decode prog_5_method_1_code 32 = .ok (.aload_n 0, 1) := by decide +kernel
theorem d_N_init_33 : decode prog_5_method_1_code 33 = .ok (.invokevirtual 35, 3) := by decide +kernel
theorem d_N_init_36 : decode prog_5_method_1_code 36 = .ok (.return_, 1) := by decide +kernel
def wp_N_init (a : Nat) (p0 : Option Nat) (A : ab_H) (kc ks : Nat) (Q : ab_H → Prop) : Prop := (∃ b, (some a) = some b) ∧ (wp A (some a) 10 3 (.long (1 : Int64)) (fun A => wp A (some a) 10 0 (va_rf p0) (fun A => wj_ST_length A p0  (fun x1 => wNA A kc ks 0 x1 (fun b2 A kc ks => wp A (some a) 10 1 (va_rf (some b2)) (fun A => wC A (some a) 10 (fun b => wp_N_readPieces b  A (fun x3 A => wB x3 (wp A (some a) 10 8 (.int x3) (fun A => wC A (some a) 10 (fun b => wp_N_endRow b  A (fun A => Q A))))))))))))
set_option maxRecDepth 100000 in
set_option maxHeartbeats 4000000 in
theorem sd_N_init {l : Launch} {G : mm_G} {h : mm_H} {A : ab_H} {a : Nat} {p0 : Option Nat} {kc ks : Nat} {Q : ab_H → Prop} (hV : Vw G h A) (hw : wp_N_init a p0 A kc ks Q) : mm_S l G M_N_init [.ref a, va_rf p0] h kc ks (wQV G Q) := by
  unfold wp_N_init at hw
  refine mm_start rfl (by simp [mm_as, wr_cat, wr_catI, wr_catJ, wr_catN]) ?_
  rw [show mm_en [.ref a, va_rf p0] M_N_init.2.2.1 = [some (.ref a), some (va_rf p0)] from by simp [mm_en, mm_as, wr_cat, wr_catI, wr_catJ, wr_catN]]
  show mm_V l G M_N_init kc ks 0 [some (va_rf (some a)), some (va_rf p0)] [] h _
  refine wr_aload_n (some a) (pc' := 1) d_N_init_0 rfl rfl rfl ?_
  obtain ⟨ho, hw⟩ := hw
  refine wr_objInit ho (pc' := 4) d_N_init_1 rfl oi_N_1 (Nat.le_of_ble_eq_true rfl) (Nat.le_of_ble_eq_true rfl) ?_
  refine wr_aload_n (some a) (pc' := 5) d_N_init_4 rfl rfl rfl ?_
  refine mm_lconst (v := 1) (pc' := 6) d_N_init_5 rfl (by decide) ?_
  refine wr_put hV hw (pc' := 9) d_N_init_6 rfl pl_N_init_7 (Nat.le_of_ble_eq_true rfl) (wn_J _) (fun h A hV hw => ?_)
  refine wr_aload_n (some a) (pc' := 10) d_N_init_9 rfl rfl rfl ?_
  refine wr_aload_n p0 (pc' := 11) d_N_init_10 rfl rfl rfl ?_
  refine wr_put hV hw (pc' := 14) d_N_init_11 rfl pl_N_init_13 (Nat.le_of_ble_eq_true rfl) (wn_O _ _) (fun h A hV hw => ?_)
  refine wr_aload_n (some a) (pc' := 15) d_N_init_14 rfl rfl rfl ?_
  refine wr_aload_n p0 (pc' := 16) d_N_init_15 rfl rfl rfl ?_
  refine wr_ST_length hV hw (pc' := 19) d_N_init_16 rfl cs_N_17 (Nat.le_of_ble_eq_true rfl) (Nat.le_trans (wr_hR wr_h0) (Nat.le_of_ble_eq_true rfl)) (fun x1 hw => ?_)
  refine wr_newarrI hV hw (pc' := 21) d_N_init_19 rfl ar_int (fun b2 h A kc ks hV hw => ?_)
  refine wr_put hV hw (pc' := 24) d_N_init_21 rfl pl_N_init_23 (Nat.le_of_ble_eq_true rfl) (wn_A _ _) (fun h A hV hw => ?_)
  refine wr_aload_n (some a) (pc' := 25) d_N_init_24 rfl rfl rfl ?_
  refine wr_aload_n (some a) (pc' := 26) d_N_init_25 rfl rfl rfl ?_
  refine wr_cVI (pc' := 29) (as := []) (st := [va_rf (some a)]) d_N_init_26 rfl cs_N_27 rfl (W := fun b Q' => wp_N_readPieces b  A Q') hV hw (fun b Q' hw => sd_N_readPieces hV hw) rfl rfl (Nat.le_of_ble_eq_true rfl) (Nat.le_trans (wr_hR wr_h0) (Nat.le_of_ble_eq_true rfl)) (fun x3 h A hV hw => ?_)
  obtain ⟨hb, hw⟩ := hw
  refine wr_put hV hw (pc' := 32) d_N_init_29 rfl pl_N_init_31 (Nat.le_of_ble_eq_true rfl) (wn_Z hb) (fun h A hV hw => ?_)
  refine wr_aload_n (some a) (pc' := 33) d_N_init_32 rfl rfl rfl ?_
  refine wr_cVV (pc' := 36) (as := []) (st := []) d_N_init_33 rfl cs_N_35 rfl (W := fun b Q' => wp_N_endRow b  A Q') hV hw (fun b Q' hw => sd_N_endRow hV hw) rfl rfl (Nat.le_of_ble_eq_true rfl) (Nat.le_of_ble_eq_true rfl) (fun h A hV hw => ?_)
  exact wr_vret hV d_N_init_36 rfl hw
theorem d_N_isGood_0 : decode prog_5_method_2_code 0 = .ok (.aload_n 0, 1) := by decide +kernel
theorem d_N_isGood_1 : decode prog_5_method_2_code 1 = .ok (.getfield 31, 3) := by decide +kernel
theorem d_N_isGood_4 : decode prog_5_method_2_code 4 = .ok (.ireturn, 1) := by decide +kernel
def wp_N_isGood (a : Nat) (A : ab_H) (Q : Int32 → ab_H → Prop) : Prop := wgI A (some a) 10 8 (fun x1 => wB x1 (Q x1 A))
set_option maxRecDepth 100000 in
set_option maxHeartbeats 4000000 in
theorem sd_N_isGood {l : Launch} {G : mm_G} {h : mm_H} {A : ab_H} {a : Nat} {Q : Int32 → ab_H → Prop} (hV : Vw G h A) (hw : wp_N_isGood a A Q) : mm_S l G M_N_isGood [.ref a] h 0 0 (wQI G Q) := by
  unfold wp_N_isGood at hw
  refine mm_start rfl (Nat.le_of_ble_eq_true rfl) ?_
  show mm_V l G M_N_isGood 0 0 0 [some (va_rf (some a))] [] h _
  refine wr_aload_n (some a) (pc' := 1) d_N_isGood_0 rfl rfl rfl ?_
  refine wr_getI hV hw (pc' := 4) d_N_isGood_1 rfl fl_N_31 (fun x1 hw => ?_)
  obtain ⟨hb, hw⟩ := hw
  exact wr_iret hV d_N_isGood_4 rfl (wn_b hb) hw
theorem d_H_withText_0 : decode prog_3_method_3_code 0 = .ok (.iload_n 1, 1) := by decide +kernel
theorem d_H_withText_1 : decode prog_3_method_3_code 1 = .ok (.iconst 2, 1) := by decide +kernel
theorem d_H_withText_2 : decode prog_3_method_3_code 2 = .ok (.if_icmp .eq 16, 3) := by decide +kernel
theorem d_H_withText_5 : decode prog_3_method_3_code 5 = .ok (.new 8, 3) := by decide +kernel
theorem d_H_withText_8 : decode prog_3_method_3_code 8 = .ok (.dup, 1) := by decide +kernel
theorem d_H_withText_9 : decode prog_3_method_3_code 9 = .ok (.iload_n 0, 1) := by decide +kernel
theorem d_H_withText_10 : decode prog_3_method_3_code 10 = .ok (.iload_n 1, 1) := by decide +kernel
theorem d_H_withText_11 : decode prog_3_method_3_code 11 = .ok (.aload_n 2, 1) := by decide +kernel
theorem d_H_withText_12 : decode prog_3_method_3_code 12 = .ok (.aload_n 3, 1) := by decide +kernel
theorem d_H_withText_13 : decode prog_3_method_3_code 13 = .ok (.aconst_null, 1) := by decide +kernel
theorem d_H_withText_14 : decode prog_3_method_3_code 14 = .ok (.invokespecial 58, 3) := by decide +kernel
theorem d_H_withText_17 : decode prog_3_method_3_code 17 = .ok (.areturn, 1) := by decide +kernel
theorem d_H_withText_18 : decode prog_3_method_3_code 18 = .ok (.new 61, 3) := by decide +kernel
theorem d_H_withText_21 : decode prog_3_method_3_code 21 = .ok (.dup, 1) := by decide +kernel
theorem d_H_withText_22 : decode prog_3_method_3_code 22 = .ok (.aload_n 3, 1) := by decide +kernel
theorem d_H_withText_23 : decode prog_3_method_3_code 23 = .ok (.invokespecial 63, 3) := by decide +kernel
theorem d_H_withText_26 : decode prog_3_method_3_code 26 = .ok (.astore 4, 2) := by decide +kernel
theorem d_H_withText_28 : decode prog_3_method_3_code 28 = .ok (.aload 4, 2) := by decide +kernel
theorem d_H_withText_30 : decode prog_3_method_3_code 30 = .ok (.invokevirtual 66, 3) := by decide +kernel
theorem d_H_withText_33 : decode prog_3_method_3_code 33 = .ok (.ifCond .eq 19, 3) := by decide +kernel
theorem d_H_withText_36 : decode prog_3_method_3_code 36 = .ok (.new 8, 3) := by decide +kernel
theorem d_H_withText_39 : decode prog_3_method_3_code 39 = .ok (.dup, 1) := by decide +kernel
theorem d_H_withText_40 : decode prog_3_method_3_code 40 = .ok (.iload_n 0, 1) := by decide +kernel
theorem d_H_withText_41 : decode prog_3_method_3_code 41 = .ok (.iload_n 1, 1) := by decide +kernel
theorem d_H_withText_42 : decode prog_3_method_3_code 42 = .ok (.aload_n 2, 1) := by decide +kernel
theorem d_H_withText_43 : decode prog_3_method_3_code 43 = .ok (.aload_n 3, 1) := by decide +kernel
theorem d_H_withText_44 : decode prog_3_method_3_code 44 = .ok (.aload 4, 2) := by decide +kernel
theorem d_H_withText_46 : decode prog_3_method_3_code 46 = .ok (.invokespecial 58, 3) := by decide +kernel
theorem d_H_withText_49 : decode prog_3_method_3_code 49 = .ok (.goto 4, 3) := by decide +kernel
theorem d_H_withText_52 : decode prog_3_method_3_code 52 = .ok (.aconst_null, 1) := by decide +kernel
theorem d_H_withText_53 : decode prog_3_method_3_code 53 = .ok (.areturn, 1) := by decide +kernel
def wp_H_withText (p0 : Int32) (p1 : Int32) (p2 : Option Nat) (p3 : Option Nat) (A : ab_H) (kc ks : Nat) (Q : Option Nat → ab_H → Prop) : Prop := if p1 = (2 : Int32) then (wNew A kc ks 10 9 (fun b1 A kc ks => wD (some b1) (fun b => wXV kc ks (wp_N_init b p3 A) (fun A kc ks => wC A (some b1) 10 (fun b => wp_N_isGood b  A (fun x2 A => if x2 = 0 then (Q (none : Option Nat) A) else (wNew A kc ks 9 5 (fun b3 A kc ks => wD (some b3) (fun b => wp_H_init b p0 p1 p2 p3 (some b1) A (fun A => Q (some b3) A)))))))))) else (wNew A kc ks 9 5 (fun b4 A kc ks => wD (some b4) (fun b => wp_H_init b p0 p1 p2 p3 (none : Option Nat) A (fun A => Q (some b4) A))))
set_option maxRecDepth 100000 in
set_option maxHeartbeats 4000000 in
theorem sd_H_withText {l : Launch} {G : mm_G} {h : mm_H} {A : ab_H} {p0 : Int32} {p1 : Int32} {p2 : Option Nat} {p3 : Option Nat} {kc ks : Nat} {Q : Option Nat → ab_H → Prop} (hV : Vw G h A) (hw : wp_H_withText p0 p1 p2 p3 A kc ks Q) : mm_S l G M_H_withText [.int p0, .int p1, va_rf p2, va_rf p3] h kc ks (wQR G Q) := by
  unfold wp_H_withText at hw
  refine mm_start rfl (by simp [mm_as, wr_cat, wr_catI, wr_catJ, wr_catN]) ?_
  rw [show mm_en [.int p0, .int p1, va_rf p2, va_rf p3] M_H_withText.2.2.1 = [some (.int p0), some (.int p1), some (va_rf p2), some (va_rf p3), none] from by simp [mm_en, mm_as, wr_cat, wr_catI, wr_catJ, wr_catN]]
  show mm_V l G M_H_withText kc ks 0 [some (.int p0), some (.int p1), some (va_rf p2), some (va_rf p3), none] [] h _
  refine mm_iload_n (pc' := 1) d_H_withText_0 rfl rfl rfl ?_
  refine mm_iconst (v := 2) (pc' := 2) d_H_withText_1 rfl (by decide) ?_
  refine wr_icmp_eq hw (pc' := 5) d_H_withText_2 rfl rfl (fun hw => ?_) (fun hw => ?_)
  · refine wr_new hV hw (pc' := 21) d_H_withText_18 rfl nl_H_61 rfl (fun b1 h A kc ks hV hw => ?_)
    refine mm_dup (pc' := 22) d_H_withText_21 rfl (wr_cat _) ?_
    refine wr_aload_n p3 (pc' := 23) d_H_withText_22 rfl rfl rfl ?_
    refine wr_cIx (pc' := 26) (as := [va_rf p3]) (st := [va_rf (some b1)]) d_H_withText_23 rfl cs_H_63 rfl (W := fun b c s Q' => wp_N_init b p3 A c s Q') hV hw (fun b c s Q' hw => sd_N_init hV hw) rfl rfl (Nat.le_of_ble_eq_true rfl) (Nat.le_trans (wr_hR wr_h0) (Nat.le_of_ble_eq_true rfl)) (fun h A kc ks hV hw => ?_)
    refine wr_ast4 (pc' := 28) d_H_withText_26 rfl (wr_2 _) (Nat.le_of_ble_eq_true rfl) ?_
    refine wr_aload (some b1) (pc' := 30) d_H_withText_28 rfl rfl ?_
    refine wr_cVI (pc' := 33) (as := []) (st := []) d_H_withText_30 rfl cs_H_66 rfl (W := fun b Q' => wp_N_isGood b  A Q') hV hw (fun b Q' hw => sd_N_isGood hV hw) rfl rfl (Nat.le_of_ble_eq_true rfl) (Nat.le_of_ble_eq_true rfl) (fun x2 h A hV hw => ?_)
    refine wr_if_eq hw (pc' := 36) d_H_withText_33 rfl rfl (fun hw => ?_) (fun hw => ?_)
    · refine wr_null (pc' := 53) d_H_withText_52 rfl ?_
      exact wr_aret hV d_H_withText_53 rfl (by first | exact Or.inl ⟨_, rfl⟩ | exact Or.inr ⟨_, rfl⟩) hw
    · refine wr_new hV hw (pc' := 39) d_H_withText_36 rfl nl_H_8 rfl (fun b3 h A kc ks hV hw => ?_)
      refine mm_dup (pc' := 40) d_H_withText_39 rfl (wr_cat _) ?_
      refine mm_iload_n (pc' := 41) d_H_withText_40 rfl rfl rfl ?_
      refine mm_iload_n (pc' := 42) d_H_withText_41 rfl rfl rfl ?_
      refine wr_aload_n p2 (pc' := 43) d_H_withText_42 rfl rfl rfl ?_
      refine wr_aload_n p3 (pc' := 44) d_H_withText_43 rfl rfl rfl ?_
      refine wr_aload (some b1) (pc' := 46) d_H_withText_44 rfl rfl ?_
      refine wr_cI (pc' := 49) (as := [.int p0, .int p1, va_rf p2, va_rf p3, va_rf (some b1)]) (st := [va_rf (some b3)]) d_H_withText_46 rfl cs_H_58 rfl (W := fun b Q' => wp_H_init b p0 p1 p2 p3 (some b1) A Q') hV hw (fun b Q' hw => sd_H_init hV hw) rfl rfl (Nat.le_of_ble_eq_true rfl) (Nat.le_trans (wr_hR wr_h0) (Nat.le_of_ble_eq_true rfl)) (fun h A hV hw => ?_)
      refine mm_goto (tgt := 53) d_H_withText_49 rfl ?_
      exact wr_aret hV d_H_withText_53 rfl (by first | exact Or.inl ⟨_, rfl⟩ | exact Or.inr ⟨_, rfl⟩) hw
  · refine wr_new hV hw (pc' := 8) d_H_withText_5 rfl nl_H_8 rfl (fun b4 h A kc ks hV hw => ?_)
    refine mm_dup (pc' := 9) d_H_withText_8 rfl (wr_cat _) ?_
    refine mm_iload_n (pc' := 10) d_H_withText_9 rfl rfl rfl ?_
    refine mm_iload_n (pc' := 11) d_H_withText_10 rfl rfl rfl ?_
    refine wr_aload_n p2 (pc' := 12) d_H_withText_11 rfl rfl rfl ?_
    refine wr_aload_n p3 (pc' := 13) d_H_withText_12 rfl rfl rfl ?_
    refine wr_null (pc' := 14) d_H_withText_13 rfl ?_
    refine wr_cI (pc' := 17) (as := [.int p0, .int p1, va_rf p2, va_rf p3, va_rf (none : Option Nat)]) (st := [va_rf (some b4)]) d_H_withText_14 rfl cs_H_58 rfl (W := fun b Q' => wp_H_init b p0 p1 p2 p3 (none : Option Nat) A Q') hV hw (fun b Q' hw => sd_H_init hV hw) rfl rfl (Nat.le_of_ble_eq_true rfl) (Nat.le_trans (wr_hR wr_h0) (Nat.le_of_ble_eq_true rfl)) (fun h A hV hw => ?_)
    exact wr_aret hV d_H_withText_17 rfl (by first | exact Or.inl ⟨_, rfl⟩ | exact Or.inr ⟨_, rfl⟩) hw
