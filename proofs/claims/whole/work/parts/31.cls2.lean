theorem d_R_handOver_0 : decode prog_6_method_3_code 0 = .ok (.aload_n 0, 1) := by decide +kernel
theorem d_R_handOver_1 : decode prog_6_method_3_code 1 = .ok (.getfield 29, 3) := by decide +kernel
theorem d_R_handOver_4 : decode prog_6_method_3_code 4 = .ok (.astore_n 1, 1) := by decide +kernel
theorem d_R_handOver_5 : decode prog_6_method_3_code 5 = .ok (.aload_n 1, 1) := by decide +kernel
theorem d_R_handOver_6 : decode prog_6_method_3_code 6 = .ok (.new 60, 3) := by decide +kernel
theorem d_R_handOver_9 : decode prog_6_method_3_code 9 = .ok (.dup, 1) := by decide +kernel
theorem d_R_handOver_10 : decode prog_6_method_3_code 10 = .ok (.ldc 62, 2) := by decide +kernel
theorem d_R_handOver_12 : decode prog_6_method_3_code 12 = .ok (.aload_n 0, 1) := by decide +kernel
theorem d_R_handOver_13 : decode prog_6_method_3_code 13 = .ok (.getfield 16, 3) := by decide +kernel
theorem d_R_handOver_16 : decode prog_6_method_3_code 16 = .ok (.invokevirtual 64, 3) := by decide +kernel
theorem d_R_handOver_19 : decode prog_6_method_3_code 19 = .ok (.invokespecial 68, 3) := by decide +kernel
theorem d_R_handOver_22 : decode prog_6_method_3_code 22 = .ok (.putfield 71, 3) := by decide +kernel
theorem d_R_handOver_25 : decode prog_6_method_3_code 25 = .ok (.aload_n 0, 1) := by decide +kernel
theorem d_R_handOver_26 : decode prog_6_method_3_code 26 = .ok (.invokevirtual 74, 3) := by decide +kernel
theorem d_R_handOver_29 : decode prog_6_method_3_code 29 = .ok (.aload_n 1, 1) := by decide +kernel
theorem d_R_handOver_30 : decode prog_6_method_3_code 30 = .ok (.areturn, 1) := by decide +kernel
def wp_R_handOver (a : Nat) (A : ab_H) (kc ks : Nat) (Q : Option Nat → ab_H → Prop) : Prop := wgR A (some a) 5 3 (fun r1 => wNew A kc ks 8 2 (fun b2 A kc ks => wgR A (some a) 5 1 (fun r3 => wj_SB_toString A kc ks r3  (fun r4 A kc ks => wD (some b2) (fun b => wp_P_init b (some 1) r4 A (fun A => wp A r1 7 4 (va_rf (some b2)) (fun A => wC A (some a) 5 (fun b => wXV kc ks (wp_R_begin b  A) (fun A kc ks => Q r1 A)))))))))
set_option maxRecDepth 100000 in
set_option maxHeartbeats 4000000 in
theorem sd_R_handOver {l : Launch} {G : mm_G} {h : mm_H} {A : ab_H} {a : Nat} {kc ks : Nat} {Q : Option Nat → ab_H → Prop} (hV : Vw G h A) (hw : wp_R_handOver a A kc ks Q) : mm_S l G M_R_handOver [.ref a] h kc ks (wQR G Q) := by
  unfold wp_R_handOver at hw
  refine mm_start rfl (Nat.le_of_ble_eq_true rfl) ?_
  show mm_V l G M_R_handOver kc ks 0 [some (va_rf (some a)), none] [] h _
  refine wr_aload_n (some a) (pc' := 1) d_R_handOver_0 rfl rfl rfl ?_
  refine wr_getR hV hw (pc' := 4) d_R_handOver_1 rfl fl_R_29 (fun r1 hw => ?_)
  refine wr_ast1 (pc' := 5) d_R_handOver_4 rfl (wr_2 _) (Nat.le_of_ble_eq_true rfl) ?_
  refine wr_aload_n r1 (pc' := 6) d_R_handOver_5 rfl rfl rfl ?_
  refine wr_new hV hw (pc' := 9) d_R_handOver_6 rfl nl_R_60 rfl (fun b2 h A kc ks hV hw => ?_)
  refine mm_dup (pc' := 10) d_R_handOver_9 rfl (wr_cat _) ?_
  refine wr_ldcS (pc' := 12) d_R_handOver_10 rfl ld_R_62 ?_
  refine wr_aload_n (some a) (pc' := 13) d_R_handOver_12 rfl rfl rfl ?_
  refine wr_getR hV hw (pc' := 16) d_R_handOver_13 rfl fl_R_16 (fun r3 hw => ?_)
  refine wr_SB_toString hV hw (pc' := 19) d_R_handOver_16 rfl cs_R_64 (Nat.le_of_ble_eq_true rfl) (Nat.le_trans (wr_hR (wr_hR (wr_hR (wr_hR wr_h0)))) (Nat.le_of_ble_eq_true rfl)) (fun r4 h A kc ks hV hw => ?_)
  refine wr_cI (pc' := 22) (as := [va_rf (some 1), va_rf r4]) (st := [va_rf (some b2), va_rf r1]) d_R_handOver_19 rfl cs_R_68 rfl (W := fun b Q' => wp_P_init b (some 1) r4 A Q') hV hw (fun b Q' hw => sd_P_init hV hw) rfl rfl (Nat.le_of_ble_eq_true rfl) (Nat.le_trans (wr_hR (wr_hR wr_h0)) (Nat.le_of_ble_eq_true rfl)) (fun h A hV hw => ?_)
  refine wr_put hV hw (pc' := 25) d_R_handOver_22 rfl pl_R_handOver_71 (Nat.le_of_ble_eq_true rfl) (wn_O _ _) (fun h A hV hw => ?_)
  refine wr_aload_n (some a) (pc' := 26) d_R_handOver_25 rfl rfl rfl ?_
  refine wr_cVVx (pc' := 29) (as := []) (st := []) d_R_handOver_26 rfl cs_R_74 rfl (W := fun b c s Q' => wp_R_begin b  A c s Q') hV hw (fun b c s Q' hw => sd_R_begin hV hw) rfl rfl (Nat.le_of_ble_eq_true rfl) (Nat.le_of_ble_eq_true rfl) (fun h A kc ks hV hw => ?_)
  refine wr_aload_n r1 (pc' := 30) d_R_handOver_29 rfl rfl rfl ?_
  exact wr_aret hV d_R_handOver_30 rfl (by first | exact Or.inl ⟨_, rfl⟩ | exact Or.inr ⟨_, rfl⟩) hw
theorem d_E_firstOf_0 : decode prog_7_method_3_code 0 = .ok (.iconst 0, 1) := by decide +kernel
theorem d_E_firstOf_1 : decode prog_7_method_3_code 1 = .ok (.istore_n 2, 1) := by decide +kernel
theorem d_E_firstOf_2 : decode prog_7_method_3_code 2 = .ok (.iload_n 2, 1) := by decide +kernel
theorem d_E_firstOf_3 : decode prog_7_method_3_code 3 = .ok (.aload_n 0, 1) := by decide +kernel
theorem d_E_firstOf_4 : decode prog_7_method_3_code 4 = .ok (.invokevirtual 44, 3) := by decide +kernel
theorem d_E_firstOf_7 : decode prog_7_method_3_code 7 = .ok (.if_icmp .ge 36, 3) := by decide +kernel
theorem d_E_firstOf_10 : decode prog_7_method_3_code 10 = .ok (.aload_n 0, 1) := by decide +kernel
theorem d_E_firstOf_11 : decode prog_7_method_3_code 11 = .ok (.iload_n 2, 1) := by decide +kernel
theorem d_E_firstOf_12 : decode prog_7_method_3_code 12 = .ok (.invokevirtual 48, 3) := by decide +kernel
theorem d_E_firstOf_15 : decode prog_7_method_3_code 15 = .ok (.checkcast 19, 3) := by decide +kernel
theorem d_E_firstOf_18 : decode prog_7_method_3_code 18 = .ok (.getfield 52, 3) := by decide +kernel
theorem d_E_firstOf_21 : decode prog_7_method_3_code 21 = .ok (.aload_n 1, 1) := by decide +kernel
theorem d_E_firstOf_22 : decode prog_7_method_3_code 22 = .ok (.invokevirtual 56, 3) := by decide +kernel
theorem d_E_firstOf_25 : decode prog_7_method_3_code 25 = .ok (.ifCond .eq 12, 3) := by decide +kernel
theorem d_E_firstOf_28 : decode prog_7_method_3_code 28 = .ok (.aload_n 0, 1) := by decide +kernel
theorem d_E_firstOf_29 : decode prog_7_method_3_code 29 = .ok (.iload_n 2, 1) := by decide +kernel
theorem d_E_firstOf_30 : decode prog_7_method_3_code 30 = .ok (.invokevirtual 48, 3) := by decide +kernel
theorem d_E_firstOf_33 : decode prog_7_method_3_code 33 = .ok (.checkcast 19, 3) := by decide +kernel
theorem d_E_firstOf_36 : decode prog_7_method_3_code 36 = .ok (.areturn, 1) := by decide +kernel
theorem d_E_firstOf_37 : decode prog_7_method_3_code 37 = .ok (.iinc 2 1, 3) := by decide +kernel
theorem d_E_firstOf_40 : decode prog_7_method_3_code 40 = .ok (.goto (-38), 3) := by decide +kernel
theorem d_E_firstOf_43 : decode prog_7_method_3_code 43 = .ok (.aconst_null, 1) := by decide +kernel
theorem d_E_firstOf_44 : decode prog_7_method_3_code 44 = .ok (.areturn, 1) := by decide +kernel
def wq_E_firstOf_28 (p0 : Option Nat) (p1 : Option Nat) (Q : Option Nat → ab_H → Prop)  (u2 : Int32) (A : ab_H) : Prop := wj_AL_get A p0 u2 (fun r1 => wC A r1 8 (fun b2 => Q (some b2) A))
set_option maxRecDepth 100000 in
set_option maxHeartbeats 4000000 in
theorem sq_E_firstOf_28 {l : Launch} {G : mm_G} {p0 : Option Nat} {p1 : Option Nat} {Q : Option Nat → ab_H → Prop}   : ∀ (u2 : Int32) (A : ab_H) (h : mm_H), Vw G h A → wq_E_firstOf_28 p0 p1 Q  u2 A → mm_V l G M_E_firstOf 0 0 28 [some (va_rf p0), some (va_rf p1), some (.int u2)] [] h (wQR G Q) := by
  intro u2 A h hV hw
  unfold wq_E_firstOf_28 at hw
  refine wr_aload_n p0 (pc' := 29) d_E_firstOf_28 rfl rfl rfl ?_
  refine mm_iload_n (pc' := 30) d_E_firstOf_29 rfl rfl rfl ?_
  refine wr_AL_get hV hw (pc' := 33) d_E_firstOf_30 rfl cs_E_48 (Nat.le_of_ble_eq_true rfl) (Nat.le_of_ble_eq_true rfl) (fun r1 hw => ?_)
  refine wr_cast hV hw (pc' := 36) d_E_firstOf_33 rfl rfl cl_E_19 (fun b2 hw => ?_)
  exact wr_aret hV d_E_firstOf_36 rfl (by first | exact Or.inl ⟨_, rfl⟩ | exact Or.inr ⟨_, rfl⟩) hw
def wb_E_firstOf_2 (p0 : Option Nat) (p1 : Option Nat) (Q : Option Nat → ab_H → Prop)  (k2 : Int32 → ab_H → Prop) (u2 : Int32) (A : ab_H) : Prop := wj_AL_size A p0  (fun x3 => if x3 ≤ u2 then (Q (none : Option Nat) A) else (wj_AL_get A p0 u2 (fun r4 => wC A r4 8 (fun b5 => wgR A (some b5) 8 0 (fun r6 => wj_ST_equals A r6 p1 (fun x7 => if x7 = 0 then (k2 (u2 + 1) A) else (wq_E_firstOf_28 p0 p1 Q u2 A)))))))
def wq_E_firstOf_2 (p0 : Option Nat) (p1 : Option Nat) (Q : Option Nat → ab_H → Prop)  : Nat → Int32 → ab_H → Prop
  | 0 => fun _ _ => False
  | n + 1 => wb_E_firstOf_2 p0 p1 Q  (wq_E_firstOf_2 p0 p1 Q  n)
set_option maxRecDepth 100000 in
set_option maxHeartbeats 4000000 in
theorem sq_E_firstOf_2 {l : Launch} {G : mm_G} {p0 : Option Nat} {p1 : Option Nat} {Q : Option Nat → ab_H → Prop}   : ∀ (n : Nat) (u2 : Int32) (A : ab_H) (h : mm_H), Vw G h A → wq_E_firstOf_2 p0 p1 Q  n u2 A → mm_V l G M_E_firstOf 0 0 2 [some (va_rf p0), some (va_rf p1), some (.int u2)] [] h (wQR G Q) := by
  intro n
  induction n with
  | zero =>
    intro u2 A h hV hw
    exact absurd hw id
  | succ n hk2 =>
    intro u2 A h hV hw
    have hw : wb_E_firstOf_2 p0 p1 Q  (wq_E_firstOf_2 p0 p1 Q  n) u2 A := hw
    unfold wb_E_firstOf_2 at hw
    refine mm_iload_n (pc' := 3) d_E_firstOf_2 rfl rfl rfl ?_
    refine wr_aload_n p0 (pc' := 4) d_E_firstOf_3 rfl rfl rfl ?_
    refine wr_AL_size hV hw (pc' := 7) d_E_firstOf_4 rfl cs_E_44 (Nat.le_of_ble_eq_true rfl) (Nat.le_of_ble_eq_true rfl) (fun x3 hw => ?_)
    refine wr_icmp_ge hw (pc' := 10) d_E_firstOf_7 rfl rfl (fun hw => ?_) (fun hw => ?_)
    · refine wr_null (pc' := 44) d_E_firstOf_43 rfl ?_
      exact wr_aret hV d_E_firstOf_44 rfl (by first | exact Or.inl ⟨_, rfl⟩ | exact Or.inr ⟨_, rfl⟩) hw
    · refine wr_aload_n p0 (pc' := 11) d_E_firstOf_10 rfl rfl rfl ?_
      refine mm_iload_n (pc' := 12) d_E_firstOf_11 rfl rfl rfl ?_
      refine wr_AL_get hV hw (pc' := 15) d_E_firstOf_12 rfl cs_E_48 (Nat.le_of_ble_eq_true rfl) (Nat.le_of_ble_eq_true rfl) (fun r4 hw => ?_)
      refine wr_cast hV hw (pc' := 18) d_E_firstOf_15 rfl rfl cl_E_19 (fun b5 hw => ?_)
      refine wr_getR hV hw (pc' := 21) d_E_firstOf_18 rfl fl_E_52 (fun r6 hw => ?_)
      refine wr_aload_n p1 (pc' := 22) d_E_firstOf_21 rfl rfl rfl ?_
      refine wr_ST_equals hV hw (pc' := 25) d_E_firstOf_22 rfl cs_E_56 (Nat.le_of_ble_eq_true rfl) (Nat.le_of_ble_eq_true rfl) (fun x7 hw => ?_)
      refine wr_if_eq hw (pc' := 28) d_E_firstOf_25 rfl rfl (fun hw => ?_) (fun hw => ?_)
      · refine mm_iinc2 (v := (u2 + 1)) (pc' := 40) d_E_firstOf_37 rfl (wr_2 _) rfl (Nat.le_of_ble_eq_true rfl) ?_
        refine mm_goto (tgt := 2) d_E_firstOf_40 rfl ?_
        exact mm_drop (mm_le.s (mm_le.s (mm_le.s mm_le.e))) (hk2 _ _ _ hV hw)
      · exact mm_drop (mm_le.s (mm_le.s (mm_le.s mm_le.e))) (sq_E_firstOf_28  _ _ _ hV hw)
def wp_E_firstOf (p0 : Option Nat) (p1 : Option Nat) (A : ab_H) (Q : Option Nat → ab_H → Prop) : Prop := ∃ n, wq_E_firstOf_2 p0 p1 Q n (0 : Int32) A
set_option maxRecDepth 100000 in
set_option maxHeartbeats 4000000 in
theorem sd_E_firstOf {l : Launch} {G : mm_G} {h : mm_H} {A : ab_H} {p0 : Option Nat} {p1 : Option Nat} {Q : Option Nat → ab_H → Prop} (hV : Vw G h A) (hw : wp_E_firstOf p0 p1 A Q) : mm_S l G M_E_firstOf [va_rf p0, va_rf p1] h 0 0 (wQR G Q) := by
  unfold wp_E_firstOf at hw
  refine mm_start rfl (by simp [mm_as, wr_cat, wr_catI, wr_catJ, wr_catN]) ?_
  rw [show mm_en [va_rf p0, va_rf p1] M_E_firstOf.2.2.1 = [some (va_rf p0), some (va_rf p1), none] from by simp [mm_en, mm_as, wr_cat, wr_catI, wr_catJ, wr_catN]]
  show mm_V l G M_E_firstOf 0 0 0 [some (va_rf p0), some (va_rf p1), none] [] h _
  refine mm_iconst (v := 0) (pc' := 1) d_E_firstOf_0 rfl (by decide) ?_
  refine mm_ist2 (pc' := 2) d_E_firstOf_1 rfl (wr_2 _) (Nat.le_of_ble_eq_true rfl) ?_
  obtain ⟨n, hw⟩ := hw
  exact mm_drop (mm_le.s (mm_le.s (mm_le.s mm_le.e))) (sq_E_firstOf_2  n _ _ _ hV hw)
theorem d_E_find_0 : decode prog_7_method_2_code 0 = .ok (.iload_n 1, 1) := by decide +kernel
theorem d_E_find_1 : decode prog_7_method_2_code 1 = .ok (.tableswitch 59 0 3 #[31, 36, 41, 50], 31) := by decide +kernel
theorem d_E_find_32 : decode prog_7_method_2_code 32 = .ok (.aload_n 0, 1) := by decide +kernel
theorem d_E_find_33 : decode prog_7_method_2_code 33 = .ok (.getfield 26, 3) := by decide +kernel
theorem d_E_find_36 : decode prog_7_method_2_code 36 = .ok (.areturn, 1) := by decide +kernel
theorem d_E_find_37 : decode prog_7_method_2_code 37 = .ok (.aload_n 0, 1) := by decide +kernel
theorem d_E_find_38 : decode prog_7_method_2_code 38 = .ok (.getfield 30, 3) := by decide +kernel
theorem d_E_find_41 : decode prog_7_method_2_code 41 = .ok (.areturn, 1) := by decide +kernel
theorem d_E_find_42 : decode prog_7_method_2_code 42 = .ok (.aload_n 0, 1) := by decide +kernel
theorem d_E_find_43 : decode prog_7_method_2_code 43 = .ok (.getfield 10, 3) := by decide +kernel
theorem d_E_find_46 : decode prog_7_method_2_code 46 = .ok (.aload_n 2, 1) := by decide +kernel
theorem d_E_find_47 : decode prog_7_method_2_code 47 = .ok (.invokestatic 40, 3) := by decide +kernel
theorem d_E_find_50 : decode prog_7_method_2_code 50 = .ok (.areturn, 1) := by decide +kernel
theorem d_E_find_51 : decode prog_7_method_2_code 51 = .ok (.aload_n 0, 1) := by decide +kernel
theorem d_E_find_52 : decode prog_7_method_2_code 52 = .ok (.getfield 16, 3) := by decide +kernel
theorem d_E_find_55 : decode prog_7_method_2_code 55 = .ok (.aload_n 2, 1) := by decide +kernel
theorem d_E_find_56 : decode prog_7_method_2_code 56 = .ok (.invokestatic 40, 3) := by decide +kernel
theorem d_E_find_59 : decode prog_7_method_2_code 59 = .ok (.areturn, 1) := by decide +kernel
theorem d_E_find_60 : decode prog_7_method_2_code 60 = .ok (.aload_n 0, 1) := by decide +kernel
theorem d_E_find_61 : decode prog_7_method_2_code 61 = .ok (.getfield 33, 3) := by decide +kernel
theorem d_E_find_64 : decode prog_7_method_2_code 64 = .ok (.areturn, 1) := by decide +kernel
def wp_E_find (a : Nat) (p0 : Int32) (p1 : Option Nat) (A : ab_H) (Q : Option Nat → ab_H → Prop) : Prop := if p0 = 0 then (wgR A (some a) 7 2 (fun r1 => Q r1 A)) else (if p0 = 1 then (wgR A (some a) 7 3 (fun r2 => Q r2 A)) else (if p0 = 2 then (wgR A (some a) 7 0 (fun r3 => wp_E_firstOf r3 p1 A (fun r4 A => Q r4 A))) else (if p0 = 3 then (wgR A (some a) 7 1 (fun r5 => wp_E_firstOf r5 p1 A (fun r6 A => Q r6 A))) else (wgR A (some a) 7 4 (fun r7 => Q r7 A)))))
set_option maxRecDepth 100000 in
set_option maxHeartbeats 4000000 in
theorem sd_E_find {l : Launch} {G : mm_G} {h : mm_H} {A : ab_H} {a : Nat} {p0 : Int32} {p1 : Option Nat} {Q : Option Nat → ab_H → Prop} (hV : Vw G h A) (hw : wp_E_find a p0 p1 A Q) : mm_S l G M_E_find [.ref a, .int p0, va_rf p1] h 0 0 (wQR G Q) := by
  unfold wp_E_find at hw
  refine mm_start rfl (by simp [mm_as, wr_cat, wr_catI, wr_catJ, wr_catN]) ?_
  rw [show mm_en [.ref a, .int p0, va_rf p1] M_E_find.2.2.1 = [some (.ref a), some (.int p0), some (va_rf p1)] from by simp [mm_en, mm_as, wr_cat, wr_catI, wr_catJ, wr_catN]]
  show mm_V l G M_E_find 0 0 0 [some (va_rf (some a)), some (.int p0), some (va_rf p1)] [] h _
  refine mm_iload_n (pc' := 1) d_E_find_0 rfl rfl rfl ?_
  refine wr_ite hw (fun hs hw => ?_) (fun hs0 hw => ?_)
  · rw [hs]
    refine mm_tableIn (tgt := 32) d_E_find_1 (by decide) (by decide) rfl rfl ?_
    refine wr_aload_n (some a) (pc' := 33) d_E_find_32 rfl rfl rfl ?_
    refine wr_getR hV hw (pc' := 36) d_E_find_33 rfl fl_E_26 (fun r1 hw => ?_)
    exact wr_aret hV d_E_find_36 rfl (by first | exact Or.inl ⟨_, rfl⟩ | exact Or.inr ⟨_, rfl⟩) hw
  refine wr_ite hw (fun hs hw => ?_) (fun hs1 hw => ?_)
  · rw [hs]
    refine mm_tableIn (tgt := 37) d_E_find_1 (by decide) (by decide) rfl rfl ?_
    refine wr_aload_n (some a) (pc' := 38) d_E_find_37 rfl rfl rfl ?_
    refine wr_getR hV hw (pc' := 41) d_E_find_38 rfl fl_E_30 (fun r2 hw => ?_)
    exact wr_aret hV d_E_find_41 rfl (by first | exact Or.inl ⟨_, rfl⟩ | exact Or.inr ⟨_, rfl⟩) hw
  refine wr_ite hw (fun hs hw => ?_) (fun hs2 hw => ?_)
  · rw [hs]
    refine mm_tableIn (tgt := 42) d_E_find_1 (by decide) (by decide) rfl rfl ?_
    refine wr_aload_n (some a) (pc' := 43) d_E_find_42 rfl rfl rfl ?_
    refine wr_getR hV hw (pc' := 46) d_E_find_43 rfl fl_E_10 (fun r3 hw => ?_)
    refine wr_aload_n p1 (pc' := 47) d_E_find_46 rfl rfl rfl ?_
    refine wr_cSR (pc' := 50) (as := [va_rf r3, va_rf p1]) (st := []) d_E_find_47 rfl cs_E_40 (sd_E_firstOf hV hw) rfl rfl (Nat.le_of_ble_eq_true rfl) (Nat.le_of_ble_eq_true rfl) (fun r4 h A hV hw => ?_)
    exact wr_aret hV d_E_find_50 rfl (by first | exact Or.inl ⟨_, rfl⟩ | exact Or.inr ⟨_, rfl⟩) hw
  refine wr_ite hw (fun hs hw => ?_) (fun hs3 hw => ?_)
  · rw [hs]
    refine mm_tableIn (tgt := 51) d_E_find_1 (by decide) (by decide) rfl rfl ?_
    refine wr_aload_n (some a) (pc' := 52) d_E_find_51 rfl rfl rfl ?_
    refine wr_getR hV hw (pc' := 55) d_E_find_52 rfl fl_E_16 (fun r5 hw => ?_)
    refine wr_aload_n p1 (pc' := 56) d_E_find_55 rfl rfl rfl ?_
    refine wr_cSR (pc' := 59) (as := [va_rf r5, va_rf p1]) (st := []) d_E_find_56 rfl cs_E_40 (sd_E_firstOf hV hw) rfl rfl (Nat.le_of_ble_eq_true rfl) (Nat.le_of_ble_eq_true rfl) (fun r6 h A hV hw => ?_)
    exact wr_aret hV d_E_find_59 rfl (by first | exact Or.inl ⟨_, rfl⟩ | exact Or.inr ⟨_, rfl⟩) hw
  have ht0 := wr_toInt hs0
  have ht1 := wr_toInt hs1
  have ht2 := wr_toInt hs2
  have ht3 := wr_toInt hs3
  rw [show (0 : Int32).toInt = 0 from rfl] at ht0
  rw [show (1 : Int32).toInt = 1 from rfl] at ht1
  rw [show (2 : Int32).toInt = 2 from rfl] at ht2
  rw [show (3 : Int32).toInt = 3 from rfl] at ht3
  refine mm_tableOut (tgt := 60) d_E_find_1 (by omega) rfl ?_
  refine wr_aload_n (some a) (pc' := 61) d_E_find_60 rfl rfl rfl ?_
  refine wr_getR hV hw (pc' := 64) d_E_find_61 rfl fl_E_33 (fun r7 hw => ?_)
  exact wr_aret hV d_E_find_64 rfl (by first | exact Or.inl ⟨_, rfl⟩ | exact Or.inr ⟨_, rfl⟩) hw
theorem d_X_contains_0 : decode prog_12_method_9_code 0 = .ok (.iconst 0, 1) := by decide +kernel
theorem d_X_contains_1 : decode prog_12_method_9_code 1 = .ok (.istore_n 2, 1) := by decide +kernel
theorem d_X_contains_2 : decode prog_12_method_9_code 2 = .ok (.iload_n 2, 1) := by decide +kernel
theorem d_X_contains_3 : decode prog_12_method_9_code 3 = .ok (.aload_n 1, 1) := by decide +kernel
theorem d_X_contains_4 : decode prog_12_method_9_code 4 = .ok (.invokevirtual 22, 3) := by decide +kernel
theorem d_X_contains_7 : decode prog_12_method_9_code 7 = .ok (.iadd, 1) := by decide +kernel
theorem d_X_contains_8 : decode prog_12_method_9_code 8 = .ok (.aload_n 0, 1) := by decide +kernel
theorem d_X_contains_9 : decode prog_12_method_9_code 9 = .ok (.invokevirtual 22, 3) := by decide +kernel
theorem d_X_contains_12 : decode prog_12_method_9_code 12 = .ok (.if_icmp .gt 50, 3) := by decide +kernel
theorem d_X_contains_15 : decode prog_12_method_9_code 15 = .ok (.iconst 0, 1) := by decide +kernel
theorem d_X_contains_16 : decode prog_12_method_9_code 16 = .ok (.istore_n 3, 1) := by decide +kernel
theorem d_X_contains_17 : decode prog_12_method_9_code 17 = .ok (.iload_n 3, 1) := by decide +kernel
theorem d_X_contains_18 : decode prog_12_method_9_code 18 = .ok (.aload_n 1, 1) := by decide +kernel
theorem d_X_contains_19 : decode prog_12_method_9_code 19 = .ok (.invokevirtual 22, 3) := by decide +kernel
theorem d_X_contains_22 : decode prog_12_method_9_code 22 = .ok (.if_icmp .ge 24, 3) := by decide +kernel
theorem d_X_contains_25 : decode prog_12_method_9_code 25 = .ok (.aload_n 0, 1) := by decide +kernel
theorem d_X_contains_26 : decode prog_12_method_9_code 26 = .ok (.iload_n 2, 1) := by decide +kernel
theorem d_X_contains_27 : decode prog_12_method_9_code 27 = .ok (.iload_n 3, 1) := by decide +kernel
theorem d_X_contains_28 : decode prog_12_method_9_code 28 = .ok (.iadd, 1) := by decide +kernel
theorem d_X_contains_29 : decode prog_12_method_9_code 29 = .ok (.invokevirtual 26, 3) := by decide +kernel
theorem d_X_contains_32 : decode prog_12_method_9_code 32 = .ok (.aload_n 1, 1) := by decide +kernel
theorem d_X_contains_33 : decode prog_12_method_9_code 33 = .ok (.iload_n 3, 1) := by decide +kernel
theorem d_X_contains_34 : decode prog_12_method_9_code 34 = .ok (.invokevirtual 26, 3) := by decide +kernel
theorem d_X_contains_37 : decode prog_12_method_9_code 37 = .ok (.if_icmp .ne 9, 3) := by decide +kernel
theorem d_X_contains_40 : decode prog_12_method_9_code 40 = .ok (.iinc 3 1, 3) := by decide +kernel
theorem d_X_contains_43 : decode prog_12_method_9_code 43 = .ok (.goto (-26), 3) := by decide +kernel
theorem d_X_contains_46 : decode prog_12_method_9_code 46 = .ok (.iload_n 3, 1) := by decide +kernel
theorem d_X_contains_47 : decode prog_12_method_9_code 47 = .ok (.aload_n 1, 1) := by decide +kernel
theorem d_X_contains_48 : decode prog_12_method_9_code 48 = .ok (.invokevirtual 22, 3) := by decide +kernel
theorem d_X_contains_51 : decode prog_12_method_9_code 51 = .ok (.if_icmp .ne 5, 3) := by decide +kernel
theorem d_X_contains_54 : decode prog_12_method_9_code 54 = .ok (.iconst 1, 1) := by decide +kernel
theorem d_X_contains_55 : decode prog_12_method_9_code 55 = .ok (.ireturn, 1) := by decide +kernel
theorem d_X_contains_56 : decode prog_12_method_9_code 56 = .ok (.iinc 2 1, 3) := by decide +kernel
theorem d_X_contains_59 : decode prog_12_method_9_code 59 = .ok (.goto (-57), 3) := by decide +kernel
theorem d_X_contains_62 : decode prog_12_method_9_code 62 = .ok (.iconst 0, 1) := by decide +kernel
theorem d_X_contains_63 : decode prog_12_method_9_code 63 = .ok (.ireturn, 1) := by decide +kernel
def wq_X_contains_46 (p0 : Option Nat) (p1 : Option Nat) (Q : Int32 → ab_H → Prop) (k2 : Int32 → ab_H → Prop) (u2 : Int32) (u3 : Int32) (A : ab_H) : Prop := wj_ST_length A p1  (fun x1 => if u3 = x1 then (Q (1 : Int32) A) else (k2 (u2 + 1) A))
set_option maxRecDepth 100000 in
set_option maxHeartbeats 4000000 in
theorem sq_X_contains_46 {l : Launch} {G : mm_G} {p0 : Option Nat} {p1 : Option Nat} {Q : Int32 → ab_H → Prop} {k2 : Int32 → ab_H → Prop} (hk2 : ∀ (u2 : Int32) (A : ab_H) (h : mm_H), Vw G h A → k2 u2 A → mm_V l G M_X_contains 0 0 2 [some (va_rf p0), some (va_rf p1), some (.int u2), none] [] h (wQI G Q)) : ∀ (u2 : Int32) (u3 : Int32) (A : ab_H) (h : mm_H), Vw G h A → wq_X_contains_46 p0 p1 Q k2 u2 u3 A → mm_V l G M_X_contains 0 0 46 [some (va_rf p0), some (va_rf p1), some (.int u2), some (.int u3)] [] h (wQI G Q) := by
  intro u2 u3 A h hV hw
  unfold wq_X_contains_46 at hw
  refine mm_iload_n (pc' := 47) d_X_contains_46 rfl rfl rfl ?_
  refine wr_aload_n p1 (pc' := 48) d_X_contains_47 rfl rfl rfl ?_
  refine wr_ST_length hV hw (pc' := 51) d_X_contains_48 rfl cs_X_22 (Nat.le_of_ble_eq_true rfl) (Nat.le_of_ble_eq_true rfl) (fun x1 hw => ?_)
  refine wr_icmp_ne hw (pc' := 54) d_X_contains_51 rfl rfl (fun hw => ?_) (fun hw => ?_)
  · refine mm_iinc2 (v := (u2 + 1)) (pc' := 59) d_X_contains_56 rfl (wr_2 _) rfl (Nat.le_of_ble_eq_true rfl) ?_
    refine mm_goto (tgt := 2) d_X_contains_59 rfl ?_
    exact mm_drop (mm_le.s (mm_le.s (mm_le.s (mm_le.n mm_le.e)))) (hk2 _ _ _ hV hw)
  · refine mm_iconst (v := 1) (pc' := 55) d_X_contains_54 rfl (by decide) ?_
    exact wr_iret hV d_X_contains_55 rfl rfl hw
def wb_X_contains_17 (p0 : Option Nat) (p1 : Option Nat) (Q : Int32 → ab_H → Prop) (k2 : Int32 → ab_H → Prop) (k17 : Int32 → Int32 → ab_H → Prop) (u2 : Int32) (u3 : Int32) (A : ab_H) : Prop := wj_ST_length A p1  (fun x2 => if x2 ≤ u3 then (wq_X_contains_46 p0 p1 Q k2 u2 u3 A) else (wj_ST_charAt A p0 (u2 + u3) (fun x3 => wj_ST_charAt A p1 u3 (fun x4 => if x3 = x4 then (k17 u2 (u3 + 1) A) else (wq_X_contains_46 p0 p1 Q k2 u2 u3 A)))))
def wq_X_contains_17 (p0 : Option Nat) (p1 : Option Nat) (Q : Int32 → ab_H → Prop) (k2 : Int32 → ab_H → Prop) : Nat → Int32 → Int32 → ab_H → Prop
  | 0 => fun _ _ _ => False
  | n + 1 => wb_X_contains_17 p0 p1 Q k2 (wq_X_contains_17 p0 p1 Q k2 n)
set_option maxRecDepth 100000 in
set_option maxHeartbeats 4000000 in
theorem sq_X_contains_17 {l : Launch} {G : mm_G} {p0 : Option Nat} {p1 : Option Nat} {Q : Int32 → ab_H → Prop} {k2 : Int32 → ab_H → Prop} (hk2 : ∀ (u2 : Int32) (A : ab_H) (h : mm_H), Vw G h A → k2 u2 A → mm_V l G M_X_contains 0 0 2 [some (va_rf p0), some (va_rf p1), some (.int u2), none] [] h (wQI G Q)) : ∀ (n : Nat) (u2 : Int32) (u3 : Int32) (A : ab_H) (h : mm_H), Vw G h A → wq_X_contains_17 p0 p1 Q k2 n u2 u3 A → mm_V l G M_X_contains 0 0 17 [some (va_rf p0), some (va_rf p1), some (.int u2), some (.int u3)] [] h (wQI G Q) := by
  intro n
  induction n with
  | zero =>
    intro u2 u3 A h hV hw
    exact absurd hw id
  | succ n hk17 =>
    intro u2 u3 A h hV hw
    have hw : wb_X_contains_17 p0 p1 Q k2 (wq_X_contains_17 p0 p1 Q k2 n) u2 u3 A := hw
    unfold wb_X_contains_17 at hw
    refine mm_iload_n (pc' := 18) d_X_contains_17 rfl rfl rfl ?_
    refine wr_aload_n p1 (pc' := 19) d_X_contains_18 rfl rfl rfl ?_
    refine wr_ST_length hV hw (pc' := 22) d_X_contains_19 rfl cs_X_22 (Nat.le_of_ble_eq_true rfl) (Nat.le_of_ble_eq_true rfl) (fun x2 hw => ?_)
    refine wr_icmp_ge hw (pc' := 25) d_X_contains_22 rfl rfl (fun hw => ?_) (fun hw => ?_)
    · exact mm_drop (mm_le.s (mm_le.s (mm_le.s (mm_le.s mm_le.e)))) (sq_X_contains_46 hk2 _ _ _ _ hV hw)
    · refine wr_aload_n p0 (pc' := 26) d_X_contains_25 rfl rfl rfl ?_
      refine mm_iload_n (pc' := 27) d_X_contains_26 rfl rfl rfl ?_
      refine mm_iload_n (pc' := 28) d_X_contains_27 rfl rfl rfl ?_
      refine mm_iadd (pc' := 29) d_X_contains_28 rfl ?_
      refine wr_ST_charAt hV hw (pc' := 32) d_X_contains_29 rfl cs_X_26 (Nat.le_of_ble_eq_true rfl) (Nat.le_of_ble_eq_true rfl) (fun x3 hw => ?_)
      refine wr_aload_n p1 (pc' := 33) d_X_contains_32 rfl rfl rfl ?_
      refine mm_iload_n (pc' := 34) d_X_contains_33 rfl rfl rfl ?_
      refine wr_ST_charAt hV hw (pc' := 37) d_X_contains_34 rfl cs_X_26 (Nat.le_of_ble_eq_true rfl) (Nat.le_of_ble_eq_true rfl) (fun x4 hw => ?_)
      refine wr_icmp_ne hw (pc' := 40) d_X_contains_37 rfl rfl (fun hw => ?_) (fun hw => ?_)
      · exact mm_drop (mm_le.s (mm_le.s (mm_le.s (mm_le.s mm_le.e)))) (sq_X_contains_46 hk2 _ _ _ _ hV hw)
      · refine mm_iinc3 (v := (u3 + 1)) (pc' := 43) d_X_contains_40 rfl rfl rfl (Nat.le_of_ble_eq_true rfl) ?_
        refine mm_goto (tgt := 17) d_X_contains_43 rfl ?_
        exact mm_drop (mm_le.s (mm_le.s (mm_le.s (mm_le.s mm_le.e)))) (hk17 _ _ _ _ hV hw)
def wb_X_contains_2 (p0 : Option Nat) (p1 : Option Nat) (Q : Int32 → ab_H → Prop)  (k2 : Int32 → ab_H → Prop) (u2 : Int32) (A : ab_H) : Prop := wj_ST_length A p1  (fun x5 => wj_ST_length A p0  (fun x6 => if x6 < (u2 + x5) then (Q (0 : Int32) A) else (∃ n, wq_X_contains_17 p0 p1 Q k2 n u2 (0 : Int32) A)))
def wq_X_contains_2 (p0 : Option Nat) (p1 : Option Nat) (Q : Int32 → ab_H → Prop)  : Nat → Int32 → ab_H → Prop
  | 0 => fun _ _ => False
  | n + 1 => wb_X_contains_2 p0 p1 Q  (wq_X_contains_2 p0 p1 Q  n)
set_option maxRecDepth 100000 in
set_option maxHeartbeats 4000000 in
theorem sq_X_contains_2 {l : Launch} {G : mm_G} {p0 : Option Nat} {p1 : Option Nat} {Q : Int32 → ab_H → Prop}   : ∀ (n : Nat) (u2 : Int32) (A : ab_H) (h : mm_H), Vw G h A → wq_X_contains_2 p0 p1 Q  n u2 A → mm_V l G M_X_contains 0 0 2 [some (va_rf p0), some (va_rf p1), some (.int u2), none] [] h (wQI G Q) := by
  intro n
  induction n with
  | zero =>
    intro u2 A h hV hw
    exact absurd hw id
  | succ n hk2 =>
    intro u2 A h hV hw
    have hw : wb_X_contains_2 p0 p1 Q  (wq_X_contains_2 p0 p1 Q  n) u2 A := hw
    unfold wb_X_contains_2 at hw
    refine mm_iload_n (pc' := 3) d_X_contains_2 rfl rfl rfl ?_
    refine wr_aload_n p1 (pc' := 4) d_X_contains_3 rfl rfl rfl ?_
    refine wr_ST_length hV hw (pc' := 7) d_X_contains_4 rfl cs_X_22 (Nat.le_of_ble_eq_true rfl) (Nat.le_of_ble_eq_true rfl) (fun x5 hw => ?_)
    refine mm_iadd (pc' := 8) d_X_contains_7 rfl ?_
    refine wr_aload_n p0 (pc' := 9) d_X_contains_8 rfl rfl rfl ?_
    refine wr_ST_length hV hw (pc' := 12) d_X_contains_9 rfl cs_X_22 (Nat.le_of_ble_eq_true rfl) (Nat.le_of_ble_eq_true rfl) (fun x6 hw => ?_)
    refine wr_icmp_gt hw (pc' := 15) d_X_contains_12 rfl rfl (fun hw => ?_) (fun hw => ?_)
    · refine mm_iconst (v := 0) (pc' := 63) d_X_contains_62 rfl (by decide) ?_
      exact wr_iret hV d_X_contains_63 rfl rfl hw
    · refine mm_iconst (v := 0) (pc' := 16) d_X_contains_15 rfl (by decide) ?_
      refine mm_ist3 (pc' := 17) d_X_contains_16 rfl rfl (Nat.le_of_ble_eq_true rfl) ?_
      obtain ⟨n, hw⟩ := hw
      exact mm_drop (mm_le.s (mm_le.s (mm_le.s (mm_le.s mm_le.e)))) (sq_X_contains_17 hk2 n _ _ _ _ hV hw)
def wp_X_contains (p0 : Option Nat) (p1 : Option Nat) (A : ab_H) (Q : Int32 → ab_H → Prop) : Prop := ∃ n, wq_X_contains_2 p0 p1 Q n (0 : Int32) A
set_option maxRecDepth 100000 in
set_option maxHeartbeats 4000000 in
theorem sd_X_contains {l : Launch} {G : mm_G} {h : mm_H} {A : ab_H} {p0 : Option Nat} {p1 : Option Nat} {Q : Int32 → ab_H → Prop} (hV : Vw G h A) (hw : wp_X_contains p0 p1 A Q) : mm_S l G M_X_contains [va_rf p0, va_rf p1] h 0 0 (wQI G Q) := by
  unfold wp_X_contains at hw
  refine mm_start rfl (by simp [mm_as, wr_cat, wr_catI, wr_catJ, wr_catN]) ?_
  rw [show mm_en [va_rf p0, va_rf p1] M_X_contains.2.2.1 = [some (va_rf p0), some (va_rf p1), none, none] from by simp [mm_en, mm_as, wr_cat, wr_catI, wr_catJ, wr_catN]]
  show mm_V l G M_X_contains 0 0 0 [some (va_rf p0), some (va_rf p1), none, none] [] h _
  refine mm_iconst (v := 0) (pc' := 1) d_X_contains_0 rfl (by decide) ?_
  refine mm_ist2 (pc' := 2) d_X_contains_1 rfl (wr_2 _) (Nat.le_of_ble_eq_true rfl) ?_
  obtain ⟨n, hw⟩ := hw
  exact mm_drop (mm_le.s (mm_le.s (mm_le.s (mm_le.n mm_le.e)))) (sq_X_contains_2  n _ _ _ hV hw)
theorem d_N_withLeft_0 : decode prog_5_method_8_code 0 = .ok (.lload_n 1, 1) := by decide +kernel
theorem d_N_withLeft_1 : decode prog_5_method_8_code 1 = .ok (.lstore_n 3, 1) := by decide +kernel
theorem d_N_withLeft_2 : decode prog_5_method_8_code 2 = .ok (.iconst 0, 1) := by decide +kernel
theorem d_N_withLeft_3 : decode prog_5_method_8_code 3 = .ok (.istore 5, 2) := by decide +kernel
theorem d_N_withLeft_5 : decode prog_5_method_8_code 5 = .ok (.iload 5, 2) := by decide +kernel
theorem d_N_withLeft_7 : decode prog_5_method_8_code 7 = .ok (.aload_n 0, 1) := by decide +kernel
theorem d_N_withLeft_8 : decode prog_5_method_8_code 8 = .ok (.getfield 42, 3) := by decide +kernel
theorem d_N_withLeft_11 : decode prog_5_method_8_code 11 = .ok (.if_icmp .ge 25, 3) := by decide +kernel
theorem d_N_withLeft_14 : decode prog_5_method_8_code 14 = .ok (.lload_n 3, 1) := by decide +kernel
theorem d_N_withLeft_15 : decode prog_5_method_8_code 15 = .ok (.lload_n 3, 1) := by decide +kernel
theorem d_N_withLeft_16 : decode prog_5_method_8_code 16 = .ok (.aload_n 0, 1) := by decide +kernel
theorem d_N_withLeft_17 : decode prog_5_method_8_code 17 = .ok (.getfield 57, 3) := by decide +kernel
theorem d_N_withLeft_20 : decode prog_5_method_8_code 20 = .ok (.land, 1) := by decide +kernel
theorem d_N_withLeft_21 : decode prog_5_method_8_code 21 = .ok (.lconst 1, 1) := by decide +kernel
theorem d_N_withLeft_22 : decode prog_5_method_8_code 22 = .ok (.iload 5, 2) := by decide +kernel
theorem d_N_withLeft_24 : decode prog_5_method_8_code 24 = .ok (.lshl, 1) := by decide +kernel
theorem d_N_withLeft_25 : decode prog_5_method_8_code 25 = .ok (.land, 1) := by decide +kernel
theorem d_N_withLeft_26 : decode prog_5_method_8_code 26 = .ok (.iconst 1, 1) := by decide +kernel
theorem d_N_withLeft_27 : decode prog_5_method_8_code 27 = .ok (.lshl, 1) := by decide +kernel
theorem d_N_withLeft_28 : decode prog_5_method_8_code 28 = .ok (.lor, 1) := by decide +kernel
theorem d_N_withLeft_29 : decode prog_5_method_8_code 29 = .ok (.lstore_n 3, 1) := by decide +kernel
theorem d_N_withLeft_30 : decode prog_5_method_8_code 30 = .ok (.iinc 5 1, 3) := by decide +kernel
theorem d_N_withLeft_33 : decode prog_5_method_8_code 33 = .ok (.goto (-28), 3) := by decide +kernel
theorem d_N_withLeft_36 : decode prog_5_method_8_code 36 = .ok (.lload_n 3, 1) := by decide +kernel
theorem d_N_withLeft_37 : decode prog_5_method_8_code 37 = .ok (.lreturn, 1) := by decide +kernel
def wb_N_withLeft_5 (a : Nat) (p0 : Int64) (Q : Int64 → ab_H → Prop)  (k5 : Int64 → Int32 → ab_H → Prop) (u3 : Int64) (u5 : Int32) (A : ab_H) : Prop := wgI A (some a) 10 2 (fun x1 => if x1 ≤ u5 then (Q u3 A) else (wgJ A (some a) 10 6 (fun y2 => wL ((u3 ||| (wsl ((u3 &&& y2) &&& (wsl (1 : Int64) u5)) (1 : Int32)))) (fun y3 => k5 y3 (u5 + 1) A))))
def wq_N_withLeft_5 (a : Nat) (p0 : Int64) (Q : Int64 → ab_H → Prop)  : Nat → Int64 → Int32 → ab_H → Prop
  | 0 => fun _ _ _ => False
  | n + 1 => wb_N_withLeft_5 a p0 Q  (wq_N_withLeft_5 a p0 Q  n)
set_option maxRecDepth 100000 in
set_option maxHeartbeats 4000000 in
theorem sq_N_withLeft_5 {l : Launch} {G : mm_G} {a : Nat} {p0 : Int64} {Q : Int64 → ab_H → Prop}   : ∀ (n : Nat) (u3 : Int64) (u5 : Int32) (A : ab_H) (h : mm_H), Vw G h A → wq_N_withLeft_5 a p0 Q  n u3 u5 A → mm_V l G M_N_withLeft 0 0 5 [some (va_rf (some a)), some (.long p0), none, some (.long u3), none, some (.int u5)] [] h (wQJ G Q) := by
  intro n
  induction n with
  | zero =>
    intro u3 u5 A h hV hw
    exact absurd hw id
  | succ n hk5 =>
    intro u3 u5 A h hV hw
    have hw : wb_N_withLeft_5 a p0 Q  (wq_N_withLeft_5 a p0 Q  n) u3 u5 A := hw
    unfold wb_N_withLeft_5 at hw
    refine mm_iload (pc' := 7) d_N_withLeft_5 rfl rfl ?_
    refine wr_aload_n (some a) (pc' := 8) d_N_withLeft_7 rfl rfl rfl ?_
    refine wr_getI hV hw (pc' := 11) d_N_withLeft_8 rfl fl_N_42 (fun x1 hw => ?_)
    refine wr_icmp_ge hw (pc' := 14) d_N_withLeft_11 rfl rfl (fun hw => ?_) (fun hw => ?_)
    · refine mm_lload_n (pc' := 37) d_N_withLeft_36 rfl rfl rfl ?_
      exact wr_lret hV d_N_withLeft_37 rfl hw
    · refine mm_lload_n (pc' := 15) d_N_withLeft_14 rfl rfl rfl ?_
      refine mm_lload_n (pc' := 16) d_N_withLeft_15 rfl rfl rfl ?_
      refine wr_aload_n (some a) (pc' := 17) d_N_withLeft_16 rfl rfl rfl ?_
      refine wr_getJ hV hw (pc' := 20) d_N_withLeft_17 rfl fl_N_57 (fun y2 hw => ?_)
      refine mm_land (pc' := 21) d_N_withLeft_20 rfl ?_
      refine mm_lconst (v := 1) (pc' := 22) d_N_withLeft_21 rfl (by decide) ?_
      refine mm_iload (pc' := 24) d_N_withLeft_22 rfl rfl ?_
      refine mm_lshl (v := wsl (1 : Int64) u5) (pc' := 25) d_N_withLeft_24 rfl rfl ?_
      refine mm_land (pc' := 26) d_N_withLeft_25 rfl ?_
      refine mm_iconst (v := 1) (pc' := 27) d_N_withLeft_26 rfl (by decide) ?_
      refine mm_lshl (v := wsl ((u3 &&& y2) &&& (wsl (1 : Int64) u5)) (1 : Int32)) (pc' := 28) d_N_withLeft_27 rfl rfl ?_
      refine mm_lor (pc' := 29) d_N_withLeft_28 rfl ?_
      refine wr_let (P := fun z => mm_V l G M_N_withLeft 0 0 29 [some (va_rf (some a)), some (.long p0), none, some (.long u3), none, some (.int u5)] (.long z :: []) h _) hw (fun y3 hw => ?_)
      refine mm_lst3 (pc' := 30) d_N_withLeft_29 rfl rfl (Nat.le_of_ble_eq_true rfl) ?_
      refine mm_iinc5 (v := (u5 + 1)) (pc' := 33) d_N_withLeft_30 rfl rfl rfl (Nat.le_of_ble_eq_true rfl) ?_
      refine mm_goto (tgt := 5) d_N_withLeft_33 rfl ?_
      exact mm_drop (mm_le.s (mm_le.s (mm_le.n (mm_le.s (mm_le.n (mm_le.s mm_le.e)))))) (hk5 _ _ _ _ hV hw)
def wp_N_withLeft (a : Nat) (p0 : Int64) (A : ab_H) (Q : Int64 → ab_H → Prop) : Prop := ∃ n, wq_N_withLeft_5 a p0 Q n p0 (0 : Int32) A
set_option maxRecDepth 100000 in
set_option maxHeartbeats 4000000 in
theorem sd_N_withLeft {l : Launch} {G : mm_G} {h : mm_H} {A : ab_H} {a : Nat} {p0 : Int64} {Q : Int64 → ab_H → Prop} (hV : Vw G h A) (hw : wp_N_withLeft a p0 A Q) : mm_S l G M_N_withLeft [.ref a, .long p0] h 0 0 (wQJ G Q) := by
  unfold wp_N_withLeft at hw
  refine mm_start rfl (Nat.le_of_ble_eq_true rfl) ?_
  show mm_V l G M_N_withLeft 0 0 0 [some (va_rf (some a)), some (.long p0), none, none, none, none] [] h _
  refine mm_lload_n (pc' := 1) d_N_withLeft_0 rfl rfl rfl ?_
  refine mm_lst3 (pc' := 2) d_N_withLeft_1 rfl rfl (Nat.le_of_ble_eq_true rfl) ?_
  refine mm_iconst (v := 0) (pc' := 3) d_N_withLeft_2 rfl (by decide) ?_
  refine mm_ist5 (pc' := 5) d_N_withLeft_3 rfl rfl (Nat.le_of_ble_eq_true rfl) ?_
  obtain ⟨n, hw⟩ := hw
  exact mm_drop (mm_le.s (mm_le.s (mm_le.n (mm_le.s (mm_le.n (mm_le.s mm_le.e)))))) (sq_N_withLeft_5  n _ _ _ _ hV hw)
theorem d_N_placesAllowing_0 : decode prog_5_method_9_code 0 = .ok (.aload_n 0, 1) := by decide +kernel
theorem d_N_placesAllowing_1 : decode prog_5_method_9_code 1 = .ok (.getfield 54, 3) := by decide +kernel
theorem d_N_placesAllowing_4 : decode prog_5_method_9_code 4 = .ok (.lstore_n 2, 1) := by decide +kernel
theorem d_N_placesAllowing_5 : decode prog_5_method_9_code 5 = .ok (.iconst 0, 1) := by decide +kernel
theorem d_N_placesAllowing_6 : decode prog_5_method_9_code 6 = .ok (.istore 4, 2) := by decide +kernel
theorem d_N_placesAllowing_8 : decode prog_5_method_9_code 8 = .ok (.iload 4, 2) := by decide +kernel
theorem d_N_placesAllowing_10 : decode prog_5_method_9_code 10 = .ok (.aload_n 0, 1) := by decide +kernel
theorem d_N_placesAllowing_11 : decode prog_5_method_9_code 11 = .ok (.getfield 13, 3) := by decide +kernel
theorem d_N_placesAllowing_14 : decode prog_5_method_9_code 14 = .ok (.invokevirtual 17, 3) := by decide +kernel
theorem d_N_placesAllowing_17 : decode prog_5_method_9_code 17 = .ok (.if_icmp .ge 45, 3) := by decide +kernel
theorem d_N_placesAllowing_20 : decode prog_5_method_9_code 20 = .ok (.aload_n 0, 1) := by decide +kernel
theorem d_N_placesAllowing_21 : decode prog_5_method_9_code 21 = .ok (.getfield 13, 3) := by decide +kernel
theorem d_N_placesAllowing_24 : decode prog_5_method_9_code 24 = .ok (.iload 4, 2) := by decide +kernel
theorem d_N_placesAllowing_26 : decode prog_5_method_9_code 26 = .ok (.invokevirtual 38, 3) := by decide +kernel
theorem d_N_placesAllowing_29 : decode prog_5_method_9_code 29 = .ok (.iload_n 1, 1) := by decide +kernel
theorem d_N_placesAllowing_30 : decode prog_5_method_9_code 30 = .ok (.if_icmp .ne 26, 3) := by decide +kernel
theorem d_N_placesAllowing_33 : decode prog_5_method_9_code 33 = .ok (.aload_n 0, 1) := by decide +kernel
theorem d_N_placesAllowing_34 : decode prog_5_method_9_code 34 = .ok (.getfield 23, 3) := by decide +kernel
theorem d_N_placesAllowing_37 : decode prog_5_method_9_code 37 = .ok (.iload 4, 2) := by decide +kernel
theorem d_N_placesAllowing_39 : decode prog_5_method_9_code 39 = .ok (.iaload, 1) := by decide +kernel
theorem d_N_placesAllowing_40 : decode prog_5_method_9_code 40 = .ok (.iconst (-1), 1) := by decide +kernel
theorem d_N_placesAllowing_41 : decode prog_5_method_9_code 41 = .ok (.if_icmp .eq 15, 3) := by decide +kernel
theorem d_N_placesAllowing_44 : decode prog_5_method_9_code 44 = .ok (.lload_n 2, 1) := by decide +kernel
theorem d_N_placesAllowing_45 : decode prog_5_method_9_code 45 = .ok (.lconst 1, 1) := by decide +kernel
theorem d_N_placesAllowing_46 : decode prog_5_method_9_code 46 = .ok (.aload_n 0, 1) := by decide +kernel
theorem d_N_placesAllowing_47 : decode prog_5_method_9_code 47 = .ok (.getfield 23, 3) := by decide +kernel
theorem d_N_placesAllowing_50 : decode prog_5_method_9_code 50 = .ok (.iload 4, 2) := by decide +kernel
theorem d_N_placesAllowing_52 : decode prog_5_method_9_code 52 = .ok (.iaload, 1) := by decide +kernel
theorem d_N_placesAllowing_53 : decode prog_5_method_9_code 53 = .ok (.lshl, 1) := by decide +kernel
theorem d_N_placesAllowing_54 : decode prog_5_method_9_code 54 = .ok (.lor, 1) := by decide +kernel
theorem d_N_placesAllowing_55 : decode prog_5_method_9_code 55 = .ok (.lstore_n 2, 1) := by decide +kernel
theorem d_N_placesAllowing_56 : decode prog_5_method_9_code 56 = .ok (.iinc 4 1, 3) := by decide +kernel
theorem d_N_placesAllowing_59 : decode prog_5_method_9_code 59 = .ok (.goto (-51), 3) := by decide +kernel
theorem d_N_placesAllowing_62 : decode prog_5_method_9_code 62 = .ok (.lload_n 2, 1) := by decide +kernel
theorem d_N_placesAllowing_63 : decode prog_5_method_9_code 63 = .ok (.lreturn, 1) := by decide +kernel
def wb_N_placesAllowing_8 (a : Nat) (p0 : Int32) (Q : Int64 → ab_H → Prop)  (k8 : Int64 → Int32 → ab_H → Prop) (u2 : Int64) (u4 : Int32) (A : ab_H) : Prop := wgR A (some a) 10 0 (fun r1 => wj_ST_length A r1  (fun x2 => if x2 ≤ u4 then (Q u2 A) else (wgR A (some a) 10 0 (fun r3 => wj_ST_charAt A r3 u4 (fun x4 => if x4 = p0 then (wgR A (some a) 10 1 (fun r5 => wAI A r5 u4 (fun x6 => if x6 = ((-1) : Int32) then (k8 u2 (u4 + 1) A) else (wgR A (some a) 10 1 (fun r7 => wAI A r7 u4 (fun x8 => wL ((u2 ||| (wsl (1 : Int64) x8))) (fun y9 => k8 y9 (u4 + 1) A))))))) else (k8 u2 (u4 + 1) A))))))
def wq_N_placesAllowing_8 (a : Nat) (p0 : Int32) (Q : Int64 → ab_H → Prop)  : Nat → Int64 → Int32 → ab_H → Prop
  | 0 => fun _ _ _ => False
  | n + 1 => wb_N_placesAllowing_8 a p0 Q  (wq_N_placesAllowing_8 a p0 Q  n)
set_option maxRecDepth 100000 in
set_option maxHeartbeats 4000000 in
theorem sq_N_placesAllowing_8 {l : Launch} {G : mm_G} {a : Nat} {p0 : Int32} {Q : Int64 → ab_H → Prop}   : ∀ (n : Nat) (u2 : Int64) (u4 : Int32) (A : ab_H) (h : mm_H), Vw G h A → wq_N_placesAllowing_8 a p0 Q  n u2 u4 A → mm_V l G M_N_placesAllowing 0 0 8 [some (va_rf (some a)), some (.int p0), some (.long u2), none, some (.int u4)] [] h (wQJ G Q) := by
  intro n
  induction n with
  | zero =>
    intro u2 u4 A h hV hw
    exact absurd hw id
  | succ n hk8 =>
    intro u2 u4 A h hV hw
    have hw : wb_N_placesAllowing_8 a p0 Q  (wq_N_placesAllowing_8 a p0 Q  n) u2 u4 A := hw
    unfold wb_N_placesAllowing_8 at hw
    refine mm_iload (pc' := 10) d_N_placesAllowing_8 rfl rfl ?_
    refine wr_aload_n (some a) (pc' := 11) d_N_placesAllowing_10 rfl rfl rfl ?_
    refine wr_getR hV hw (pc' := 14) d_N_placesAllowing_11 rfl fl_N_13 (fun r1 hw => ?_)
    refine wr_ST_length hV hw (pc' := 17) d_N_placesAllowing_14 rfl cs_N_17 (Nat.le_of_ble_eq_true rfl) (Nat.le_of_ble_eq_true rfl) (fun x2 hw => ?_)
    refine wr_icmp_ge hw (pc' := 20) d_N_placesAllowing_17 rfl rfl (fun hw => ?_) (fun hw => ?_)
    · refine mm_lload_n (pc' := 63) d_N_placesAllowing_62 rfl rfl rfl ?_
      exact wr_lret hV d_N_placesAllowing_63 rfl hw
    · refine wr_aload_n (some a) (pc' := 21) d_N_placesAllowing_20 rfl rfl rfl ?_
      refine wr_getR hV hw (pc' := 24) d_N_placesAllowing_21 rfl fl_N_13 (fun r3 hw => ?_)
      refine mm_iload (pc' := 26) d_N_placesAllowing_24 rfl rfl ?_
      refine wr_ST_charAt hV hw (pc' := 29) d_N_placesAllowing_26 rfl cs_N_38 (Nat.le_of_ble_eq_true rfl) (Nat.le_of_ble_eq_true rfl) (fun x4 hw => ?_)
      refine mm_iload_n (pc' := 30) d_N_placesAllowing_29 rfl rfl rfl ?_
      refine wr_icmp_ne hw (pc' := 33) d_N_placesAllowing_30 rfl rfl (fun hw => ?_) (fun hw => ?_)
      · refine mm_iinc4 (v := (u4 + 1)) (pc' := 59) d_N_placesAllowing_56 rfl rfl rfl (Nat.le_of_ble_eq_true rfl) ?_
        refine mm_goto (tgt := 8) d_N_placesAllowing_59 rfl ?_
        exact mm_drop (mm_le.s (mm_le.s (mm_le.s (mm_le.n (mm_le.s mm_le.e))))) (hk8 _ _ _ _ hV hw)
      · refine wr_aload_n (some a) (pc' := 34) d_N_placesAllowing_33 rfl rfl rfl ?_
        refine wr_getR hV hw (pc' := 37) d_N_placesAllowing_34 rfl fl_N_23 (fun r5 hw => ?_)
        refine mm_iload (pc' := 39) d_N_placesAllowing_37 rfl rfl ?_
        refine wr_aldI hV hw (pc' := 40) d_N_placesAllowing_39 rfl (fun x6 hw => ?_)
        refine mm_iconst (v := (-1)) (pc' := 41) d_N_placesAllowing_40 rfl (by decide) ?_
        refine wr_icmp_eq hw (pc' := 44) d_N_placesAllowing_41 rfl rfl (fun hw => ?_) (fun hw => ?_)
        · refine mm_iinc4 (v := (u4 + 1)) (pc' := 59) d_N_placesAllowing_56 rfl rfl rfl (Nat.le_of_ble_eq_true rfl) ?_
          refine mm_goto (tgt := 8) d_N_placesAllowing_59 rfl ?_
          exact mm_drop (mm_le.s (mm_le.s (mm_le.s (mm_le.n (mm_le.s mm_le.e))))) (hk8 _ _ _ _ hV hw)
        · refine mm_lload_n (pc' := 45) d_N_placesAllowing_44 rfl rfl rfl ?_
          refine mm_lconst (v := 1) (pc' := 46) d_N_placesAllowing_45 rfl (by decide) ?_
          refine wr_aload_n (some a) (pc' := 47) d_N_placesAllowing_46 rfl rfl rfl ?_
          refine wr_getR hV hw (pc' := 50) d_N_placesAllowing_47 rfl fl_N_23 (fun r7 hw => ?_)
          refine mm_iload (pc' := 52) d_N_placesAllowing_50 rfl rfl ?_
          refine wr_aldI hV hw (pc' := 53) d_N_placesAllowing_52 rfl (fun x8 hw => ?_)
          refine mm_lshl (v := wsl (1 : Int64) x8) (pc' := 54) d_N_placesAllowing_53 rfl rfl ?_
          refine mm_lor (pc' := 55) d_N_placesAllowing_54 rfl ?_
          refine wr_let (P := fun z => mm_V l G M_N_placesAllowing 0 0 55 [some (va_rf (some a)), some (.int p0), some (.long u2), none, some (.int u4)] (.long z :: []) h _) hw (fun y9 hw => ?_)
          refine mm_lst2 (pc' := 56) d_N_placesAllowing_55 rfl rfl (Nat.le_of_ble_eq_true rfl) ?_
          refine mm_iinc4 (v := (u4 + 1)) (pc' := 59) d_N_placesAllowing_56 rfl rfl rfl (Nat.le_of_ble_eq_true rfl) ?_
          refine mm_goto (tgt := 8) d_N_placesAllowing_59 rfl ?_
          exact mm_drop (mm_le.s (mm_le.s (mm_le.s (mm_le.n (mm_le.s mm_le.e))))) (hk8 _ _ _ _ hV hw)
def wp_N_placesAllowing (a : Nat) (p0 : Int32) (A : ab_H) (Q : Int64 → ab_H → Prop) : Prop := wgJ A (some a) 10 5 (fun y10 => ∃ n, wq_N_placesAllowing_8 a p0 Q n y10 (0 : Int32) A)
set_option maxRecDepth 100000 in
set_option maxHeartbeats 4000000 in
theorem sd_N_placesAllowing {l : Launch} {G : mm_G} {h : mm_H} {A : ab_H} {a : Nat} {p0 : Int32} {Q : Int64 → ab_H → Prop} (hV : Vw G h A) (hw : wp_N_placesAllowing a p0 A Q) : mm_S l G M_N_placesAllowing [.ref a, .int p0] h 0 0 (wQJ G Q) := by
  unfold wp_N_placesAllowing at hw
  refine mm_start rfl (Nat.le_of_ble_eq_true rfl) ?_
  show mm_V l G M_N_placesAllowing 0 0 0 [some (va_rf (some a)), some (.int p0), none, none, none] [] h _
  refine wr_aload_n (some a) (pc' := 1) d_N_placesAllowing_0 rfl rfl rfl ?_
  refine wr_getJ hV hw (pc' := 4) d_N_placesAllowing_1 rfl fl_N_54 (fun y10 hw => ?_)
  refine mm_lst2 (pc' := 5) d_N_placesAllowing_4 rfl rfl (Nat.le_of_ble_eq_true rfl) ?_
  refine mm_iconst (v := 0) (pc' := 6) d_N_placesAllowing_5 rfl (by decide) ?_
  refine mm_ist4 (pc' := 8) d_N_placesAllowing_6 rfl rfl (Nat.le_of_ble_eq_true rfl) ?_
  obtain ⟨n, hw⟩ := hw
  exact mm_drop (mm_le.s (mm_le.s (mm_le.s (mm_le.n (mm_le.s mm_le.e))))) (sq_N_placesAllowing_8  n _ _ _ _ hV hw)
theorem d_N_fits_0 : decode prog_5_method_7_code 0 = .ok (.aload_n 0, 1) := by decide +kernel
theorem d_N_fits_1 : decode prog_5_method_7_code 1 = .ok (.aload_n 0, 1) := by decide +kernel
theorem d_N_fits_2 : decode prog_5_method_7_code 2 = .ok (.getfield 7, 3) := by decide +kernel
theorem d_N_fits_5 : decode prog_5_method_7_code 5 = .ok (.invokevirtual 66, 3) := by decide +kernel
theorem d_N_fits_8 : decode prog_5_method_7_code 8 = .ok (.lstore_n 2, 1) := by decide +kernel
theorem d_N_fits_9 : decode prog_5_method_7_code 9 = .ok (.iconst 0, 1) := by decide +kernel
theorem d_N_fits_10 : decode prog_5_method_7_code 10 = .ok (.istore 4, 2) := by decide +kernel
theorem d_N_fits_12 : decode prog_5_method_7_code 12 = .ok (.iload 4, 2) := by decide +kernel
theorem d_N_fits_14 : decode prog_5_method_7_code 14 = .ok (.aload_n 1, 1) := by decide +kernel
theorem d_N_fits_15 : decode prog_5_method_7_code 15 = .ok (.invokevirtual 17, 3) := by decide +kernel
theorem d_N_fits_18 : decode prog_5_method_7_code 18 = .ok (.if_icmp .ge 55, 3) := by decide +kernel
theorem d_N_fits_21 : decode prog_5_method_7_code 21 = .ok (.lload_n 2, 1) := by decide +kernel
theorem d_N_fits_22 : decode prog_5_method_7_code 22 = .ok (.lconst 0, 1) := by decide +kernel
theorem d_N_fits_23 : decode prog_5_method_7_code 23 = .ok (.lcmp, 1) := by decide +kernel
theorem d_N_fits_24 : decode prog_5_method_7_code 24 = .ok (.ifCond .eq 49, 3) := by decide +kernel
theorem d_N_fits_27 : decode prog_5_method_7_code 27 = .ok (.lload_n 2, 1) := by decide +kernel
theorem d_N_fits_28 : decode prog_5_method_7_code 28 = .ok (.aload_n 0, 1) := by decide +kernel
theorem d_N_fits_29 : decode prog_5_method_7_code 29 = .ok (.aload_n 1, 1) := by decide +kernel
theorem d_N_fits_30 : decode prog_5_method_7_code 30 = .ok (.iload 4, 2) := by decide +kernel
theorem d_N_fits_32 : decode prog_5_method_7_code 32 = .ok (.invokevirtual 38, 3) := by decide +kernel
theorem d_N_fits_35 : decode prog_5_method_7_code 35 = .ok (.invokevirtual 70, 3) := by decide +kernel
theorem d_N_fits_38 : decode prog_5_method_7_code 38 = .ok (.land, 1) := by decide +kernel
theorem d_N_fits_39 : decode prog_5_method_7_code 39 = .ok (.lstore 5, 2) := by decide +kernel
theorem d_N_fits_41 : decode prog_5_method_7_code 41 = .ok (.aload_n 0, 1) := by decide +kernel
theorem d_N_fits_42 : decode prog_5_method_7_code 42 = .ok (.lload 5, 2) := by decide +kernel
theorem d_N_fits_44 : decode prog_5_method_7_code 44 = .ok (.aload_n 0, 1) := by decide +kernel
theorem d_N_fits_45 : decode prog_5_method_7_code 45 = .ok (.getfield 60, 3) := by decide +kernel
theorem d_N_fits_48 : decode prog_5_method_7_code 48 = .ok (.land, 1) := by decide +kernel
theorem d_N_fits_49 : decode prog_5_method_7_code 49 = .ok (.lload 5, 2) := by decide +kernel
theorem d_N_fits_51 : decode prog_5_method_7_code 51 = .ok (.aload_n 0, 1) := by decide +kernel
theorem d_N_fits_52 : decode prog_5_method_7_code 52 = .ok (.getfield 60, 3) := by decide +kernel
theorem d_N_fits_55 : decode prog_5_method_7_code 55 = .ok (.ldc2_w 74, 3) := by decide +kernel
theorem d_N_fits_58 : decode prog_5_method_7_code 58 = .ok (.lxor, 1) := by decide +kernel
theorem d_N_fits_59 : decode prog_5_method_7_code 59 = .ok (.land, 1) := by decide +kernel
theorem d_N_fits_60 : decode prog_5_method_7_code 60 = .ok (.iconst 1, 1) := by decide +kernel
theorem d_N_fits_61 : decode prog_5_method_7_code 61 = .ok (.lshl, 1) := by decide +kernel
theorem d_N_fits_62 : decode prog_5_method_7_code 62 = .ok (.lor, 1) := by decide +kernel
theorem d_N_fits_63 : decode prog_5_method_7_code 63 = .ok (.invokevirtual 66, 3) := by decide +kernel
theorem d_N_fits_66 : decode prog_5_method_7_code 66 = .ok (.lstore_n 2, 1) := by decide +kernel
theorem d_N_fits_67 : decode prog_5_method_7_code 67 = .ok (.iinc 4 1, 3) := by decide +kernel
theorem d_N_fits_70 : decode prog_5_method_7_code 70 = .ok (.goto (-58), 3) := by decide +kernel
theorem d_N_fits_73 : decode prog_5_method_7_code 73 = .ok (.lload_n 2, 1) := by decide +kernel
theorem d_N_fits_74 : decode prog_5_method_7_code 74 = .ok (.aload_n 0, 1) := by decide +kernel
theorem d_N_fits_75 : decode prog_5_method_7_code 75 = .ok (.getfield 63, 3) := by decide +kernel
theorem d_N_fits_78 : decode prog_5_method_7_code 78 = .ok (.land, 1) := by decide +kernel
theorem d_N_fits_79 : decode prog_5_method_7_code 79 = .ok (.lconst 0, 1) := by decide +kernel
theorem d_N_fits_80 : decode prog_5_method_7_code 80 = .ok (.lcmp, 1) := by decide +kernel
theorem d_N_fits_81 : decode prog_5_method_7_code 81 = .ok (.ifCond .eq 7, 3) := by decide +kernel
theorem d_N_fits_84 : decode prog_5_method_7_code 84 = .ok (.iconst 1, 1) := by decide +kernel
theorem d_N_fits_85 : decode prog_5_method_7_code 85 = .ok (.goto 4, 3) := by decide +kernel
theorem d_N_fits_88 : decode prog_5_method_7_code 88 = .ok (.iconst 0, 1) := by decide +kernel
theorem d_N_fits_89 : decode prog_5_method_7_code 89 = .ok (.ireturn, 1) := by decide +kernel
def wq_N_fits_73 (a : Nat) (p0 : Option Nat) (Q : Int32 → ab_H → Prop)  (u2 : Int64) (A : ab_H) : Prop := wgJ A (some a) 10 4 (fun y1 => if (lg_cmp (u2 &&& y1) (0 : Int64)) = 0 then (Q (0 : Int32) A) else (Q (1 : Int32) A))
set_option maxRecDepth 100000 in
set_option maxHeartbeats 4000000 in
theorem sq_N_fits_73 {l : Launch} {G : mm_G} {a : Nat} {p0 : Option Nat} {Q : Int32 → ab_H → Prop}   : ∀ (u2 : Int64) (A : ab_H) (h : mm_H), Vw G h A → wq_N_fits_73 a p0 Q  u2 A → mm_V l G M_N_fits 0 0 73 [some (va_rf (some a)), some (va_rf p0), some (.long u2), none, none, none, none] [] h (wQI G Q) := by
  intro u2 A h hV hw
  unfold wq_N_fits_73 at hw
  refine mm_lload_n (pc' := 74) d_N_fits_73 rfl rfl rfl ?_
  refine wr_aload_n (some a) (pc' := 75) d_N_fits_74 rfl rfl rfl ?_
  refine wr_getJ hV hw (pc' := 78) d_N_fits_75 rfl fl_N_63 (fun y1 hw => ?_)
  refine mm_land (pc' := 79) d_N_fits_78 rfl ?_
  refine mm_lconst (v := 0) (pc' := 80) d_N_fits_79 rfl (by decide) ?_
  refine mm_lcmp (pc' := 81) d_N_fits_80 rfl ?_
  refine wr_if_eq hw (pc' := 84) d_N_fits_81 rfl rfl (fun hw => ?_) (fun hw => ?_)
  · refine mm_iconst (v := 0) (pc' := 89) d_N_fits_88 rfl (by decide) ?_
    exact wr_iret hV d_N_fits_89 rfl rfl hw
  · refine mm_iconst (v := 1) (pc' := 85) d_N_fits_84 rfl (by decide) ?_
    refine mm_goto (tgt := 89) d_N_fits_85 rfl ?_
    exact wr_iret hV d_N_fits_89 rfl rfl hw
def wb_N_fits_12 (a : Nat) (p0 : Option Nat) (Q : Int32 → ab_H → Prop)  (k12 : Int64 → Int32 → ab_H → Prop) (u2 : Int64) (u4 : Int32) (A : ab_H) : Prop := wj_ST_length A p0  (fun x2 => if x2 ≤ u4 then (wq_N_fits_73 a p0 Q u2 A) else (if (lg_cmp u2 (0 : Int64)) = 0 then (wq_N_fits_73 a p0 Q u2 A) else (wj_ST_charAt A p0 u4 (fun x3 => wC A (some a) 10 (fun b => wp_N_placesAllowing b x3 A (fun y4 A => wL ((u2 &&& y4)) (fun y5 => wgJ A (some a) 10 7 (fun y6 => wgJ A (some a) 10 7 (fun y7 => wC A (some a) 10 (fun b => wp_N_withLeft b ((y5 &&& y6) ||| (wsl (y5 &&& (y7 ^^^ (-1 : Int64))) (1 : Int32))) A (fun y8 A => k12 y8 (u4 + 1) A)))))))))))
def wq_N_fits_12 (a : Nat) (p0 : Option Nat) (Q : Int32 → ab_H → Prop)  : Nat → Int64 → Int32 → ab_H → Prop
  | 0 => fun _ _ _ => False
  | n + 1 => wb_N_fits_12 a p0 Q  (wq_N_fits_12 a p0 Q  n)
set_option maxRecDepth 100000 in
set_option maxHeartbeats 4000000 in
theorem sq_N_fits_12 {l : Launch} {G : mm_G} {a : Nat} {p0 : Option Nat} {Q : Int32 → ab_H → Prop}   : ∀ (n : Nat) (u2 : Int64) (u4 : Int32) (A : ab_H) (h : mm_H), Vw G h A → wq_N_fits_12 a p0 Q  n u2 u4 A → mm_V l G M_N_fits 0 0 12 [some (va_rf (some a)), some (va_rf p0), some (.long u2), none, some (.int u4), none, none] [] h (wQI G Q) := by
  intro n
  induction n with
  | zero =>
    intro u2 u4 A h hV hw
    exact absurd hw id
  | succ n hk12 =>
    intro u2 u4 A h hV hw
    have hw : wb_N_fits_12 a p0 Q  (wq_N_fits_12 a p0 Q  n) u2 u4 A := hw
    unfold wb_N_fits_12 at hw
    refine mm_iload (pc' := 14) d_N_fits_12 rfl rfl ?_
    refine wr_aload_n p0 (pc' := 15) d_N_fits_14 rfl rfl rfl ?_
    refine wr_ST_length hV hw (pc' := 18) d_N_fits_15 rfl cs_N_17 (Nat.le_of_ble_eq_true rfl) (Nat.le_of_ble_eq_true rfl) (fun x2 hw => ?_)
    refine wr_icmp_ge hw (pc' := 21) d_N_fits_18 rfl rfl (fun hw => ?_) (fun hw => ?_)
    · exact mm_drop (mm_le.s (mm_le.s (mm_le.s (mm_le.n (mm_le.n (mm_le.n (mm_le.n mm_le.e))))))) (sq_N_fits_73  _ _ _ hV hw)
    · refine mm_lload_n (pc' := 22) d_N_fits_21 rfl rfl rfl ?_
      refine mm_lconst (v := 0) (pc' := 23) d_N_fits_22 rfl (by decide) ?_
      refine mm_lcmp (pc' := 24) d_N_fits_23 rfl ?_
      refine wr_if_eq hw (pc' := 27) d_N_fits_24 rfl rfl (fun hw => ?_) (fun hw => ?_)
      · exact mm_drop (mm_le.s (mm_le.s (mm_le.s (mm_le.n (mm_le.n (mm_le.n (mm_le.n mm_le.e))))))) (sq_N_fits_73  _ _ _ hV hw)
      · refine mm_lload_n (pc' := 28) d_N_fits_27 rfl rfl rfl ?_
        refine wr_aload_n (some a) (pc' := 29) d_N_fits_28 rfl rfl rfl ?_
        refine wr_aload_n p0 (pc' := 30) d_N_fits_29 rfl rfl rfl ?_
        refine mm_iload (pc' := 32) d_N_fits_30 rfl rfl ?_
        refine wr_ST_charAt hV hw (pc' := 35) d_N_fits_32 rfl cs_N_38 (Nat.le_of_ble_eq_true rfl) (Nat.le_trans (wr_hR (wr_hJ wr_h0)) (Nat.le_of_ble_eq_true rfl)) (fun x3 hw => ?_)
        refine wr_cVJ (pc' := 38) (as := [.int x3]) (st := [.long u2]) d_N_fits_35 rfl cs_N_70 rfl (W := fun b Q' => wp_N_placesAllowing b x3 A Q') hV hw (fun b Q' hw => sd_N_placesAllowing hV hw) rfl rfl (Nat.le_of_ble_eq_true rfl) (Nat.le_of_ble_eq_true rfl) (fun y4 h A hV hw => ?_)
        refine mm_land (pc' := 39) d_N_fits_38 rfl ?_
        refine wr_let (P := fun z => mm_V l G M_N_fits 0 0 39 [some (va_rf (some a)), some (va_rf p0), some (.long u2), none, some (.int u4), none, none] (.long z :: []) h _) hw (fun y5 hw => ?_)
        refine mm_lst5 (pc' := 41) d_N_fits_39 rfl rfl (Nat.le_of_ble_eq_true rfl) ?_
        refine wr_aload_n (some a) (pc' := 42) d_N_fits_41 rfl rfl rfl ?_
        refine mm_lload (pc' := 44) d_N_fits_42 rfl rfl ?_
        refine wr_aload_n (some a) (pc' := 45) d_N_fits_44 rfl rfl rfl ?_
        refine wr_getJ hV hw (pc' := 48) d_N_fits_45 rfl fl_N_60 (fun y6 hw => ?_)
        refine mm_land (pc' := 49) d_N_fits_48 rfl ?_
        refine mm_lload (pc' := 51) d_N_fits_49 rfl rfl ?_
        refine wr_aload_n (some a) (pc' := 52) d_N_fits_51 rfl rfl rfl ?_
        refine wr_getJ hV hw (pc' := 55) d_N_fits_52 rfl fl_N_60 (fun y7 hw => ?_)
        refine mm_ldc2 (pc' := 58) d_N_fits_55 rfl ld2_N_74 ?_
        refine mm_lxor (pc' := 59) d_N_fits_58 rfl ?_
        refine mm_land (pc' := 60) d_N_fits_59 rfl ?_
        refine mm_iconst (v := 1) (pc' := 61) d_N_fits_60 rfl (by decide) ?_
        refine mm_lshl (v := wsl (y5 &&& (y7 ^^^ (-1 : Int64))) (1 : Int32)) (pc' := 62) d_N_fits_61 rfl rfl ?_
        refine mm_lor (pc' := 63) d_N_fits_62 rfl ?_
        refine wr_cVJ (pc' := 66) (as := [.long ((y5 &&& y6) ||| (wsl (y5 &&& (y7 ^^^ (-1 : Int64))) (1 : Int32)))]) (st := []) d_N_fits_63 rfl cs_N_66 rfl (W := fun b Q' => wp_N_withLeft b ((y5 &&& y6) ||| (wsl (y5 &&& (y7 ^^^ (-1 : Int64))) (1 : Int32))) A Q') hV hw (fun b Q' hw => sd_N_withLeft hV hw) rfl rfl (Nat.le_of_ble_eq_true rfl) (Nat.le_of_ble_eq_true rfl) (fun y8 h A hV hw => ?_)
        refine mm_lst2 (pc' := 67) d_N_fits_66 rfl (wr_2 _) (Nat.le_of_ble_eq_true rfl) ?_
        refine mm_iinc4 (v := (u4 + 1)) (pc' := 70) d_N_fits_67 rfl rfl rfl (Nat.le_of_ble_eq_true rfl) ?_
        refine mm_goto (tgt := 12) d_N_fits_70 rfl ?_
        exact mm_drop (mm_le.s (mm_le.s (mm_le.s (mm_le.n (mm_le.s (mm_le.n (mm_le.n mm_le.e))))))) (hk12 _ _ _ _ hV hw)
def wp_N_fits (a : Nat) (p0 : Option Nat) (A : ab_H) (Q : Int32 → ab_H → Prop) : Prop := wgJ A (some a) 10 3 (fun y9 => wC A (some a) 10 (fun b => wp_N_withLeft b y9 A (fun y10 A => ∃ n, wq_N_fits_12 a p0 Q n y10 (0 : Int32) A)))
set_option maxRecDepth 100000 in
set_option maxHeartbeats 4000000 in
theorem sd_N_fits {l : Launch} {G : mm_G} {h : mm_H} {A : ab_H} {a : Nat} {p0 : Option Nat} {Q : Int32 → ab_H → Prop} (hV : Vw G h A) (hw : wp_N_fits a p0 A Q) : mm_S l G M_N_fits [.ref a, va_rf p0] h 0 0 (wQI G Q) := by
  unfold wp_N_fits at hw
  refine mm_start rfl (by simp [mm_as, wr_cat, wr_catI, wr_catJ, wr_catN]) ?_
  rw [show mm_en [.ref a, va_rf p0] M_N_fits.2.2.1 = [some (.ref a), some (va_rf p0), none, none, none, none, none] from by simp [mm_en, mm_as, wr_cat, wr_catI, wr_catJ, wr_catN]]
  show mm_V l G M_N_fits 0 0 0 [some (va_rf (some a)), some (va_rf p0), none, none, none, none, none] [] h _
  refine wr_aload_n (some a) (pc' := 1) d_N_fits_0 rfl rfl rfl ?_
  refine wr_aload_n (some a) (pc' := 2) d_N_fits_1 rfl rfl rfl ?_
  refine wr_getJ hV hw (pc' := 5) d_N_fits_2 rfl fl_N_7 (fun y9 hw => ?_)
  refine wr_cVJ (pc' := 8) (as := [.long y9]) (st := []) d_N_fits_5 rfl cs_N_66 rfl (W := fun b Q' => wp_N_withLeft b y9 A Q') hV hw (fun b Q' hw => sd_N_withLeft hV hw) rfl rfl (Nat.le_of_ble_eq_true rfl) (Nat.le_of_ble_eq_true rfl) (fun y10 h A hV hw => ?_)
  refine mm_lst2 (pc' := 9) d_N_fits_8 rfl (wr_2 _) (Nat.le_of_ble_eq_true rfl) ?_
  refine mm_iconst (v := 0) (pc' := 10) d_N_fits_9 rfl (by decide) ?_
  refine mm_ist4 (pc' := 12) d_N_fits_10 rfl rfl (Nat.le_of_ble_eq_true rfl) ?_
  obtain ⟨n, hw⟩ := hw
  exact mm_drop (mm_le.s (mm_le.s (mm_le.s (mm_le.n (mm_le.s (mm_le.n (mm_le.n mm_le.e))))))) (sq_N_fits_12  n _ _ _ _ hV hw)
theorem d_H_holds_0 : decode prog_3_method_4_code 0 = .ok (.aload_n 1, 1) := by decide +kernel
theorem d_H_holds_1 : decode prog_3_method_4_code 1 = .ok (.aload_n 0, 1) := by decide +kernel
theorem d_H_holds_2 : decode prog_3_method_4_code 2 = .ok (.getfield 7, 3) := by decide +kernel
theorem d_H_holds_5 : decode prog_3_method_4_code 5 = .ok (.aload_n 0, 1) := by decide +kernel
theorem d_H_holds_6 : decode prog_3_method_4_code 6 = .ok (.getfield 16, 3) := by decide +kernel
theorem d_H_holds_9 : decode prog_3_method_4_code 9 = .ok (.invokevirtual 69, 3) := by decide +kernel
theorem d_H_holds_12 : decode prog_3_method_4_code 12 = .ok (.astore_n 2, 1) := by decide +kernel
theorem d_H_holds_13 : decode prog_3_method_4_code 13 = .ok (.aload_n 0, 1) := by decide +kernel
theorem d_H_holds_14 : decode prog_3_method_4_code 14 = .ok (.getfield 13, 3) := by decide +kernel
theorem d_H_holds_17 : decode prog_3_method_4_code 17 = .ok (.iconst 3, 1) := by decide +kernel
theorem d_H_holds_18 : decode prog_3_method_4_code 18 = .ok (.if_icmp .eq 7, 3) := by decide +kernel
theorem d_H_holds_21 : decode prog_3_method_4_code 21 = .ok (.aload_n 2, 1) := by decide +kernel
theorem d_H_holds_22 : decode prog_3_method_4_code 22 = .ok (.ifnonnull 21, 3) := by decide +kernel
theorem d_H_holds_25 : decode prog_3_method_4_code 25 = .ok (.aload_n 0, 1) := by decide +kernel
theorem d_H_holds_26 : decode prog_3_method_4_code 26 = .ok (.getfield 13, 3) := by decide +kernel
theorem d_H_holds_29 : decode prog_3_method_4_code 29 = .ok (.iconst 3, 1) := by decide +kernel
theorem d_H_holds_30 : decode prog_3_method_4_code 30 = .ok (.if_icmp .ne 11, 3) := by decide +kernel
theorem d_H_holds_33 : decode prog_3_method_4_code 33 = .ok (.aload_n 2, 1) := by decide +kernel
theorem d_H_holds_34 : decode prog_3_method_4_code 34 = .ok (.ifnonnull 7, 3) := by decide +kernel
theorem d_H_holds_37 : decode prog_3_method_4_code 37 = .ok (.iconst 1, 1) := by decide +kernel
theorem d_H_holds_38 : decode prog_3_method_4_code 38 = .ok (.goto 4, 3) := by decide +kernel
theorem d_H_holds_41 : decode prog_3_method_4_code 41 = .ok (.iconst 0, 1) := by decide +kernel
theorem d_H_holds_42 : decode prog_3_method_4_code 42 = .ok (.ireturn, 1) := by decide +kernel
theorem d_H_holds_43 : decode prog_3_method_4_code 43 = .ok (.aload_n 0, 1) := by decide +kernel
theorem d_H_holds_44 : decode prog_3_method_4_code 44 = .ok (.getfield 13, 3) := by decide +kernel
theorem d_H_holds_47 : decode prog_3_method_4_code 47 = .ok (.tableswitch 76 0 2 #[25, 37, 49], 25) := by decide +kernel
theorem d_H_holds_72 : decode prog_3_method_4_code 72 = .ok (.aload_n 2, 1) := by decide +kernel
theorem d_H_holds_73 : decode prog_3_method_4_code 73 = .ok (.getfield 73, 3) := by decide +kernel
theorem d_H_holds_76 : decode prog_3_method_4_code 76 = .ok (.aload_n 0, 1) := by decide +kernel
theorem d_H_holds_77 : decode prog_3_method_4_code 77 = .ok (.getfield 20, 3) := by decide +kernel
theorem d_H_holds_80 : decode prog_3_method_4_code 80 = .ok (.invokevirtual 78, 3) := by decide +kernel
theorem d_H_holds_83 : decode prog_3_method_4_code 83 = .ok (.ireturn, 1) := by decide +kernel
theorem d_H_holds_84 : decode prog_3_method_4_code 84 = .ok (.aload_n 2, 1) := by decide +kernel
theorem d_H_holds_85 : decode prog_3_method_4_code 85 = .ok (.getfield 73, 3) := by decide +kernel
theorem d_H_holds_88 : decode prog_3_method_4_code 88 = .ok (.aload_n 0, 1) := by decide +kernel
theorem d_H_holds_89 : decode prog_3_method_4_code 89 = .ok (.getfield 20, 3) := by decide +kernel
theorem d_H_holds_92 : decode prog_3_method_4_code 92 = .ok (.invokestatic 82, 3) := by decide +kernel
theorem d_H_holds_95 : decode prog_3_method_4_code 95 = .ok (.ireturn, 1) := by decide +kernel
theorem d_H_holds_96 : decode prog_3_method_4_code 96 = .ok (.aload_n 0, 1) := by decide +kernel
theorem d_H_holds_97 : decode prog_3_method_4_code 97 = .ok (.getfield 23, 3) := by decide +kernel
theorem d_H_holds_100 : decode prog_3_method_4_code 100 = .ok (.ifnull 21, 3) := by decide +kernel
theorem d_H_holds_103 : decode prog_3_method_4_code 103 = .ok (.aload_n 0, 1) := by decide +kernel
theorem d_H_holds_104 : decode prog_3_method_4_code 104 = .ok (.getfield 23, 3) := by decide +kernel
theorem d_H_holds_107 : decode prog_3_method_4_code 107 = .ok (.aload_n 2, 1) := by decide +kernel
theorem d_H_holds_108 : decode prog_3_method_4_code 108 = .ok (.getfield 73, 3) := by decide +kernel
theorem d_H_holds_111 : decode prog_3_method_4_code 111 = .ok (.invokevirtual 86, 3) := by decide +kernel
theorem d_H_holds_114 : decode prog_3_method_4_code 114 = .ok (.ifCond .eq 7, 3) := by decide +kernel
theorem d_H_holds_117 : decode prog_3_method_4_code 117 = .ok (.iconst 1, 1) := by decide +kernel
theorem d_H_holds_118 : decode prog_3_method_4_code 118 = .ok (.goto 4, 3) := by decide +kernel
theorem d_H_holds_121 : decode prog_3_method_4_code 121 = .ok (.iconst 0, 1) := by decide +kernel
theorem d_H_holds_122 : decode prog_3_method_4_code 122 = .ok (.ireturn, 1) := by decide +kernel
theorem d_H_holds_123 : decode prog_3_method_4_code 123 = .ok (.iconst 1, 1) := by decide +kernel
theorem d_H_holds_124 : decode prog_3_method_4_code 124 = .ok (.ireturn, 1) := by decide +kernel
def wq_H_holds_25 (a : Nat) (p0 : Option Nat) (Q : Int32 → ab_H → Prop)  (u2 : Option Nat) (A : ab_H) : Prop := wgI A (some a) 9 1 (fun x1 => if x1 = (3 : Int32) then (if u2 = none then (Q (1 : Int32) A) else (Q (0 : Int32) A)) else (Q (0 : Int32) A))
set_option maxRecDepth 100000 in
set_option maxHeartbeats 4000000 in
theorem sq_H_holds_25 {l : Launch} {G : mm_G} {a : Nat} {p0 : Option Nat} {Q : Int32 → ab_H → Prop}   : ∀ (u2 : Option Nat) (A : ab_H) (h : mm_H), Vw G h A → wq_H_holds_25 a p0 Q  u2 A → mm_V l G M_H_holds 0 0 25 [some (va_rf (some a)), some (va_rf p0), some (va_rf u2)] [] h (wQI G Q) := by
  intro u2 A h hV hw
  unfold wq_H_holds_25 at hw
  refine wr_aload_n (some a) (pc' := 26) d_H_holds_25 rfl rfl rfl ?_
  refine wr_getI hV hw (pc' := 29) d_H_holds_26 rfl fl_H_13 (fun x1 hw => ?_)
  refine mm_iconst (v := 3) (pc' := 30) d_H_holds_29 rfl (by decide) ?_
  refine wr_icmp_ne hw (pc' := 33) d_H_holds_30 rfl rfl (fun hw => ?_) (fun hw => ?_)
  · refine mm_iconst (v := 0) (pc' := 42) d_H_holds_41 rfl (by decide) ?_
    exact wr_iret hV d_H_holds_42 rfl rfl hw
  · refine wr_aload_n u2 (pc' := 34) d_H_holds_33 rfl rfl rfl ?_
    refine wr_ifnonnull hw (pc' := 37) d_H_holds_34 rfl rfl (fun hw => ?_) (fun hw => ?_)
    · refine mm_iconst (v := 0) (pc' := 42) d_H_holds_41 rfl (by decide) ?_
      exact wr_iret hV d_H_holds_42 rfl rfl hw
    · refine mm_iconst (v := 1) (pc' := 38) d_H_holds_37 rfl (by decide) ?_
      refine mm_goto (tgt := 42) d_H_holds_38 rfl ?_
      exact wr_iret hV d_H_holds_42 rfl rfl hw
def wp_H_holds (a : Nat) (p0 : Option Nat) (A : ab_H) (Q : Int32 → ab_H → Prop) : Prop := wgI A (some a) 9 0 (fun x2 => wgR A (some a) 9 2 (fun r3 => wC A p0 7 (fun b => wp_E_find b x2 r3 A (fun r4 A => wgI A (some a) 9 1 (fun x5 => if x5 = (3 : Int32) then (wq_H_holds_25 a p0 Q r4 A) else (if r4 = none then (wq_H_holds_25 a p0 Q r4 A) else (wgI A (some a) 9 1 (fun x6 => if x6 = 0 then (wgR A r4 8 1 (fun r7 => wgR A (some a) 9 3 (fun r8 => wj_ST_equals A r7 r8 (fun x9 => wB x9 (Q x9 A))))) else (if x6 = 1 then (wgR A r4 8 1 (fun r10 => wgR A (some a) 9 3 (fun r11 => wp_X_contains r10 r11 A (fun x12 A => wB x12 (Q x12 A))))) else (if x6 = 2 then (wgR A (some a) 9 4 (fun r13 => if r13 = none then (Q (0 : Int32) A) else (wgR A (some a) 9 4 (fun r14 => wgR A r4 8 1 (fun r15 => wC A r14 10 (fun b => wp_N_fits b r15 A (fun x16 A => if x16 = 0 then (Q (0 : Int32) A) else (Q (1 : Int32) A)))))))) else (Q (1 : Int32) A)))))))))))
set_option maxRecDepth 100000 in
set_option maxHeartbeats 4000000 in
theorem sd_H_holds {l : Launch} {G : mm_G} {h : mm_H} {A : ab_H} {a : Nat} {p0 : Option Nat} {Q : Int32 → ab_H → Prop} (hV : Vw G h A) (hw : wp_H_holds a p0 A Q) : mm_S l G M_H_holds [.ref a, va_rf p0] h 0 0 (wQI G Q) := by
  unfold wp_H_holds at hw
  refine mm_start rfl (by simp [mm_as, wr_cat, wr_catI, wr_catJ, wr_catN]) ?_
  rw [show mm_en [.ref a, va_rf p0] M_H_holds.2.2.1 = [some (.ref a), some (va_rf p0), none] from by simp [mm_en, mm_as, wr_cat, wr_catI, wr_catJ, wr_catN]]
  show mm_V l G M_H_holds 0 0 0 [some (va_rf (some a)), some (va_rf p0), none] [] h _
  refine wr_aload_n p0 (pc' := 1) d_H_holds_0 rfl rfl rfl ?_
  refine wr_aload_n (some a) (pc' := 2) d_H_holds_1 rfl rfl rfl ?_
  refine wr_getI hV hw (pc' := 5) d_H_holds_2 rfl fl_H_7 (fun x2 hw => ?_)
  refine wr_aload_n (some a) (pc' := 6) d_H_holds_5 rfl rfl rfl ?_
  refine wr_getR hV hw (pc' := 9) d_H_holds_6 rfl fl_H_16 (fun r3 hw => ?_)
  refine wr_cVR (pc' := 12) (as := [.int x2, va_rf r3]) (st := []) d_H_holds_9 rfl cs_H_69 rfl (W := fun b Q' => wp_E_find b x2 r3 A Q') hV hw (fun b Q' hw => sd_E_find hV hw) rfl rfl (Nat.le_of_ble_eq_true rfl) (Nat.le_of_ble_eq_true rfl) (fun r4 h A hV hw => ?_)
  refine wr_ast2 (pc' := 13) d_H_holds_12 rfl (wr_2 _) (Nat.le_of_ble_eq_true rfl) ?_
  refine wr_aload_n (some a) (pc' := 14) d_H_holds_13 rfl rfl rfl ?_
  refine wr_getI hV hw (pc' := 17) d_H_holds_14 rfl fl_H_13 (fun x5 hw => ?_)
  refine mm_iconst (v := 3) (pc' := 18) d_H_holds_17 rfl (by decide) ?_
  refine wr_icmp_eq hw (pc' := 21) d_H_holds_18 rfl rfl (fun hw => ?_) (fun hw => ?_)
  · exact mm_drop (mm_le.s (mm_le.s (mm_le.s mm_le.e))) (sq_H_holds_25  _ _ _ hV hw)
  · refine wr_aload_n r4 (pc' := 22) d_H_holds_21 rfl rfl rfl ?_
    refine wr_ifnonnull hw (pc' := 25) d_H_holds_22 rfl rfl (fun hw => ?_) (fun hw => ?_)
    · refine wr_aload_n (some a) (pc' := 44) d_H_holds_43 rfl rfl rfl ?_
      refine wr_getI hV hw (pc' := 47) d_H_holds_44 rfl fl_H_13 (fun x6 hw => ?_)
      refine wr_ite hw (fun hs hw => ?_) (fun hs0 hw => ?_)
      · rw [hs]
        refine mm_tableIn (tgt := 72) d_H_holds_47 (by decide) (by decide) rfl rfl ?_
        refine wr_aload_n r4 (pc' := 73) d_H_holds_72 rfl rfl rfl ?_
        refine wr_getR hV hw (pc' := 76) d_H_holds_73 rfl fl_H_73 (fun r7 hw => ?_)
        refine wr_aload_n (some a) (pc' := 77) d_H_holds_76 rfl rfl rfl ?_
        refine wr_getR hV hw (pc' := 80) d_H_holds_77 rfl fl_H_20 (fun r8 hw => ?_)
        refine wr_ST_equals hV hw (pc' := 83) d_H_holds_80 rfl cs_H_78 (Nat.le_of_ble_eq_true rfl) (Nat.le_of_ble_eq_true rfl) (fun x9 hw => ?_)
        obtain ⟨hb, hw⟩ := hw
        exact wr_iret hV d_H_holds_83 rfl (wn_b hb) hw
      refine wr_ite hw (fun hs hw => ?_) (fun hs1 hw => ?_)
      · rw [hs]
        refine mm_tableIn (tgt := 84) d_H_holds_47 (by decide) (by decide) rfl rfl ?_
        refine wr_aload_n r4 (pc' := 85) d_H_holds_84 rfl rfl rfl ?_
        refine wr_getR hV hw (pc' := 88) d_H_holds_85 rfl fl_H_73 (fun r10 hw => ?_)
        refine wr_aload_n (some a) (pc' := 89) d_H_holds_88 rfl rfl rfl ?_
        refine wr_getR hV hw (pc' := 92) d_H_holds_89 rfl fl_H_20 (fun r11 hw => ?_)
        refine wr_cSI (pc' := 95) (as := [va_rf r10, va_rf r11]) (st := []) d_H_holds_92 rfl cs_H_82 (sd_X_contains hV hw) rfl rfl (Nat.le_of_ble_eq_true rfl) (Nat.le_of_ble_eq_true rfl) (fun x12 h A hV hw => ?_)
        obtain ⟨hb, hw⟩ := hw
        exact wr_iret hV d_H_holds_95 rfl (wn_b hb) hw
      refine wr_ite hw (fun hs hw => ?_) (fun hs2 hw => ?_)
      · rw [hs]
        refine mm_tableIn (tgt := 96) d_H_holds_47 (by decide) (by decide) rfl rfl ?_
        refine wr_aload_n (some a) (pc' := 97) d_H_holds_96 rfl rfl rfl ?_
        refine wr_getR hV hw (pc' := 100) d_H_holds_97 rfl fl_H_23 (fun r13 hw => ?_)
        refine wr_ifnull hw (pc' := 103) d_H_holds_100 rfl rfl (fun hw => ?_) (fun hw => ?_)
        · refine mm_iconst (v := 0) (pc' := 122) d_H_holds_121 rfl (by decide) ?_
          exact wr_iret hV d_H_holds_122 rfl rfl hw
        · refine wr_aload_n (some a) (pc' := 104) d_H_holds_103 rfl rfl rfl ?_
          refine wr_getR hV hw (pc' := 107) d_H_holds_104 rfl fl_H_23 (fun r14 hw => ?_)
          refine wr_aload_n r4 (pc' := 108) d_H_holds_107 rfl rfl rfl ?_
          refine wr_getR hV hw (pc' := 111) d_H_holds_108 rfl fl_H_73 (fun r15 hw => ?_)
          refine wr_cVI (pc' := 114) (as := [va_rf r15]) (st := []) d_H_holds_111 rfl cs_H_86 rfl (W := fun b Q' => wp_N_fits b r15 A Q') hV hw (fun b Q' hw => sd_N_fits hV hw) rfl rfl (Nat.le_of_ble_eq_true rfl) (Nat.le_of_ble_eq_true rfl) (fun x16 h A hV hw => ?_)
          refine wr_if_eq hw (pc' := 117) d_H_holds_114 rfl rfl (fun hw => ?_) (fun hw => ?_)
          · refine mm_iconst (v := 0) (pc' := 122) d_H_holds_121 rfl (by decide) ?_
            exact wr_iret hV d_H_holds_122 rfl rfl hw
          · refine mm_iconst (v := 1) (pc' := 118) d_H_holds_117 rfl (by decide) ?_
            refine mm_goto (tgt := 122) d_H_holds_118 rfl ?_
            exact wr_iret hV d_H_holds_122 rfl rfl hw
      have ht0 := wr_toInt hs0
      have ht1 := wr_toInt hs1
      have ht2 := wr_toInt hs2
      rw [show (0 : Int32).toInt = 0 from rfl] at ht0
      rw [show (1 : Int32).toInt = 1 from rfl] at ht1
      rw [show (2 : Int32).toInt = 2 from rfl] at ht2
      refine mm_tableOut (tgt := 123) d_H_holds_47 (by omega) rfl ?_
      refine mm_iconst (v := 1) (pc' := 124) d_H_holds_123 rfl (by decide) ?_
      exact wr_iret hV d_H_holds_124 rfl rfl hw
    · exact mm_drop (mm_le.s (mm_le.s (mm_le.s mm_le.e))) (sq_H_holds_25  _ _ _ hV hw)
theorem d_S_conditionsMissed_0 : decode prog_1_method_29_code 0 = .ok (.aload_n 2, 1) := by decide +kernel
theorem d_S_conditionsMissed_1 : decode prog_1_method_29_code 1 = .ok (.ifnull 23, 3) := by decide +kernel
theorem d_S_conditionsMissed_4 : decode prog_1_method_29_code 4 = .ok (.aload_n 0, 1) := by decide +kernel
theorem d_S_conditionsMissed_5 : decode prog_1_method_29_code 5 = .ok (.getfield 16, 3) := by decide +kernel
theorem d_S_conditionsMissed_8 : decode prog_1_method_29_code 8 = .ok (.aload_n 2, 1) := by decide +kernel
theorem d_S_conditionsMissed_9 : decode prog_1_method_29_code 9 = .ok (.getfield 215, 3) := by decide +kernel
theorem d_S_conditionsMissed_12 : decode prog_1_method_29_code 12 = .ok (.iaload, 1) := by decide +kernel
theorem d_S_conditionsMissed_13 : decode prog_1_method_29_code 13 = .ok (.aload_n 2, 1) := by decide +kernel
theorem d_S_conditionsMissed_14 : decode prog_1_method_29_code 14 = .ok (.getfield 224, 3) := by decide +kernel
theorem d_S_conditionsMissed_17 : decode prog_1_method_29_code 17 = .ok (.if_icmp .eq 7, 3) := by decide +kernel
theorem d_S_conditionsMissed_20 : decode prog_1_method_29_code 20 = .ok (.iconst 1, 1) := by decide +kernel
theorem d_S_conditionsMissed_21 : decode prog_1_method_29_code 21 = .ok (.goto 4, 3) := by decide +kernel
theorem d_S_conditionsMissed_24 : decode prog_1_method_29_code 24 = .ok (.iconst 0, 1) := by decide +kernel
theorem d_S_conditionsMissed_25 : decode prog_1_method_29_code 25 = .ok (.istore 4, 2) := by decide +kernel
theorem d_S_conditionsMissed_27 : decode prog_1_method_29_code 27 = .ok (.iconst 0, 1) := by decide +kernel
theorem d_S_conditionsMissed_28 : decode prog_1_method_29_code 28 = .ok (.istore 5, 2) := by decide +kernel
theorem d_S_conditionsMissed_30 : decode prog_1_method_29_code 30 = .ok (.iload 5, 2) := by decide +kernel
theorem d_S_conditionsMissed_32 : decode prog_1_method_29_code 32 = .ok (.aload_n 1, 1) := by decide +kernel
theorem d_S_conditionsMissed_33 : decode prog_1_method_29_code 33 = .ok (.invokevirtual 99, 3) := by decide +kernel
theorem d_S_conditionsMissed_36 : decode prog_1_method_29_code 36 = .ok (.if_icmp .ge 28, 3) := by decide +kernel
theorem d_S_conditionsMissed_39 : decode prog_1_method_29_code 39 = .ok (.aload_n 1, 1) := by decide +kernel
theorem d_S_conditionsMissed_40 : decode prog_1_method_29_code 40 = .ok (.iload 5, 2) := by decide +kernel
theorem d_S_conditionsMissed_42 : decode prog_1_method_29_code 42 = .ok (.invokevirtual 136, 3) := by decide +kernel
theorem d_S_conditionsMissed_45 : decode prog_1_method_29_code 45 = .ok (.checkcast 106, 3) := by decide +kernel
theorem d_S_conditionsMissed_48 : decode prog_1_method_29_code 48 = .ok (.aload_n 3, 1) := by decide +kernel
theorem d_S_conditionsMissed_49 : decode prog_1_method_29_code 49 = .ok (.invokevirtual 227, 3) := by decide +kernel
theorem d_S_conditionsMissed_52 : decode prog_1_method_29_code 52 = .ok (.ifCond .ne 6, 3) := by decide +kernel
theorem d_S_conditionsMissed_55 : decode prog_1_method_29_code 55 = .ok (.iinc 4 1, 3) := by decide +kernel
theorem d_S_conditionsMissed_58 : decode prog_1_method_29_code 58 = .ok (.iinc 5 1, 3) := by decide +kernel
theorem d_S_conditionsMissed_61 : decode prog_1_method_29_code 61 = .ok (.goto (-31), 3) := by decide +kernel
theorem d_S_conditionsMissed_64 : decode prog_1_method_29_code 64 = .ok (.iload 4, 2) := by decide +kernel
theorem d_S_conditionsMissed_66 : decode prog_1_method_29_code 66 = .ok (.ireturn, 1) := by decide +kernel
def wb_S_conditionsMissed_30 (a : Nat) (p0 : Option Nat) (p1 : Option Nat) (p2 : Option Nat) (Q : Int32 → ab_H → Prop)  (k30 : Int32 → Int32 → ab_H → Prop) (u4 : Int32) (u5 : Int32) (A : ab_H) : Prop := wj_AL_size A p0  (fun x1 => if x1 ≤ u5 then (Q u4 A) else (wj_AL_get A p0 u5 (fun r2 => wC A r2 9 (fun b3 => wC A (some b3) 9 (fun b => wp_H_holds b p2 A (fun x4 A => if x4 = 0 then (k30 (u4 + 1) (u5 + 1) A) else (k30 u4 (u5 + 1) A)))))))
def wq_S_conditionsMissed_30 (a : Nat) (p0 : Option Nat) (p1 : Option Nat) (p2 : Option Nat) (Q : Int32 → ab_H → Prop)  : Nat → Int32 → Int32 → ab_H → Prop
  | 0 => fun _ _ _ => False
  | n + 1 => wb_S_conditionsMissed_30 a p0 p1 p2 Q  (wq_S_conditionsMissed_30 a p0 p1 p2 Q  n)
set_option maxRecDepth 100000 in
set_option maxHeartbeats 4000000 in
theorem sq_S_conditionsMissed_30 {l : Launch} {G : mm_G} {a : Nat} {p0 : Option Nat} {p1 : Option Nat} {p2 : Option Nat} {Q : Int32 → ab_H → Prop}   : ∀ (n : Nat) (u4 : Int32) (u5 : Int32) (A : ab_H) (h : mm_H), Vw G h A → wq_S_conditionsMissed_30 a p0 p1 p2 Q  n u4 u5 A → mm_V l G M_S_conditionsMissed 0 0 30 [some (va_rf (some a)), some (va_rf p0), some (va_rf p1), some (va_rf p2), some (.int u4), some (.int u5)] [] h (wQI G Q) := by
  intro n
  induction n with
  | zero =>
    intro u4 u5 A h hV hw
    exact absurd hw id
  | succ n hk30 =>
    intro u4 u5 A h hV hw
    have hw : wb_S_conditionsMissed_30 a p0 p1 p2 Q  (wq_S_conditionsMissed_30 a p0 p1 p2 Q  n) u4 u5 A := hw
    unfold wb_S_conditionsMissed_30 at hw
    refine mm_iload (pc' := 32) d_S_conditionsMissed_30 rfl rfl ?_
    refine wr_aload_n p0 (pc' := 33) d_S_conditionsMissed_32 rfl rfl rfl ?_
    refine wr_AL_size hV hw (pc' := 36) d_S_conditionsMissed_33 rfl cs_S_99 (Nat.le_of_ble_eq_true rfl) (Nat.le_of_ble_eq_true rfl) (fun x1 hw => ?_)
    refine wr_icmp_ge hw (pc' := 39) d_S_conditionsMissed_36 rfl rfl (fun hw => ?_) (fun hw => ?_)
    · refine mm_iload (pc' := 66) d_S_conditionsMissed_64 rfl rfl ?_
      exact wr_iret hV d_S_conditionsMissed_66 rfl rfl hw
    · refine wr_aload_n p0 (pc' := 40) d_S_conditionsMissed_39 rfl rfl rfl ?_
      refine mm_iload (pc' := 42) d_S_conditionsMissed_40 rfl rfl ?_
      refine wr_AL_get hV hw (pc' := 45) d_S_conditionsMissed_42 rfl cs_S_136 (Nat.le_of_ble_eq_true rfl) (Nat.le_of_ble_eq_true rfl) (fun r2 hw => ?_)
      refine wr_cast hV hw (pc' := 48) d_S_conditionsMissed_45 rfl rfl cl_S_106 (fun b3 hw => ?_)
      refine wr_aload_n p2 (pc' := 49) d_S_conditionsMissed_48 rfl rfl rfl ?_
      refine wr_cVI (pc' := 52) (as := [va_rf p2]) (st := []) d_S_conditionsMissed_49 rfl cs_S_227 rfl (W := fun b Q' => wp_H_holds b p2 A Q') hV hw (fun b Q' hw => sd_H_holds hV hw) rfl rfl (Nat.le_of_ble_eq_true rfl) (Nat.le_of_ble_eq_true rfl) (fun x4 h A hV hw => ?_)
      refine wr_if_ne hw (pc' := 55) d_S_conditionsMissed_52 rfl rfl (fun hw => ?_) (fun hw => ?_)
      · refine mm_iinc5 (v := (u5 + 1)) (pc' := 61) d_S_conditionsMissed_58 rfl rfl rfl (Nat.le_of_ble_eq_true rfl) ?_
        refine mm_goto (tgt := 30) d_S_conditionsMissed_61 rfl ?_
        exact mm_drop (mm_le.s (mm_le.s (mm_le.s (mm_le.s (mm_le.s (mm_le.s mm_le.e)))))) (hk30 _ _ _ _ hV hw)
      · refine mm_iinc4 (v := (u4 + 1)) (pc' := 58) d_S_conditionsMissed_55 rfl (wr_2 _) rfl (Nat.le_of_ble_eq_true rfl) ?_
        refine mm_iinc5 (v := (u5 + 1)) (pc' := 61) d_S_conditionsMissed_58 rfl rfl rfl (Nat.le_of_ble_eq_true rfl) ?_
        refine mm_goto (tgt := 30) d_S_conditionsMissed_61 rfl ?_
        exact mm_drop (mm_le.s (mm_le.s (mm_le.s (mm_le.s (mm_le.s (mm_le.s mm_le.e)))))) (hk30 _ _ _ _ hV hw)
def wq_S_conditionsMissed_25 (a : Nat) (p0 : Option Nat) (p1 : Option Nat) (p2 : Option Nat) (Q : Int32 → ab_H → Prop)  (s0 : Int32) (A : ab_H) : Prop := ∃ n, wq_S_conditionsMissed_30 a p0 p1 p2 Q n s0 (0 : Int32) A
set_option maxRecDepth 100000 in
set_option maxHeartbeats 4000000 in
theorem sq_S_conditionsMissed_25 {l : Launch} {G : mm_G} {a : Nat} {p0 : Option Nat} {p1 : Option Nat} {p2 : Option Nat} {Q : Int32 → ab_H → Prop}   : ∀ (s0 : Int32) (A : ab_H) (h : mm_H), Vw G h A → wq_S_conditionsMissed_25 a p0 p1 p2 Q  s0 A → mm_V l G M_S_conditionsMissed 0 0 25 [some (va_rf (some a)), some (va_rf p0), some (va_rf p1), some (va_rf p2), none, none] [.int s0] h (wQI G Q) := by
  intro s0 A h hV hw
  unfold wq_S_conditionsMissed_25 at hw
  refine mm_ist4 (pc' := 27) d_S_conditionsMissed_25 rfl (wr_2 _) (Nat.le_of_ble_eq_true rfl) ?_
  refine mm_iconst (v := 0) (pc' := 28) d_S_conditionsMissed_27 rfl (by decide) ?_
  refine mm_ist5 (pc' := 30) d_S_conditionsMissed_28 rfl rfl (Nat.le_of_ble_eq_true rfl) ?_
  obtain ⟨n, hw⟩ := hw
  exact mm_drop (mm_le.s (mm_le.s (mm_le.s (mm_le.s (mm_le.s (mm_le.s mm_le.e)))))) (sq_S_conditionsMissed_30  n _ _ _ _ hV hw)
def wq_S_conditionsMissed_24 (a : Nat) (p0 : Option Nat) (p1 : Option Nat) (p2 : Option Nat) (Q : Int32 → ab_H → Prop)   (A : ab_H) : Prop := wq_S_conditionsMissed_25 a p0 p1 p2 Q (0 : Int32) A
set_option maxRecDepth 100000 in
set_option maxHeartbeats 4000000 in
theorem sq_S_conditionsMissed_24 {l : Launch} {G : mm_G} {a : Nat} {p0 : Option Nat} {p1 : Option Nat} {p2 : Option Nat} {Q : Int32 → ab_H → Prop}   : ∀ (A : ab_H) (h : mm_H), Vw G h A → wq_S_conditionsMissed_24 a p0 p1 p2 Q  A → mm_V l G M_S_conditionsMissed 0 0 24 [some (va_rf (some a)), some (va_rf p0), some (va_rf p1), some (va_rf p2), none, none] [] h (wQI G Q) := by
  intro A h hV hw
  unfold wq_S_conditionsMissed_24 at hw
  refine mm_iconst (v := 0) (pc' := 25) d_S_conditionsMissed_24 rfl (by decide) ?_
  exact mm_drop (mm_le.s (mm_le.s (mm_le.s (mm_le.s (mm_le.n (mm_le.n mm_le.e)))))) (sq_S_conditionsMissed_25  _ _ _ hV hw)
def wp_S_conditionsMissed (a : Nat) (p0 : Option Nat) (p1 : Option Nat) (p2 : Option Nat) (A : ab_H) (Q : Int32 → ab_H → Prop) : Prop := if p1 = none then (wq_S_conditionsMissed_24 a p0 p1 p2 Q A) else (wgR A (some a) 3 1 (fun r5 => wgI A p1 13 0 (fun x6 => wAI A r5 x6 (fun x7 => wgI A p1 13 1 (fun x8 => if x7 = x8 then (wq_S_conditionsMissed_24 a p0 p1 p2 Q A) else (wq_S_conditionsMissed_25 a p0 p1 p2 Q (1 : Int32) A))))))
set_option maxRecDepth 100000 in
set_option maxHeartbeats 4000000 in
theorem sd_S_conditionsMissed {l : Launch} {G : mm_G} {h : mm_H} {A : ab_H} {a : Nat} {p0 : Option Nat} {p1 : Option Nat} {p2 : Option Nat} {Q : Int32 → ab_H → Prop} (hV : Vw G h A) (hw : wp_S_conditionsMissed a p0 p1 p2 A Q) : mm_S l G M_S_conditionsMissed [.ref a, va_rf p0, va_rf p1, va_rf p2] h 0 0 (wQI G Q) := by
  unfold wp_S_conditionsMissed at hw
  refine mm_start rfl (by simp [mm_as, wr_cat, wr_catI, wr_catJ, wr_catN]) ?_
  rw [show mm_en [.ref a, va_rf p0, va_rf p1, va_rf p2] M_S_conditionsMissed.2.2.1 = [some (.ref a), some (va_rf p0), some (va_rf p1), some (va_rf p2), none, none] from by simp [mm_en, mm_as, wr_cat, wr_catI, wr_catJ, wr_catN]]
  show mm_V l G M_S_conditionsMissed 0 0 0 [some (va_rf (some a)), some (va_rf p0), some (va_rf p1), some (va_rf p2), none, none] [] h _
  refine wr_aload_n p1 (pc' := 1) d_S_conditionsMissed_0 rfl rfl rfl ?_
  refine wr_ifnull hw (pc' := 4) d_S_conditionsMissed_1 rfl rfl (fun hw => ?_) (fun hw => ?_)
  · exact mm_drop (mm_le.s (mm_le.s (mm_le.s (mm_le.s (mm_le.n (mm_le.n mm_le.e)))))) (sq_S_conditionsMissed_24  _ _ hV hw)
  · refine wr_aload_n (some a) (pc' := 5) d_S_conditionsMissed_4 rfl rfl rfl ?_
    refine wr_getR hV hw (pc' := 8) d_S_conditionsMissed_5 rfl fl_S_16 (fun r5 hw => ?_)
    refine wr_aload_n p1 (pc' := 9) d_S_conditionsMissed_8 rfl rfl rfl ?_
    refine wr_getI hV hw (pc' := 12) d_S_conditionsMissed_9 rfl fl_S_215 (fun x6 hw => ?_)
    refine wr_aldI hV hw (pc' := 13) d_S_conditionsMissed_12 rfl (fun x7 hw => ?_)
    refine wr_aload_n p1 (pc' := 14) d_S_conditionsMissed_13 rfl rfl rfl ?_
    refine wr_getI hV hw (pc' := 17) d_S_conditionsMissed_14 rfl fl_S_224 (fun x8 hw => ?_)
    refine wr_icmp_eq hw (pc' := 20) d_S_conditionsMissed_17 rfl rfl (fun hw => ?_) (fun hw => ?_)
    · exact mm_drop (mm_le.s (mm_le.s (mm_le.s (mm_le.s (mm_le.n (mm_le.n mm_le.e)))))) (sq_S_conditionsMissed_24  _ _ hV hw)
    · refine mm_iconst (v := 1) (pc' := 21) d_S_conditionsMissed_20 rfl (by decide) ?_
      refine mm_goto (tgt := 25) d_S_conditionsMissed_21 rfl ?_
      exact mm_drop (mm_le.s (mm_le.s (mm_le.s (mm_le.s (mm_le.n (mm_le.n mm_le.e)))))) (sq_S_conditionsMissed_25  _ _ _ hV hw)
theorem d_S_nearest_0 : decode prog_1_method_28_code 0 = .ok (.aconst_null, 1) := by decide +kernel
theorem d_S_nearest_1 : decode prog_1_method_28_code 1 = .ok (.astore_n 2, 1) := by decide +kernel
theorem d_S_nearest_2 : decode prog_1_method_28_code 2 = .ok (.iconst 0, 1) := by decide +kernel
theorem d_S_nearest_3 : decode prog_1_method_28_code 3 = .ok (.istore_n 3, 1) := by decide +kernel
theorem d_S_nearest_4 : decode prog_1_method_28_code 4 = .ok (.iconst 0, 1) := by decide +kernel
theorem d_S_nearest_5 : decode prog_1_method_28_code 5 = .ok (.istore 4, 2) := by decide +kernel
theorem d_S_nearest_7 : decode prog_1_method_28_code 7 = .ok (.iload 4, 2) := by decide +kernel
theorem d_S_nearest_9 : decode prog_1_method_28_code 9 = .ok (.aload_n 0, 1) := by decide +kernel
theorem d_S_nearest_10 : decode prog_1_method_28_code 10 = .ok (.getfield 30, 3) := by decide +kernel
theorem d_S_nearest_13 : decode prog_1_method_28_code 13 = .ok (.invokevirtual 99, 3) := by decide +kernel
theorem d_S_nearest_16 : decode prog_1_method_28_code 16 = .ok (.if_icmp .ge 74, 3) := by decide +kernel
theorem d_S_nearest_19 : decode prog_1_method_28_code 19 = .ok (.aload_n 0, 1) := by decide +kernel
theorem d_S_nearest_20 : decode prog_1_method_28_code 20 = .ok (.getfield 30, 3) := by decide +kernel
theorem d_S_nearest_23 : decode prog_1_method_28_code 23 = .ok (.iload 4, 2) := by decide +kernel
theorem d_S_nearest_25 : decode prog_1_method_28_code 25 = .ok (.invokevirtual 136, 3) := by decide +kernel
theorem d_S_nearest_28 : decode prog_1_method_28_code 28 = .ok (.checkcast 122, 3) := by decide +kernel
theorem d_S_nearest_31 : decode prog_1_method_28_code 31 = .ok (.astore 5, 2) := by decide +kernel
theorem d_S_nearest_33 : decode prog_1_method_28_code 33 = .ok (.aload_n 0, 1) := by decide +kernel
theorem d_S_nearest_34 : decode prog_1_method_28_code 34 = .ok (.aload 5, 2) := by decide +kernel
theorem d_S_nearest_36 : decode prog_1_method_28_code 36 = .ok (.getfield 174, 3) := by decide +kernel
theorem d_S_nearest_39 : decode prog_1_method_28_code 39 = .ok (.aload 5, 2) := by decide +kernel
theorem d_S_nearest_41 : decode prog_1_method_28_code 41 = .ok (.getfield 145, 3) := by decide +kernel
theorem d_S_nearest_44 : decode prog_1_method_28_code 44 = .ok (.aload_n 1, 1) := by decide +kernel
theorem d_S_nearest_45 : decode prog_1_method_28_code 45 = .ok (.invokevirtual 157, 3) := by decide +kernel
theorem d_S_nearest_48 : decode prog_1_method_28_code 48 = .ok (.istore 6, 2) := by decide +kernel
theorem d_S_nearest_50 : decode prog_1_method_28_code 50 = .ok (.aload_n 2, 1) := by decide +kernel
theorem d_S_nearest_51 : decode prog_1_method_28_code 51 = .ok (.ifnull 27, 3) := by decide +kernel
theorem d_S_nearest_54 : decode prog_1_method_28_code 54 = .ok (.iload 6, 2) := by decide +kernel
theorem d_S_nearest_56 : decode prog_1_method_28_code 56 = .ok (.iload_n 3, 1) := by decide +kernel
theorem d_S_nearest_57 : decode prog_1_method_28_code 57 = .ok (.if_icmp .lt 21, 3) := by decide +kernel
theorem d_S_nearest_60 : decode prog_1_method_28_code 60 = .ok (.iload 6, 2) := by decide +kernel
theorem d_S_nearest_62 : decode prog_1_method_28_code 62 = .ok (.iload_n 3, 1) := by decide +kernel
theorem d_S_nearest_63 : decode prog_1_method_28_code 63 = .ok (.if_icmp .ne 21, 3) := by decide +kernel
theorem d_S_nearest_66 : decode prog_1_method_28_code 66 = .ok (.aload 5, 2) := by decide +kernel
theorem d_S_nearest_68 : decode prog_1_method_28_code 68 = .ok (.getfield 221, 3) := by decide +kernel
theorem d_S_nearest_71 : decode prog_1_method_28_code 71 = .ok (.aload_n 2, 1) := by decide +kernel
theorem d_S_nearest_72 : decode prog_1_method_28_code 72 = .ok (.getfield 221, 3) := by decide +kernel
theorem d_S_nearest_75 : decode prog_1_method_28_code 75 = .ok (.if_icmp .gt 9, 3) := by decide +kernel
theorem d_S_nearest_78 : decode prog_1_method_28_code 78 = .ok (.aload 5, 2) := by decide +kernel
theorem d_S_nearest_80 : decode prog_1_method_28_code 80 = .ok (.astore_n 2, 1) := by decide +kernel
theorem d_S_nearest_81 : decode prog_1_method_28_code 81 = .ok (.iload 6, 2) := by decide +kernel
theorem d_S_nearest_83 : decode prog_1_method_28_code 83 = .ok (.istore_n 3, 1) := by decide +kernel
theorem d_S_nearest_84 : decode prog_1_method_28_code 84 = .ok (.iinc 4 1, 3) := by decide +kernel
theorem d_S_nearest_87 : decode prog_1_method_28_code 87 = .ok (.goto (-80), 3) := by decide +kernel
theorem d_S_nearest_90 : decode prog_1_method_28_code 90 = .ok (.aload_n 2, 1) := by decide +kernel
theorem d_S_nearest_91 : decode prog_1_method_28_code 91 = .ok (.areturn, 1) := by decide +kernel
def wq_S_nearest_78 (a : Nat) (p0 : Option Nat) (Q : Option Nat → ab_H → Prop) (k7 : Option Nat → Int32 → Int32 → ab_H → Prop) (u4 : Int32) (u5 : Option Nat) (u6 : Int32) (A : ab_H) : Prop := k7 u5 u6 (u4 + 1) A
set_option maxRecDepth 100000 in
set_option maxHeartbeats 4000000 in
theorem sq_S_nearest_78 {l : Launch} {G : mm_G} {a : Nat} {p0 : Option Nat} {Q : Option Nat → ab_H → Prop} {k7 : Option Nat → Int32 → Int32 → ab_H → Prop} (hk7 : ∀ (u2 : Option Nat) (u3 : Int32) (u4 : Int32) (A : ab_H) (h : mm_H), Vw G h A → k7 u2 u3 u4 A → mm_V l G M_S_nearest 0 0 7 [some (va_rf (some a)), some (va_rf p0), some (va_rf u2), some (.int u3), some (.int u4), none, none] [] h (wQR G Q)) : ∀ (u4 : Int32) (u5 : Option Nat) (u6 : Int32) (A : ab_H) (h : mm_H), Vw G h A → wq_S_nearest_78 a p0 Q k7 u4 u5 u6 A → mm_V l G M_S_nearest 0 0 78 [some (va_rf (some a)), some (va_rf p0), none, none, some (.int u4), some (va_rf u5), some (.int u6)] [] h (wQR G Q) := by
  intro u4 u5 u6 A h hV hw
  unfold wq_S_nearest_78 at hw
  refine wr_aload u5 (pc' := 80) d_S_nearest_78 rfl rfl ?_
  refine wr_ast2 (pc' := 81) d_S_nearest_80 rfl (wr_2 _) (Nat.le_of_ble_eq_true rfl) ?_
  refine mm_iload (pc' := 83) d_S_nearest_81 rfl rfl ?_
  refine mm_ist3 (pc' := 84) d_S_nearest_83 rfl (wr_2 _) (Nat.le_of_ble_eq_true rfl) ?_
  refine mm_iinc4 (v := (u4 + 1)) (pc' := 87) d_S_nearest_84 rfl rfl rfl (Nat.le_of_ble_eq_true rfl) ?_
  refine mm_goto (tgt := 7) d_S_nearest_87 rfl ?_
  exact mm_drop (mm_le.s (mm_le.s (mm_le.s (mm_le.s (mm_le.s (mm_le.n (mm_le.n mm_le.e))))))) (hk7 _ _ _ _ _ hV hw)
def wb_S_nearest_7 (a : Nat) (p0 : Option Nat) (Q : Option Nat → ab_H → Prop)  (k7 : Option Nat → Int32 → Int32 → ab_H → Prop) (u2 : Option Nat) (u3 : Int32) (u4 : Int32) (A : ab_H) : Prop := wgR A (some a) 3 3 (fun r1 => wj_AL_size A r1  (fun x2 => if x2 ≤ u4 then (Q u2 A) else (wgR A (some a) 3 3 (fun r3 => wj_AL_get A r3 u4 (fun r4 => wC A r4 12 (fun b5 => wgR A (some b5) 12 4 (fun r6 => wgR A (some b5) 12 5 (fun r7 => wC A (some a) 3 (fun b => wp_S_conditionsMissed b r6 r7 p0 A (fun x8 A => if u2 = none then (wq_S_nearest_78 a p0 Q k7 u4 (some b5) x8 A) else (if x8 < u3 then (wq_S_nearest_78 a p0 Q k7 u4 (some b5) x8 A) else (if x8 = u3 then (wgI A (some b5) 12 1 (fun x9 => wgI A u2 12 1 (fun x10 => if x10 < x9 then (k7 u2 u3 (u4 + 1) A) else (wq_S_nearest_78 a p0 Q k7 u4 (some b5) x8 A)))) else (k7 u2 u3 (u4 + 1) A)))))))))))))
def wq_S_nearest_7 (a : Nat) (p0 : Option Nat) (Q : Option Nat → ab_H → Prop)  : Nat → Option Nat → Int32 → Int32 → ab_H → Prop
  | 0 => fun _ _ _ _ => False
  | n + 1 => wb_S_nearest_7 a p0 Q  (wq_S_nearest_7 a p0 Q  n)
set_option maxRecDepth 100000 in
set_option maxHeartbeats 4000000 in
theorem sq_S_nearest_7 {l : Launch} {G : mm_G} {a : Nat} {p0 : Option Nat} {Q : Option Nat → ab_H → Prop}   : ∀ (n : Nat) (u2 : Option Nat) (u3 : Int32) (u4 : Int32) (A : ab_H) (h : mm_H), Vw G h A → wq_S_nearest_7 a p0 Q  n u2 u3 u4 A → mm_V l G M_S_nearest 0 0 7 [some (va_rf (some a)), some (va_rf p0), some (va_rf u2), some (.int u3), some (.int u4), none, none] [] h (wQR G Q) := by
  intro n
  induction n with
  | zero =>
    intro u2 u3 u4 A h hV hw
    exact absurd hw id
  | succ n hk7 =>
    intro u2 u3 u4 A h hV hw
    have hw : wb_S_nearest_7 a p0 Q  (wq_S_nearest_7 a p0 Q  n) u2 u3 u4 A := hw
    unfold wb_S_nearest_7 at hw
    refine mm_iload (pc' := 9) d_S_nearest_7 rfl rfl ?_
    refine wr_aload_n (some a) (pc' := 10) d_S_nearest_9 rfl rfl rfl ?_
    refine wr_getR hV hw (pc' := 13) d_S_nearest_10 rfl fl_S_30 (fun r1 hw => ?_)
    refine wr_AL_size hV hw (pc' := 16) d_S_nearest_13 rfl cs_S_99 (Nat.le_of_ble_eq_true rfl) (Nat.le_of_ble_eq_true rfl) (fun x2 hw => ?_)
    refine wr_icmp_ge hw (pc' := 19) d_S_nearest_16 rfl rfl (fun hw => ?_) (fun hw => ?_)
    · refine wr_aload_n u2 (pc' := 91) d_S_nearest_90 rfl rfl rfl ?_
      exact wr_aret hV d_S_nearest_91 rfl (by first | exact Or.inl ⟨_, rfl⟩ | exact Or.inr ⟨_, rfl⟩) hw
    · refine wr_aload_n (some a) (pc' := 20) d_S_nearest_19 rfl rfl rfl ?_
      refine wr_getR hV hw (pc' := 23) d_S_nearest_20 rfl fl_S_30 (fun r3 hw => ?_)
      refine mm_iload (pc' := 25) d_S_nearest_23 rfl rfl ?_
      refine wr_AL_get hV hw (pc' := 28) d_S_nearest_25 rfl cs_S_136 (Nat.le_of_ble_eq_true rfl) (Nat.le_of_ble_eq_true rfl) (fun r4 hw => ?_)
      refine wr_cast hV hw (pc' := 31) d_S_nearest_28 rfl rfl cl_S_122 (fun b5 hw => ?_)
      refine wr_ast5 (pc' := 33) d_S_nearest_31 rfl rfl (Nat.le_of_ble_eq_true rfl) ?_
      refine wr_aload_n (some a) (pc' := 34) d_S_nearest_33 rfl rfl rfl ?_
      refine wr_aload (some b5) (pc' := 36) d_S_nearest_34 rfl rfl ?_
      refine wr_getR hV hw (pc' := 39) d_S_nearest_36 rfl fl_S_174 (fun r6 hw => ?_)
      refine wr_aload (some b5) (pc' := 41) d_S_nearest_39 rfl rfl ?_
      refine wr_getR hV hw (pc' := 44) d_S_nearest_41 rfl fl_S_145 (fun r7 hw => ?_)
      refine wr_aload_n p0 (pc' := 45) d_S_nearest_44 rfl rfl rfl ?_
      refine wr_cVI (pc' := 48) (as := [va_rf r6, va_rf r7, va_rf p0]) (st := []) d_S_nearest_45 rfl cs_S_157 rfl (W := fun b Q' => wp_S_conditionsMissed b r6 r7 p0 A Q') hV hw (fun b Q' hw => sd_S_conditionsMissed hV hw) rfl rfl (Nat.le_of_ble_eq_true rfl) (Nat.le_of_ble_eq_true rfl) (fun x8 h A hV hw => ?_)
      refine mm_ist6 (pc' := 50) d_S_nearest_48 rfl (wr_2 _) (Nat.le_of_ble_eq_true rfl) ?_
      refine wr_aload_n u2 (pc' := 51) d_S_nearest_50 rfl rfl rfl ?_
      refine wr_ifnull hw (pc' := 54) d_S_nearest_51 rfl rfl (fun hw => ?_) (fun hw => ?_)
      · exact mm_drop (mm_le.s (mm_le.s (mm_le.n (mm_le.n (mm_le.s (mm_le.s (mm_le.s mm_le.e))))))) (sq_S_nearest_78 hk7 _ _ _ _ _ hV hw)
      · refine mm_iload (pc' := 56) d_S_nearest_54 rfl rfl ?_
        refine mm_iload_n (pc' := 57) d_S_nearest_56 rfl rfl rfl ?_
        refine wr_icmp_lt hw (pc' := 60) d_S_nearest_57 rfl rfl (fun hw => ?_) (fun hw => ?_)
        · exact mm_drop (mm_le.s (mm_le.s (mm_le.n (mm_le.n (mm_le.s (mm_le.s (mm_le.s mm_le.e))))))) (sq_S_nearest_78 hk7 _ _ _ _ _ hV hw)
        · refine mm_iload (pc' := 62) d_S_nearest_60 rfl rfl ?_
          refine mm_iload_n (pc' := 63) d_S_nearest_62 rfl rfl rfl ?_
          refine wr_icmp_ne hw (pc' := 66) d_S_nearest_63 rfl rfl (fun hw => ?_) (fun hw => ?_)
          · refine mm_iinc4 (v := (u4 + 1)) (pc' := 87) d_S_nearest_84 rfl rfl rfl (Nat.le_of_ble_eq_true rfl) ?_
            refine mm_goto (tgt := 7) d_S_nearest_87 rfl ?_
            exact mm_drop (mm_le.s (mm_le.s (mm_le.s (mm_le.s (mm_le.s (mm_le.n (mm_le.n mm_le.e))))))) (hk7 _ _ _ _ _ hV hw)
          · refine wr_aload (some b5) (pc' := 68) d_S_nearest_66 rfl rfl ?_
            refine wr_getI hV hw (pc' := 71) d_S_nearest_68 rfl fl_S_221 (fun x9 hw => ?_)
            refine wr_aload_n u2 (pc' := 72) d_S_nearest_71 rfl rfl rfl ?_
            refine wr_getI hV hw (pc' := 75) d_S_nearest_72 rfl fl_S_221 (fun x10 hw => ?_)
            refine wr_icmp_gt hw (pc' := 78) d_S_nearest_75 rfl rfl (fun hw => ?_) (fun hw => ?_)
            · refine mm_iinc4 (v := (u4 + 1)) (pc' := 87) d_S_nearest_84 rfl rfl rfl (Nat.le_of_ble_eq_true rfl) ?_
              refine mm_goto (tgt := 7) d_S_nearest_87 rfl ?_
              exact mm_drop (mm_le.s (mm_le.s (mm_le.s (mm_le.s (mm_le.s (mm_le.n (mm_le.n mm_le.e))))))) (hk7 _ _ _ _ _ hV hw)
            · exact mm_drop (mm_le.s (mm_le.s (mm_le.n (mm_le.n (mm_le.s (mm_le.s (mm_le.s mm_le.e))))))) (sq_S_nearest_78 hk7 _ _ _ _ _ hV hw)
def wp_S_nearest (a : Nat) (p0 : Option Nat) (A : ab_H) (Q : Option Nat → ab_H → Prop) : Prop := ∃ n, wq_S_nearest_7 a p0 Q n (none : Option Nat) (0 : Int32) (0 : Int32) A
set_option maxRecDepth 100000 in
set_option maxHeartbeats 4000000 in
theorem sd_S_nearest {l : Launch} {G : mm_G} {h : mm_H} {A : ab_H} {a : Nat} {p0 : Option Nat} {Q : Option Nat → ab_H → Prop} (hV : Vw G h A) (hw : wp_S_nearest a p0 A Q) : mm_S l G M_S_nearest [.ref a, va_rf p0] h 0 0 (wQR G Q) := by
  unfold wp_S_nearest at hw
  refine mm_start rfl (by simp [mm_as, wr_cat, wr_catI, wr_catJ, wr_catN]) ?_
  rw [show mm_en [.ref a, va_rf p0] M_S_nearest.2.2.1 = [some (.ref a), some (va_rf p0), none, none, none, none, none] from by simp [mm_en, mm_as, wr_cat, wr_catI, wr_catJ, wr_catN]]
  show mm_V l G M_S_nearest 0 0 0 [some (va_rf (some a)), some (va_rf p0), none, none, none, none, none] [] h _
  refine wr_null (pc' := 1) d_S_nearest_0 rfl ?_
  refine wr_ast2 (pc' := 2) d_S_nearest_1 rfl (wr_2 _) (Nat.le_of_ble_eq_true rfl) ?_
  refine mm_iconst (v := 0) (pc' := 3) d_S_nearest_2 rfl (by decide) ?_
  refine mm_ist3 (pc' := 4) d_S_nearest_3 rfl (wr_2 _) (Nat.le_of_ble_eq_true rfl) ?_
  refine mm_iconst (v := 0) (pc' := 5) d_S_nearest_4 rfl (by decide) ?_
  refine mm_ist4 (pc' := 7) d_S_nearest_5 rfl rfl (Nat.le_of_ble_eq_true rfl) ?_
  obtain ⟨n, hw⟩ := hw
  exact mm_drop (mm_le.s (mm_le.s (mm_le.s (mm_le.s (mm_le.s (mm_le.n (mm_le.n mm_le.e))))))) (sq_S_nearest_7  n _ _ _ _ _ hV hw)
theorem d_C_respond_0 : decode prog_2_method_4_code 0 = .ok (.aload_n 0, 1) := by decide +kernel
theorem d_C_respond_1 : decode prog_2_method_4_code 1 = .ok (.getfield 19, 3) := by decide +kernel
theorem d_C_respond_4 : decode prog_2_method_4_code 4 = .ok (.iconst 0, 1) := by decide +kernel
theorem d_C_respond_5 : decode prog_2_method_4_code 5 = .ok (.invokevirtual 30, 3) := by decide +kernel
theorem d_C_respond_8 : decode prog_2_method_4_code 8 = .ok (.aload_n 0, 1) := by decide +kernel
theorem d_C_respond_9 : decode prog_2_method_4_code 9 = .ok (.getfield 19, 3) := by decide +kernel
theorem d_C_respond_12 : decode prog_2_method_4_code 12 = .ok (.iload_n 1, 1) := by decide +kernel
theorem d_C_respond_13 : decode prog_2_method_4_code 13 = .ok (.invokevirtual 40, 3) := by decide +kernel
theorem d_C_respond_16 : decode prog_2_method_4_code 16 = .ok (.bipush 32, 2) := by decide +kernel
theorem d_C_respond_18 : decode prog_2_method_4_code 18 = .ok (.invokevirtual 44, 3) := by decide +kernel
theorem d_C_respond_21 : decode prog_2_method_4_code 21 = .ok (.aload_n 2, 1) := by decide +kernel
theorem d_C_respond_22 : decode prog_2_method_4_code 22 = .ok (.invokevirtual 47, 3) := by decide +kernel
theorem d_C_respond_25 : decode prog_2_method_4_code 25 = .ok (.invokevirtual 40, 3) := by decide +kernel
theorem d_C_respond_28 : decode prog_2_method_4_code 28 = .ok (.bipush 10, 2) := by decide +kernel
theorem d_C_respond_30 : decode prog_2_method_4_code 30 = .ok (.invokevirtual 44, 3) := by decide +kernel
theorem d_C_respond_33 : decode prog_2_method_4_code 33 = .ok (.aload_n 2, 1) := by decide +kernel
theorem d_C_respond_34 : decode prog_2_method_4_code 34 = .ok (.invokevirtual 53, 3) := by decide +kernel
theorem d_C_respond_37 : decode prog_2_method_4_code 37 = .ok (.pop, 1) := by decide +kernel
theorem d_C_respond_38 : decode prog_2_method_4_code 38 = .ok (.return_, 1) := by decide +kernel
def wp_C_respond (a : Nat) (p0 : Int32) (p1 : Option Nat) (A : ab_H) (kc ks : Nat) (Q : ab_H → Prop) : Prop := wgR A (some a) 4 1 (fun r1 => wj_SB_setLength A kc ks r1 (0 : Int32) (fun A kc ks => wgR A (some a) 4 1 (fun r2 => wj_SB_append_I A kc ks r2 p0 (fun r3 A kc ks => wj_SB_append_C A kc ks r3 (32 : Int32) (fun r4 A kc ks => wj_ST_length A p1  (fun x5 => wj_SB_append_I A kc ks r4 x5 (fun r6 A kc ks => wj_SB_append_C A kc ks r6 (10 : Int32) (fun r7 A kc ks => wj_SB_append_S A kc ks r7 p1 (fun r8 A kc ks => Q A)))))))))
set_option maxRecDepth 100000 in
set_option maxHeartbeats 4000000 in
theorem sd_C_respond {l : Launch} {G : mm_G} {h : mm_H} {A : ab_H} {a : Nat} {p0 : Int32} {p1 : Option Nat} {kc ks : Nat} {Q : ab_H → Prop} (hV : Vw G h A) (hw : wp_C_respond a p0 p1 A kc ks Q) : mm_S l G M_C_respond [.ref a, .int p0, va_rf p1] h kc ks (wQV G Q) := by
  unfold wp_C_respond at hw
  refine mm_start rfl (by simp [mm_as, wr_cat, wr_catI, wr_catJ, wr_catN]) ?_
  rw [show mm_en [.ref a, .int p0, va_rf p1] M_C_respond.2.2.1 = [some (.ref a), some (.int p0), some (va_rf p1)] from by simp [mm_en, mm_as, wr_cat, wr_catI, wr_catJ, wr_catN]]
  show mm_V l G M_C_respond kc ks 0 [some (va_rf (some a)), some (.int p0), some (va_rf p1)] [] h _
  refine wr_aload_n (some a) (pc' := 1) d_C_respond_0 rfl rfl rfl ?_
  refine wr_getR hV hw (pc' := 4) d_C_respond_1 rfl fl_C_19 (fun r1 hw => ?_)
  refine mm_iconst (v := 0) (pc' := 5) d_C_respond_4 rfl (by decide) ?_
  refine wr_SB_setLength hV hw (pc' := 8) d_C_respond_5 rfl cs_C_30 (Nat.le_of_ble_eq_true rfl) (Nat.le_of_ble_eq_true rfl) (fun h A kc ks hV hw => ?_)
  refine wr_aload_n (some a) (pc' := 9) d_C_respond_8 rfl rfl rfl ?_
  refine wr_getR hV hw (pc' := 12) d_C_respond_9 rfl fl_C_19 (fun r2 hw => ?_)
  refine mm_iload_n (pc' := 13) d_C_respond_12 rfl rfl rfl ?_
  refine wr_SB_append_I hV hw (pc' := 16) d_C_respond_13 rfl cs_C_40 (Nat.le_of_ble_eq_true rfl) (Nat.le_of_ble_eq_true rfl) (fun r3 h A kc ks hV hw => ?_)
  refine mm_bipush (v := 32) (pc' := 18) d_C_respond_16 rfl (by decide) ?_
  refine wr_SB_append_C hV hw (pc' := 21) d_C_respond_18 rfl cs_C_44 (Nat.le_of_ble_eq_true rfl) (Nat.le_of_ble_eq_true rfl) (fun r4 h A kc ks hV hw => ?_)
  refine wr_aload_n p1 (pc' := 22) d_C_respond_21 rfl rfl rfl ?_
  refine wr_ST_length hV hw (pc' := 25) d_C_respond_22 rfl cs_C_47 (Nat.le_of_ble_eq_true rfl) (Nat.le_trans (wr_hR wr_h0) (Nat.le_of_ble_eq_true rfl)) (fun x5 hw => ?_)
  refine wr_SB_append_I hV hw (pc' := 28) d_C_respond_25 rfl cs_C_40 (Nat.le_of_ble_eq_true rfl) (Nat.le_of_ble_eq_true rfl) (fun r6 h A kc ks hV hw => ?_)
  refine mm_bipush (v := 10) (pc' := 30) d_C_respond_28 rfl (by decide) ?_
  refine wr_SB_append_C hV hw (pc' := 33) d_C_respond_30 rfl cs_C_44 (Nat.le_of_ble_eq_true rfl) (Nat.le_of_ble_eq_true rfl) (fun r7 h A kc ks hV hw => ?_)
  refine wr_aload_n p1 (pc' := 34) d_C_respond_33 rfl rfl rfl ?_
  refine wr_SB_append_S hV hw (pc' := 37) d_C_respond_34 rfl cs_C_53 (Nat.le_of_ble_eq_true rfl) (Nat.le_of_ble_eq_true rfl) (fun r8 h A kc ks hV hw => ?_)
  refine mm_pop (pc' := 38) d_C_respond_37 rfl (wr_cat _) ?_
  exact wr_vret hV d_C_respond_38 rfl hw
theorem d_S_moveOn_0 : decode prog_1_method_26_code 0 = .ok (.aload_n 1, 1) := by decide +kernel
theorem d_S_moveOn_1 : decode prog_1_method_26_code 1 = .ok (.ifnull 16, 3) := by decide +kernel
theorem d_S_moveOn_4 : decode prog_1_method_26_code 4 = .ok (.aload_n 0, 1) := by decide +kernel
theorem d_S_moveOn_5 : decode prog_1_method_26_code 5 = .ok (.getfield 16, 3) := by decide +kernel
theorem d_S_moveOn_8 : decode prog_1_method_26_code 8 = .ok (.aload_n 1, 1) := by decide +kernel
theorem d_S_moveOn_9 : decode prog_1_method_26_code 9 = .ok (.getfield 215, 3) := by decide +kernel
theorem d_S_moveOn_12 : decode prog_1_method_26_code 12 = .ok (.aload_n 1, 1) := by decide +kernel
theorem d_S_moveOn_13 : decode prog_1_method_26_code 13 = .ok (.getfield 218, 3) := by decide +kernel
theorem d_S_moveOn_16 : decode prog_1_method_26_code 16 = .ok (.iastore, 1) := by decide +kernel
theorem d_S_moveOn_17 : decode prog_1_method_26_code 17 = .ok (.return_, 1) := by decide +kernel
def wp_S_moveOn (a : Nat) (p0 : Option Nat) (A : ab_H) (Q : ab_H → Prop) : Prop := if p0 = none then (Q A) else (wgR A (some a) 3 1 (fun r1 => wgI A p0 13 0 (fun x2 => wgI A p0 13 2 (fun x3 => wSI A r1 x2 x3 (fun A => Q A)))))
set_option maxRecDepth 100000 in
set_option maxHeartbeats 4000000 in
theorem sd_S_moveOn {l : Launch} {G : mm_G} {h : mm_H} {A : ab_H} {a : Nat} {p0 : Option Nat} {Q : ab_H → Prop} (hV : Vw G h A) (hw : wp_S_moveOn a p0 A Q) : mm_S l G M_S_moveOn [.ref a, va_rf p0] h 0 0 (wQV G Q) := by
  unfold wp_S_moveOn at hw
  refine mm_start rfl (by simp [mm_as, wr_cat, wr_catI, wr_catJ, wr_catN]) ?_
  rw [show mm_en [.ref a, va_rf p0] M_S_moveOn.2.2.1 = [some (.ref a), some (va_rf p0)] from by simp [mm_en, mm_as, wr_cat, wr_catI, wr_catJ, wr_catN]]
  show mm_V l G M_S_moveOn 0 0 0 [some (va_rf (some a)), some (va_rf p0)] [] h _
  refine wr_aload_n p0 (pc' := 1) d_S_moveOn_0 rfl rfl rfl ?_
  refine wr_ifnull hw (pc' := 4) d_S_moveOn_1 rfl rfl (fun hw => ?_) (fun hw => ?_)
  · exact wr_vret hV d_S_moveOn_17 rfl hw
  · refine wr_aload_n (some a) (pc' := 5) d_S_moveOn_4 rfl rfl rfl ?_
    refine wr_getR hV hw (pc' := 8) d_S_moveOn_5 rfl fl_S_16 (fun r1 hw => ?_)
    refine wr_aload_n p0 (pc' := 9) d_S_moveOn_8 rfl rfl rfl ?_
    refine wr_getI hV hw (pc' := 12) d_S_moveOn_9 rfl fl_S_215 (fun x2 hw => ?_)
    refine wr_aload_n p0 (pc' := 13) d_S_moveOn_12 rfl rfl rfl ?_
    refine wr_getI hV hw (pc' := 16) d_S_moveOn_13 rfl fl_S_218 (fun x3 hw => ?_)
    refine wr_astI hV hw (pc' := 17) d_S_moveOn_16 rfl (fun h A hV hw => ?_)
    exact wr_vret hV d_S_moveOn_17 rfl hw
theorem d_T_closeOf_0 : decode prog_11_method_3_code 0 = .ok (.aload_n 0, 1) := by decide +kernel
theorem d_T_closeOf_1 : decode prog_11_method_3_code 1 = .ok (.getfield 7, 3) := by decide +kernel
theorem d_T_closeOf_4 : decode prog_11_method_3_code 4 = .ok (.iload_n 1, 1) := by decide +kernel
theorem d_T_closeOf_5 : decode prog_11_method_3_code 5 = .ok (.invokevirtual 27, 3) := by decide +kernel
theorem d_T_closeOf_8 : decode prog_11_method_3_code 8 = .ok (.bipush 123, 2) := by decide +kernel
theorem d_T_closeOf_10 : decode prog_11_method_3_code 10 = .ok (.if_icmp .ne 16, 3) := by decide +kernel
theorem d_T_closeOf_13 : decode prog_11_method_3_code 13 = .ok (.iload_n 1, 1) := by decide +kernel
theorem d_T_closeOf_14 : decode prog_11_method_3_code 14 = .ok (.iconst 2, 1) := by decide +kernel
theorem d_T_closeOf_15 : decode prog_11_method_3_code 15 = .ok (.iadd, 1) := by decide +kernel
theorem d_T_closeOf_16 : decode prog_11_method_3_code 16 = .ok (.aload_n 0, 1) := by decide +kernel
theorem d_T_closeOf_17 : decode prog_11_method_3_code 17 = .ok (.getfield 7, 3) := by decide +kernel
theorem d_T_closeOf_20 : decode prog_11_method_3_code 20 = .ok (.invokevirtual 16, 3) := by decide +kernel
theorem d_T_closeOf_23 : decode prog_11_method_3_code 23 = .ok (.if_icmp .lt 5, 3) := by decide +kernel
theorem d_T_closeOf_26 : decode prog_11_method_3_code 26 = .ok (.iconst (-1), 1) := by decide +kernel
theorem d_T_closeOf_27 : decode prog_11_method_3_code 27 = .ok (.ireturn, 1) := by decide +kernel
theorem d_T_closeOf_28 : decode prog_11_method_3_code 28 = .ok (.aload_n 0, 1) := by decide +kernel
theorem d_T_closeOf_29 : decode prog_11_method_3_code 29 = .ok (.getfield 7, 3) := by decide +kernel
theorem d_T_closeOf_32 : decode prog_11_method_3_code 32 = .ok (.iload_n 1, 1) := by decide +kernel
theorem d_T_closeOf_33 : decode prog_11_method_3_code 33 = .ok (.iconst 1, 1) := by decide +kernel
theorem d_T_closeOf_34 : decode prog_11_method_3_code 34 = .ok (.iadd, 1) := by decide +kernel
theorem d_T_closeOf_35 : decode prog_11_method_3_code 35 = .ok (.invokevirtual 27, 3) := by decide +kernel
theorem d_T_closeOf_38 : decode prog_11_method_3_code 38 = .ok (.istore_n 2, 1) := by decide +kernel
theorem d_T_closeOf_39 : decode prog_11_method_3_code 39 = .ok (.iload_n 2, 1) := by decide +kernel
theorem d_T_closeOf_40 : decode prog_11_method_3_code 40 = .ok (.bipush 113, 2) := by decide +kernel
theorem d_T_closeOf_42 : decode prog_11_method_3_code 42 = .ok (.if_icmp .eq 66, 3) := by decide +kernel
theorem d_T_closeOf_45 : decode prog_11_method_3_code 45 = .ok (.iload_n 2, 1) := by decide +kernel
theorem d_T_closeOf_46 : decode prog_11_method_3_code 46 = .ok (.bipush 104, 2) := by decide +kernel
theorem d_T_closeOf_48 : decode prog_11_method_3_code 48 = .ok (.if_icmp .eq 60, 3) := by decide +kernel
theorem d_T_closeOf_51 : decode prog_11_method_3_code 51 = .ok (.iload_n 2, 1) := by decide +kernel
theorem d_T_closeOf_52 : decode prog_11_method_3_code 52 = .ok (.bipush 109, 2) := by decide +kernel
theorem d_T_closeOf_54 : decode prog_11_method_3_code 54 = .ok (.if_icmp .eq 21, 3) := by decide +kernel
theorem d_T_closeOf_57 : decode prog_11_method_3_code 57 = .ok (.iload_n 2, 1) := by decide +kernel
theorem d_T_closeOf_58 : decode prog_11_method_3_code 58 = .ok (.bipush 112, 2) := by decide +kernel
theorem d_T_closeOf_60 : decode prog_11_method_3_code 60 = .ok (.if_icmp .eq 15, 3) := by decide +kernel
theorem d_T_closeOf_63 : decode prog_11_method_3_code 63 = .ok (.iload_n 2, 1) := by decide +kernel
theorem d_T_closeOf_64 : decode prog_11_method_3_code 64 = .ok (.bipush 98, 2) := by decide +kernel
theorem d_T_closeOf_66 : decode prog_11_method_3_code 66 = .ok (.if_icmp .eq 9, 3) := by decide +kernel
theorem d_T_closeOf_69 : decode prog_11_method_3_code 69 = .ok (.iload_n 2, 1) := by decide +kernel
theorem d_T_closeOf_70 : decode prog_11_method_3_code 70 = .ok (.bipush 110, 2) := by decide +kernel
theorem d_T_closeOf_72 : decode prog_11_method_3_code 72 = .ok (.if_icmp .ne 7, 3) := by decide +kernel
theorem d_T_closeOf_75 : decode prog_11_method_3_code 75 = .ok (.iconst 1, 1) := by decide +kernel
theorem d_T_closeOf_76 : decode prog_11_method_3_code 76 = .ok (.goto 4, 3) := by decide +kernel
theorem d_T_closeOf_79 : decode prog_11_method_3_code 79 = .ok (.iconst 0, 1) := by decide +kernel
theorem d_T_closeOf_80 : decode prog_11_method_3_code 80 = .ok (.istore_n 3, 1) := by decide +kernel
theorem d_T_closeOf_81 : decode prog_11_method_3_code 81 = .ok (.iload_n 3, 1) := by decide +kernel
theorem d_T_closeOf_82 : decode prog_11_method_3_code 82 = .ok (.ifCond .eq 24, 3) := by decide +kernel
theorem d_T_closeOf_85 : decode prog_11_method_3_code 85 = .ok (.aload_n 0, 1) := by decide +kernel
theorem d_T_closeOf_86 : decode prog_11_method_3_code 86 = .ok (.getfield 7, 3) := by decide +kernel
theorem d_T_closeOf_89 : decode prog_11_method_3_code 89 = .ok (.iload_n 1, 1) := by decide +kernel
theorem d_T_closeOf_90 : decode prog_11_method_3_code 90 = .ok (.iconst 2, 1) := by decide +kernel
theorem d_T_closeOf_91 : decode prog_11_method_3_code 91 = .ok (.iadd, 1) := by decide +kernel
theorem d_T_closeOf_92 : decode prog_11_method_3_code 92 = .ok (.invokevirtual 27, 3) := by decide +kernel
theorem d_T_closeOf_95 : decode prog_11_method_3_code 95 = .ok (.bipush 125, 2) := by decide +kernel
theorem d_T_closeOf_97 : decode prog_11_method_3_code 97 = .ok (.if_icmp .ne 9, 3) := by decide +kernel
theorem d_T_closeOf_100 : decode prog_11_method_3_code 100 = .ok (.iload_n 1, 1) := by decide +kernel
theorem d_T_closeOf_101 : decode prog_11_method_3_code 101 = .ok (.iconst 2, 1) := by decide +kernel
theorem d_T_closeOf_102 : decode prog_11_method_3_code 102 = .ok (.iadd, 1) := by decide +kernel
theorem d_T_closeOf_103 : decode prog_11_method_3_code 103 = .ok (.goto 4, 3) := by decide +kernel
theorem d_T_closeOf_106 : decode prog_11_method_3_code 106 = .ok (.iconst (-1), 1) := by decide +kernel
theorem d_T_closeOf_107 : decode prog_11_method_3_code 107 = .ok (.ireturn, 1) := by decide +kernel
theorem d_T_closeOf_108 : decode prog_11_method_3_code 108 = .ok (.iload_n 1, 1) := by decide +kernel
theorem d_T_closeOf_109 : decode prog_11_method_3_code 109 = .ok (.iconst 2, 1) := by decide +kernel
theorem d_T_closeOf_110 : decode prog_11_method_3_code 110 = .ok (.iadd, 1) := by decide +kernel
theorem d_T_closeOf_111 : decode prog_11_method_3_code 111 = .ok (.istore_n 3, 1) := by decide +kernel
theorem d_T_closeOf_112 : decode prog_11_method_3_code 112 = .ok (.iload_n 3, 1) := by decide +kernel
theorem d_T_closeOf_113 : decode prog_11_method_3_code 113 = .ok (.aload_n 0, 1) := by decide +kernel
theorem d_T_closeOf_114 : decode prog_11_method_3_code 114 = .ok (.getfield 7, 3) := by decide +kernel
theorem d_T_closeOf_117 : decode prog_11_method_3_code 117 = .ok (.invokevirtual 16, 3) := by decide +kernel
theorem d_T_closeOf_120 : decode prog_11_method_3_code 120 = .ok (.if_icmp .ge 35, 3) := by decide +kernel
theorem d_T_closeOf_123 : decode prog_11_method_3_code 123 = .ok (.aload_n 0, 1) := by decide +kernel
theorem d_T_closeOf_124 : decode prog_11_method_3_code 124 = .ok (.getfield 7, 3) := by decide +kernel
theorem d_T_closeOf_127 : decode prog_11_method_3_code 127 = .ok (.iload_n 3, 1) := by decide +kernel
theorem d_T_closeOf_128 : decode prog_11_method_3_code 128 = .ok (.invokevirtual 27, 3) := by decide +kernel
theorem d_T_closeOf_131 : decode prog_11_method_3_code 131 = .ok (.bipush 125, 2) := by decide +kernel
theorem d_T_closeOf_133 : decode prog_11_method_3_code 133 = .ok (.if_icmp .ne 16, 3) := by decide +kernel
theorem d_T_closeOf_136 : decode prog_11_method_3_code 136 = .ok (.iload_n 3, 1) := by decide +kernel
theorem d_T_closeOf_137 : decode prog_11_method_3_code 137 = .ok (.iload_n 1, 1) := by decide +kernel
theorem d_T_closeOf_138 : decode prog_11_method_3_code 138 = .ok (.iconst 2, 1) := by decide +kernel
theorem d_T_closeOf_139 : decode prog_11_method_3_code 139 = .ok (.iadd, 1) := by decide +kernel
theorem d_T_closeOf_140 : decode prog_11_method_3_code 140 = .ok (.if_icmp .le 7, 3) := by decide +kernel
theorem d_T_closeOf_143 : decode prog_11_method_3_code 143 = .ok (.iload_n 3, 1) := by decide +kernel
theorem d_T_closeOf_144 : decode prog_11_method_3_code 144 = .ok (.goto 4, 3) := by decide +kernel
theorem d_T_closeOf_147 : decode prog_11_method_3_code 147 = .ok (.iconst (-1), 1) := by decide +kernel
theorem d_T_closeOf_148 : decode prog_11_method_3_code 148 = .ok (.ireturn, 1) := by decide +kernel
theorem d_T_closeOf_149 : decode prog_11_method_3_code 149 = .ok (.iinc 3 1, 3) := by decide +kernel
theorem d_T_closeOf_152 : decode prog_11_method_3_code 152 = .ok (.goto (-40), 3) := by decide +kernel
theorem d_T_closeOf_155 : decode prog_11_method_3_code 155 = .ok (.iconst (-1), 1) := by decide +kernel
theorem d_T_closeOf_156 : decode prog_11_method_3_code 156 = .ok (.ireturn, 1) := by decide +kernel
def wq_T_closeOf_136 (a : Nat) (p0 : Int32) (Q : Int32 → ab_H → Prop)  (u3 : Int32) (A : ab_H) : Prop := if u3 ≤ (p0 + (2 : Int32)) then (Q ((-1) : Int32) A) else (Q u3 A)
set_option maxRecDepth 100000 in
set_option maxHeartbeats 4000000 in
theorem sq_T_closeOf_136 {l : Launch} {G : mm_G} {a : Nat} {p0 : Int32} {Q : Int32 → ab_H → Prop}   : ∀ (u3 : Int32) (A : ab_H) (h : mm_H), Vw G h A → wq_T_closeOf_136 a p0 Q  u3 A → mm_V l G M_T_closeOf 0 0 136 [some (va_rf (some a)), some (.int p0), none, some (.int u3)] [] h (wQI G Q) := by
  intro u3 A h hV hw
  unfold wq_T_closeOf_136 at hw
  refine mm_iload_n (pc' := 137) d_T_closeOf_136 rfl rfl rfl ?_
  refine mm_iload_n (pc' := 138) d_T_closeOf_137 rfl rfl rfl ?_
  refine mm_iconst (v := 2) (pc' := 139) d_T_closeOf_138 rfl (by decide) ?_
  refine mm_iadd (pc' := 140) d_T_closeOf_139 rfl ?_
  refine wr_icmp_le hw (pc' := 143) d_T_closeOf_140 rfl rfl (fun hw => ?_) (fun hw => ?_)
  · refine mm_iconst (v := (-1)) (pc' := 148) d_T_closeOf_147 rfl (by decide) ?_
    exact wr_iret hV d_T_closeOf_148 rfl rfl hw
  · refine mm_iload_n (pc' := 144) d_T_closeOf_143 rfl rfl rfl ?_
    refine mm_goto (tgt := 148) d_T_closeOf_144 rfl ?_
    exact wr_iret hV d_T_closeOf_148 rfl rfl hw
def wb_T_closeOf_112 (a : Nat) (p0 : Int32) (Q : Int32 → ab_H → Prop)  (k112 : Int32 → ab_H → Prop) (u3 : Int32) (A : ab_H) : Prop := wgR A (some a) 11 0 (fun r1 => wj_ST_length A r1  (fun x2 => if x2 ≤ u3 then (Q ((-1) : Int32) A) else (wgR A (some a) 11 0 (fun r3 => wj_ST_charAt A r3 u3 (fun x4 => if x4 = (125 : Int32) then (wq_T_closeOf_136 a p0 Q u3 A) else (k112 (u3 + 1) A))))))
def wq_T_closeOf_112 (a : Nat) (p0 : Int32) (Q : Int32 → ab_H → Prop)  : Nat → Int32 → ab_H → Prop
  | 0 => fun _ _ => False
  | n + 1 => wb_T_closeOf_112 a p0 Q  (wq_T_closeOf_112 a p0 Q  n)
set_option maxRecDepth 100000 in
set_option maxHeartbeats 4000000 in
theorem sq_T_closeOf_112 {l : Launch} {G : mm_G} {a : Nat} {p0 : Int32} {Q : Int32 → ab_H → Prop}   : ∀ (n : Nat) (u3 : Int32) (A : ab_H) (h : mm_H), Vw G h A → wq_T_closeOf_112 a p0 Q  n u3 A → mm_V l G M_T_closeOf 0 0 112 [some (va_rf (some a)), some (.int p0), none, some (.int u3)] [] h (wQI G Q) := by
  intro n
  induction n with
  | zero =>
    intro u3 A h hV hw
    exact absurd hw id
  | succ n hk112 =>
    intro u3 A h hV hw
    have hw : wb_T_closeOf_112 a p0 Q  (wq_T_closeOf_112 a p0 Q  n) u3 A := hw
    unfold wb_T_closeOf_112 at hw
    refine mm_iload_n (pc' := 113) d_T_closeOf_112 rfl rfl rfl ?_
    refine wr_aload_n (some a) (pc' := 114) d_T_closeOf_113 rfl rfl rfl ?_
    refine wr_getR hV hw (pc' := 117) d_T_closeOf_114 rfl fl_T_7 (fun r1 hw => ?_)
    refine wr_ST_length hV hw (pc' := 120) d_T_closeOf_117 rfl cs_T_16 (Nat.le_of_ble_eq_true rfl) (Nat.le_of_ble_eq_true rfl) (fun x2 hw => ?_)
    refine wr_icmp_ge hw (pc' := 123) d_T_closeOf_120 rfl rfl (fun hw => ?_) (fun hw => ?_)
    · refine mm_iconst (v := (-1)) (pc' := 156) d_T_closeOf_155 rfl (by decide) ?_
      exact wr_iret hV d_T_closeOf_156 rfl rfl hw
    · refine wr_aload_n (some a) (pc' := 124) d_T_closeOf_123 rfl rfl rfl ?_
      refine wr_getR hV hw (pc' := 127) d_T_closeOf_124 rfl fl_T_7 (fun r3 hw => ?_)
      refine mm_iload_n (pc' := 128) d_T_closeOf_127 rfl rfl rfl ?_
      refine wr_ST_charAt hV hw (pc' := 131) d_T_closeOf_128 rfl cs_T_27 (Nat.le_of_ble_eq_true rfl) (Nat.le_of_ble_eq_true rfl) (fun x4 hw => ?_)
      refine mm_bipush (v := 125) (pc' := 133) d_T_closeOf_131 rfl (by decide) ?_
      refine wr_icmp_ne hw (pc' := 136) d_T_closeOf_133 rfl rfl (fun hw => ?_) (fun hw => ?_)
      · refine mm_iinc3 (v := (u3 + 1)) (pc' := 152) d_T_closeOf_149 rfl rfl rfl (Nat.le_of_ble_eq_true rfl) ?_
        refine mm_goto (tgt := 112) d_T_closeOf_152 rfl ?_
        exact mm_drop (mm_le.s (mm_le.s (mm_le.n (mm_le.s mm_le.e)))) (hk112 _ _ _ hV hw)
      · exact mm_drop (mm_le.s (mm_le.s (mm_le.n (mm_le.s mm_le.e)))) (sq_T_closeOf_136  _ _ _ hV hw)
def wq_T_closeOf_108 (a : Nat) (p0 : Int32) (Q : Int32 → ab_H → Prop)   (A : ab_H) : Prop := wL ((p0 + (2 : Int32))) (fun x5 => ∃ n, wq_T_closeOf_112 a p0 Q n x5 A)
set_option maxRecDepth 100000 in
set_option maxHeartbeats 4000000 in
theorem sq_T_closeOf_108 {l : Launch} {G : mm_G} {a : Nat} {p0 : Int32} {Q : Int32 → ab_H → Prop}   : ∀ (A : ab_H) (h : mm_H), Vw G h A → wq_T_closeOf_108 a p0 Q  A → mm_V l G M_T_closeOf 0 0 108 [some (va_rf (some a)), some (.int p0), none, none] [] h (wQI G Q) := by
  intro A h hV hw
  unfold wq_T_closeOf_108 at hw
  refine mm_iload_n (pc' := 109) d_T_closeOf_108 rfl rfl rfl ?_
  refine mm_iconst (v := 2) (pc' := 110) d_T_closeOf_109 rfl (by decide) ?_
  refine mm_iadd (pc' := 111) d_T_closeOf_110 rfl ?_
  refine wr_let (P := fun z => mm_V l G M_T_closeOf 0 0 111 [some (va_rf (some a)), some (.int p0), none, none] (.int z :: []) h _) hw (fun x5 hw => ?_)
  refine mm_ist3 (pc' := 112) d_T_closeOf_111 rfl rfl (Nat.le_of_ble_eq_true rfl) ?_
  obtain ⟨n, hw⟩ := hw
  exact mm_drop (mm_le.s (mm_le.s (mm_le.n (mm_le.s mm_le.e)))) (sq_T_closeOf_112  n _ _ _ hV hw)
def wq_T_closeOf_80 (a : Nat) (p0 : Int32) (Q : Int32 → ab_H → Prop)  (s0 : Int32) (A : ab_H) : Prop := if s0 = 0 then (Q ((-1) : Int32) A) else (wgR A (some a) 11 0 (fun r6 => wj_ST_charAt A r6 (p0 + (2 : Int32)) (fun x7 => if x7 = (125 : Int32) then (Q (p0 + (2 : Int32)) A) else (Q ((-1) : Int32) A))))
set_option maxRecDepth 100000 in
set_option maxHeartbeats 4000000 in
theorem sq_T_closeOf_80 {l : Launch} {G : mm_G} {a : Nat} {p0 : Int32} {Q : Int32 → ab_H → Prop}   : ∀ (s0 : Int32) (A : ab_H) (h : mm_H), Vw G h A → wq_T_closeOf_80 a p0 Q  s0 A → mm_V l G M_T_closeOf 0 0 80 [some (va_rf (some a)), some (.int p0), none, none] [.int s0] h (wQI G Q) := by
  intro s0 A h hV hw
  unfold wq_T_closeOf_80 at hw
  refine mm_ist3 (pc' := 81) d_T_closeOf_80 rfl rfl (Nat.le_of_ble_eq_true rfl) ?_
  refine mm_iload_n (pc' := 82) d_T_closeOf_81 rfl rfl rfl ?_
  refine wr_if_eq hw (pc' := 85) d_T_closeOf_82 rfl rfl (fun hw => ?_) (fun hw => ?_)
  · refine mm_iconst (v := (-1)) (pc' := 107) d_T_closeOf_106 rfl (by decide) ?_
    exact wr_iret hV d_T_closeOf_107 rfl rfl hw
  · refine wr_aload_n (some a) (pc' := 86) d_T_closeOf_85 rfl rfl rfl ?_
    refine wr_getR hV hw (pc' := 89) d_T_closeOf_86 rfl fl_T_7 (fun r6 hw => ?_)
    refine mm_iload_n (pc' := 90) d_T_closeOf_89 rfl rfl rfl ?_
    refine mm_iconst (v := 2) (pc' := 91) d_T_closeOf_90 rfl (by decide) ?_
    refine mm_iadd (pc' := 92) d_T_closeOf_91 rfl ?_
    refine wr_ST_charAt hV hw (pc' := 95) d_T_closeOf_92 rfl cs_T_27 (Nat.le_of_ble_eq_true rfl) (Nat.le_of_ble_eq_true rfl) (fun x7 hw => ?_)
    refine mm_bipush (v := 125) (pc' := 97) d_T_closeOf_95 rfl (by decide) ?_
    refine wr_icmp_ne hw (pc' := 100) d_T_closeOf_97 rfl rfl (fun hw => ?_) (fun hw => ?_)
    · refine mm_iconst (v := (-1)) (pc' := 107) d_T_closeOf_106 rfl (by decide) ?_
      exact wr_iret hV d_T_closeOf_107 rfl rfl hw
    · refine mm_iload_n (pc' := 101) d_T_closeOf_100 rfl rfl rfl ?_
      refine mm_iconst (v := 2) (pc' := 102) d_T_closeOf_101 rfl (by decide) ?_
      refine mm_iadd (pc' := 103) d_T_closeOf_102 rfl ?_
      refine mm_goto (tgt := 107) d_T_closeOf_103 rfl ?_
      exact wr_iret hV d_T_closeOf_107 rfl rfl hw
def wq_T_closeOf_75 (a : Nat) (p0 : Int32) (Q : Int32 → ab_H → Prop)   (A : ab_H) : Prop := wq_T_closeOf_80 a p0 Q (1 : Int32) A
set_option maxRecDepth 100000 in
set_option maxHeartbeats 4000000 in
theorem sq_T_closeOf_75 {l : Launch} {G : mm_G} {a : Nat} {p0 : Int32} {Q : Int32 → ab_H → Prop}   : ∀ (A : ab_H) (h : mm_H), Vw G h A → wq_T_closeOf_75 a p0 Q  A → mm_V l G M_T_closeOf 0 0 75 [some (va_rf (some a)), some (.int p0), none, none] [] h (wQI G Q) := by
  intro A h hV hw
  unfold wq_T_closeOf_75 at hw
  refine mm_iconst (v := 1) (pc' := 76) d_T_closeOf_75 rfl (by decide) ?_
  refine mm_goto (tgt := 80) d_T_closeOf_76 rfl ?_
  exact mm_drop (mm_le.s (mm_le.s (mm_le.n (mm_le.n mm_le.e)))) (sq_T_closeOf_80  _ _ _ hV hw)
def wp_T_closeOf (a : Nat) (p0 : Int32) (A : ab_H) (Q : Int32 → ab_H → Prop) : Prop := wgR A (some a) 11 0 (fun r8 => wj_ST_charAt A r8 p0 (fun x9 => if x9 = (123 : Int32) then (wgR A (some a) 11 0 (fun r10 => wj_ST_length A r10  (fun x11 => if (p0 + (2 : Int32)) < x11 then (wgR A (some a) 11 0 (fun r12 => wj_ST_charAt A r12 (p0 + (1 : Int32)) (fun x13 => if x13 = (113 : Int32) then (wq_T_closeOf_108 a p0 Q A) else (if x13 = (104 : Int32) then (wq_T_closeOf_108 a p0 Q A) else (if x13 = (109 : Int32) then (wq_T_closeOf_75 a p0 Q A) else (if x13 = (112 : Int32) then (wq_T_closeOf_75 a p0 Q A) else (if x13 = (98 : Int32) then (wq_T_closeOf_75 a p0 Q A) else (if x13 = (110 : Int32) then (wq_T_closeOf_75 a p0 Q A) else (wq_T_closeOf_80 a p0 Q (0 : Int32) A))))))))) else (Q ((-1) : Int32) A)))) else (Q ((-1) : Int32) A)))
set_option maxRecDepth 100000 in
set_option maxHeartbeats 4000000 in
theorem sd_T_closeOf {l : Launch} {G : mm_G} {h : mm_H} {A : ab_H} {a : Nat} {p0 : Int32} {Q : Int32 → ab_H → Prop} (hV : Vw G h A) (hw : wp_T_closeOf a p0 A Q) : mm_S l G M_T_closeOf [.ref a, .int p0] h 0 0 (wQI G Q) := by
  unfold wp_T_closeOf at hw
  refine mm_start rfl (Nat.le_of_ble_eq_true rfl) ?_
  show mm_V l G M_T_closeOf 0 0 0 [some (va_rf (some a)), some (.int p0), none, none] [] h _
  refine wr_aload_n (some a) (pc' := 1) d_T_closeOf_0 rfl rfl rfl ?_
  refine wr_getR hV hw (pc' := 4) d_T_closeOf_1 rfl fl_T_7 (fun r8 hw => ?_)
  refine mm_iload_n (pc' := 5) d_T_closeOf_4 rfl rfl rfl ?_
  refine wr_ST_charAt hV hw (pc' := 8) d_T_closeOf_5 rfl cs_T_27 (Nat.le_of_ble_eq_true rfl) (Nat.le_of_ble_eq_true rfl) (fun x9 hw => ?_)
  refine mm_bipush (v := 123) (pc' := 10) d_T_closeOf_8 rfl (by decide) ?_
  refine wr_icmp_ne hw (pc' := 13) d_T_closeOf_10 rfl rfl (fun hw => ?_) (fun hw => ?_)
  · refine mm_iconst (v := (-1)) (pc' := 27) d_T_closeOf_26 rfl (by decide) ?_
    exact wr_iret hV d_T_closeOf_27 rfl rfl hw
  · refine mm_iload_n (pc' := 14) d_T_closeOf_13 rfl rfl rfl ?_
    refine mm_iconst (v := 2) (pc' := 15) d_T_closeOf_14 rfl (by decide) ?_
    refine mm_iadd (pc' := 16) d_T_closeOf_15 rfl ?_
    refine wr_aload_n (some a) (pc' := 17) d_T_closeOf_16 rfl rfl rfl ?_
    refine wr_getR hV hw (pc' := 20) d_T_closeOf_17 rfl fl_T_7 (fun r10 hw => ?_)
    refine wr_ST_length hV hw (pc' := 23) d_T_closeOf_20 rfl cs_T_16 (Nat.le_of_ble_eq_true rfl) (Nat.le_of_ble_eq_true rfl) (fun x11 hw => ?_)
    refine wr_icmp_lt hw (pc' := 26) d_T_closeOf_23 rfl rfl (fun hw => ?_) (fun hw => ?_)
    · refine wr_aload_n (some a) (pc' := 29) d_T_closeOf_28 rfl rfl rfl ?_
      refine wr_getR hV hw (pc' := 32) d_T_closeOf_29 rfl fl_T_7 (fun r12 hw => ?_)
      refine mm_iload_n (pc' := 33) d_T_closeOf_32 rfl rfl rfl ?_
      refine mm_iconst (v := 1) (pc' := 34) d_T_closeOf_33 rfl (by decide) ?_
      refine mm_iadd (pc' := 35) d_T_closeOf_34 rfl ?_
      refine wr_ST_charAt hV hw (pc' := 38) d_T_closeOf_35 rfl cs_T_27 (Nat.le_of_ble_eq_true rfl) (Nat.le_of_ble_eq_true rfl) (fun x13 hw => ?_)
      refine mm_ist2 (pc' := 39) d_T_closeOf_38 rfl rfl (Nat.le_of_ble_eq_true rfl) ?_
      refine mm_iload_n (pc' := 40) d_T_closeOf_39 rfl rfl rfl ?_
      refine mm_bipush (v := 113) (pc' := 42) d_T_closeOf_40 rfl (by decide) ?_
      refine wr_icmp_eq hw (pc' := 45) d_T_closeOf_42 rfl rfl (fun hw => ?_) (fun hw => ?_)
      · exact mm_drop (mm_le.s (mm_le.s (mm_le.n (mm_le.n mm_le.e)))) (sq_T_closeOf_108  _ _ hV hw)
      · refine mm_iload_n (pc' := 46) d_T_closeOf_45 rfl rfl rfl ?_
        refine mm_bipush (v := 104) (pc' := 48) d_T_closeOf_46 rfl (by decide) ?_
        refine wr_icmp_eq hw (pc' := 51) d_T_closeOf_48 rfl rfl (fun hw => ?_) (fun hw => ?_)
        · exact mm_drop (mm_le.s (mm_le.s (mm_le.n (mm_le.n mm_le.e)))) (sq_T_closeOf_108  _ _ hV hw)
        · refine mm_iload_n (pc' := 52) d_T_closeOf_51 rfl rfl rfl ?_
          refine mm_bipush (v := 109) (pc' := 54) d_T_closeOf_52 rfl (by decide) ?_
          refine wr_icmp_eq hw (pc' := 57) d_T_closeOf_54 rfl rfl (fun hw => ?_) (fun hw => ?_)
          · exact mm_drop (mm_le.s (mm_le.s (mm_le.n (mm_le.n mm_le.e)))) (sq_T_closeOf_75  _ _ hV hw)
          · refine mm_iload_n (pc' := 58) d_T_closeOf_57 rfl rfl rfl ?_
            refine mm_bipush (v := 112) (pc' := 60) d_T_closeOf_58 rfl (by decide) ?_
            refine wr_icmp_eq hw (pc' := 63) d_T_closeOf_60 rfl rfl (fun hw => ?_) (fun hw => ?_)
            · exact mm_drop (mm_le.s (mm_le.s (mm_le.n (mm_le.n mm_le.e)))) (sq_T_closeOf_75  _ _ hV hw)
            · refine mm_iload_n (pc' := 64) d_T_closeOf_63 rfl rfl rfl ?_
              refine mm_bipush (v := 98) (pc' := 66) d_T_closeOf_64 rfl (by decide) ?_
              refine wr_icmp_eq hw (pc' := 69) d_T_closeOf_66 rfl rfl (fun hw => ?_) (fun hw => ?_)
              · exact mm_drop (mm_le.s (mm_le.s (mm_le.n (mm_le.n mm_le.e)))) (sq_T_closeOf_75  _ _ hV hw)
              · refine mm_iload_n (pc' := 70) d_T_closeOf_69 rfl rfl rfl ?_
                refine mm_bipush (v := 110) (pc' := 72) d_T_closeOf_70 rfl (by decide) ?_
                refine wr_icmp_ne hw (pc' := 75) d_T_closeOf_72 rfl rfl (fun hw => ?_) (fun hw => ?_)
                · refine mm_iconst (v := 0) (pc' := 80) d_T_closeOf_79 rfl (by decide) ?_
                  exact mm_drop (mm_le.s (mm_le.s (mm_le.n (mm_le.n mm_le.e)))) (sq_T_closeOf_80  _ _ _ hV hw)
                · exact mm_drop (mm_le.s (mm_le.s (mm_le.n (mm_le.n mm_le.e)))) (sq_T_closeOf_75  _ _ hV hw)
    · refine mm_iconst (v := (-1)) (pc' := 27) d_T_closeOf_26 rfl (by decide) ?_
      exact wr_iret hV d_T_closeOf_27 rfl rfl hw
theorem d_T_appendValue_0 : decode prog_11_method_5_code 0 = .ok (.aload_n 1, 1) := by decide +kernel
theorem d_T_appendValue_1 : decode prog_11_method_5_code 1 = .ok (.ifnull 12, 3) := by decide +kernel
theorem d_T_appendValue_4 : decode prog_11_method_5_code 4 = .ok (.aload_n 0, 1) := by decide +kernel
theorem d_T_appendValue_5 : decode prog_11_method_5_code 5 = .ok (.aload_n 1, 1) := by decide +kernel
theorem d_T_appendValue_6 : decode prog_11_method_5_code 6 = .ok (.getfield 57, 3) := by decide +kernel
theorem d_T_appendValue_9 : decode prog_11_method_5_code 9 = .ok (.invokevirtual 62, 3) := by decide +kernel
theorem d_T_appendValue_12 : decode prog_11_method_5_code 12 = .ok (.pop, 1) := by decide +kernel
theorem d_T_appendValue_13 : decode prog_11_method_5_code 13 = .ok (.return_, 1) := by decide +kernel
def wp_T_appendValue (p0 : Option Nat) (p1 : Option Nat) (A : ab_H) (kc ks : Nat) (Q : ab_H → Prop) : Prop := if p1 = none then (Q A) else (wgR A p1 8 1 (fun r1 => wj_SB_append_S A kc ks p0 r1 (fun r2 A kc ks => Q A)))
set_option maxRecDepth 100000 in
set_option maxHeartbeats 4000000 in
theorem sd_T_appendValue {l : Launch} {G : mm_G} {h : mm_H} {A : ab_H} {p0 : Option Nat} {p1 : Option Nat} {kc ks : Nat} {Q : ab_H → Prop} (hV : Vw G h A) (hw : wp_T_appendValue p0 p1 A kc ks Q) : mm_S l G M_T_appendValue [va_rf p0, va_rf p1] h kc ks (wQV G Q) := by
  unfold wp_T_appendValue at hw
  refine mm_start rfl (by simp [mm_as, wr_cat, wr_catI, wr_catJ, wr_catN]) ?_
  rw [show mm_en [va_rf p0, va_rf p1] M_T_appendValue.2.2.1 = [some (va_rf p0), some (va_rf p1)] from by simp [mm_en, mm_as, wr_cat, wr_catI, wr_catJ, wr_catN]]
  show mm_V l G M_T_appendValue kc ks 0 [some (va_rf p0), some (va_rf p1)] [] h _
  refine wr_aload_n p1 (pc' := 1) d_T_appendValue_0 rfl rfl rfl ?_
  refine wr_ifnull hw (pc' := 4) d_T_appendValue_1 rfl rfl (fun hw => ?_) (fun hw => ?_)
  · exact wr_vret hV d_T_appendValue_13 rfl hw
  · refine wr_aload_n p0 (pc' := 5) d_T_appendValue_4 rfl rfl rfl ?_
    refine wr_aload_n p1 (pc' := 6) d_T_appendValue_5 rfl rfl rfl ?_
    refine wr_getR hV hw (pc' := 9) d_T_appendValue_6 rfl fl_T_57 (fun r1 hw => ?_)
    refine wr_SB_append_S hV hw (pc' := 12) d_T_appendValue_9 rfl cs_T_62 (Nat.le_of_ble_eq_true rfl) (Nat.le_of_ble_eq_true rfl) (fun r2 h A kc ks hV hw => ?_)
    refine mm_pop (pc' := 13) d_T_appendValue_12 rfl (wr_cat _) ?_
    exact wr_vret hV d_T_appendValue_13 rfl hw
theorem d_T_appendFor_0 : decode prog_11_method_4_code 0 = .ok (.aload_n 0, 1) := by decide +kernel
theorem d_T_appendFor_1 : decode prog_11_method_4_code 1 = .ok (.getfield 7, 3) := by decide +kernel
theorem d_T_appendFor_4 : decode prog_11_method_4_code 4 = .ok (.iload_n 2, 1) := by decide +kernel
theorem d_T_appendFor_5 : decode prog_11_method_4_code 5 = .ok (.iconst 2, 1) := by decide +kernel
theorem d_T_appendFor_6 : decode prog_11_method_4_code 6 = .ok (.iadd, 1) := by decide +kernel
theorem d_T_appendFor_7 : decode prog_11_method_4_code 7 = .ok (.iload_n 3, 1) := by decide +kernel
theorem d_T_appendFor_8 : decode prog_11_method_4_code 8 = .ok (.invokevirtual 47, 3) := by decide +kernel
theorem d_T_appendFor_11 : decode prog_11_method_4_code 11 = .ok (.astore 6, 2) := by decide +kernel
theorem d_T_appendFor_13 : decode prog_11_method_4_code 13 = .ok (.aload_n 0, 1) := by decide +kernel
theorem d_T_appendFor_14 : decode prog_11_method_4_code 14 = .ok (.getfield 7, 3) := by decide +kernel
theorem d_T_appendFor_17 : decode prog_11_method_4_code 17 = .ok (.iload_n 2, 1) := by decide +kernel
theorem d_T_appendFor_18 : decode prog_11_method_4_code 18 = .ok (.iconst 1, 1) := by decide +kernel
theorem d_T_appendFor_19 : decode prog_11_method_4_code 19 = .ok (.iadd, 1) := by decide +kernel
theorem d_T_appendFor_20 : decode prog_11_method_4_code 20 = .ok (.invokevirtual 27, 3) := by decide +kernel
theorem d_T_appendFor_23 : decode prog_11_method_4_code 23 = .ok (.lookupswitch 122 #[(98, 81), (109, 49), (110, 97), (112, 65), (113, 107)], 49) := by decide +kernel
theorem d_T_appendFor_72 : decode prog_11_method_4_code 72 = .ok (.aload_n 1, 1) := by decide +kernel
theorem d_T_appendFor_73 : decode prog_11_method_4_code 73 = .ok (.aload 4, 2) := by decide +kernel
theorem d_T_appendFor_75 : decode prog_11_method_4_code 75 = .ok (.getfield 51, 3) := by decide +kernel
theorem d_T_appendFor_78 : decode prog_11_method_4_code 78 = .ok (.getfield 57, 3) := by decide +kernel
theorem d_T_appendFor_81 : decode prog_11_method_4_code 81 = .ok (.invokevirtual 62, 3) := by decide +kernel
theorem d_T_appendFor_84 : decode prog_11_method_4_code 84 = .ok (.pop, 1) := by decide +kernel
theorem d_T_appendFor_85 : decode prog_11_method_4_code 85 = .ok (.goto 75, 3) := by decide +kernel
theorem d_T_appendFor_88 : decode prog_11_method_4_code 88 = .ok (.aload_n 1, 1) := by decide +kernel
theorem d_T_appendFor_89 : decode prog_11_method_4_code 89 = .ok (.aload 4, 2) := by decide +kernel
theorem d_T_appendFor_91 : decode prog_11_method_4_code 91 = .ok (.getfield 65, 3) := by decide +kernel
theorem d_T_appendFor_94 : decode prog_11_method_4_code 94 = .ok (.getfield 57, 3) := by decide +kernel
theorem d_T_appendFor_97 : decode prog_11_method_4_code 97 = .ok (.invokevirtual 62, 3) := by decide +kernel
theorem d_T_appendFor_100 : decode prog_11_method_4_code 100 = .ok (.pop, 1) := by decide +kernel
theorem d_T_appendFor_101 : decode prog_11_method_4_code 101 = .ok (.goto 59, 3) := by decide +kernel
theorem d_T_appendFor_104 : decode prog_11_method_4_code 104 = .ok (.aload_n 1, 1) := by decide +kernel
theorem d_T_appendFor_105 : decode prog_11_method_4_code 105 = .ok (.aload 4, 2) := by decide +kernel
theorem d_T_appendFor_107 : decode prog_11_method_4_code 107 = .ok (.getfield 68, 3) := by decide +kernel
theorem d_T_appendFor_110 : decode prog_11_method_4_code 110 = .ok (.getfield 57, 3) := by decide +kernel
theorem d_T_appendFor_113 : decode prog_11_method_4_code 113 = .ok (.invokevirtual 62, 3) := by decide +kernel
theorem d_T_appendFor_116 : decode prog_11_method_4_code 116 = .ok (.pop, 1) := by decide +kernel
theorem d_T_appendFor_117 : decode prog_11_method_4_code 117 = .ok (.goto 43, 3) := by decide +kernel
theorem d_T_appendFor_120 : decode prog_11_method_4_code 120 = .ok (.aload_n 1, 1) := by decide +kernel
theorem d_T_appendFor_121 : decode prog_11_method_4_code 121 = .ok (.iload 5, 2) := by decide +kernel
theorem d_T_appendFor_123 : decode prog_11_method_4_code 123 = .ok (.invokevirtual 71, 3) := by decide +kernel
theorem d_T_appendFor_126 : decode prog_11_method_4_code 126 = .ok (.pop, 1) := by decide +kernel
theorem d_T_appendFor_127 : decode prog_11_method_4_code 127 = .ok (.goto 33, 3) := by decide +kernel
theorem d_T_appendFor_130 : decode prog_11_method_4_code 130 = .ok (.aload_n 1, 1) := by decide +kernel
theorem d_T_appendFor_131 : decode prog_11_method_4_code 131 = .ok (.aload 4, 2) := by decide +kernel
theorem d_T_appendFor_133 : decode prog_11_method_4_code 133 = .ok (.iconst 2, 1) := by decide +kernel
theorem d_T_appendFor_134 : decode prog_11_method_4_code 134 = .ok (.aload 6, 2) := by decide +kernel
theorem d_T_appendFor_136 : decode prog_11_method_4_code 136 = .ok (.invokevirtual 74, 3) := by decide +kernel
theorem d_T_appendFor_139 : decode prog_11_method_4_code 139 = .ok (.invokestatic 78, 3) := by decide +kernel
theorem d_T_appendFor_142 : decode prog_11_method_4_code 142 = .ok (.goto 18, 3) := by decide +kernel
theorem d_T_appendFor_145 : decode prog_11_method_4_code 145 = .ok (.aload_n 1, 1) := by decide +kernel
theorem d_T_appendFor_146 : decode prog_11_method_4_code 146 = .ok (.aload 4, 2) := by decide +kernel
theorem d_T_appendFor_148 : decode prog_11_method_4_code 148 = .ok (.iconst 3, 1) := by decide +kernel
theorem d_T_appendFor_149 : decode prog_11_method_4_code 149 = .ok (.aload 6, 2) := by decide +kernel
theorem d_T_appendFor_151 : decode prog_11_method_4_code 151 = .ok (.invokestatic 82, 3) := by decide +kernel
theorem d_T_appendFor_154 : decode prog_11_method_4_code 154 = .ok (.invokevirtual 74, 3) := by decide +kernel
theorem d_T_appendFor_157 : decode prog_11_method_4_code 157 = .ok (.invokestatic 78, 3) := by decide +kernel
theorem d_T_appendFor_160 : decode prog_11_method_4_code 160 = .ok (.return_, 1) := by decide +kernel
def wp_T_appendFor (a : Nat) (p0 : Option Nat) (p1 : Int32) (p2 : Int32) (p3 : Option Nat) (p4 : Int32) (A : ab_H) (kc ks : Nat) (Q : ab_H → Prop) : Prop := wgR A (some a) 11 0 (fun r1 => wj_ST_substring_II A kc ks r1 (p1 + (2 : Int32)) p2 (fun r2 A kc ks => wgR A (some a) 11 0 (fun r3 => wj_ST_charAt A r3 (p1 + (1 : Int32)) (fun x4 => if x4 = 98 then (wgR A p3 7 4 (fun r5 => wgR A r5 8 1 (fun r6 => wj_SB_append_S A kc ks p0 r6 (fun r7 A kc ks => Q A)))) else (if x4 = 109 then (wgR A p3 7 2 (fun r8 => wgR A r8 8 1 (fun r9 => wj_SB_append_S A kc ks p0 r9 (fun r10 A kc ks => Q A)))) else (if x4 = 110 then (wj_SB_append_I A kc ks p0 p4 (fun r11 A kc ks => Q A)) else (if x4 = 112 then (wgR A p3 7 3 (fun r12 => wgR A r12 8 1 (fun r13 => wj_SB_append_S A kc ks p0 r13 (fun r14 A kc ks => Q A)))) else (if x4 = 113 then (wC A p3 7 (fun b => wp_E_find b (2 : Int32) r2 A (fun r15 A => wXV kc ks (wp_T_appendValue p0 r15 A) (fun A kc ks => Q A)))) else (wX kc ks (wp_X_small r2 A) (fun r16 A kc ks => wC A p3 7 (fun b => wp_E_find b (3 : Int32) r16 A (fun r17 A => wXV kc ks (wp_T_appendValue p0 r17 A) (fun A kc ks => Q A)))))))))))))
set_option maxRecDepth 100000 in
set_option maxHeartbeats 4000000 in
theorem sd_T_appendFor {l : Launch} {G : mm_G} {h : mm_H} {A : ab_H} {a : Nat} {p0 : Option Nat} {p1 : Int32} {p2 : Int32} {p3 : Option Nat} {p4 : Int32} {kc ks : Nat} {Q : ab_H → Prop} (hV : Vw G h A) (hw : wp_T_appendFor a p0 p1 p2 p3 p4 A kc ks Q) : mm_S l G M_T_appendFor [.ref a, va_rf p0, .int p1, .int p2, va_rf p3, .int p4] h kc ks (wQV G Q) := by
  unfold wp_T_appendFor at hw
  refine mm_start rfl (by simp [mm_as, wr_cat, wr_catI, wr_catJ, wr_catN]) ?_
  rw [show mm_en [.ref a, va_rf p0, .int p1, .int p2, va_rf p3, .int p4] M_T_appendFor.2.2.1 = [some (.ref a), some (va_rf p0), some (.int p1), some (.int p2), some (va_rf p3), some (.int p4), none] from by simp [mm_en, mm_as, wr_cat, wr_catI, wr_catJ, wr_catN]]
  show mm_V l G M_T_appendFor kc ks 0 [some (va_rf (some a)), some (va_rf p0), some (.int p1), some (.int p2), some (va_rf p3), some (.int p4), none] [] h _
  refine wr_aload_n (some a) (pc' := 1) d_T_appendFor_0 rfl rfl rfl ?_
  refine wr_getR hV hw (pc' := 4) d_T_appendFor_1 rfl fl_T_7 (fun r1 hw => ?_)
  refine mm_iload_n (pc' := 5) d_T_appendFor_4 rfl rfl rfl ?_
  refine mm_iconst (v := 2) (pc' := 6) d_T_appendFor_5 rfl (by decide) ?_
  refine mm_iadd (pc' := 7) d_T_appendFor_6 rfl ?_
  refine mm_iload_n (pc' := 8) d_T_appendFor_7 rfl rfl rfl ?_
  refine wr_ST_substring_II hV hw (pc' := 11) d_T_appendFor_8 rfl cs_T_47 (Nat.le_of_ble_eq_true rfl) (Nat.le_of_ble_eq_true rfl) (fun r2 h A kc ks hV hw => ?_)
  refine wr_ast6 (pc' := 13) d_T_appendFor_11 rfl rfl (Nat.le_of_ble_eq_true rfl) ?_
  refine wr_aload_n (some a) (pc' := 14) d_T_appendFor_13 rfl rfl rfl ?_
  refine wr_getR hV hw (pc' := 17) d_T_appendFor_14 rfl fl_T_7 (fun r3 hw => ?_)
  refine mm_iload_n (pc' := 18) d_T_appendFor_17 rfl rfl rfl ?_
  refine mm_iconst (v := 1) (pc' := 19) d_T_appendFor_18 rfl (by decide) ?_
  refine mm_iadd (pc' := 20) d_T_appendFor_19 rfl ?_
  refine wr_ST_charAt hV hw (pc' := 23) d_T_appendFor_20 rfl cs_T_27 (Nat.le_of_ble_eq_true rfl) (Nat.le_of_ble_eq_true rfl) (fun x4 hw => ?_)
  refine wr_ite hw (fun hs hw => ?_) (fun hs0 hw => ?_)
  · rw [hs]
    refine mm_lookup (tgt := 104) (off := 81) d_T_appendFor_23 (by decide) (by decide) rfl ?_
    refine wr_aload_n p0 (pc' := 105) d_T_appendFor_104 rfl rfl rfl ?_
    refine wr_aload p3 (pc' := 107) d_T_appendFor_105 rfl rfl ?_
    refine wr_getR hV hw (pc' := 110) d_T_appendFor_107 rfl fl_T_68 (fun r5 hw => ?_)
    refine wr_getR hV hw (pc' := 113) d_T_appendFor_110 rfl fl_T_57 (fun r6 hw => ?_)
    refine wr_SB_append_S hV hw (pc' := 116) d_T_appendFor_113 rfl cs_T_62 (Nat.le_of_ble_eq_true rfl) (Nat.le_of_ble_eq_true rfl) (fun r7 h A kc ks hV hw => ?_)
    refine mm_pop (pc' := 117) d_T_appendFor_116 rfl (wr_cat _) ?_
    refine mm_goto (tgt := 160) d_T_appendFor_117 rfl ?_
    exact wr_vret hV d_T_appendFor_160 rfl hw
  refine wr_ite hw (fun hs hw => ?_) (fun hs1 hw => ?_)
  · rw [hs]
    refine mm_lookup (tgt := 72) (off := 49) d_T_appendFor_23 (by decide) (by decide) rfl ?_
    refine wr_aload_n p0 (pc' := 73) d_T_appendFor_72 rfl rfl rfl ?_
    refine wr_aload p3 (pc' := 75) d_T_appendFor_73 rfl rfl ?_
    refine wr_getR hV hw (pc' := 78) d_T_appendFor_75 rfl fl_T_51 (fun r8 hw => ?_)
    refine wr_getR hV hw (pc' := 81) d_T_appendFor_78 rfl fl_T_57 (fun r9 hw => ?_)
    refine wr_SB_append_S hV hw (pc' := 84) d_T_appendFor_81 rfl cs_T_62 (Nat.le_of_ble_eq_true rfl) (Nat.le_of_ble_eq_true rfl) (fun r10 h A kc ks hV hw => ?_)
    refine mm_pop (pc' := 85) d_T_appendFor_84 rfl (wr_cat _) ?_
    refine mm_goto (tgt := 160) d_T_appendFor_85 rfl ?_
    exact wr_vret hV d_T_appendFor_160 rfl hw
  refine wr_ite hw (fun hs hw => ?_) (fun hs2 hw => ?_)
  · rw [hs]
    refine mm_lookup (tgt := 120) (off := 97) d_T_appendFor_23 (by decide) (by decide) rfl ?_
    refine wr_aload_n p0 (pc' := 121) d_T_appendFor_120 rfl rfl rfl ?_
    refine mm_iload (pc' := 123) d_T_appendFor_121 rfl rfl ?_
    refine wr_SB_append_I hV hw (pc' := 126) d_T_appendFor_123 rfl cs_T_71 (Nat.le_of_ble_eq_true rfl) (Nat.le_of_ble_eq_true rfl) (fun r11 h A kc ks hV hw => ?_)
    refine mm_pop (pc' := 127) d_T_appendFor_126 rfl (wr_cat _) ?_
    refine mm_goto (tgt := 160) d_T_appendFor_127 rfl ?_
    exact wr_vret hV d_T_appendFor_160 rfl hw
  refine wr_ite hw (fun hs hw => ?_) (fun hs3 hw => ?_)
  · rw [hs]
    refine mm_lookup (tgt := 88) (off := 65) d_T_appendFor_23 (by decide) (by decide) rfl ?_
    refine wr_aload_n p0 (pc' := 89) d_T_appendFor_88 rfl rfl rfl ?_
    refine wr_aload p3 (pc' := 91) d_T_appendFor_89 rfl rfl ?_
    refine wr_getR hV hw (pc' := 94) d_T_appendFor_91 rfl fl_T_65 (fun r12 hw => ?_)
    refine wr_getR hV hw (pc' := 97) d_T_appendFor_94 rfl fl_T_57 (fun r13 hw => ?_)
    refine wr_SB_append_S hV hw (pc' := 100) d_T_appendFor_97 rfl cs_T_62 (Nat.le_of_ble_eq_true rfl) (Nat.le_of_ble_eq_true rfl) (fun r14 h A kc ks hV hw => ?_)
    refine mm_pop (pc' := 101) d_T_appendFor_100 rfl (wr_cat _) ?_
    refine mm_goto (tgt := 160) d_T_appendFor_101 rfl ?_
    exact wr_vret hV d_T_appendFor_160 rfl hw
  refine wr_ite hw (fun hs hw => ?_) (fun hs4 hw => ?_)
  · rw [hs]
    refine mm_lookup (tgt := 130) (off := 107) d_T_appendFor_23 (by decide) (by decide) rfl ?_
    refine wr_aload_n p0 (pc' := 131) d_T_appendFor_130 rfl rfl rfl ?_
    refine wr_aload p3 (pc' := 133) d_T_appendFor_131 rfl rfl ?_
    refine mm_iconst (v := 2) (pc' := 134) d_T_appendFor_133 rfl (by decide) ?_
    refine wr_aload r2 (pc' := 136) d_T_appendFor_134 rfl rfl ?_
    refine wr_cVR (pc' := 139) (as := [.int (2 : Int32), va_rf r2]) (st := [va_rf p0]) d_T_appendFor_136 rfl cs_T_74 rfl (W := fun b Q' => wp_E_find b (2 : Int32) r2 A Q') hV hw (fun b Q' hw => sd_E_find hV hw) rfl rfl (Nat.le_of_ble_eq_true rfl) (Nat.le_trans (wr_hR wr_h0) (Nat.le_of_ble_eq_true rfl)) (fun r15 h A hV hw => ?_)
    refine wr_cSVx (pc' := 142) (as := [va_rf p0, va_rf r15]) (st := []) d_T_appendFor_139 rfl cs_T_78 (W := fun c s Q' => wp_T_appendValue p0 r15 A c s Q') hw (fun c s Q' hw => sd_T_appendValue hV hw) rfl rfl (Nat.le_of_ble_eq_true rfl) (Nat.le_of_ble_eq_true rfl) (fun h A kc ks hV hw => ?_)
    refine mm_goto (tgt := 160) d_T_appendFor_142 rfl ?_
    exact wr_vret hV d_T_appendFor_160 rfl hw
  have ht0 := wr_toInt hs0
  have ht1 := wr_toInt hs1
  have ht2 := wr_toInt hs2
  have ht3 := wr_toInt hs3
  have ht4 := wr_toInt hs4
  rw [show (98 : Int32).toInt = 98 from rfl] at ht0
  rw [show (109 : Int32).toInt = 109 from rfl] at ht1
  rw [show (110 : Int32).toInt = 110 from rfl] at ht2
  rw [show (112 : Int32).toInt = 112 from rfl] at ht3
  rw [show (113 : Int32).toInt = 113 from rfl] at ht4
  refine mm_lookup (tgt := 145) (off := 122) d_T_appendFor_23 (by decide) (by simp [Op.lookupswitch.offset, ht0, ht1, ht2, ht3, ht4, Ne.symm, eq_comm]) rfl ?_
  refine wr_aload_n p0 (pc' := 146) d_T_appendFor_145 rfl rfl rfl ?_
  refine wr_aload p3 (pc' := 148) d_T_appendFor_146 rfl rfl ?_
  refine mm_iconst (v := 3) (pc' := 149) d_T_appendFor_148 rfl (by decide) ?_
  refine wr_aload r2 (pc' := 151) d_T_appendFor_149 rfl rfl ?_
  refine wr_cSRx (pc' := 154) (as := [va_rf r2]) (st := [.int (3 : Int32), va_rf p3, va_rf p0]) d_T_appendFor_151 rfl cs_T_82 (W := fun c s Q' => wp_X_small r2 A c s Q') hw (fun c s Q' hw => sd_X_small hV hw) rfl rfl (Nat.le_of_ble_eq_true rfl) (Nat.le_trans (wr_hI (wr_hR (wr_hR wr_h0))) (Nat.le_of_ble_eq_true rfl)) (fun r16 h A kc ks hV hw => ?_)
  refine wr_cVR (pc' := 157) (as := [.int (3 : Int32), va_rf r16]) (st := [va_rf p0]) d_T_appendFor_154 rfl cs_T_74 rfl (W := fun b Q' => wp_E_find b (3 : Int32) r16 A Q') hV hw (fun b Q' hw => sd_E_find hV hw) rfl rfl (Nat.le_of_ble_eq_true rfl) (Nat.le_trans (wr_hR wr_h0) (Nat.le_of_ble_eq_true rfl)) (fun r17 h A hV hw => ?_)
  refine wr_cSVx (pc' := 160) (as := [va_rf p0, va_rf r17]) (st := []) d_T_appendFor_157 rfl cs_T_78 (W := fun c s Q' => wp_T_appendValue p0 r17 A c s Q') hw (fun c s Q' hw => sd_T_appendValue hV hw) rfl rfl (Nat.le_of_ble_eq_true rfl) (Nat.le_of_ble_eq_true rfl) (fun h A kc ks hV hw => ?_)
  exact wr_vret hV d_T_appendFor_160 rfl hw
theorem d_T_fill_0 : decode prog_11_method_2_code 0 = .ok (.new 13, 3) := by decide +kernel
theorem d_T_fill_3 : decode prog_11_method_2_code 3 = .ok (.dup, 1) := by decide +kernel
theorem d_T_fill_4 : decode prog_11_method_2_code 4 = .ok (.invokespecial 15, 3) := by decide +kernel
theorem d_T_fill_7 : decode prog_11_method_2_code 7 = .ok (.astore_n 3, 1) := by decide +kernel
theorem d_T_fill_8 : decode prog_11_method_2_code 8 = .ok (.iconst 0, 1) := by decide +kernel
theorem d_T_fill_9 : decode prog_11_method_2_code 9 = .ok (.istore 4, 2) := by decide +kernel
theorem d_T_fill_11 : decode prog_11_method_2_code 11 = .ok (.iload 4, 2) := by decide +kernel
theorem d_T_fill_13 : decode prog_11_method_2_code 13 = .ok (.aload_n 0, 1) := by decide +kernel
theorem d_T_fill_14 : decode prog_11_method_2_code 14 = .ok (.getfield 7, 3) := by decide +kernel
theorem d_T_fill_17 : decode prog_11_method_2_code 17 = .ok (.invokevirtual 16, 3) := by decide +kernel
theorem d_T_fill_20 : decode prog_11_method_2_code 20 = .ok (.if_icmp .ge 63, 3) := by decide +kernel
theorem d_T_fill_23 : decode prog_11_method_2_code 23 = .ok (.aload_n 3, 1) := by decide +kernel
theorem d_T_fill_24 : decode prog_11_method_2_code 24 = .ok (.invokevirtual 22, 3) := by decide +kernel
theorem d_T_fill_27 : decode prog_11_method_2_code 27 = .ok (.bipush 60, 2) := by decide +kernel
theorem d_T_fill_29 : decode prog_11_method_2_code 29 = .ok (.if_icmp .ge 54, 3) := by decide +kernel
theorem d_T_fill_32 : decode prog_11_method_2_code 32 = .ok (.aload_n 0, 1) := by decide +kernel
theorem d_T_fill_33 : decode prog_11_method_2_code 33 = .ok (.iload 4, 2) := by decide +kernel
theorem d_T_fill_35 : decode prog_11_method_2_code 35 = .ok (.invokevirtual 23, 3) := by decide +kernel
theorem d_T_fill_38 : decode prog_11_method_2_code 38 = .ok (.istore 5, 2) := by decide +kernel
theorem d_T_fill_40 : decode prog_11_method_2_code 40 = .ok (.iload 5, 2) := by decide +kernel
theorem d_T_fill_42 : decode prog_11_method_2_code 42 = .ok (.ifCond .ge 20, 3) := by decide +kernel
theorem d_T_fill_45 : decode prog_11_method_2_code 45 = .ok (.aload_n 3, 1) := by decide +kernel
theorem d_T_fill_46 : decode prog_11_method_2_code 46 = .ok (.aload_n 0, 1) := by decide +kernel
theorem d_T_fill_47 : decode prog_11_method_2_code 47 = .ok (.getfield 7, 3) := by decide +kernel
theorem d_T_fill_50 : decode prog_11_method_2_code 50 = .ok (.iload 4, 2) := by decide +kernel
theorem d_T_fill_52 : decode prog_11_method_2_code 52 = .ok (.invokevirtual 27, 3) := by decide +kernel
theorem d_T_fill_55 : decode prog_11_method_2_code 55 = .ok (.invokevirtual 31, 3) := by decide +kernel
theorem d_T_fill_58 : decode prog_11_method_2_code 58 = .ok (.pop, 1) := by decide +kernel
theorem d_T_fill_59 : decode prog_11_method_2_code 59 = .ok (.goto 18, 3) := by decide +kernel
theorem d_T_fill_62 : decode prog_11_method_2_code 62 = .ok (.aload_n 0, 1) := by decide +kernel
theorem d_T_fill_63 : decode prog_11_method_2_code 63 = .ok (.aload_n 3, 1) := by decide +kernel
theorem d_T_fill_64 : decode prog_11_method_2_code 64 = .ok (.iload 4, 2) := by decide +kernel
theorem d_T_fill_66 : decode prog_11_method_2_code 66 = .ok (.iload 5, 2) := by decide +kernel
theorem d_T_fill_68 : decode prog_11_method_2_code 68 = .ok (.aload_n 1, 1) := by decide +kernel
theorem d_T_fill_69 : decode prog_11_method_2_code 69 = .ok (.iload_n 2, 1) := by decide +kernel
theorem d_T_fill_70 : decode prog_11_method_2_code 70 = .ok (.invokevirtual 35, 3) := by decide +kernel
theorem d_T_fill_73 : decode prog_11_method_2_code 73 = .ok (.iload 5, 2) := by decide +kernel
theorem d_T_fill_75 : decode prog_11_method_2_code 75 = .ok (.istore 4, 2) := by decide +kernel
theorem d_T_fill_77 : decode prog_11_method_2_code 77 = .ok (.iinc 4 1, 3) := by decide +kernel
theorem d_T_fill_80 : decode prog_11_method_2_code 80 = .ok (.goto (-69), 3) := by decide +kernel
theorem d_T_fill_83 : decode prog_11_method_2_code 83 = .ok (.aload_n 3, 1) := by decide +kernel
theorem d_T_fill_84 : decode prog_11_method_2_code 84 = .ok (.invokevirtual 22, 3) := by decide +kernel
theorem d_T_fill_87 : decode prog_11_method_2_code 87 = .ok (.bipush 60, 2) := by decide +kernel
theorem d_T_fill_89 : decode prog_11_method_2_code 89 = .ok (.if_icmp .le 9, 3) := by decide +kernel
theorem d_T_fill_92 : decode prog_11_method_2_code 92 = .ok (.aload_n 3, 1) := by decide +kernel
theorem d_T_fill_93 : decode prog_11_method_2_code 93 = .ok (.bipush 60, 2) := by decide +kernel
theorem d_T_fill_95 : decode prog_11_method_2_code 95 = .ok (.invokevirtual 39, 3) := by decide +kernel
theorem d_T_fill_98 : decode prog_11_method_2_code 98 = .ok (.aload_n 3, 1) := by decide +kernel
theorem d_T_fill_99 : decode prog_11_method_2_code 99 = .ok (.invokevirtual 43, 3) := by decide +kernel
theorem d_T_fill_102 : decode prog_11_method_2_code 102 = .ok (.areturn, 1) := by decide +kernel
def wq_T_fill_98 (a : Nat) (p0 : Option Nat) (p1 : Int32) (Q : Option Nat → ab_H → Prop)  (u3 : Option Nat) (A : ab_H) (kc ks : Nat) : Prop := wj_SB_toString A kc ks u3  (fun r1 A kc ks => Q r1 A)
set_option maxRecDepth 100000 in
set_option maxHeartbeats 4000000 in
theorem sq_T_fill_98 {l : Launch} {G : mm_G} {a : Nat} {p0 : Option Nat} {p1 : Int32} {Q : Option Nat → ab_H → Prop}   : ∀ (u3 : Option Nat) (A : ab_H) (kc ks : Nat) (h : mm_H), Vw G h A → wq_T_fill_98 a p0 p1 Q  u3 A kc ks → mm_V l G M_T_fill kc ks 98 [some (va_rf (some a)), some (va_rf p0), some (.int p1), some (va_rf u3), none, none] [] h (wQR G Q) := by
  intro u3 A kc ks h hV hw
  unfold wq_T_fill_98 at hw
  refine wr_aload_n u3 (pc' := 99) d_T_fill_98 rfl rfl rfl ?_
  refine wr_SB_toString hV hw (pc' := 102) d_T_fill_99 rfl cs_T_43 (Nat.le_of_ble_eq_true rfl) (Nat.le_of_ble_eq_true rfl) (fun r1 h A kc ks hV hw => ?_)
  exact wr_aret hV d_T_fill_102 rfl (by first | exact Or.inl ⟨_, rfl⟩ | exact Or.inr ⟨_, rfl⟩) hw
def wq_T_fill_83 (a : Nat) (p0 : Option Nat) (p1 : Int32) (Q : Option Nat → ab_H → Prop)  (u3 : Option Nat) (A : ab_H) (kc ks : Nat) : Prop := wj_SB_length A u3  (fun x2 => if x2 ≤ (60 : Int32) then (wq_T_fill_98 a p0 p1 Q u3 A kc ks) else (wj_SB_setLength A kc ks u3 (60 : Int32) (fun A kc ks => wq_T_fill_98 a p0 p1 Q u3 A kc ks)))
set_option maxRecDepth 100000 in
set_option maxHeartbeats 4000000 in
theorem sq_T_fill_83 {l : Launch} {G : mm_G} {a : Nat} {p0 : Option Nat} {p1 : Int32} {Q : Option Nat → ab_H → Prop}   : ∀ (u3 : Option Nat) (A : ab_H) (kc ks : Nat) (h : mm_H), Vw G h A → wq_T_fill_83 a p0 p1 Q  u3 A kc ks → mm_V l G M_T_fill kc ks 83 [some (va_rf (some a)), some (va_rf p0), some (.int p1), some (va_rf u3), none, none] [] h (wQR G Q) := by
  intro u3 A kc ks h hV hw
  unfold wq_T_fill_83 at hw
  refine wr_aload_n u3 (pc' := 84) d_T_fill_83 rfl rfl rfl ?_
  refine wr_SB_length hV hw (pc' := 87) d_T_fill_84 rfl cs_T_22 (Nat.le_of_ble_eq_true rfl) (Nat.le_of_ble_eq_true rfl) (fun x2 hw => ?_)
  refine mm_bipush (v := 60) (pc' := 89) d_T_fill_87 rfl (by decide) ?_
  refine wr_icmp_le hw (pc' := 92) d_T_fill_89 rfl rfl (fun hw => ?_) (fun hw => ?_)
  · exact mm_drop (mm_le.s (mm_le.s (mm_le.s (mm_le.s (mm_le.n (mm_le.n mm_le.e)))))) (sq_T_fill_98  _ _ _ _ _ hV hw)
  · refine wr_aload_n u3 (pc' := 93) d_T_fill_92 rfl rfl rfl ?_
    refine mm_bipush (v := 60) (pc' := 95) d_T_fill_93 rfl (by decide) ?_
    refine wr_SB_setLength hV hw (pc' := 98) d_T_fill_95 rfl cs_T_39 (Nat.le_of_ble_eq_true rfl) (Nat.le_of_ble_eq_true rfl) (fun h A kc ks hV hw => ?_)
    exact mm_drop (mm_le.s (mm_le.s (mm_le.s (mm_le.s (mm_le.n (mm_le.n mm_le.e)))))) (sq_T_fill_98  _ _ _ _ _ hV hw)
def wb_T_fill_11 (a : Nat) (p0 : Option Nat) (p1 : Int32) (Q : Option Nat → ab_H → Prop)  (k11 : Option Nat → Int32 → ab_H → Nat → Nat → Prop) (u3 : Option Nat) (u4 : Int32) (A : ab_H) (kc ks : Nat) : Prop := wgR A (some a) 11 0 (fun r3 => wj_ST_length A r3  (fun x4 => if x4 ≤ u4 then (wq_T_fill_83 a p0 p1 Q u3 A kc ks) else (wj_SB_length A u3  (fun x5 => if (60 : Int32) ≤ x5 then (wq_T_fill_83 a p0 p1 Q u3 A kc ks) else (wC A (some a) 11 (fun b => wp_T_closeOf b u4 A (fun x6 A => if 0 ≤ x6 then (wC A (some a) 11 (fun b => wXV kc ks (wp_T_appendFor b u3 u4 x6 p0 p1 A) (fun A kc ks => k11 u3 (x6 + 1) A kc ks))) else (wgR A (some a) 11 0 (fun r7 => wj_ST_charAt A r7 u4 (fun x8 => wj_SB_append_C A kc ks u3 x8 (fun r9 A kc ks => k11 u3 (u4 + 1) A kc ks)))))))))))
def wq_T_fill_11 (a : Nat) (p0 : Option Nat) (p1 : Int32) (Q : Option Nat → ab_H → Prop)  : Nat → Option Nat → Int32 → ab_H → Nat → Nat → Prop
  | 0 => fun _ _ _ _ _ => False
  | n + 1 => wb_T_fill_11 a p0 p1 Q  (wq_T_fill_11 a p0 p1 Q  n)
set_option maxRecDepth 100000 in
set_option maxHeartbeats 4000000 in
theorem sq_T_fill_11 {l : Launch} {G : mm_G} {a : Nat} {p0 : Option Nat} {p1 : Int32} {Q : Option Nat → ab_H → Prop}   : ∀ (n : Nat) (u3 : Option Nat) (u4 : Int32) (A : ab_H) (kc ks : Nat) (h : mm_H), Vw G h A → wq_T_fill_11 a p0 p1 Q  n u3 u4 A kc ks → mm_V l G M_T_fill kc ks 11 [some (va_rf (some a)), some (va_rf p0), some (.int p1), some (va_rf u3), some (.int u4), none] [] h (wQR G Q) := by
  intro n
  induction n with
  | zero =>
    intro u3 u4 A kc ks h hV hw
    exact absurd hw id
  | succ n hk11 =>
    intro u3 u4 A kc ks h hV hw
    have hw : wb_T_fill_11 a p0 p1 Q  (wq_T_fill_11 a p0 p1 Q  n) u3 u4 A kc ks := hw
    unfold wb_T_fill_11 at hw
    refine mm_iload (pc' := 13) d_T_fill_11 rfl rfl ?_
    refine wr_aload_n (some a) (pc' := 14) d_T_fill_13 rfl rfl rfl ?_
    refine wr_getR hV hw (pc' := 17) d_T_fill_14 rfl fl_T_7 (fun r3 hw => ?_)
    refine wr_ST_length hV hw (pc' := 20) d_T_fill_17 rfl cs_T_16 (Nat.le_of_ble_eq_true rfl) (Nat.le_of_ble_eq_true rfl) (fun x4 hw => ?_)
    refine wr_icmp_ge hw (pc' := 23) d_T_fill_20 rfl rfl (fun hw => ?_) (fun hw => ?_)
    · exact mm_drop (mm_le.s (mm_le.s (mm_le.s (mm_le.s (mm_le.n (mm_le.n mm_le.e)))))) (sq_T_fill_83  _ _ _ _ _ hV hw)
    · refine wr_aload_n u3 (pc' := 24) d_T_fill_23 rfl rfl rfl ?_
      refine wr_SB_length hV hw (pc' := 27) d_T_fill_24 rfl cs_T_22 (Nat.le_of_ble_eq_true rfl) (Nat.le_of_ble_eq_true rfl) (fun x5 hw => ?_)
      refine mm_bipush (v := 60) (pc' := 29) d_T_fill_27 rfl (by decide) ?_
      refine wr_icmp_ge hw (pc' := 32) d_T_fill_29 rfl rfl (fun hw => ?_) (fun hw => ?_)
      · exact mm_drop (mm_le.s (mm_le.s (mm_le.s (mm_le.s (mm_le.n (mm_le.n mm_le.e)))))) (sq_T_fill_83  _ _ _ _ _ hV hw)
      · refine wr_aload_n (some a) (pc' := 33) d_T_fill_32 rfl rfl rfl ?_
        refine mm_iload (pc' := 35) d_T_fill_33 rfl rfl ?_
        refine wr_cVI (pc' := 38) (as := [.int u4]) (st := []) d_T_fill_35 rfl cs_T_23 rfl (W := fun b Q' => wp_T_closeOf b u4 A Q') hV hw (fun b Q' hw => sd_T_closeOf hV hw) rfl rfl (Nat.le_of_ble_eq_true rfl) (Nat.le_of_ble_eq_true rfl) (fun x6 h A hV hw => ?_)
        refine mm_ist5 (pc' := 40) d_T_fill_38 rfl rfl (Nat.le_of_ble_eq_true rfl) ?_
        refine mm_iload (pc' := 42) d_T_fill_40 rfl rfl ?_
        refine wr_if_ge hw (pc' := 45) d_T_fill_42 rfl rfl (fun hw => ?_) (fun hw => ?_)
        · refine wr_aload_n (some a) (pc' := 63) d_T_fill_62 rfl rfl rfl ?_
          refine wr_aload_n u3 (pc' := 64) d_T_fill_63 rfl rfl rfl ?_
          refine mm_iload (pc' := 66) d_T_fill_64 rfl rfl ?_
          refine mm_iload (pc' := 68) d_T_fill_66 rfl rfl ?_
          refine wr_aload_n p0 (pc' := 69) d_T_fill_68 rfl rfl rfl ?_
          refine mm_iload_n (pc' := 70) d_T_fill_69 rfl rfl rfl ?_
          refine wr_cVVx (pc' := 73) (as := [va_rf u3, .int u4, .int x6, va_rf p0, .int p1]) (st := []) d_T_fill_70 rfl cs_T_35 rfl (W := fun b c s Q' => wp_T_appendFor b u3 u4 x6 p0 p1 A c s Q') hV hw (fun b c s Q' hw => sd_T_appendFor hV hw) rfl rfl (Nat.le_of_ble_eq_true rfl) (Nat.le_of_ble_eq_true rfl) (fun h A kc ks hV hw => ?_)
          refine mm_iload (pc' := 75) d_T_fill_73 rfl rfl ?_
          refine mm_ist4 (pc' := 77) d_T_fill_75 rfl (wr_2 _) (Nat.le_of_ble_eq_true rfl) ?_
          refine mm_iinc4 (v := (x6 + 1)) (pc' := 80) d_T_fill_77 rfl (wr_2 _) rfl (Nat.le_of_ble_eq_true rfl) ?_
          refine mm_goto (tgt := 11) d_T_fill_80 rfl ?_
          exact mm_drop (mm_le.s (mm_le.s (mm_le.s (mm_le.s (mm_le.s (mm_le.n mm_le.e)))))) (hk11 _ _ _ _ _ _ hV hw)
        · refine wr_aload_n u3 (pc' := 46) d_T_fill_45 rfl rfl rfl ?_
          refine wr_aload_n (some a) (pc' := 47) d_T_fill_46 rfl rfl rfl ?_
          refine wr_getR hV hw (pc' := 50) d_T_fill_47 rfl fl_T_7 (fun r7 hw => ?_)
          refine mm_iload (pc' := 52) d_T_fill_50 rfl rfl ?_
          refine wr_ST_charAt hV hw (pc' := 55) d_T_fill_52 rfl cs_T_27 (Nat.le_of_ble_eq_true rfl) (Nat.le_trans (wr_hR wr_h0) (Nat.le_of_ble_eq_true rfl)) (fun x8 hw => ?_)
          refine wr_SB_append_C hV hw (pc' := 58) d_T_fill_55 rfl cs_T_31 (Nat.le_of_ble_eq_true rfl) (Nat.le_of_ble_eq_true rfl) (fun r9 h A kc ks hV hw => ?_)
          refine mm_pop (pc' := 59) d_T_fill_58 rfl (wr_cat _) ?_
          refine mm_goto (tgt := 77) d_T_fill_59 rfl ?_
          refine mm_iinc4 (v := (u4 + 1)) (pc' := 80) d_T_fill_77 rfl (wr_2 _) rfl (Nat.le_of_ble_eq_true rfl) ?_
          refine mm_goto (tgt := 11) d_T_fill_80 rfl ?_
          exact mm_drop (mm_le.s (mm_le.s (mm_le.s (mm_le.s (mm_le.s (mm_le.n mm_le.e)))))) (hk11 _ _ _ _ _ _ hV hw)
def wp_T_fill (a : Nat) (p0 : Option Nat) (p1 : Int32) (A : ab_H) (kc ks : Nat) (Q : Option Nat → ab_H → Prop) : Prop := wNew A kc ks 1 4 (fun b10 A kc ks => wj_SB_init A kc ks (some b10)  (fun A kc ks => ∃ n, wq_T_fill_11 a p0 p1 Q n (some b10) (0 : Int32) A kc ks))
set_option maxRecDepth 100000 in
set_option maxHeartbeats 4000000 in
theorem sd_T_fill {l : Launch} {G : mm_G} {h : mm_H} {A : ab_H} {a : Nat} {p0 : Option Nat} {p1 : Int32} {kc ks : Nat} {Q : Option Nat → ab_H → Prop} (hV : Vw G h A) (hw : wp_T_fill a p0 p1 A kc ks Q) : mm_S l G M_T_fill [.ref a, va_rf p0, .int p1] h kc ks (wQR G Q) := by
  unfold wp_T_fill at hw
  refine mm_start rfl (by simp [mm_as, wr_cat, wr_catI, wr_catJ, wr_catN]) ?_
  rw [show mm_en [.ref a, va_rf p0, .int p1] M_T_fill.2.2.1 = [some (.ref a), some (va_rf p0), some (.int p1), none, none, none] from by simp [mm_en, mm_as, wr_cat, wr_catI, wr_catJ, wr_catN]]
  show mm_V l G M_T_fill kc ks 0 [some (va_rf (some a)), some (va_rf p0), some (.int p1), none, none, none] [] h _
  refine wr_new hV hw (pc' := 3) d_T_fill_0 rfl nl_T_13 rfl (fun b10 h A kc ks hV hw => ?_)
  refine mm_dup (pc' := 4) d_T_fill_3 rfl (wr_cat _) ?_
  refine wr_SB_init hV hw (pc' := 7) d_T_fill_4 rfl cs_T_15 (Nat.le_of_ble_eq_true rfl) (Nat.le_trans (wr_hR wr_h0) (Nat.le_of_ble_eq_true rfl)) (fun h A kc ks hV hw => ?_)
  refine wr_ast3 (pc' := 8) d_T_fill_7 rfl rfl (Nat.le_of_ble_eq_true rfl) ?_
  refine mm_iconst (v := 0) (pc' := 9) d_T_fill_8 rfl (by decide) ?_
  refine mm_ist4 (pc' := 11) d_T_fill_9 rfl (wr_2 _) (Nat.le_of_ble_eq_true rfl) ?_
  obtain ⟨n, hw⟩ := hw
  exact mm_drop (mm_le.s (mm_le.s (mm_le.s (mm_le.s (mm_le.s (mm_le.n mm_le.e)))))) (sq_T_fill_11  n _ _ _ _ _ _ hV hw)
