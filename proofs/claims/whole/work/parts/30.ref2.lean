theorem d_M_raw_0 : decode prog_14_method_27_code 0 = .ok (.aload_n 0, 1) := by decide +kernel
theorem d_M_raw_1 : decode prog_14_method_27_code 1 = .ok (.iconst 0, 1) := by decide +kernel
theorem d_M_raw_2 : decode prog_14_method_27_code 2 = .ok (.putfield 185, 3) := by decide +kernel
theorem d_M_raw_5 : decode prog_14_method_27_code 5 = .ok (.iload_n 1, 1) := by decide +kernel
theorem d_M_raw_6 : decode prog_14_method_27_code 6 = .ok (.istore_n 3, 1) := by decide +kernel
theorem d_M_raw_7 : decode prog_14_method_27_code 7 = .ok (.iload_n 3, 1) := by decide +kernel
theorem d_M_raw_8 : decode prog_14_method_27_code 8 = .ok (.iload_n 2, 1) := by decide +kernel
theorem d_M_raw_9 : decode prog_14_method_27_code 9 = .ok (.if_icmp .ge 18, 3) := by decide +kernel
theorem d_M_raw_12 : decode prog_14_method_27_code 12 = .ok (.aload_n 0, 1) := by decide +kernel
theorem d_M_raw_13 : decode prog_14_method_27_code 13 = .ok (.aload_n 0, 1) := by decide +kernel
theorem d_M_raw_14 : decode prog_14_method_27_code 14 = .ok (.iload_n 3, 1) := by decide +kernel
theorem d_M_raw_15 : decode prog_14_method_27_code 15 = .ok (.invokevirtual 102, 3) := by decide +kernel
theorem d_M_raw_18 : decode prog_14_method_27_code 18 = .ok (.invokevirtual 188, 3) := by decide +kernel
theorem d_M_raw_21 : decode prog_14_method_27_code 21 = .ok (.iinc 3 1, 3) := by decide +kernel
theorem d_M_raw_24 : decode prog_14_method_27_code 24 = .ok (.goto (-17), 3) := by decide +kernel
theorem d_M_raw_27 : decode prog_14_method_27_code 27 = .ok (.return_, 1) := by decide +kernel
def wb_M_raw_7 (a : Nat) (p0 : Int32) (p1 : Int32) (Q : ab_H → Prop)  (k7 : Int32 → ab_H → Prop) (u3 : Int32) (A : ab_H) : Prop := if p1 ≤ u3 then (Q A) else (wC A (some a) 14 (fun b => wp_M_byteAt b u3 A (fun x1 A => wC A (some a) 14 (fun b => wp_M_put b x1 A (fun A => k7 (u3 + 1) A)))))
def wq_M_raw_7 (a : Nat) (p0 : Int32) (p1 : Int32) (Q : ab_H → Prop)  : Nat → Int32 → ab_H → Prop
  | 0 => fun _ _ => False
  | n + 1 => wb_M_raw_7 a p0 p1 Q  (wq_M_raw_7 a p0 p1 Q  n)
set_option maxRecDepth 100000 in
set_option maxHeartbeats 4000000 in
theorem sq_M_raw_7 {l : Launch} {G : mm_G} {a : Nat} {p0 : Int32} {p1 : Int32} {Q : ab_H → Prop}   : ∀ (n : Nat) (u3 : Int32) (A : ab_H) (h : mm_H), Vw G h A → wq_M_raw_7 a p0 p1 Q  n u3 A → mm_V l G M_M_raw 0 0 7 [some (va_rf (some a)), some (.int p0), some (.int p1), some (.int u3)] [] h (wQV G Q) := by
  intro n
  induction n with
  | zero =>
    intro u3 A h hV hw
    exact absurd hw id
  | succ n hk7 =>
    intro u3 A h hV hw
    have hw : wb_M_raw_7 a p0 p1 Q  (wq_M_raw_7 a p0 p1 Q  n) u3 A := hw
    unfold wb_M_raw_7 at hw
    refine mm_iload_n (pc' := 8) d_M_raw_7 rfl rfl rfl ?_
    refine mm_iload_n (pc' := 9) d_M_raw_8 rfl rfl rfl ?_
    refine wr_icmp_ge hw (pc' := 12) d_M_raw_9 rfl rfl (fun hw => ?_) (fun hw => ?_)
    · exact wr_vret hV d_M_raw_27 rfl hw
    · refine wr_aload_n (some a) (pc' := 13) d_M_raw_12 rfl rfl rfl ?_
      refine wr_aload_n (some a) (pc' := 14) d_M_raw_13 rfl rfl rfl ?_
      refine mm_iload_n (pc' := 15) d_M_raw_14 rfl rfl rfl ?_
      refine wr_cVI (pc' := 18) (as := [.int u3]) (st := [va_rf (some a)]) d_M_raw_15 rfl cs_M_102 rfl (W := fun b Q' => wp_M_byteAt b u3 A Q') hV hw (fun b Q' hw => sd_M_byteAt hV hw) rfl rfl (Nat.le_of_ble_eq_true rfl) (Nat.le_trans (wr_hR wr_h0) (Nat.le_of_ble_eq_true rfl)) (fun x1 h A hV hw => ?_)
      refine wr_cVV (pc' := 21) (as := [.int x1]) (st := []) d_M_raw_18 rfl cs_M_188 rfl (W := fun b Q' => wp_M_put b x1 A Q') hV hw (fun b Q' hw => sd_M_put hV hw) rfl rfl (Nat.le_of_ble_eq_true rfl) (Nat.le_of_ble_eq_true rfl) (fun h A hV hw => ?_)
      refine mm_iinc3 (v := (u3 + 1)) (pc' := 24) d_M_raw_21 rfl rfl rfl (Nat.le_of_ble_eq_true rfl) ?_
      refine mm_goto (tgt := 7) d_M_raw_24 rfl ?_
      exact mm_drop (mm_le.s (mm_le.s (mm_le.s (mm_le.s mm_le.e)))) (hk7 _ _ _ hV hw)
def wp_M_raw (a : Nat) (p0 : Int32) (p1 : Int32) (A : ab_H) (Q : ab_H → Prop) : Prop := wp A (some a) 14 40 (.int (0 : Int32)) (fun A => ∃ n, wq_M_raw_7 a p0 p1 Q n p0 A)
set_option maxRecDepth 100000 in
set_option maxHeartbeats 4000000 in
theorem sd_M_raw {l : Launch} {G : mm_G} {h : mm_H} {A : ab_H} {a : Nat} {p0 : Int32} {p1 : Int32} {Q : ab_H → Prop} (hV : Vw G h A) (hw : wp_M_raw a p0 p1 A Q) : mm_S l G M_M_raw [.ref a, .int p0, .int p1] h 0 0 (wQV G Q) := by
  unfold wp_M_raw at hw
  refine mm_start rfl (Nat.le_of_ble_eq_true rfl) ?_
  show mm_V l G M_M_raw 0 0 0 [some (va_rf (some a)), some (.int p0), some (.int p1), none] [] h _
  refine wr_aload_n (some a) (pc' := 1) d_M_raw_0 rfl rfl rfl ?_
  refine mm_iconst (v := 0) (pc' := 2) d_M_raw_1 rfl (by decide) ?_
  refine wr_put hV hw (pc' := 5) d_M_raw_2 rfl pl_M_raw_185 (Nat.le_of_ble_eq_true rfl) (wn_I _) (fun h A hV hw => ?_)
  refine mm_iload_n (pc' := 6) d_M_raw_5 rfl rfl rfl ?_
  refine mm_ist3 (pc' := 7) d_M_raw_6 rfl rfl (Nat.le_of_ble_eq_true rfl) ?_
  obtain ⟨n, hw⟩ := hw
  exact mm_drop (mm_le.s (mm_le.s (mm_le.s (mm_le.s mm_le.e)))) (sq_M_raw_7  n _ _ _ hV hw)
theorem d_M_headerOf_0 : decode prog_14_method_28_code 0 = .ok (.iconst 0, 1) := by decide +kernel
theorem d_M_headerOf_1 : decode prog_14_method_28_code 1 = .ok (.istore_n 1, 1) := by decide +kernel
theorem d_M_headerOf_2 : decode prog_14_method_28_code 2 = .ok (.iload_n 1, 1) := by decide +kernel
theorem d_M_headerOf_3 : decode prog_14_method_28_code 3 = .ok (.aload_n 0, 1) := by decide +kernel
theorem d_M_headerOf_4 : decode prog_14_method_28_code 4 = .ok (.getfield 142, 3) := by decide +kernel
theorem d_M_headerOf_7 : decode prog_14_method_28_code 7 = .ok (.if_icmp .ge 83, 3) := by decide +kernel
theorem d_M_headerOf_10 : decode prog_14_method_28_code 10 = .ok (.aload_n 0, 1) := by decide +kernel
theorem d_M_headerOf_11 : decode prog_14_method_28_code 11 = .ok (.aload_n 0, 1) := by decide +kernel
theorem d_M_headerOf_12 : decode prog_14_method_28_code 12 = .ok (.getfield 77, 3) := by decide +kernel
theorem d_M_headerOf_15 : decode prog_14_method_28_code 15 = .ok (.iload_n 1, 1) := by decide +kernel
theorem d_M_headerOf_16 : decode prog_14_method_28_code 16 = .ok (.iaload, 1) := by decide +kernel
theorem d_M_headerOf_17 : decode prog_14_method_28_code 17 = .ok (.aload_n 0, 1) := by decide +kernel
theorem d_M_headerOf_18 : decode prog_14_method_28_code 18 = .ok (.bipush 58, 2) := by decide +kernel
theorem d_M_headerOf_20 : decode prog_14_method_28_code 20 = .ok (.aload_n 0, 1) := by decide +kernel
theorem d_M_headerOf_21 : decode prog_14_method_28_code 21 = .ok (.getfield 77, 3) := by decide +kernel
theorem d_M_headerOf_24 : decode prog_14_method_28_code 24 = .ok (.iload_n 1, 1) := by decide +kernel
theorem d_M_headerOf_25 : decode prog_14_method_28_code 25 = .ok (.iaload, 1) := by decide +kernel
theorem d_M_headerOf_26 : decode prog_14_method_28_code 26 = .ok (.aload_n 0, 1) := by decide +kernel
theorem d_M_headerOf_27 : decode prog_14_method_28_code 27 = .ok (.getfield 80, 3) := by decide +kernel
theorem d_M_headerOf_30 : decode prog_14_method_28_code 30 = .ok (.iload_n 1, 1) := by decide +kernel
theorem d_M_headerOf_31 : decode prog_14_method_28_code 31 = .ok (.iaload, 1) := by decide +kernel
theorem d_M_headerOf_32 : decode prog_14_method_28_code 32 = .ok (.invokevirtual 109, 3) := by decide +kernel
theorem d_M_headerOf_35 : decode prog_14_method_28_code 35 = .ok (.invokevirtual 203, 3) := by decide +kernel
theorem d_M_headerOf_38 : decode prog_14_method_28_code 38 = .ok (.aload_n 0, 1) := by decide +kernel
theorem d_M_headerOf_39 : decode prog_14_method_28_code 39 = .ok (.iconst 1, 1) := by decide +kernel
theorem d_M_headerOf_40 : decode prog_14_method_28_code 40 = .ok (.invokevirtual 199, 3) := by decide +kernel
theorem d_M_headerOf_43 : decode prog_14_method_28_code 43 = .ok (.ifCond .eq 41, 3) := by decide +kernel
theorem d_M_headerOf_46 : decode prog_14_method_28_code 46 = .ok (.aload_n 0, 1) := by decide +kernel
theorem d_M_headerOf_47 : decode prog_14_method_28_code 47 = .ok (.aload_n 0, 1) := by decide +kernel
theorem d_M_headerOf_48 : decode prog_14_method_28_code 48 = .ok (.aload_n 0, 1) := by decide +kernel
theorem d_M_headerOf_49 : decode prog_14_method_28_code 49 = .ok (.getfield 77, 3) := by decide +kernel
theorem d_M_headerOf_52 : decode prog_14_method_28_code 52 = .ok (.iload_n 1, 1) := by decide +kernel
theorem d_M_headerOf_53 : decode prog_14_method_28_code 53 = .ok (.iaload, 1) := by decide +kernel
theorem d_M_headerOf_54 : decode prog_14_method_28_code 54 = .ok (.aload_n 0, 1) := by decide +kernel
theorem d_M_headerOf_55 : decode prog_14_method_28_code 55 = .ok (.getfield 80, 3) := by decide +kernel
theorem d_M_headerOf_58 : decode prog_14_method_28_code 58 = .ok (.iload_n 1, 1) := by decide +kernel
theorem d_M_headerOf_59 : decode prog_14_method_28_code 59 = .ok (.iaload, 1) := by decide +kernel
theorem d_M_headerOf_60 : decode prog_14_method_28_code 60 = .ok (.invokevirtual 134, 3) := by decide +kernel
theorem d_M_headerOf_63 : decode prog_14_method_28_code 63 = .ok (.aload_n 0, 1) := by decide +kernel
theorem d_M_headerOf_64 : decode prog_14_method_28_code 64 = .ok (.aload_n 0, 1) := by decide +kernel
theorem d_M_headerOf_65 : decode prog_14_method_28_code 65 = .ok (.getfield 77, 3) := by decide +kernel
theorem d_M_headerOf_68 : decode prog_14_method_28_code 68 = .ok (.iload_n 1, 1) := by decide +kernel
theorem d_M_headerOf_69 : decode prog_14_method_28_code 69 = .ok (.iaload, 1) := by decide +kernel
theorem d_M_headerOf_70 : decode prog_14_method_28_code 70 = .ok (.aload_n 0, 1) := by decide +kernel
theorem d_M_headerOf_71 : decode prog_14_method_28_code 71 = .ok (.getfield 80, 3) := by decide +kernel
theorem d_M_headerOf_74 : decode prog_14_method_28_code 74 = .ok (.iload_n 1, 1) := by decide +kernel
theorem d_M_headerOf_75 : decode prog_14_method_28_code 75 = .ok (.iaload, 1) := by decide +kernel
theorem d_M_headerOf_76 : decode prog_14_method_28_code 76 = .ok (.invokevirtual 145, 3) := by decide +kernel
theorem d_M_headerOf_79 : decode prog_14_method_28_code 79 = .ok (.invokevirtual 203, 3) := by decide +kernel
theorem d_M_headerOf_82 : decode prog_14_method_28_code 82 = .ok (.iconst 1, 1) := by decide +kernel
theorem d_M_headerOf_83 : decode prog_14_method_28_code 83 = .ok (.ireturn, 1) := by decide +kernel
theorem d_M_headerOf_84 : decode prog_14_method_28_code 84 = .ok (.iinc 1 1, 3) := by decide +kernel
theorem d_M_headerOf_87 : decode prog_14_method_28_code 87 = .ok (.goto (-85), 3) := by decide +kernel
theorem d_M_headerOf_90 : decode prog_14_method_28_code 90 = .ok (.iconst 0, 1) := by decide +kernel
theorem d_M_headerOf_91 : decode prog_14_method_28_code 91 = .ok (.ireturn, 1) := by decide +kernel
def wq_M_headerOf_46 (a : Nat) (Q : Int32 → ab_H → Prop)  (u1 : Int32) (A : ab_H) : Prop := wgR A (some a) 14 30 (fun r1 => wAI A r1 u1 (fun x2 => wgR A (some a) 14 31 (fun r3 => wAI A r3 u1 (fun x4 => wC A (some a) 14 (fun b => wp_M_valueAt b x2 x4 A (fun x5 A => wgR A (some a) 14 30 (fun r6 => wAI A r6 u1 (fun x7 => wgR A (some a) 14 31 (fun r8 => wAI A r8 u1 (fun x9 => wC A (some a) 14 (fun b => wp_M_valueEnd b x7 x9 A (fun x10 A => wC A (some a) 14 (fun b => wp_M_raw b x5 x10 A (fun A => Q (1 : Int32) A))))))))))))))
set_option maxRecDepth 100000 in
set_option maxHeartbeats 4000000 in
theorem sq_M_headerOf_46 {l : Launch} {G : mm_G} {a : Nat} {Q : Int32 → ab_H → Prop}   : ∀ (u1 : Int32) (A : ab_H) (h : mm_H), Vw G h A → wq_M_headerOf_46 a Q  u1 A → mm_V l G M_M_headerOf 0 0 46 [some (va_rf (some a)), some (.int u1)] [] h (wQI G Q) := by
  intro u1 A h hV hw
  unfold wq_M_headerOf_46 at hw
  refine wr_aload_n (some a) (pc' := 47) d_M_headerOf_46 rfl rfl rfl ?_
  refine wr_aload_n (some a) (pc' := 48) d_M_headerOf_47 rfl rfl rfl ?_
  refine wr_aload_n (some a) (pc' := 49) d_M_headerOf_48 rfl rfl rfl ?_
  refine wr_getR hV hw (pc' := 52) d_M_headerOf_49 rfl fl_M_77 (fun r1 hw => ?_)
  refine mm_iload_n (pc' := 53) d_M_headerOf_52 rfl rfl rfl ?_
  refine wr_aldI hV hw (pc' := 54) d_M_headerOf_53 rfl (fun x2 hw => ?_)
  refine wr_aload_n (some a) (pc' := 55) d_M_headerOf_54 rfl rfl rfl ?_
  refine wr_getR hV hw (pc' := 58) d_M_headerOf_55 rfl fl_M_80 (fun r3 hw => ?_)
  refine mm_iload_n (pc' := 59) d_M_headerOf_58 rfl rfl rfl ?_
  refine wr_aldI hV hw (pc' := 60) d_M_headerOf_59 rfl (fun x4 hw => ?_)
  refine wr_cVI (pc' := 63) (as := [.int x2, .int x4]) (st := [va_rf (some a)]) d_M_headerOf_60 rfl cs_M_134 rfl (W := fun b Q' => wp_M_valueAt b x2 x4 A Q') hV hw (fun b Q' hw => sd_M_valueAt hV hw) rfl rfl (Nat.le_of_ble_eq_true rfl) (Nat.le_trans (wr_hR wr_h0) (Nat.le_of_ble_eq_true rfl)) (fun x5 h A hV hw => ?_)
  refine wr_aload_n (some a) (pc' := 64) d_M_headerOf_63 rfl rfl rfl ?_
  refine wr_aload_n (some a) (pc' := 65) d_M_headerOf_64 rfl rfl rfl ?_
  refine wr_getR hV hw (pc' := 68) d_M_headerOf_65 rfl fl_M_77 (fun r6 hw => ?_)
  refine mm_iload_n (pc' := 69) d_M_headerOf_68 rfl rfl rfl ?_
  refine wr_aldI hV hw (pc' := 70) d_M_headerOf_69 rfl (fun x7 hw => ?_)
  refine wr_aload_n (some a) (pc' := 71) d_M_headerOf_70 rfl rfl rfl ?_
  refine wr_getR hV hw (pc' := 74) d_M_headerOf_71 rfl fl_M_80 (fun r8 hw => ?_)
  refine mm_iload_n (pc' := 75) d_M_headerOf_74 rfl rfl rfl ?_
  refine wr_aldI hV hw (pc' := 76) d_M_headerOf_75 rfl (fun x9 hw => ?_)
  refine wr_cVI (pc' := 79) (as := [.int x7, .int x9]) (st := [.int x5, va_rf (some a)]) d_M_headerOf_76 rfl cs_M_145 rfl (W := fun b Q' => wp_M_valueEnd b x7 x9 A Q') hV hw (fun b Q' hw => sd_M_valueEnd hV hw) rfl rfl (Nat.le_of_ble_eq_true rfl) (Nat.le_trans (wr_hI (wr_hR wr_h0)) (Nat.le_of_ble_eq_true rfl)) (fun x10 h A hV hw => ?_)
  refine wr_cVV (pc' := 82) (as := [.int x5, .int x10]) (st := []) d_M_headerOf_79 rfl cs_M_203 rfl (W := fun b Q' => wp_M_raw b x5 x10 A Q') hV hw (fun b Q' hw => sd_M_raw hV hw) rfl rfl (Nat.le_of_ble_eq_true rfl) (Nat.le_of_ble_eq_true rfl) (fun h A hV hw => ?_)
  refine mm_iconst (v := 1) (pc' := 83) d_M_headerOf_82 rfl (by decide) ?_
  exact wr_iret hV d_M_headerOf_83 rfl rfl hw
def wb_M_headerOf_2 (a : Nat) (Q : Int32 → ab_H → Prop)  (k2 : Int32 → ab_H → Prop) (u1 : Int32) (A : ab_H) : Prop := wgI A (some a) 14 29 (fun x11 => if x11 ≤ u1 then (Q (0 : Int32) A) else (wgR A (some a) 14 30 (fun r12 => wAI A r12 u1 (fun x13 => wgR A (some a) 14 30 (fun r14 => wAI A r14 u1 (fun x15 => wgR A (some a) 14 31 (fun r16 => wAI A r16 u1 (fun x17 => wC A (some a) 14 (fun b => wp_M_seek b (58 : Int32) x15 x17 A (fun x18 A => wC A (some a) 14 (fun b => wp_M_raw b x13 x18 A (fun A => wC A (some a) 14 (fun b => wp_M_isSought b (1 : Int32) A (fun x19 A => if x19 = 0 then (k2 (u1 + 1) A) else (wq_M_headerOf_46 a Q u1 A)))))))))))))))
def wq_M_headerOf_2 (a : Nat) (Q : Int32 → ab_H → Prop)  : Nat → Int32 → ab_H → Prop
  | 0 => fun _ _ => False
  | n + 1 => wb_M_headerOf_2 a Q  (wq_M_headerOf_2 a Q  n)
set_option maxRecDepth 100000 in
set_option maxHeartbeats 4000000 in
theorem sq_M_headerOf_2 {l : Launch} {G : mm_G} {a : Nat} {Q : Int32 → ab_H → Prop}   : ∀ (n : Nat) (u1 : Int32) (A : ab_H) (h : mm_H), Vw G h A → wq_M_headerOf_2 a Q  n u1 A → mm_V l G M_M_headerOf 0 0 2 [some (va_rf (some a)), some (.int u1)] [] h (wQI G Q) := by
  intro n
  induction n with
  | zero =>
    intro u1 A h hV hw
    exact absurd hw id
  | succ n hk2 =>
    intro u1 A h hV hw
    have hw : wb_M_headerOf_2 a Q  (wq_M_headerOf_2 a Q  n) u1 A := hw
    unfold wb_M_headerOf_2 at hw
    refine mm_iload_n (pc' := 3) d_M_headerOf_2 rfl rfl rfl ?_
    refine wr_aload_n (some a) (pc' := 4) d_M_headerOf_3 rfl rfl rfl ?_
    refine wr_getI hV hw (pc' := 7) d_M_headerOf_4 rfl fl_M_142 (fun x11 hw => ?_)
    refine wr_icmp_ge hw (pc' := 10) d_M_headerOf_7 rfl rfl (fun hw => ?_) (fun hw => ?_)
    · refine mm_iconst (v := 0) (pc' := 91) d_M_headerOf_90 rfl (by decide) ?_
      exact wr_iret hV d_M_headerOf_91 rfl rfl hw
    · refine wr_aload_n (some a) (pc' := 11) d_M_headerOf_10 rfl rfl rfl ?_
      refine wr_aload_n (some a) (pc' := 12) d_M_headerOf_11 rfl rfl rfl ?_
      refine wr_getR hV hw (pc' := 15) d_M_headerOf_12 rfl fl_M_77 (fun r12 hw => ?_)
      refine mm_iload_n (pc' := 16) d_M_headerOf_15 rfl rfl rfl ?_
      refine wr_aldI hV hw (pc' := 17) d_M_headerOf_16 rfl (fun x13 hw => ?_)
      refine wr_aload_n (some a) (pc' := 18) d_M_headerOf_17 rfl rfl rfl ?_
      refine mm_bipush (v := 58) (pc' := 20) d_M_headerOf_18 rfl (by decide) ?_
      refine wr_aload_n (some a) (pc' := 21) d_M_headerOf_20 rfl rfl rfl ?_
      refine wr_getR hV hw (pc' := 24) d_M_headerOf_21 rfl fl_M_77 (fun r14 hw => ?_)
      refine mm_iload_n (pc' := 25) d_M_headerOf_24 rfl rfl rfl ?_
      refine wr_aldI hV hw (pc' := 26) d_M_headerOf_25 rfl (fun x15 hw => ?_)
      refine wr_aload_n (some a) (pc' := 27) d_M_headerOf_26 rfl rfl rfl ?_
      refine wr_getR hV hw (pc' := 30) d_M_headerOf_27 rfl fl_M_80 (fun r16 hw => ?_)
      refine mm_iload_n (pc' := 31) d_M_headerOf_30 rfl rfl rfl ?_
      refine wr_aldI hV hw (pc' := 32) d_M_headerOf_31 rfl (fun x17 hw => ?_)
      refine wr_cVI (pc' := 35) (as := [.int (58 : Int32), .int x15, .int x17]) (st := [.int x13, va_rf (some a)]) d_M_headerOf_32 rfl cs_M_109 rfl (W := fun b Q' => wp_M_seek b (58 : Int32) x15 x17 A Q') hV hw (fun b Q' hw => sd_M_seek hV hw) rfl rfl (Nat.le_of_ble_eq_true rfl) (Nat.le_trans (wr_hI (wr_hR wr_h0)) (Nat.le_of_ble_eq_true rfl)) (fun x18 h A hV hw => ?_)
      refine wr_cVV (pc' := 38) (as := [.int x13, .int x18]) (st := []) d_M_headerOf_35 rfl cs_M_203 rfl (W := fun b Q' => wp_M_raw b x13 x18 A Q') hV hw (fun b Q' hw => sd_M_raw hV hw) rfl rfl (Nat.le_of_ble_eq_true rfl) (Nat.le_of_ble_eq_true rfl) (fun h A hV hw => ?_)
      refine wr_aload_n (some a) (pc' := 39) d_M_headerOf_38 rfl rfl rfl ?_
      refine mm_iconst (v := 1) (pc' := 40) d_M_headerOf_39 rfl (by decide) ?_
      refine wr_cVI (pc' := 43) (as := [.int (1 : Int32)]) (st := []) d_M_headerOf_40 rfl cs_M_199 rfl (W := fun b Q' => wp_M_isSought b (1 : Int32) A Q') hV hw (fun b Q' hw => sd_M_isSought hV hw) rfl rfl (Nat.le_of_ble_eq_true rfl) (Nat.le_of_ble_eq_true rfl) (fun x19 h A hV hw => ?_)
      refine wr_if_eq hw (pc' := 46) d_M_headerOf_43 rfl rfl (fun hw => ?_) (fun hw => ?_)
      · refine mm_iinc1 (v := (u1 + 1)) (pc' := 87) d_M_headerOf_84 rfl (wr_2 _) rfl (Nat.le_of_ble_eq_true rfl) ?_
        refine mm_goto (tgt := 2) d_M_headerOf_87 rfl ?_
        exact mm_drop (mm_le.s (mm_le.s mm_le.e)) (hk2 _ _ _ hV hw)
      · exact mm_drop (mm_le.s (mm_le.s mm_le.e)) (sq_M_headerOf_46  _ _ _ hV hw)
def wp_M_headerOf (a : Nat) (A : ab_H) (Q : Int32 → ab_H → Prop) : Prop := ∃ n, wq_M_headerOf_2 a Q n (0 : Int32) A
set_option maxRecDepth 100000 in
set_option maxHeartbeats 4000000 in
theorem sd_M_headerOf {l : Launch} {G : mm_G} {h : mm_H} {A : ab_H} {a : Nat} {Q : Int32 → ab_H → Prop} (hV : Vw G h A) (hw : wp_M_headerOf a A Q) : mm_S l G M_M_headerOf [.ref a] h 0 0 (wQI G Q) := by
  unfold wp_M_headerOf at hw
  refine mm_start rfl (Nat.le_of_ble_eq_true rfl) ?_
  show mm_V l G M_M_headerOf 0 0 0 [some (va_rf (some a)), none] [] h _
  refine mm_iconst (v := 0) (pc' := 1) d_M_headerOf_0 rfl (by decide) ?_
  refine mm_ist1 (pc' := 2) d_M_headerOf_1 rfl (wr_2 _) (Nat.le_of_ble_eq_true rfl) ?_
  obtain ⟨n, hw⟩ := hw
  exact mm_drop (mm_le.s (mm_le.s mm_le.e)) (sq_M_headerOf_2  n _ _ _ hV hw)
theorem d_M_seekPart_0 : decode prog_14_method_29_code 0 = .ok (.iload_n 1, 1) := by decide +kernel
theorem d_M_seekPart_1 : decode prog_14_method_29_code 1 = .ok (.iconst 2, 1) := by decide +kernel
theorem d_M_seekPart_2 : decode prog_14_method_29_code 2 = .ok (.if_icmp .ne 8, 3) := by decide +kernel
theorem d_M_seekPart_5 : decode prog_14_method_29_code 5 = .ok (.aload_n 0, 1) := by decide +kernel
theorem d_M_seekPart_6 : decode prog_14_method_29_code 6 = .ok (.invokevirtual 206, 3) := by decide +kernel
theorem d_M_seekPart_9 : decode prog_14_method_29_code 9 = .ok (.ireturn, 1) := by decide +kernel
theorem d_M_seekPart_10 : decode prog_14_method_29_code 10 = .ok (.iload_n 1, 1) := by decide +kernel
theorem d_M_seekPart_11 : decode prog_14_method_29_code 11 = .ok (.iconst 3, 1) := by decide +kernel
theorem d_M_seekPart_12 : decode prog_14_method_29_code 12 = .ok (.if_icmp .ne 8, 3) := by decide +kernel
theorem d_M_seekPart_15 : decode prog_14_method_29_code 15 = .ok (.aload_n 0, 1) := by decide +kernel
theorem d_M_seekPart_16 : decode prog_14_method_29_code 16 = .ok (.invokevirtual 210, 3) := by decide +kernel
theorem d_M_seekPart_19 : decode prog_14_method_29_code 19 = .ok (.ireturn, 1) := by decide +kernel
theorem d_M_seekPart_20 : decode prog_14_method_29_code 20 = .ok (.iload_n 1, 1) := by decide +kernel
theorem d_M_seekPart_21 : decode prog_14_method_29_code 21 = .ok (.ifCond .ne 19, 3) := by decide +kernel
theorem d_M_seekPart_24 : decode prog_14_method_29_code 24 = .ok (.aload_n 0, 1) := by decide +kernel
theorem d_M_seekPart_25 : decode prog_14_method_29_code 25 = .ok (.iconst 0, 1) := by decide +kernel
theorem d_M_seekPart_26 : decode prog_14_method_29_code 26 = .ok (.aload_n 0, 1) := by decide +kernel
theorem d_M_seekPart_27 : decode prog_14_method_29_code 27 = .ok (.bipush 32, 2) := by decide +kernel
theorem d_M_seekPart_29 : decode prog_14_method_29_code 29 = .ok (.iconst 0, 1) := by decide +kernel
theorem d_M_seekPart_30 : decode prog_14_method_29_code 30 = .ok (.aload_n 0, 1) := by decide +kernel
theorem d_M_seekPart_31 : decode prog_14_method_29_code 31 = .ok (.getfield 95, 3) := by decide +kernel
theorem d_M_seekPart_34 : decode prog_14_method_29_code 34 = .ok (.invokevirtual 109, 3) := by decide +kernel
theorem d_M_seekPart_37 : decode prog_14_method_29_code 37 = .ok (.invokevirtual 203, 3) := by decide +kernel
theorem d_M_seekPart_40 : decode prog_14_method_29_code 40 = .ok (.iload_n 1, 1) := by decide +kernel
theorem d_M_seekPart_41 : decode prog_14_method_29_code 41 = .ok (.iconst 1, 1) := by decide +kernel
theorem d_M_seekPart_42 : decode prog_14_method_29_code 42 = .ok (.if_icmp .ne 15, 3) := by decide +kernel
theorem d_M_seekPart_45 : decode prog_14_method_29_code 45 = .ok (.aload_n 0, 1) := by decide +kernel
theorem d_M_seekPart_46 : decode prog_14_method_29_code 46 = .ok (.aload_n 0, 1) := by decide +kernel
theorem d_M_seekPart_47 : decode prog_14_method_29_code 47 = .ok (.invokevirtual 113, 3) := by decide +kernel
theorem d_M_seekPart_50 : decode prog_14_method_29_code 50 = .ok (.aload_n 0, 1) := by decide +kernel
theorem d_M_seekPart_51 : decode prog_14_method_29_code 51 = .ok (.invokevirtual 120, 3) := by decide +kernel
theorem d_M_seekPart_54 : decode prog_14_method_29_code 54 = .ok (.invokevirtual 195, 3) := by decide +kernel
theorem d_M_seekPart_57 : decode prog_14_method_29_code 57 = .ok (.iconst 0, 1) := by decide +kernel
theorem d_M_seekPart_58 : decode prog_14_method_29_code 58 = .ok (.istore_n 2, 1) := by decide +kernel
theorem d_M_seekPart_59 : decode prog_14_method_29_code 59 = .ok (.iload_n 2, 1) := by decide +kernel
theorem d_M_seekPart_60 : decode prog_14_method_29_code 60 = .ok (.aload_n 0, 1) := by decide +kernel
theorem d_M_seekPart_61 : decode prog_14_method_29_code 61 = .ok (.getfield 164, 3) := by decide +kernel
theorem d_M_seekPart_64 : decode prog_14_method_29_code 64 = .ok (.if_icmp .ge 26, 3) := by decide +kernel
theorem d_M_seekPart_67 : decode prog_14_method_29_code 67 = .ok (.iload_n 1, 1) := by decide +kernel
theorem d_M_seekPart_68 : decode prog_14_method_29_code 68 = .ok (.iconst 4, 1) := by decide +kernel
theorem d_M_seekPart_69 : decode prog_14_method_29_code 69 = .ok (.if_icmp .ne 21, 3) := by decide +kernel
theorem d_M_seekPart_72 : decode prog_14_method_29_code 72 = .ok (.aload_n 0, 1) := by decide +kernel
theorem d_M_seekPart_73 : decode prog_14_method_29_code 73 = .ok (.getfield 89, 3) := by decide +kernel
theorem d_M_seekPart_76 : decode prog_14_method_29_code 76 = .ok (.iload_n 2, 1) := by decide +kernel
theorem d_M_seekPart_77 : decode prog_14_method_29_code 77 = .ok (.aload_n 0, 1) := by decide +kernel
theorem d_M_seekPart_78 : decode prog_14_method_29_code 78 = .ok (.getfield 83, 3) := by decide +kernel
theorem d_M_seekPart_81 : decode prog_14_method_29_code 81 = .ok (.iload_n 2, 1) := by decide +kernel
theorem d_M_seekPart_82 : decode prog_14_method_29_code 82 = .ok (.iaload, 1) := by decide +kernel
theorem d_M_seekPart_83 : decode prog_14_method_29_code 83 = .ok (.iastore, 1) := by decide +kernel
theorem d_M_seekPart_84 : decode prog_14_method_29_code 84 = .ok (.iinc 2 1, 3) := by decide +kernel
theorem d_M_seekPart_87 : decode prog_14_method_29_code 87 = .ok (.goto (-28), 3) := by decide +kernel
theorem d_M_seekPart_90 : decode prog_14_method_29_code 90 = .ok (.aload_n 0, 1) := by decide +kernel
theorem d_M_seekPart_91 : decode prog_14_method_29_code 91 = .ok (.iload_n 1, 1) := by decide +kernel
theorem d_M_seekPart_92 : decode prog_14_method_29_code 92 = .ok (.iconst 4, 1) := by decide +kernel
theorem d_M_seekPart_93 : decode prog_14_method_29_code 93 = .ok (.if_icmp .ne 10, 3) := by decide +kernel
theorem d_M_seekPart_96 : decode prog_14_method_29_code 96 = .ok (.aload_n 0, 1) := by decide +kernel
theorem d_M_seekPart_97 : decode prog_14_method_29_code 97 = .ok (.getfield 164, 3) := by decide +kernel
theorem d_M_seekPart_100 : decode prog_14_method_29_code 100 = .ok (.goto 7, 3) := by decide +kernel
theorem d_M_seekPart_103 : decode prog_14_method_29_code 103 = .ok (.aload_n 0, 1) := by decide +kernel
theorem d_M_seekPart_104 : decode prog_14_method_29_code 104 = .ok (.getfield 185, 3) := by decide +kernel
theorem d_M_seekPart_107 : decode prog_14_method_29_code 107 = .ok (.putfield 185, 3) := by decide +kernel
theorem d_M_seekPart_110 : decode prog_14_method_29_code 110 = .ok (.iconst 1, 1) := by decide +kernel
theorem d_M_seekPart_111 : decode prog_14_method_29_code 111 = .ok (.ireturn, 1) := by decide +kernel
def wq_M_seekPart_107 (a : Nat) (p0 : Int32) (Q : Int32 → ab_H → Prop)  (s0 : Option Nat) (s1 : Int32) (A : ab_H) : Prop := wp A s0 14 40 (.int s1) (fun A => Q (1 : Int32) A)
set_option maxRecDepth 100000 in
set_option maxHeartbeats 4000000 in
theorem sq_M_seekPart_107 {l : Launch} {G : mm_G} {a : Nat} {p0 : Int32} {Q : Int32 → ab_H → Prop}   : ∀ (s0 : Option Nat) (s1 : Int32) (A : ab_H) (h : mm_H), Vw G h A → wq_M_seekPart_107 a p0 Q  s0 s1 A → mm_V l G M_M_seekPart 0 0 107 [some (va_rf (some a)), some (.int p0), none] [.int s1, va_rf s0] h (wQI G Q) := by
  intro s0 s1 A h hV hw
  unfold wq_M_seekPart_107 at hw
  refine wr_put hV hw (pc' := 110) d_M_seekPart_107 rfl pl_M_seekPart_185 (Nat.le_of_ble_eq_true rfl) (wn_I _) (fun h A hV hw => ?_)
  refine mm_iconst (v := 1) (pc' := 111) d_M_seekPart_110 rfl (by decide) ?_
  exact wr_iret hV d_M_seekPart_111 rfl rfl hw
def wq_M_seekPart_90 (a : Nat) (p0 : Int32) (Q : Int32 → ab_H → Prop)   (A : ab_H) : Prop := if p0 = (4 : Int32) then (wgI A (some a) 14 32 (fun x2 => wq_M_seekPart_107 a p0 Q (some a) x2 A)) else (wgI A (some a) 14 40 (fun x1 => wq_M_seekPart_107 a p0 Q (some a) x1 A))
set_option maxRecDepth 100000 in
set_option maxHeartbeats 4000000 in
theorem sq_M_seekPart_90 {l : Launch} {G : mm_G} {a : Nat} {p0 : Int32} {Q : Int32 → ab_H → Prop}   : ∀ (A : ab_H) (h : mm_H), Vw G h A → wq_M_seekPart_90 a p0 Q  A → mm_V l G M_M_seekPart 0 0 90 [some (va_rf (some a)), some (.int p0), none] [] h (wQI G Q) := by
  intro A h hV hw
  unfold wq_M_seekPart_90 at hw
  refine wr_aload_n (some a) (pc' := 91) d_M_seekPart_90 rfl rfl rfl ?_
  refine mm_iload_n (pc' := 92) d_M_seekPart_91 rfl rfl rfl ?_
  refine mm_iconst (v := 4) (pc' := 93) d_M_seekPart_92 rfl (by decide) ?_
  refine wr_icmp_ne hw (pc' := 96) d_M_seekPart_93 rfl rfl (fun hw => ?_) (fun hw => ?_)
  · refine wr_aload_n (some a) (pc' := 104) d_M_seekPart_103 rfl rfl rfl ?_
    refine wr_getI hV hw (pc' := 107) d_M_seekPart_104 rfl fl_M_185 (fun x1 hw => ?_)
    exact mm_drop (mm_le.s (mm_le.s (mm_le.n mm_le.e))) (sq_M_seekPart_107  _ _ _ _ hV hw)
  · refine wr_aload_n (some a) (pc' := 97) d_M_seekPart_96 rfl rfl rfl ?_
    refine wr_getI hV hw (pc' := 100) d_M_seekPart_97 rfl fl_M_164 (fun x2 hw => ?_)
    refine mm_goto (tgt := 107) d_M_seekPart_100 rfl ?_
    exact mm_drop (mm_le.s (mm_le.s (mm_le.n mm_le.e))) (sq_M_seekPart_107  _ _ _ _ hV hw)
def wb_M_seekPart_59 (a : Nat) (p0 : Int32) (Q : Int32 → ab_H → Prop)  (k59 : Int32 → ab_H → Prop) (u2 : Int32) (A : ab_H) : Prop := wgI A (some a) 14 32 (fun x3 => if x3 ≤ u2 then (wq_M_seekPart_90 a p0 Q A) else (if p0 = (4 : Int32) then (wgR A (some a) 14 39 (fun r4 => wgR A (some a) 14 33 (fun r5 => wAI A r5 u2 (fun x6 => wSI A r4 u2 x6 (fun A => k59 (u2 + 1) A))))) else (wq_M_seekPart_90 a p0 Q A)))
def wq_M_seekPart_59 (a : Nat) (p0 : Int32) (Q : Int32 → ab_H → Prop)  : Nat → Int32 → ab_H → Prop
  | 0 => fun _ _ => False
  | n + 1 => wb_M_seekPart_59 a p0 Q  (wq_M_seekPart_59 a p0 Q  n)
set_option maxRecDepth 100000 in
set_option maxHeartbeats 4000000 in
theorem sq_M_seekPart_59 {l : Launch} {G : mm_G} {a : Nat} {p0 : Int32} {Q : Int32 → ab_H → Prop}   : ∀ (n : Nat) (u2 : Int32) (A : ab_H) (h : mm_H), Vw G h A → wq_M_seekPart_59 a p0 Q  n u2 A → mm_V l G M_M_seekPart 0 0 59 [some (va_rf (some a)), some (.int p0), some (.int u2)] [] h (wQI G Q) := by
  intro n
  induction n with
  | zero =>
    intro u2 A h hV hw
    exact absurd hw id
  | succ n hk59 =>
    intro u2 A h hV hw
    have hw : wb_M_seekPart_59 a p0 Q  (wq_M_seekPart_59 a p0 Q  n) u2 A := hw
    unfold wb_M_seekPart_59 at hw
    refine mm_iload_n (pc' := 60) d_M_seekPart_59 rfl rfl rfl ?_
    refine wr_aload_n (some a) (pc' := 61) d_M_seekPart_60 rfl rfl rfl ?_
    refine wr_getI hV hw (pc' := 64) d_M_seekPart_61 rfl fl_M_164 (fun x3 hw => ?_)
    refine wr_icmp_ge hw (pc' := 67) d_M_seekPart_64 rfl rfl (fun hw => ?_) (fun hw => ?_)
    · exact mm_drop (mm_le.s (mm_le.s (mm_le.n mm_le.e))) (sq_M_seekPart_90  _ _ hV hw)
    · refine mm_iload_n (pc' := 68) d_M_seekPart_67 rfl rfl rfl ?_
      refine mm_iconst (v := 4) (pc' := 69) d_M_seekPart_68 rfl (by decide) ?_
      refine wr_icmp_ne hw (pc' := 72) d_M_seekPart_69 rfl rfl (fun hw => ?_) (fun hw => ?_)
      · exact mm_drop (mm_le.s (mm_le.s (mm_le.n mm_le.e))) (sq_M_seekPart_90  _ _ hV hw)
      · refine wr_aload_n (some a) (pc' := 73) d_M_seekPart_72 rfl rfl rfl ?_
        refine wr_getR hV hw (pc' := 76) d_M_seekPart_73 rfl fl_M_89 (fun r4 hw => ?_)
        refine mm_iload_n (pc' := 77) d_M_seekPart_76 rfl rfl rfl ?_
        refine wr_aload_n (some a) (pc' := 78) d_M_seekPart_77 rfl rfl rfl ?_
        refine wr_getR hV hw (pc' := 81) d_M_seekPart_78 rfl fl_M_83 (fun r5 hw => ?_)
        refine mm_iload_n (pc' := 82) d_M_seekPart_81 rfl rfl rfl ?_
        refine wr_aldI hV hw (pc' := 83) d_M_seekPart_82 rfl (fun x6 hw => ?_)
        refine wr_astI hV hw (pc' := 84) d_M_seekPart_83 rfl (fun h A hV hw => ?_)
        refine mm_iinc2 (v := (u2 + 1)) (pc' := 87) d_M_seekPart_84 rfl rfl rfl (Nat.le_of_ble_eq_true rfl) ?_
        refine mm_goto (tgt := 59) d_M_seekPart_87 rfl ?_
        exact mm_drop (mm_le.s (mm_le.s (mm_le.s mm_le.e))) (hk59 _ _ _ hV hw)
def wq_M_seekPart_57 (a : Nat) (p0 : Int32) (Q : Int32 → ab_H → Prop)   (A : ab_H) : Prop := ∃ n, wq_M_seekPart_59 a p0 Q n (0 : Int32) A
set_option maxRecDepth 100000 in
set_option maxHeartbeats 4000000 in
theorem sq_M_seekPart_57 {l : Launch} {G : mm_G} {a : Nat} {p0 : Int32} {Q : Int32 → ab_H → Prop}   : ∀ (A : ab_H) (h : mm_H), Vw G h A → wq_M_seekPart_57 a p0 Q  A → mm_V l G M_M_seekPart 0 0 57 [some (va_rf (some a)), some (.int p0), none] [] h (wQI G Q) := by
  intro A h hV hw
  unfold wq_M_seekPart_57 at hw
  refine mm_iconst (v := 0) (pc' := 58) d_M_seekPart_57 rfl (by decide) ?_
  refine mm_ist2 (pc' := 59) d_M_seekPart_58 rfl rfl (Nat.le_of_ble_eq_true rfl) ?_
  obtain ⟨n, hw⟩ := hw
  exact mm_drop (mm_le.s (mm_le.s (mm_le.s mm_le.e))) (sq_M_seekPart_59  n _ _ _ hV hw)
def wq_M_seekPart_40 (a : Nat) (p0 : Int32) (Q : Int32 → ab_H → Prop)   (A : ab_H) : Prop := if p0 = (1 : Int32) then (wC A (some a) 14 (fun b => wp_M_pathAt b  A (fun x7 A => wC A (some a) 14 (fun b => wp_M_pathEnd b  A (fun x8 A => wC A (some a) 14 (fun b => wp_M_decode b x7 x8 A (fun A => wq_M_seekPart_57 a p0 Q A))))))) else (wq_M_seekPart_57 a p0 Q A)
set_option maxRecDepth 100000 in
set_option maxHeartbeats 4000000 in
theorem sq_M_seekPart_40 {l : Launch} {G : mm_G} {a : Nat} {p0 : Int32} {Q : Int32 → ab_H → Prop}   : ∀ (A : ab_H) (h : mm_H), Vw G h A → wq_M_seekPart_40 a p0 Q  A → mm_V l G M_M_seekPart 0 0 40 [some (va_rf (some a)), some (.int p0), none] [] h (wQI G Q) := by
  intro A h hV hw
  unfold wq_M_seekPart_40 at hw
  refine mm_iload_n (pc' := 41) d_M_seekPart_40 rfl rfl rfl ?_
  refine mm_iconst (v := 1) (pc' := 42) d_M_seekPart_41 rfl (by decide) ?_
  refine wr_icmp_ne hw (pc' := 45) d_M_seekPart_42 rfl rfl (fun hw => ?_) (fun hw => ?_)
  · exact mm_drop (mm_le.s (mm_le.s (mm_le.n mm_le.e))) (sq_M_seekPart_57  _ _ hV hw)
  · refine wr_aload_n (some a) (pc' := 46) d_M_seekPart_45 rfl rfl rfl ?_
    refine wr_aload_n (some a) (pc' := 47) d_M_seekPart_46 rfl rfl rfl ?_
    refine wr_cVI (pc' := 50) (as := []) (st := [va_rf (some a)]) d_M_seekPart_47 rfl cs_M_113 rfl (W := fun b Q' => wp_M_pathAt b  A Q') hV hw (fun b Q' hw => sd_M_pathAt hV hw) rfl rfl (Nat.le_of_ble_eq_true rfl) (Nat.le_trans (wr_hR wr_h0) (Nat.le_of_ble_eq_true rfl)) (fun x7 h A hV hw => ?_)
    refine wr_aload_n (some a) (pc' := 51) d_M_seekPart_50 rfl rfl rfl ?_
    refine wr_cVI (pc' := 54) (as := []) (st := [.int x7, va_rf (some a)]) d_M_seekPart_51 rfl cs_M_120 rfl (W := fun b Q' => wp_M_pathEnd b  A Q') hV hw (fun b Q' hw => sd_M_pathEnd hV hw) rfl rfl (Nat.le_of_ble_eq_true rfl) (Nat.le_trans (wr_hI (wr_hR wr_h0)) (Nat.le_of_ble_eq_true rfl)) (fun x8 h A hV hw => ?_)
    refine wr_cVV (pc' := 57) (as := [.int x7, .int x8]) (st := []) d_M_seekPart_54 rfl cs_M_195 rfl (W := fun b Q' => wp_M_decode b x7 x8 A Q') hV hw (fun b Q' hw => sd_M_decode hV hw) rfl rfl (Nat.le_of_ble_eq_true rfl) (Nat.le_of_ble_eq_true rfl) (fun h A hV hw => ?_)
    exact mm_drop (mm_le.s (mm_le.s (mm_le.n mm_le.e))) (sq_M_seekPart_57  _ _ hV hw)
def wp_M_seekPart (a : Nat) (p0 : Int32) (A : ab_H) (Q : Int32 → ab_H → Prop) : Prop := if p0 = (2 : Int32) then (wC A (some a) 14 (fun b => wp_M_parameter b  A (fun x12 A => wB x12 (Q x12 A)))) else (if p0 = (3 : Int32) then (wC A (some a) 14 (fun b => wp_M_headerOf b  A (fun x11 A => wB x11 (Q x11 A)))) else (if p0 = 0 then (wgI A (some a) 14 28 (fun x9 => wC A (some a) 14 (fun b => wp_M_seek b (32 : Int32) (0 : Int32) x9 A (fun x10 A => wC A (some a) 14 (fun b => wp_M_raw b (0 : Int32) x10 A (fun A => wq_M_seekPart_40 a p0 Q A)))))) else (wq_M_seekPart_40 a p0 Q A)))
set_option maxRecDepth 100000 in
set_option maxHeartbeats 4000000 in
theorem sd_M_seekPart {l : Launch} {G : mm_G} {h : mm_H} {A : ab_H} {a : Nat} {p0 : Int32} {Q : Int32 → ab_H → Prop} (hV : Vw G h A) (hw : wp_M_seekPart a p0 A Q) : mm_S l G M_M_seekPart [.ref a, .int p0] h 0 0 (wQI G Q) := by
  unfold wp_M_seekPart at hw
  refine mm_start rfl (Nat.le_of_ble_eq_true rfl) ?_
  show mm_V l G M_M_seekPart 0 0 0 [some (va_rf (some a)), some (.int p0), none] [] h _
  refine mm_iload_n (pc' := 1) d_M_seekPart_0 rfl rfl rfl ?_
  refine mm_iconst (v := 2) (pc' := 2) d_M_seekPart_1 rfl (by decide) ?_
  refine wr_icmp_ne hw (pc' := 5) d_M_seekPart_2 rfl rfl (fun hw => ?_) (fun hw => ?_)
  · refine mm_iload_n (pc' := 11) d_M_seekPart_10 rfl rfl rfl ?_
    refine mm_iconst (v := 3) (pc' := 12) d_M_seekPart_11 rfl (by decide) ?_
    refine wr_icmp_ne hw (pc' := 15) d_M_seekPart_12 rfl rfl (fun hw => ?_) (fun hw => ?_)
    · refine mm_iload_n (pc' := 21) d_M_seekPart_20 rfl rfl rfl ?_
      refine wr_if_ne hw (pc' := 24) d_M_seekPart_21 rfl rfl (fun hw => ?_) (fun hw => ?_)
      · exact mm_drop (mm_le.s (mm_le.s (mm_le.n mm_le.e))) (sq_M_seekPart_40  _ _ hV hw)
      · refine wr_aload_n (some a) (pc' := 25) d_M_seekPart_24 rfl rfl rfl ?_
        refine mm_iconst (v := 0) (pc' := 26) d_M_seekPart_25 rfl (by decide) ?_
        refine wr_aload_n (some a) (pc' := 27) d_M_seekPart_26 rfl rfl rfl ?_
        refine mm_bipush (v := 32) (pc' := 29) d_M_seekPart_27 rfl (by decide) ?_
        refine mm_iconst (v := 0) (pc' := 30) d_M_seekPart_29 rfl (by decide) ?_
        refine wr_aload_n (some a) (pc' := 31) d_M_seekPart_30 rfl rfl rfl ?_
        refine wr_getI hV hw (pc' := 34) d_M_seekPart_31 rfl fl_M_95 (fun x9 hw => ?_)
        refine wr_cVI (pc' := 37) (as := [.int (32 : Int32), .int (0 : Int32), .int x9]) (st := [.int (0 : Int32), va_rf (some a)]) d_M_seekPart_34 rfl cs_M_109 rfl (W := fun b Q' => wp_M_seek b (32 : Int32) (0 : Int32) x9 A Q') hV hw (fun b Q' hw => sd_M_seek hV hw) rfl rfl (Nat.le_of_ble_eq_true rfl) (Nat.le_trans (wr_hI (wr_hR wr_h0)) (Nat.le_of_ble_eq_true rfl)) (fun x10 h A hV hw => ?_)
        refine wr_cVV (pc' := 40) (as := [.int (0 : Int32), .int x10]) (st := []) d_M_seekPart_37 rfl cs_M_203 rfl (W := fun b Q' => wp_M_raw b (0 : Int32) x10 A Q') hV hw (fun b Q' hw => sd_M_raw hV hw) rfl rfl (Nat.le_of_ble_eq_true rfl) (Nat.le_of_ble_eq_true rfl) (fun h A hV hw => ?_)
        exact mm_drop (mm_le.s (mm_le.s (mm_le.n mm_le.e))) (sq_M_seekPart_40  _ _ hV hw)
    · refine wr_aload_n (some a) (pc' := 16) d_M_seekPart_15 rfl rfl rfl ?_
      refine wr_cVI (pc' := 19) (as := []) (st := []) d_M_seekPart_16 rfl cs_M_210 rfl (W := fun b Q' => wp_M_headerOf b  A Q') hV hw (fun b Q' hw => sd_M_headerOf hV hw) rfl rfl (Nat.le_of_ble_eq_true rfl) (Nat.le_of_ble_eq_true rfl) (fun x11 h A hV hw => ?_)
      obtain ⟨hb, hw⟩ := hw
      exact wr_iret hV d_M_seekPart_19 rfl (wn_b hb) hw
  · refine wr_aload_n (some a) (pc' := 6) d_M_seekPart_5 rfl rfl rfl ?_
    refine wr_cVI (pc' := 9) (as := []) (st := []) d_M_seekPart_6 rfl cs_M_206 rfl (W := fun b Q' => wp_M_parameter b  A Q') hV hw (fun b Q' hw => sd_M_parameter hV hw) rfl rfl (Nat.le_of_ble_eq_true rfl) (Nat.le_of_ble_eq_true rfl) (fun x12 h A hV hw => ?_)
    obtain ⟨hb, hw⟩ := hw
    exact wr_iret hV d_M_seekPart_9 rfl (wn_b hb) hw
theorem d_M_letterOf_0 : decode prog_14_method_30_code 0 = .ok (.iload_n 2, 1) := by decide +kernel
theorem d_M_letterOf_1 : decode prog_14_method_30_code 1 = .ok (.aload_n 0, 1) := by decide +kernel
theorem d_M_letterOf_2 : decode prog_14_method_30_code 2 = .ok (.getfield 44, 3) := by decide +kernel
theorem d_M_letterOf_5 : decode prog_14_method_30_code 5 = .ok (.iload_n 1, 1) := by decide +kernel
theorem d_M_letterOf_6 : decode prog_14_method_30_code 6 = .ok (.iaload, 1) := by decide +kernel
theorem d_M_letterOf_7 : decode prog_14_method_30_code 7 = .ok (.if_icmp .ge 17, 3) := by decide +kernel
theorem d_M_letterOf_10 : decode prog_14_method_30_code 10 = .ok (.aload_n 0, 1) := by decide +kernel
theorem d_M_letterOf_11 : decode prog_14_method_30_code 11 = .ok (.getfield 47, 3) := by decide +kernel
theorem d_M_letterOf_14 : decode prog_14_method_30_code 14 = .ok (.bipush 40, 2) := by decide +kernel
theorem d_M_letterOf_16 : decode prog_14_method_30_code 16 = .ok (.iload_n 1, 1) := by decide +kernel
theorem d_M_letterOf_17 : decode prog_14_method_30_code 17 = .ok (.imul, 1) := by decide +kernel
theorem d_M_letterOf_18 : decode prog_14_method_30_code 18 = .ok (.iload_n 2, 1) := by decide +kernel
theorem d_M_letterOf_19 : decode prog_14_method_30_code 19 = .ok (.iadd, 1) := by decide +kernel
theorem d_M_letterOf_20 : decode prog_14_method_30_code 20 = .ok (.iaload, 1) := by decide +kernel
theorem d_M_letterOf_21 : decode prog_14_method_30_code 21 = .ok (.goto 4, 3) := by decide +kernel
theorem d_M_letterOf_24 : decode prog_14_method_30_code 24 = .ok (.iconst (-1), 1) := by decide +kernel
theorem d_M_letterOf_25 : decode prog_14_method_30_code 25 = .ok (.ireturn, 1) := by decide +kernel
def wp_M_letterOf (a : Nat) (p0 : Int32) (p1 : Int32) (A : ab_H) (Q : Int32 → ab_H → Prop) : Prop := wgR A (some a) 14 14 (fun r1 => wAI A r1 p0 (fun x2 => if x2 ≤ p1 then (Q ((-1) : Int32) A) else (wgR A (some a) 14 15 (fun r3 => wAI A r3 (((40 : Int32) * p0) + p1) (fun x4 => Q x4 A)))))
set_option maxRecDepth 100000 in
set_option maxHeartbeats 4000000 in
theorem sd_M_letterOf {l : Launch} {G : mm_G} {h : mm_H} {A : ab_H} {a : Nat} {p0 : Int32} {p1 : Int32} {Q : Int32 → ab_H → Prop} (hV : Vw G h A) (hw : wp_M_letterOf a p0 p1 A Q) : mm_S l G M_M_letterOf [.ref a, .int p0, .int p1] h 0 0 (wQI G Q) := by
  unfold wp_M_letterOf at hw
  refine mm_start rfl (Nat.le_of_ble_eq_true rfl) ?_
  show mm_V l G M_M_letterOf 0 0 0 [some (va_rf (some a)), some (.int p0), some (.int p1)] [] h _
  refine mm_iload_n (pc' := 1) d_M_letterOf_0 rfl rfl rfl ?_
  refine wr_aload_n (some a) (pc' := 2) d_M_letterOf_1 rfl rfl rfl ?_
  refine wr_getR hV hw (pc' := 5) d_M_letterOf_2 rfl fl_M_44 (fun r1 hw => ?_)
  refine mm_iload_n (pc' := 6) d_M_letterOf_5 rfl rfl rfl ?_
  refine wr_aldI hV hw (pc' := 7) d_M_letterOf_6 rfl (fun x2 hw => ?_)
  refine wr_icmp_ge hw (pc' := 10) d_M_letterOf_7 rfl rfl (fun hw => ?_) (fun hw => ?_)
  · refine mm_iconst (v := (-1)) (pc' := 25) d_M_letterOf_24 rfl (by decide) ?_
    exact wr_iret hV d_M_letterOf_25 rfl rfl hw
  · refine wr_aload_n (some a) (pc' := 11) d_M_letterOf_10 rfl rfl rfl ?_
    refine wr_getR hV hw (pc' := 14) d_M_letterOf_11 rfl fl_M_47 (fun r3 hw => ?_)
    refine mm_bipush (v := 40) (pc' := 16) d_M_letterOf_14 rfl (by decide) ?_
    refine mm_iload_n (pc' := 17) d_M_letterOf_16 rfl rfl rfl ?_
    refine mm_imul (pc' := 18) d_M_letterOf_17 rfl ?_
    refine mm_iload_n (pc' := 19) d_M_letterOf_18 rfl rfl rfl ?_
    refine mm_iadd (pc' := 20) d_M_letterOf_19 rfl ?_
    refine wr_aldI hV hw (pc' := 21) d_M_letterOf_20 rfl (fun x4 hw => ?_)
    refine mm_goto (tgt := 25) d_M_letterOf_21 rfl ?_
    exact wr_iret hV d_M_letterOf_25 rfl rfl hw
theorem d_M_pieceEnd_0 : decode prog_14_method_31_code 0 = .ok (.aload_n 0, 1) := by decide +kernel
theorem d_M_pieceEnd_1 : decode prog_14_method_31_code 1 = .ok (.iload_n 1, 1) := by decide +kernel
theorem d_M_pieceEnd_2 : decode prog_14_method_31_code 2 = .ok (.iload_n 2, 1) := by decide +kernel
theorem d_M_pieceEnd_3 : decode prog_14_method_31_code 3 = .ok (.invokevirtual 213, 3) := by decide +kernel
theorem d_M_pieceEnd_6 : decode prog_14_method_31_code 6 = .ok (.istore_n 3, 1) := by decide +kernel
theorem d_M_pieceEnd_7 : decode prog_14_method_31_code 7 = .ok (.iload_n 3, 1) := by decide +kernel
theorem d_M_pieceEnd_8 : decode prog_14_method_31_code 8 = .ok (.bipush 42, 2) := by decide +kernel
theorem d_M_pieceEnd_10 : decode prog_14_method_31_code 10 = .ok (.if_icmp .eq 25, 3) := by decide +kernel
theorem d_M_pieceEnd_13 : decode prog_14_method_31_code 13 = .ok (.iload_n 3, 1) := by decide +kernel
theorem d_M_pieceEnd_14 : decode prog_14_method_31_code 14 = .ok (.bipush 63, 2) := by decide +kernel
theorem d_M_pieceEnd_16 : decode prog_14_method_31_code 16 = .ok (.if_icmp .eq 19, 3) := by decide +kernel
theorem d_M_pieceEnd_19 : decode prog_14_method_31_code 19 = .ok (.iload_n 3, 1) := by decide +kernel
theorem d_M_pieceEnd_20 : decode prog_14_method_31_code 20 = .ok (.bipush 124, 2) := by decide +kernel
theorem d_M_pieceEnd_22 : decode prog_14_method_31_code 22 = .ok (.if_icmp .eq 13, 3) := by decide +kernel
theorem d_M_pieceEnd_25 : decode prog_14_method_31_code 25 = .ok (.iload_n 3, 1) := by decide +kernel
theorem d_M_pieceEnd_26 : decode prog_14_method_31_code 26 = .ok (.bipush 93, 2) := by decide +kernel
theorem d_M_pieceEnd_28 : decode prog_14_method_31_code 28 = .ok (.if_icmp .eq 7, 3) := by decide +kernel
theorem d_M_pieceEnd_31 : decode prog_14_method_31_code 31 = .ok (.iload_n 3, 1) := by decide +kernel
theorem d_M_pieceEnd_32 : decode prog_14_method_31_code 32 = .ok (.ifCond .ge 5, 3) := by decide +kernel
theorem d_M_pieceEnd_35 : decode prog_14_method_31_code 35 = .ok (.iconst (-1), 1) := by decide +kernel
theorem d_M_pieceEnd_36 : decode prog_14_method_31_code 36 = .ok (.ireturn, 1) := by decide +kernel
theorem d_M_pieceEnd_37 : decode prog_14_method_31_code 37 = .ok (.iload_n 3, 1) := by decide +kernel
theorem d_M_pieceEnd_38 : decode prog_14_method_31_code 38 = .ok (.bipush 91, 2) := by decide +kernel
theorem d_M_pieceEnd_40 : decode prog_14_method_31_code 40 = .ok (.if_icmp .eq 7, 3) := by decide +kernel
theorem d_M_pieceEnd_43 : decode prog_14_method_31_code 43 = .ok (.iload_n 2, 1) := by decide +kernel
theorem d_M_pieceEnd_44 : decode prog_14_method_31_code 44 = .ok (.iconst 1, 1) := by decide +kernel
theorem d_M_pieceEnd_45 : decode prog_14_method_31_code 45 = .ok (.iadd, 1) := by decide +kernel
theorem d_M_pieceEnd_46 : decode prog_14_method_31_code 46 = .ok (.ireturn, 1) := by decide +kernel
theorem d_M_pieceEnd_47 : decode prog_14_method_31_code 47 = .ok (.iload_n 2, 1) := by decide +kernel
theorem d_M_pieceEnd_48 : decode prog_14_method_31_code 48 = .ok (.iconst 1, 1) := by decide +kernel
theorem d_M_pieceEnd_49 : decode prog_14_method_31_code 49 = .ok (.iadd, 1) := by decide +kernel
theorem d_M_pieceEnd_50 : decode prog_14_method_31_code 50 = .ok (.istore 4, 2) := by decide +kernel
theorem d_M_pieceEnd_52 : decode prog_14_method_31_code 52 = .ok (.iload 4, 2) := by decide +kernel
theorem d_M_pieceEnd_54 : decode prog_14_method_31_code 54 = .ok (.aload_n 0, 1) := by decide +kernel
theorem d_M_pieceEnd_55 : decode prog_14_method_31_code 55 = .ok (.getfield 44, 3) := by decide +kernel
theorem d_M_pieceEnd_58 : decode prog_14_method_31_code 58 = .ok (.iload_n 1, 1) := by decide +kernel
theorem d_M_pieceEnd_59 : decode prog_14_method_31_code 59 = .ok (.iaload, 1) := by decide +kernel
theorem d_M_pieceEnd_60 : decode prog_14_method_31_code 60 = .ok (.if_icmp .ge 33, 3) := by decide +kernel
theorem d_M_pieceEnd_63 : decode prog_14_method_31_code 63 = .ok (.aload_n 0, 1) := by decide +kernel
theorem d_M_pieceEnd_64 : decode prog_14_method_31_code 64 = .ok (.iload_n 1, 1) := by decide +kernel
theorem d_M_pieceEnd_65 : decode prog_14_method_31_code 65 = .ok (.iload 4, 2) := by decide +kernel
theorem d_M_pieceEnd_67 : decode prog_14_method_31_code 67 = .ok (.invokevirtual 213, 3) := by decide +kernel
theorem d_M_pieceEnd_70 : decode prog_14_method_31_code 70 = .ok (.bipush 91, 2) := by decide +kernel
theorem d_M_pieceEnd_72 : decode prog_14_method_31_code 72 = .ok (.if_icmp .eq 21, 3) := by decide +kernel
theorem d_M_pieceEnd_75 : decode prog_14_method_31_code 75 = .ok (.aload_n 0, 1) := by decide +kernel
theorem d_M_pieceEnd_76 : decode prog_14_method_31_code 76 = .ok (.iload_n 1, 1) := by decide +kernel
theorem d_M_pieceEnd_77 : decode prog_14_method_31_code 77 = .ok (.iload 4, 2) := by decide +kernel
theorem d_M_pieceEnd_79 : decode prog_14_method_31_code 79 = .ok (.invokevirtual 213, 3) := by decide +kernel
theorem d_M_pieceEnd_82 : decode prog_14_method_31_code 82 = .ok (.bipush 93, 2) := by decide +kernel
theorem d_M_pieceEnd_84 : decode prog_14_method_31_code 84 = .ok (.if_icmp .eq 9, 3) := by decide +kernel
theorem d_M_pieceEnd_87 : decode prog_14_method_31_code 87 = .ok (.iinc 4 1, 3) := by decide +kernel
theorem d_M_pieceEnd_90 : decode prog_14_method_31_code 90 = .ok (.goto (-38), 3) := by decide +kernel
theorem d_M_pieceEnd_93 : decode prog_14_method_31_code 93 = .ok (.aload_n 0, 1) := by decide +kernel
theorem d_M_pieceEnd_94 : decode prog_14_method_31_code 94 = .ok (.iload_n 1, 1) := by decide +kernel
theorem d_M_pieceEnd_95 : decode prog_14_method_31_code 95 = .ok (.iload 4, 2) := by decide +kernel
theorem d_M_pieceEnd_97 : decode prog_14_method_31_code 97 = .ok (.invokevirtual 213, 3) := by decide +kernel
theorem d_M_pieceEnd_100 : decode prog_14_method_31_code 100 = .ok (.bipush 93, 2) := by decide +kernel
theorem d_M_pieceEnd_102 : decode prog_14_method_31_code 102 = .ok (.if_icmp .ne 18, 3) := by decide +kernel
theorem d_M_pieceEnd_105 : decode prog_14_method_31_code 105 = .ok (.iload 4, 2) := by decide +kernel
theorem d_M_pieceEnd_107 : decode prog_14_method_31_code 107 = .ok (.iload_n 2, 1) := by decide +kernel
theorem d_M_pieceEnd_108 : decode prog_14_method_31_code 108 = .ok (.iconst 1, 1) := by decide +kernel
theorem d_M_pieceEnd_109 : decode prog_14_method_31_code 109 = .ok (.iadd, 1) := by decide +kernel
theorem d_M_pieceEnd_110 : decode prog_14_method_31_code 110 = .ok (.if_icmp .le 10, 3) := by decide +kernel
theorem d_M_pieceEnd_113 : decode prog_14_method_31_code 113 = .ok (.iload 4, 2) := by decide +kernel
theorem d_M_pieceEnd_115 : decode prog_14_method_31_code 115 = .ok (.iconst 1, 1) := by decide +kernel
theorem d_M_pieceEnd_116 : decode prog_14_method_31_code 116 = .ok (.iadd, 1) := by decide +kernel
theorem d_M_pieceEnd_117 : decode prog_14_method_31_code 117 = .ok (.goto 4, 3) := by decide +kernel
theorem d_M_pieceEnd_120 : decode prog_14_method_31_code 120 = .ok (.iconst (-1), 1) := by decide +kernel
theorem d_M_pieceEnd_121 : decode prog_14_method_31_code 121 = .ok (.ireturn, 1) := by decide +kernel
def wq_M_pieceEnd_93 (a : Nat) (p0 : Int32) (p1 : Int32) (Q : Int32 → ab_H → Prop)  (u4 : Int32) (A : ab_H) : Prop := wC A (some a) 14 (fun b => wp_M_letterOf b p0 u4 A (fun x1 A => if x1 = (93 : Int32) then (if u4 ≤ (p1 + (1 : Int32)) then (Q ((-1) : Int32) A) else (Q (u4 + (1 : Int32)) A)) else (Q ((-1) : Int32) A)))
set_option maxRecDepth 100000 in
set_option maxHeartbeats 4000000 in
theorem sq_M_pieceEnd_93 {l : Launch} {G : mm_G} {a : Nat} {p0 : Int32} {p1 : Int32} {Q : Int32 → ab_H → Prop}   : ∀ (u4 : Int32) (A : ab_H) (h : mm_H), Vw G h A → wq_M_pieceEnd_93 a p0 p1 Q  u4 A → mm_V l G M_M_pieceEnd 0 0 93 [some (va_rf (some a)), some (.int p0), some (.int p1), none, some (.int u4)] [] h (wQI G Q) := by
  intro u4 A h hV hw
  unfold wq_M_pieceEnd_93 at hw
  refine wr_aload_n (some a) (pc' := 94) d_M_pieceEnd_93 rfl rfl rfl ?_
  refine mm_iload_n (pc' := 95) d_M_pieceEnd_94 rfl rfl rfl ?_
  refine mm_iload (pc' := 97) d_M_pieceEnd_95 rfl rfl ?_
  refine wr_cVI (pc' := 100) (as := [.int p0, .int u4]) (st := []) d_M_pieceEnd_97 rfl cs_M_213 rfl (W := fun b Q' => wp_M_letterOf b p0 u4 A Q') hV hw (fun b Q' hw => sd_M_letterOf hV hw) rfl rfl (Nat.le_of_ble_eq_true rfl) (Nat.le_of_ble_eq_true rfl) (fun x1 h A hV hw => ?_)
  refine mm_bipush (v := 93) (pc' := 102) d_M_pieceEnd_100 rfl (by decide) ?_
  refine wr_icmp_ne hw (pc' := 105) d_M_pieceEnd_102 rfl rfl (fun hw => ?_) (fun hw => ?_)
  · refine mm_iconst (v := (-1)) (pc' := 121) d_M_pieceEnd_120 rfl (by decide) ?_
    exact wr_iret hV d_M_pieceEnd_121 rfl rfl hw
  · refine mm_iload (pc' := 107) d_M_pieceEnd_105 rfl rfl ?_
    refine mm_iload_n (pc' := 108) d_M_pieceEnd_107 rfl rfl rfl ?_
    refine mm_iconst (v := 1) (pc' := 109) d_M_pieceEnd_108 rfl (by decide) ?_
    refine mm_iadd (pc' := 110) d_M_pieceEnd_109 rfl ?_
    refine wr_icmp_le hw (pc' := 113) d_M_pieceEnd_110 rfl rfl (fun hw => ?_) (fun hw => ?_)
    · refine mm_iconst (v := (-1)) (pc' := 121) d_M_pieceEnd_120 rfl (by decide) ?_
      exact wr_iret hV d_M_pieceEnd_121 rfl rfl hw
    · refine mm_iload (pc' := 115) d_M_pieceEnd_113 rfl rfl ?_
      refine mm_iconst (v := 1) (pc' := 116) d_M_pieceEnd_115 rfl (by decide) ?_
      refine mm_iadd (pc' := 117) d_M_pieceEnd_116 rfl ?_
      refine mm_goto (tgt := 121) d_M_pieceEnd_117 rfl ?_
      exact wr_iret hV d_M_pieceEnd_121 rfl rfl hw
def wb_M_pieceEnd_52 (a : Nat) (p0 : Int32) (p1 : Int32) (Q : Int32 → ab_H → Prop)  (k52 : Int32 → ab_H → Prop) (u4 : Int32) (A : ab_H) : Prop := wgR A (some a) 14 14 (fun r2 => wAI A r2 p0 (fun x3 => if x3 ≤ u4 then (wq_M_pieceEnd_93 a p0 p1 Q u4 A) else (wC A (some a) 14 (fun b => wp_M_letterOf b p0 u4 A (fun x4 A => if x4 = (91 : Int32) then (wq_M_pieceEnd_93 a p0 p1 Q u4 A) else (wC A (some a) 14 (fun b => wp_M_letterOf b p0 u4 A (fun x5 A => if x5 = (93 : Int32) then (wq_M_pieceEnd_93 a p0 p1 Q u4 A) else (k52 (u4 + 1) A)))))))))
def wq_M_pieceEnd_52 (a : Nat) (p0 : Int32) (p1 : Int32) (Q : Int32 → ab_H → Prop)  : Nat → Int32 → ab_H → Prop
  | 0 => fun _ _ => False
  | n + 1 => wb_M_pieceEnd_52 a p0 p1 Q  (wq_M_pieceEnd_52 a p0 p1 Q  n)
set_option maxRecDepth 100000 in
set_option maxHeartbeats 4000000 in
theorem sq_M_pieceEnd_52 {l : Launch} {G : mm_G} {a : Nat} {p0 : Int32} {p1 : Int32} {Q : Int32 → ab_H → Prop}   : ∀ (n : Nat) (u4 : Int32) (A : ab_H) (h : mm_H), Vw G h A → wq_M_pieceEnd_52 a p0 p1 Q  n u4 A → mm_V l G M_M_pieceEnd 0 0 52 [some (va_rf (some a)), some (.int p0), some (.int p1), none, some (.int u4)] [] h (wQI G Q) := by
  intro n
  induction n with
  | zero =>
    intro u4 A h hV hw
    exact absurd hw id
  | succ n hk52 =>
    intro u4 A h hV hw
    have hw : wb_M_pieceEnd_52 a p0 p1 Q  (wq_M_pieceEnd_52 a p0 p1 Q  n) u4 A := hw
    unfold wb_M_pieceEnd_52 at hw
    refine mm_iload (pc' := 54) d_M_pieceEnd_52 rfl rfl ?_
    refine wr_aload_n (some a) (pc' := 55) d_M_pieceEnd_54 rfl rfl rfl ?_
    refine wr_getR hV hw (pc' := 58) d_M_pieceEnd_55 rfl fl_M_44 (fun r2 hw => ?_)
    refine mm_iload_n (pc' := 59) d_M_pieceEnd_58 rfl rfl rfl ?_
    refine wr_aldI hV hw (pc' := 60) d_M_pieceEnd_59 rfl (fun x3 hw => ?_)
    refine wr_icmp_ge hw (pc' := 63) d_M_pieceEnd_60 rfl rfl (fun hw => ?_) (fun hw => ?_)
    · exact mm_drop (mm_le.s (mm_le.s (mm_le.s (mm_le.n (mm_le.s mm_le.e))))) (sq_M_pieceEnd_93  _ _ _ hV hw)
    · refine wr_aload_n (some a) (pc' := 64) d_M_pieceEnd_63 rfl rfl rfl ?_
      refine mm_iload_n (pc' := 65) d_M_pieceEnd_64 rfl rfl rfl ?_
      refine mm_iload (pc' := 67) d_M_pieceEnd_65 rfl rfl ?_
      refine wr_cVI (pc' := 70) (as := [.int p0, .int u4]) (st := []) d_M_pieceEnd_67 rfl cs_M_213 rfl (W := fun b Q' => wp_M_letterOf b p0 u4 A Q') hV hw (fun b Q' hw => sd_M_letterOf hV hw) rfl rfl (Nat.le_of_ble_eq_true rfl) (Nat.le_of_ble_eq_true rfl) (fun x4 h A hV hw => ?_)
      refine mm_bipush (v := 91) (pc' := 72) d_M_pieceEnd_70 rfl (by decide) ?_
      refine wr_icmp_eq hw (pc' := 75) d_M_pieceEnd_72 rfl rfl (fun hw => ?_) (fun hw => ?_)
      · exact mm_drop (mm_le.s (mm_le.s (mm_le.s (mm_le.n (mm_le.s mm_le.e))))) (sq_M_pieceEnd_93  _ _ _ hV hw)
      · refine wr_aload_n (some a) (pc' := 76) d_M_pieceEnd_75 rfl rfl rfl ?_
        refine mm_iload_n (pc' := 77) d_M_pieceEnd_76 rfl rfl rfl ?_
        refine mm_iload (pc' := 79) d_M_pieceEnd_77 rfl rfl ?_
        refine wr_cVI (pc' := 82) (as := [.int p0, .int u4]) (st := []) d_M_pieceEnd_79 rfl cs_M_213 rfl (W := fun b Q' => wp_M_letterOf b p0 u4 A Q') hV hw (fun b Q' hw => sd_M_letterOf hV hw) rfl rfl (Nat.le_of_ble_eq_true rfl) (Nat.le_of_ble_eq_true rfl) (fun x5 h A hV hw => ?_)
        refine mm_bipush (v := 93) (pc' := 84) d_M_pieceEnd_82 rfl (by decide) ?_
        refine wr_icmp_eq hw (pc' := 87) d_M_pieceEnd_84 rfl rfl (fun hw => ?_) (fun hw => ?_)
        · exact mm_drop (mm_le.s (mm_le.s (mm_le.s (mm_le.n (mm_le.s mm_le.e))))) (sq_M_pieceEnd_93  _ _ _ hV hw)
        · refine mm_iinc4 (v := (u4 + 1)) (pc' := 90) d_M_pieceEnd_87 rfl rfl rfl (Nat.le_of_ble_eq_true rfl) ?_
          refine mm_goto (tgt := 52) d_M_pieceEnd_90 rfl ?_
          exact mm_drop (mm_le.s (mm_le.s (mm_le.s (mm_le.n (mm_le.s mm_le.e))))) (hk52 _ _ _ hV hw)
def wp_M_pieceEnd (a : Nat) (p0 : Int32) (p1 : Int32) (A : ab_H) (Q : Int32 → ab_H → Prop) : Prop := wC A (some a) 14 (fun b => wp_M_letterOf b p0 p1 A (fun x6 A => if x6 = (42 : Int32) then (Q ((-1) : Int32) A) else (if x6 = (63 : Int32) then (Q ((-1) : Int32) A) else (if x6 = (124 : Int32) then (Q ((-1) : Int32) A) else (if x6 = (93 : Int32) then (Q ((-1) : Int32) A) else (if 0 ≤ x6 then (if x6 = (91 : Int32) then (wL ((p1 + (1 : Int32))) (fun x7 => ∃ n, wq_M_pieceEnd_52 a p0 p1 Q n x7 A)) else (Q (p1 + (1 : Int32)) A)) else (Q ((-1) : Int32) A)))))))
set_option maxRecDepth 100000 in
set_option maxHeartbeats 4000000 in
theorem sd_M_pieceEnd {l : Launch} {G : mm_G} {h : mm_H} {A : ab_H} {a : Nat} {p0 : Int32} {p1 : Int32} {Q : Int32 → ab_H → Prop} (hV : Vw G h A) (hw : wp_M_pieceEnd a p0 p1 A Q) : mm_S l G M_M_pieceEnd [.ref a, .int p0, .int p1] h 0 0 (wQI G Q) := by
  unfold wp_M_pieceEnd at hw
  refine mm_start rfl (Nat.le_of_ble_eq_true rfl) ?_
  show mm_V l G M_M_pieceEnd 0 0 0 [some (va_rf (some a)), some (.int p0), some (.int p1), none, none] [] h _
  refine wr_aload_n (some a) (pc' := 1) d_M_pieceEnd_0 rfl rfl rfl ?_
  refine mm_iload_n (pc' := 2) d_M_pieceEnd_1 rfl rfl rfl ?_
  refine mm_iload_n (pc' := 3) d_M_pieceEnd_2 rfl rfl rfl ?_
  refine wr_cVI (pc' := 6) (as := [.int p0, .int p1]) (st := []) d_M_pieceEnd_3 rfl cs_M_213 rfl (W := fun b Q' => wp_M_letterOf b p0 p1 A Q') hV hw (fun b Q' hw => sd_M_letterOf hV hw) rfl rfl (Nat.le_of_ble_eq_true rfl) (Nat.le_of_ble_eq_true rfl) (fun x6 h A hV hw => ?_)
  refine mm_ist3 (pc' := 7) d_M_pieceEnd_6 rfl rfl (Nat.le_of_ble_eq_true rfl) ?_
  refine mm_iload_n (pc' := 8) d_M_pieceEnd_7 rfl rfl rfl ?_
  refine mm_bipush (v := 42) (pc' := 10) d_M_pieceEnd_8 rfl (by decide) ?_
  refine wr_icmp_eq hw (pc' := 13) d_M_pieceEnd_10 rfl rfl (fun hw => ?_) (fun hw => ?_)
  · refine mm_iconst (v := (-1)) (pc' := 36) d_M_pieceEnd_35 rfl (by decide) ?_
    exact wr_iret hV d_M_pieceEnd_36 rfl rfl hw
  · refine mm_iload_n (pc' := 14) d_M_pieceEnd_13 rfl rfl rfl ?_
    refine mm_bipush (v := 63) (pc' := 16) d_M_pieceEnd_14 rfl (by decide) ?_
    refine wr_icmp_eq hw (pc' := 19) d_M_pieceEnd_16 rfl rfl (fun hw => ?_) (fun hw => ?_)
    · refine mm_iconst (v := (-1)) (pc' := 36) d_M_pieceEnd_35 rfl (by decide) ?_
      exact wr_iret hV d_M_pieceEnd_36 rfl rfl hw
    · refine mm_iload_n (pc' := 20) d_M_pieceEnd_19 rfl rfl rfl ?_
      refine mm_bipush (v := 124) (pc' := 22) d_M_pieceEnd_20 rfl (by decide) ?_
      refine wr_icmp_eq hw (pc' := 25) d_M_pieceEnd_22 rfl rfl (fun hw => ?_) (fun hw => ?_)
      · refine mm_iconst (v := (-1)) (pc' := 36) d_M_pieceEnd_35 rfl (by decide) ?_
        exact wr_iret hV d_M_pieceEnd_36 rfl rfl hw
      · refine mm_iload_n (pc' := 26) d_M_pieceEnd_25 rfl rfl rfl ?_
        refine mm_bipush (v := 93) (pc' := 28) d_M_pieceEnd_26 rfl (by decide) ?_
        refine wr_icmp_eq hw (pc' := 31) d_M_pieceEnd_28 rfl rfl (fun hw => ?_) (fun hw => ?_)
        · refine mm_iconst (v := (-1)) (pc' := 36) d_M_pieceEnd_35 rfl (by decide) ?_
          exact wr_iret hV d_M_pieceEnd_36 rfl rfl hw
        · refine mm_iload_n (pc' := 32) d_M_pieceEnd_31 rfl rfl rfl ?_
          refine wr_if_ge hw (pc' := 35) d_M_pieceEnd_32 rfl rfl (fun hw => ?_) (fun hw => ?_)
          · refine mm_iload_n (pc' := 38) d_M_pieceEnd_37 rfl rfl rfl ?_
            refine mm_bipush (v := 91) (pc' := 40) d_M_pieceEnd_38 rfl (by decide) ?_
            refine wr_icmp_eq hw (pc' := 43) d_M_pieceEnd_40 rfl rfl (fun hw => ?_) (fun hw => ?_)
            · refine mm_iload_n (pc' := 48) d_M_pieceEnd_47 rfl rfl rfl ?_
              refine mm_iconst (v := 1) (pc' := 49) d_M_pieceEnd_48 rfl (by decide) ?_
              refine mm_iadd (pc' := 50) d_M_pieceEnd_49 rfl ?_
              refine wr_let (P := fun z => mm_V l G M_M_pieceEnd 0 0 50 [some (va_rf (some a)), some (.int p0), some (.int p1), some (.int x6), none] (.int z :: []) h _) hw (fun x7 hw => ?_)
              refine mm_ist4 (pc' := 52) d_M_pieceEnd_50 rfl rfl (Nat.le_of_ble_eq_true rfl) ?_
              obtain ⟨n, hw⟩ := hw
              exact mm_drop (mm_le.s (mm_le.s (mm_le.s (mm_le.n (mm_le.s mm_le.e))))) (sq_M_pieceEnd_52  n _ _ _ hV hw)
            · refine mm_iload_n (pc' := 44) d_M_pieceEnd_43 rfl rfl rfl ?_
              refine mm_iconst (v := 1) (pc' := 45) d_M_pieceEnd_44 rfl (by decide) ?_
              refine mm_iadd (pc' := 46) d_M_pieceEnd_45 rfl ?_
              exact wr_iret hV d_M_pieceEnd_46 rfl rfl hw
          · refine mm_iconst (v := (-1)) (pc' := 36) d_M_pieceEnd_35 rfl (by decide) ?_
            exact wr_iret hV d_M_pieceEnd_36 rfl rfl hw
theorem d_M_takes_0 : decode prog_14_method_33_code 0 = .ok (.aload_n 0, 1) := by decide +kernel
theorem d_M_takes_1 : decode prog_14_method_33_code 1 = .ok (.iload_n 1, 1) := by decide +kernel
theorem d_M_takes_2 : decode prog_14_method_33_code 2 = .ok (.iload_n 2, 1) := by decide +kernel
theorem d_M_takes_3 : decode prog_14_method_33_code 3 = .ok (.invokevirtual 213, 3) := by decide +kernel
theorem d_M_takes_6 : decode prog_14_method_33_code 6 = .ok (.bipush 46, 2) := by decide +kernel
theorem d_M_takes_8 : decode prog_14_method_33_code 8 = .ok (.if_icmp .ne 5, 3) := by decide +kernel
theorem d_M_takes_11 : decode prog_14_method_33_code 11 = .ok (.iconst 1, 1) := by decide +kernel
theorem d_M_takes_12 : decode prog_14_method_33_code 12 = .ok (.ireturn, 1) := by decide +kernel
theorem d_M_takes_13 : decode prog_14_method_33_code 13 = .ok (.aload_n 0, 1) := by decide +kernel
theorem d_M_takes_14 : decode prog_14_method_33_code 14 = .ok (.iload_n 1, 1) := by decide +kernel
theorem d_M_takes_15 : decode prog_14_method_33_code 15 = .ok (.iload_n 2, 1) := by decide +kernel
theorem d_M_takes_16 : decode prog_14_method_33_code 16 = .ok (.invokevirtual 213, 3) := by decide +kernel
theorem d_M_takes_19 : decode prog_14_method_33_code 19 = .ok (.bipush 91, 2) := by decide +kernel
theorem d_M_takes_21 : decode prog_14_method_33_code 21 = .ok (.if_icmp .eq 20, 3) := by decide +kernel
theorem d_M_takes_24 : decode prog_14_method_33_code 24 = .ok (.aload_n 0, 1) := by decide +kernel
theorem d_M_takes_25 : decode prog_14_method_33_code 25 = .ok (.iload_n 1, 1) := by decide +kernel
theorem d_M_takes_26 : decode prog_14_method_33_code 26 = .ok (.iload_n 2, 1) := by decide +kernel
theorem d_M_takes_27 : decode prog_14_method_33_code 27 = .ok (.invokevirtual 213, 3) := by decide +kernel
theorem d_M_takes_30 : decode prog_14_method_33_code 30 = .ok (.iload 4, 2) := by decide +kernel
theorem d_M_takes_32 : decode prog_14_method_33_code 32 = .ok (.if_icmp .ne 7, 3) := by decide +kernel
theorem d_M_takes_35 : decode prog_14_method_33_code 35 = .ok (.iconst 1, 1) := by decide +kernel
theorem d_M_takes_36 : decode prog_14_method_33_code 36 = .ok (.goto 4, 3) := by decide +kernel
theorem d_M_takes_39 : decode prog_14_method_33_code 39 = .ok (.iconst 0, 1) := by decide +kernel
theorem d_M_takes_40 : decode prog_14_method_33_code 40 = .ok (.ireturn, 1) := by decide +kernel
theorem d_M_takes_41 : decode prog_14_method_33_code 41 = .ok (.iconst 0, 1) := by decide +kernel
theorem d_M_takes_42 : decode prog_14_method_33_code 42 = .ok (.istore 5, 2) := by decide +kernel
theorem d_M_takes_44 : decode prog_14_method_33_code 44 = .ok (.iload_n 2, 1) := by decide +kernel
theorem d_M_takes_45 : decode prog_14_method_33_code 45 = .ok (.iconst 1, 1) := by decide +kernel
theorem d_M_takes_46 : decode prog_14_method_33_code 46 = .ok (.iadd, 1) := by decide +kernel
theorem d_M_takes_47 : decode prog_14_method_33_code 47 = .ok (.istore 6, 2) := by decide +kernel
theorem d_M_takes_49 : decode prog_14_method_33_code 49 = .ok (.iload 6, 2) := by decide +kernel
theorem d_M_takes_51 : decode prog_14_method_33_code 51 = .ok (.iload_n 3, 1) := by decide +kernel
theorem d_M_takes_52 : decode prog_14_method_33_code 52 = .ok (.iconst 1, 1) := by decide +kernel
theorem d_M_takes_53 : decode prog_14_method_33_code 53 = .ok (.isub, 1) := by decide +kernel
theorem d_M_takes_54 : decode prog_14_method_33_code 54 = .ok (.if_icmp .ge 33, 3) := by decide +kernel
theorem d_M_takes_57 : decode prog_14_method_33_code 57 = .ok (.iload 5, 2) := by decide +kernel
theorem d_M_takes_59 : decode prog_14_method_33_code 59 = .ok (.ifCond .ne 15, 3) := by decide +kernel
theorem d_M_takes_62 : decode prog_14_method_33_code 62 = .ok (.aload_n 0, 1) := by decide +kernel
theorem d_M_takes_63 : decode prog_14_method_33_code 63 = .ok (.iload_n 1, 1) := by decide +kernel
theorem d_M_takes_64 : decode prog_14_method_33_code 64 = .ok (.iload 6, 2) := by decide +kernel
theorem d_M_takes_66 : decode prog_14_method_33_code 66 = .ok (.invokevirtual 213, 3) := by decide +kernel
theorem d_M_takes_69 : decode prog_14_method_33_code 69 = .ok (.iload 4, 2) := by decide +kernel
theorem d_M_takes_71 : decode prog_14_method_33_code 71 = .ok (.if_icmp .ne 7, 3) := by decide +kernel
theorem d_M_takes_74 : decode prog_14_method_33_code 74 = .ok (.iconst 1, 1) := by decide +kernel
theorem d_M_takes_75 : decode prog_14_method_33_code 75 = .ok (.goto 4, 3) := by decide +kernel
theorem d_M_takes_78 : decode prog_14_method_33_code 78 = .ok (.iconst 0, 1) := by decide +kernel
theorem d_M_takes_79 : decode prog_14_method_33_code 79 = .ok (.istore 5, 2) := by decide +kernel
theorem d_M_takes_81 : decode prog_14_method_33_code 81 = .ok (.iinc 6 1, 3) := by decide +kernel
theorem d_M_takes_84 : decode prog_14_method_33_code 84 = .ok (.goto (-35), 3) := by decide +kernel
theorem d_M_takes_87 : decode prog_14_method_33_code 87 = .ok (.iload 5, 2) := by decide +kernel
theorem d_M_takes_89 : decode prog_14_method_33_code 89 = .ok (.ireturn, 1) := by decide +kernel
def wb_M_takes_49 (a : Nat) (p0 : Int32) (p1 : Int32) (p2 : Int32) (p3 : Int32) (Q : Int32 → ab_H → Prop)  (k49 : Int32 → Int32 → ab_H → Prop) (u5 : Int32) (u6 : Int32) (A : ab_H) : Prop := if (p2 - (1 : Int32)) ≤ u6 then (wB u5 (Q u5 A)) else (if u5 = 0 then (wC A (some a) 14 (fun b => wp_M_letterOf b p0 u6 A (fun x1 A => if x1 = p3 then (k49 (1 : Int32) (u6 + 1) A) else (k49 (0 : Int32) (u6 + 1) A)))) else (k49 (1 : Int32) (u6 + 1) A))
def wq_M_takes_49 (a : Nat) (p0 : Int32) (p1 : Int32) (p2 : Int32) (p3 : Int32) (Q : Int32 → ab_H → Prop)  : Nat → Int32 → Int32 → ab_H → Prop
  | 0 => fun _ _ _ => False
  | n + 1 => wb_M_takes_49 a p0 p1 p2 p3 Q  (wq_M_takes_49 a p0 p1 p2 p3 Q  n)
set_option maxRecDepth 100000 in
set_option maxHeartbeats 4000000 in
theorem sq_M_takes_49 {l : Launch} {G : mm_G} {a : Nat} {p0 : Int32} {p1 : Int32} {p2 : Int32} {p3 : Int32} {Q : Int32 → ab_H → Prop}   : ∀ (n : Nat) (u5 : Int32) (u6 : Int32) (A : ab_H) (h : mm_H), Vw G h A → wq_M_takes_49 a p0 p1 p2 p3 Q  n u5 u6 A → mm_V l G M_M_takes 0 0 49 [some (va_rf (some a)), some (.int p0), some (.int p1), some (.int p2), some (.int p3), some (.int u5), some (.int u6)] [] h (wQI G Q) := by
  intro n
  induction n with
  | zero =>
    intro u5 u6 A h hV hw
    exact absurd hw id
  | succ n hk49 =>
    intro u5 u6 A h hV hw
    have hw : wb_M_takes_49 a p0 p1 p2 p3 Q  (wq_M_takes_49 a p0 p1 p2 p3 Q  n) u5 u6 A := hw
    unfold wb_M_takes_49 at hw
    refine mm_iload (pc' := 51) d_M_takes_49 rfl rfl ?_
    refine mm_iload_n (pc' := 52) d_M_takes_51 rfl rfl rfl ?_
    refine mm_iconst (v := 1) (pc' := 53) d_M_takes_52 rfl (by decide) ?_
    refine mm_isub (pc' := 54) d_M_takes_53 rfl ?_
    refine wr_icmp_ge hw (pc' := 57) d_M_takes_54 rfl rfl (fun hw => ?_) (fun hw => ?_)
    · refine mm_iload (pc' := 89) d_M_takes_87 rfl rfl ?_
      obtain ⟨hb, hw⟩ := hw
      exact wr_iret hV d_M_takes_89 rfl (wn_b hb) hw
    · refine mm_iload (pc' := 59) d_M_takes_57 rfl rfl ?_
      refine wr_if_ne hw (pc' := 62) d_M_takes_59 rfl rfl (fun hw => ?_) (fun hw => ?_)
      · refine mm_iconst (v := 1) (pc' := 75) d_M_takes_74 rfl (by decide) ?_
        refine mm_goto (tgt := 79) d_M_takes_75 rfl ?_
        refine mm_ist5 (pc' := 81) d_M_takes_79 rfl rfl (Nat.le_of_ble_eq_true rfl) ?_
        refine mm_iinc6 (v := (u6 + 1)) (pc' := 84) d_M_takes_81 rfl rfl rfl (Nat.le_of_ble_eq_true rfl) ?_
        refine mm_goto (tgt := 49) d_M_takes_84 rfl ?_
        exact mm_drop (mm_le.s (mm_le.s (mm_le.s (mm_le.s (mm_le.s (mm_le.s (mm_le.s mm_le.e))))))) (hk49 _ _ _ _ hV hw)
      · refine wr_aload_n (some a) (pc' := 63) d_M_takes_62 rfl rfl rfl ?_
        refine mm_iload_n (pc' := 64) d_M_takes_63 rfl rfl rfl ?_
        refine mm_iload (pc' := 66) d_M_takes_64 rfl rfl ?_
        refine wr_cVI (pc' := 69) (as := [.int p0, .int u6]) (st := []) d_M_takes_66 rfl cs_M_213 rfl (W := fun b Q' => wp_M_letterOf b p0 u6 A Q') hV hw (fun b Q' hw => sd_M_letterOf hV hw) rfl rfl (Nat.le_of_ble_eq_true rfl) (Nat.le_of_ble_eq_true rfl) (fun x1 h A hV hw => ?_)
        refine mm_iload (pc' := 71) d_M_takes_69 rfl rfl ?_
        refine wr_icmp_ne hw (pc' := 74) d_M_takes_71 rfl rfl (fun hw => ?_) (fun hw => ?_)
        · refine mm_iconst (v := 0) (pc' := 79) d_M_takes_78 rfl (by decide) ?_
          refine mm_ist5 (pc' := 81) d_M_takes_79 rfl rfl (Nat.le_of_ble_eq_true rfl) ?_
          refine mm_iinc6 (v := (u6 + 1)) (pc' := 84) d_M_takes_81 rfl rfl rfl (Nat.le_of_ble_eq_true rfl) ?_
          refine mm_goto (tgt := 49) d_M_takes_84 rfl ?_
          exact mm_drop (mm_le.s (mm_le.s (mm_le.s (mm_le.s (mm_le.s (mm_le.s (mm_le.s mm_le.e))))))) (hk49 _ _ _ _ hV hw)
        · refine mm_iconst (v := 1) (pc' := 75) d_M_takes_74 rfl (by decide) ?_
          refine mm_goto (tgt := 79) d_M_takes_75 rfl ?_
          refine mm_ist5 (pc' := 81) d_M_takes_79 rfl rfl (Nat.le_of_ble_eq_true rfl) ?_
          refine mm_iinc6 (v := (u6 + 1)) (pc' := 84) d_M_takes_81 rfl rfl rfl (Nat.le_of_ble_eq_true rfl) ?_
          refine mm_goto (tgt := 49) d_M_takes_84 rfl ?_
          exact mm_drop (mm_le.s (mm_le.s (mm_le.s (mm_le.s (mm_le.s (mm_le.s (mm_le.s mm_le.e))))))) (hk49 _ _ _ _ hV hw)
def wp_M_takes (a : Nat) (p0 : Int32) (p1 : Int32) (p2 : Int32) (p3 : Int32) (A : ab_H) (Q : Int32 → ab_H → Prop) : Prop := wC A (some a) 14 (fun b => wp_M_letterOf b p0 p1 A (fun x2 A => if x2 = (46 : Int32) then (Q (1 : Int32) A) else (wC A (some a) 14 (fun b => wp_M_letterOf b p0 p1 A (fun x3 A => if x3 = (91 : Int32) then (wL ((p1 + (1 : Int32))) (fun x4 => ∃ n, wq_M_takes_49 a p0 p1 p2 p3 Q n (0 : Int32) x4 A)) else (wC A (some a) 14 (fun b => wp_M_letterOf b p0 p1 A (fun x5 A => if x5 = p3 then (Q (1 : Int32) A) else (Q (0 : Int32) A)))))))))
set_option maxRecDepth 100000 in
set_option maxHeartbeats 4000000 in
theorem sd_M_takes {l : Launch} {G : mm_G} {h : mm_H} {A : ab_H} {a : Nat} {p0 : Int32} {p1 : Int32} {p2 : Int32} {p3 : Int32} {Q : Int32 → ab_H → Prop} (hV : Vw G h A) (hw : wp_M_takes a p0 p1 p2 p3 A Q) : mm_S l G M_M_takes [.ref a, .int p0, .int p1, .int p2, .int p3] h 0 0 (wQI G Q) := by
  unfold wp_M_takes at hw
  refine mm_start rfl (Nat.le_of_ble_eq_true rfl) ?_
  show mm_V l G M_M_takes 0 0 0 [some (va_rf (some a)), some (.int p0), some (.int p1), some (.int p2), some (.int p3), none, none] [] h _
  refine wr_aload_n (some a) (pc' := 1) d_M_takes_0 rfl rfl rfl ?_
  refine mm_iload_n (pc' := 2) d_M_takes_1 rfl rfl rfl ?_
  refine mm_iload_n (pc' := 3) d_M_takes_2 rfl rfl rfl ?_
  refine wr_cVI (pc' := 6) (as := [.int p0, .int p1]) (st := []) d_M_takes_3 rfl cs_M_213 rfl (W := fun b Q' => wp_M_letterOf b p0 p1 A Q') hV hw (fun b Q' hw => sd_M_letterOf hV hw) rfl rfl (Nat.le_of_ble_eq_true rfl) (Nat.le_of_ble_eq_true rfl) (fun x2 h A hV hw => ?_)
  refine mm_bipush (v := 46) (pc' := 8) d_M_takes_6 rfl (by decide) ?_
  refine wr_icmp_ne hw (pc' := 11) d_M_takes_8 rfl rfl (fun hw => ?_) (fun hw => ?_)
  · refine wr_aload_n (some a) (pc' := 14) d_M_takes_13 rfl rfl rfl ?_
    refine mm_iload_n (pc' := 15) d_M_takes_14 rfl rfl rfl ?_
    refine mm_iload_n (pc' := 16) d_M_takes_15 rfl rfl rfl ?_
    refine wr_cVI (pc' := 19) (as := [.int p0, .int p1]) (st := []) d_M_takes_16 rfl cs_M_213 rfl (W := fun b Q' => wp_M_letterOf b p0 p1 A Q') hV hw (fun b Q' hw => sd_M_letterOf hV hw) rfl rfl (Nat.le_of_ble_eq_true rfl) (Nat.le_of_ble_eq_true rfl) (fun x3 h A hV hw => ?_)
    refine mm_bipush (v := 91) (pc' := 21) d_M_takes_19 rfl (by decide) ?_
    refine wr_icmp_eq hw (pc' := 24) d_M_takes_21 rfl rfl (fun hw => ?_) (fun hw => ?_)
    · refine mm_iconst (v := 0) (pc' := 42) d_M_takes_41 rfl (by decide) ?_
      refine mm_ist5 (pc' := 44) d_M_takes_42 rfl rfl (Nat.le_of_ble_eq_true rfl) ?_
      refine mm_iload_n (pc' := 45) d_M_takes_44 rfl rfl rfl ?_
      refine mm_iconst (v := 1) (pc' := 46) d_M_takes_45 rfl (by decide) ?_
      refine mm_iadd (pc' := 47) d_M_takes_46 rfl ?_
      refine wr_let (P := fun z => mm_V l G M_M_takes 0 0 47 [some (va_rf (some a)), some (.int p0), some (.int p1), some (.int p2), some (.int p3), some (.int (0 : Int32)), none] (.int z :: []) h _) hw (fun x4 hw => ?_)
      refine mm_ist6 (pc' := 49) d_M_takes_47 rfl rfl (Nat.le_of_ble_eq_true rfl) ?_
      obtain ⟨n, hw⟩ := hw
      exact mm_drop (mm_le.s (mm_le.s (mm_le.s (mm_le.s (mm_le.s (mm_le.s (mm_le.s mm_le.e))))))) (sq_M_takes_49  n _ _ _ _ hV hw)
    · refine wr_aload_n (some a) (pc' := 25) d_M_takes_24 rfl rfl rfl ?_
      refine mm_iload_n (pc' := 26) d_M_takes_25 rfl rfl rfl ?_
      refine mm_iload_n (pc' := 27) d_M_takes_26 rfl rfl rfl ?_
      refine wr_cVI (pc' := 30) (as := [.int p0, .int p1]) (st := []) d_M_takes_27 rfl cs_M_213 rfl (W := fun b Q' => wp_M_letterOf b p0 p1 A Q') hV hw (fun b Q' hw => sd_M_letterOf hV hw) rfl rfl (Nat.le_of_ble_eq_true rfl) (Nat.le_of_ble_eq_true rfl) (fun x5 h A hV hw => ?_)
      refine mm_iload (pc' := 32) d_M_takes_30 rfl rfl ?_
      refine wr_icmp_ne hw (pc' := 35) d_M_takes_32 rfl rfl (fun hw => ?_) (fun hw => ?_)
      · refine mm_iconst (v := 0) (pc' := 40) d_M_takes_39 rfl (by decide) ?_
        exact wr_iret hV d_M_takes_40 rfl rfl hw
      · refine mm_iconst (v := 1) (pc' := 36) d_M_takes_35 rfl (by decide) ?_
        refine mm_goto (tgt := 40) d_M_takes_36 rfl ?_
        exact wr_iret hV d_M_takes_40 rfl rfl hw
  · refine mm_iconst (v := 1) (pc' := 12) d_M_takes_11 rfl (by decide) ?_
    exact wr_iret hV d_M_takes_12 rfl rfl hw
theorem d_M_through_0 : decode prog_14_method_34_code 0 = .ok (.aload_n 0, 1) := by decide +kernel
theorem d_M_through_1 : decode prog_14_method_34_code 1 = .ok (.iload_n 1, 1) := by decide +kernel
theorem d_M_through_2 : decode prog_14_method_34_code 2 = .ok (.iload_n 3, 1) := by decide +kernel
theorem d_M_through_3 : decode prog_14_method_34_code 3 = .ok (.invokevirtual 213, 3) := by decide +kernel
theorem d_M_through_6 : decode prog_14_method_34_code 6 = .ok (.istore 6, 2) := by decide +kernel
theorem d_M_through_8 : decode prog_14_method_34_code 8 = .ok (.iload 6, 2) := by decide +kernel
theorem d_M_through_10 : decode prog_14_method_34_code 10 = .ok (.bipush 42, 2) := by decide +kernel
theorem d_M_through_12 : decode prog_14_method_34_code 12 = .ok (.if_icmp .eq 10, 3) := by decide +kernel
theorem d_M_through_15 : decode prog_14_method_34_code 15 = .ok (.iload 6, 2) := by decide +kernel
theorem d_M_through_17 : decode prog_14_method_34_code 17 = .ok (.bipush 63, 2) := by decide +kernel
theorem d_M_through_19 : decode prog_14_method_34_code 19 = .ok (.if_icmp .ne 8, 3) := by decide +kernel
theorem d_M_through_22 : decode prog_14_method_34_code 22 = .ok (.lload 4, 2) := by decide +kernel
theorem d_M_through_24 : decode prog_14_method_34_code 24 = .ok (.goto 4, 3) := by decide +kernel
theorem d_M_through_27 : decode prog_14_method_34_code 27 = .ok (.lconst 0, 1) := by decide +kernel
theorem d_M_through_28 : decode prog_14_method_34_code 28 = .ok (.lstore 7, 2) := by decide +kernel
theorem d_M_through_30 : decode prog_14_method_34_code 30 = .ok (.iconst 0, 1) := by decide +kernel
theorem d_M_through_31 : decode prog_14_method_34_code 31 = .ok (.istore 9, 2) := by decide +kernel
theorem d_M_through_33 : decode prog_14_method_34_code 33 = .ok (.iload 9, 2) := by decide +kernel
theorem d_M_through_35 : decode prog_14_method_34_code 35 = .ok (.aload_n 0, 1) := by decide +kernel
theorem d_M_through_36 : decode prog_14_method_34_code 36 = .ok (.getfield 185, 3) := by decide +kernel
theorem d_M_through_39 : decode prog_14_method_34_code 39 = .ok (.if_icmp .ge 82, 3) := by decide +kernel
theorem d_M_through_42 : decode prog_14_method_34_code 42 = .ok (.iload 6, 2) := by decide +kernel
theorem d_M_through_44 : decode prog_14_method_34_code 44 = .ok (.bipush 42, 2) := by decide +kernel
theorem d_M_through_46 : decode prog_14_method_34_code 46 = .ok (.if_icmp .ne 8, 3) := by decide +kernel
theorem d_M_through_49 : decode prog_14_method_34_code 49 = .ok (.lload 7, 2) := by decide +kernel
theorem d_M_through_51 : decode prog_14_method_34_code 51 = .ok (.goto 5, 3) := by decide +kernel
theorem d_M_through_54 : decode prog_14_method_34_code 54 = .ok (.lload 4, 2) := by decide +kernel
theorem d_M_through_56 : decode prog_14_method_34_code 56 = .ok (.lstore 10, 2) := by decide +kernel
theorem d_M_through_58 : decode prog_14_method_34_code 58 = .ok (.lload 10, 2) := by decide +kernel
theorem d_M_through_60 : decode prog_14_method_34_code 60 = .ok (.iload 9, 2) := by decide +kernel
theorem d_M_through_62 : decode prog_14_method_34_code 62 = .ok (.lshr, 1) := by decide +kernel
theorem d_M_through_63 : decode prog_14_method_34_code 63 = .ok (.lconst 1, 1) := by decide +kernel
theorem d_M_through_64 : decode prog_14_method_34_code 64 = .ok (.land, 1) := by decide +kernel
theorem d_M_through_65 : decode prog_14_method_34_code 65 = .ok (.lconst 1, 1) := by decide +kernel
theorem d_M_through_66 : decode prog_14_method_34_code 66 = .ok (.lcmp, 1) := by decide +kernel
theorem d_M_through_67 : decode prog_14_method_34_code 67 = .ok (.ifCond .ne 24, 3) := by decide +kernel
theorem d_M_through_70 : decode prog_14_method_34_code 70 = .ok (.aload_n 0, 1) := by decide +kernel
theorem d_M_through_71 : decode prog_14_method_34_code 71 = .ok (.iload_n 1, 1) := by decide +kernel
theorem d_M_through_72 : decode prog_14_method_34_code 72 = .ok (.iload_n 2, 1) := by decide +kernel
theorem d_M_through_73 : decode prog_14_method_34_code 73 = .ok (.iload_n 3, 1) := by decide +kernel
theorem d_M_through_74 : decode prog_14_method_34_code 74 = .ok (.aload_n 0, 1) := by decide +kernel
theorem d_M_through_75 : decode prog_14_method_34_code 75 = .ok (.getfield 89, 3) := by decide +kernel
theorem d_M_through_78 : decode prog_14_method_34_code 78 = .ok (.iload 9, 2) := by decide +kernel
theorem d_M_through_80 : decode prog_14_method_34_code 80 = .ok (.iaload, 1) := by decide +kernel
theorem d_M_through_81 : decode prog_14_method_34_code 81 = .ok (.invokevirtual 219, 3) := by decide +kernel
theorem d_M_through_84 : decode prog_14_method_34_code 84 = .ok (.ifCond .eq 7, 3) := by decide +kernel
theorem d_M_through_87 : decode prog_14_method_34_code 87 = .ok (.iconst 1, 1) := by decide +kernel
theorem d_M_through_88 : decode prog_14_method_34_code 88 = .ok (.goto 4, 3) := by decide +kernel
theorem d_M_through_91 : decode prog_14_method_34_code 91 = .ok (.iconst 0, 1) := by decide +kernel
theorem d_M_through_92 : decode prog_14_method_34_code 92 = .ok (.istore 12, 2) := by decide +kernel
theorem d_M_through_94 : decode prog_14_method_34_code 94 = .ok (.iload 12, 2) := by decide +kernel
theorem d_M_through_96 : decode prog_14_method_34_code 96 = .ok (.ifCond .eq 15, 3) := by decide +kernel
theorem d_M_through_99 : decode prog_14_method_34_code 99 = .ok (.lload 7, 2) := by decide +kernel
theorem d_M_through_101 : decode prog_14_method_34_code 101 = .ok (.lconst 1, 1) := by decide +kernel
theorem d_M_through_102 : decode prog_14_method_34_code 102 = .ok (.iload 9, 2) := by decide +kernel
theorem d_M_through_104 : decode prog_14_method_34_code 104 = .ok (.iconst 1, 1) := by decide +kernel
theorem d_M_through_105 : decode prog_14_method_34_code 105 = .ok (.iadd, 1) := by decide +kernel
theorem d_M_through_106 : decode prog_14_method_34_code 106 = .ok (.lshl, 1) := by decide +kernel
theorem d_M_through_107 : decode prog_14_method_34_code 107 = .ok (.lor, 1) := by decide +kernel
theorem d_M_through_108 : decode prog_14_method_34_code 108 = .ok (.goto 5, 3) := by decide +kernel
theorem d_M_through_111 : decode prog_14_method_34_code 111 = .ok (.lload 7, 2) := by decide +kernel
theorem d_M_through_113 : decode prog_14_method_34_code 113 = .ok (.lstore 7, 2) := by decide +kernel
theorem d_M_through_115 : decode prog_14_method_34_code 115 = .ok (.iinc 9 1, 3) := by decide +kernel
theorem d_M_through_118 : decode prog_14_method_34_code 118 = .ok (.goto (-85), 3) := by decide +kernel
theorem d_M_through_121 : decode prog_14_method_34_code 121 = .ok (.lload 7, 2) := by decide +kernel
theorem d_M_through_123 : decode prog_14_method_34_code 123 = .ok (.lreturn, 1) := by decide +kernel
def wq_M_through_113 (a : Nat) (p0 : Int32) (p1 : Int32) (p2 : Int32) (p3 : Int64) (Q : Int64 → ab_H → Prop) (k33 : Int32 → Int64 → Int32 → ab_H → Prop) (u6 : Int32) (u9 : Int32) (s0 : Int64) (A : ab_H) : Prop := k33 u6 s0 (u9 + 1) A
set_option maxRecDepth 100000 in
set_option maxHeartbeats 4000000 in
theorem sq_M_through_113 {l : Launch} {G : mm_G} {a : Nat} {p0 : Int32} {p1 : Int32} {p2 : Int32} {p3 : Int64} {Q : Int64 → ab_H → Prop} {k33 : Int32 → Int64 → Int32 → ab_H → Prop} (hk33 : ∀ (u6 : Int32) (u7 : Int64) (u9 : Int32) (A : ab_H) (h : mm_H), Vw G h A → k33 u6 u7 u9 A → mm_V l G M_M_through 0 0 33 [some (va_rf (some a)), some (.int p0), some (.int p1), some (.int p2), some (.long p3), none, some (.int u6), some (.long u7), none, some (.int u9), none, none, none] [] h (wQJ G Q)) : ∀ (u6 : Int32) (u9 : Int32) (s0 : Int64) (A : ab_H) (h : mm_H), Vw G h A → wq_M_through_113 a p0 p1 p2 p3 Q k33 u6 u9 s0 A → mm_V l G M_M_through 0 0 113 [some (va_rf (some a)), some (.int p0), some (.int p1), some (.int p2), some (.long p3), none, some (.int u6), none, none, some (.int u9), none, none, none] [.long s0] h (wQJ G Q) := by
  intro u6 u9 s0 A h hV hw
  unfold wq_M_through_113 at hw
  refine mm_lst7 (pc' := 115) d_M_through_113 rfl rfl (Nat.le_of_ble_eq_true rfl) ?_
  refine mm_iinc9 (v := (u9 + 1)) (pc' := 118) d_M_through_115 rfl rfl rfl (Nat.le_of_ble_eq_true rfl) ?_
  refine mm_goto (tgt := 33) d_M_through_118 rfl ?_
  exact mm_drop (mm_le.s (mm_le.s (mm_le.s (mm_le.s (mm_le.s (mm_le.n (mm_le.s (mm_le.s (mm_le.n (mm_le.s (mm_le.n (mm_le.n (mm_le.n mm_le.e))))))))))))) (hk33 _ _ _ _ _ hV hw)
def wq_M_through_92 (a : Nat) (p0 : Int32) (p1 : Int32) (p2 : Int32) (p3 : Int64) (Q : Int64 → ab_H → Prop) (k33 : Int32 → Int64 → Int32 → ab_H → Prop) (u6 : Int32) (u7 : Int64) (u9 : Int32) (s0 : Int32) (A : ab_H) : Prop := if s0 = 0 then (wq_M_through_113 a p0 p1 p2 p3 Q k33 u6 u9 u7 A) else (wq_M_through_113 a p0 p1 p2 p3 Q k33 u6 u9 (u7 ||| (wsl (1 : Int64) (u9 + (1 : Int32)))) A)
set_option maxRecDepth 100000 in
set_option maxHeartbeats 4000000 in
theorem sq_M_through_92 {l : Launch} {G : mm_G} {a : Nat} {p0 : Int32} {p1 : Int32} {p2 : Int32} {p3 : Int64} {Q : Int64 → ab_H → Prop} {k33 : Int32 → Int64 → Int32 → ab_H → Prop} (hk33 : ∀ (u6 : Int32) (u7 : Int64) (u9 : Int32) (A : ab_H) (h : mm_H), Vw G h A → k33 u6 u7 u9 A → mm_V l G M_M_through 0 0 33 [some (va_rf (some a)), some (.int p0), some (.int p1), some (.int p2), some (.long p3), none, some (.int u6), some (.long u7), none, some (.int u9), none, none, none] [] h (wQJ G Q)) : ∀ (u6 : Int32) (u7 : Int64) (u9 : Int32) (s0 : Int32) (A : ab_H) (h : mm_H), Vw G h A → wq_M_through_92 a p0 p1 p2 p3 Q k33 u6 u7 u9 s0 A → mm_V l G M_M_through 0 0 92 [some (va_rf (some a)), some (.int p0), some (.int p1), some (.int p2), some (.long p3), none, some (.int u6), some (.long u7), none, some (.int u9), none, none, none] [.int s0] h (wQJ G Q) := by
  intro u6 u7 u9 s0 A h hV hw
  unfold wq_M_through_92 at hw
  refine mm_ist12 (pc' := 94) d_M_through_92 rfl rfl (Nat.le_of_ble_eq_true rfl) ?_
  refine mm_iload (pc' := 96) d_M_through_94 rfl rfl ?_
  refine wr_if_eq hw (pc' := 99) d_M_through_96 rfl rfl (fun hw => ?_) (fun hw => ?_)
  · refine mm_lload (pc' := 113) d_M_through_111 rfl rfl ?_
    exact mm_drop (mm_le.s (mm_le.s (mm_le.s (mm_le.s (mm_le.s (mm_le.n (mm_le.s (mm_le.n (mm_le.n (mm_le.s (mm_le.n (mm_le.n (mm_le.n mm_le.e))))))))))))) (sq_M_through_113 hk33 _ _ _ _ _ hV hw)
  · refine mm_lload (pc' := 101) d_M_through_99 rfl rfl ?_
    refine mm_lconst (v := 1) (pc' := 102) d_M_through_101 rfl (by decide) ?_
    refine mm_iload (pc' := 104) d_M_through_102 rfl rfl ?_
    refine mm_iconst (v := 1) (pc' := 105) d_M_through_104 rfl (by decide) ?_
    refine mm_iadd (pc' := 106) d_M_through_105 rfl ?_
    refine mm_lshl (v := wsl (1 : Int64) (u9 + (1 : Int32))) (pc' := 107) d_M_through_106 rfl rfl ?_
    refine mm_lor (pc' := 108) d_M_through_107 rfl ?_
    refine mm_goto (tgt := 113) d_M_through_108 rfl ?_
    exact mm_drop (mm_le.s (mm_le.s (mm_le.s (mm_le.s (mm_le.s (mm_le.n (mm_le.s (mm_le.n (mm_le.n (mm_le.s (mm_le.n (mm_le.n (mm_le.n mm_le.e))))))))))))) (sq_M_through_113 hk33 _ _ _ _ _ hV hw)
def wq_M_through_91 (a : Nat) (p0 : Int32) (p1 : Int32) (p2 : Int32) (p3 : Int64) (Q : Int64 → ab_H → Prop) (k33 : Int32 → Int64 → Int32 → ab_H → Prop) (u6 : Int32) (u7 : Int64) (u9 : Int32) (A : ab_H) : Prop := wq_M_through_92 a p0 p1 p2 p3 Q k33 u6 u7 u9 (0 : Int32) A
set_option maxRecDepth 100000 in
set_option maxHeartbeats 4000000 in
theorem sq_M_through_91 {l : Launch} {G : mm_G} {a : Nat} {p0 : Int32} {p1 : Int32} {p2 : Int32} {p3 : Int64} {Q : Int64 → ab_H → Prop} {k33 : Int32 → Int64 → Int32 → ab_H → Prop} (hk33 : ∀ (u6 : Int32) (u7 : Int64) (u9 : Int32) (A : ab_H) (h : mm_H), Vw G h A → k33 u6 u7 u9 A → mm_V l G M_M_through 0 0 33 [some (va_rf (some a)), some (.int p0), some (.int p1), some (.int p2), some (.long p3), none, some (.int u6), some (.long u7), none, some (.int u9), none, none, none] [] h (wQJ G Q)) : ∀ (u6 : Int32) (u7 : Int64) (u9 : Int32) (A : ab_H) (h : mm_H), Vw G h A → wq_M_through_91 a p0 p1 p2 p3 Q k33 u6 u7 u9 A → mm_V l G M_M_through 0 0 91 [some (va_rf (some a)), some (.int p0), some (.int p1), some (.int p2), some (.long p3), none, some (.int u6), some (.long u7), none, some (.int u9), none, none, none] [] h (wQJ G Q) := by
  intro u6 u7 u9 A h hV hw
  unfold wq_M_through_91 at hw
  refine mm_iconst (v := 0) (pc' := 92) d_M_through_91 rfl (by decide) ?_
  exact mm_drop (mm_le.s (mm_le.s (mm_le.s (mm_le.s (mm_le.s (mm_le.n (mm_le.s (mm_le.s (mm_le.n (mm_le.s (mm_le.n (mm_le.n (mm_le.n mm_le.e))))))))))))) (sq_M_through_92 hk33 _ _ _ _ _ _ hV hw)
def wq_M_through_56 (a : Nat) (p0 : Int32) (p1 : Int32) (p2 : Int32) (p3 : Int64) (Q : Int64 → ab_H → Prop) (k33 : Int32 → Int64 → Int32 → ab_H → Prop) (u6 : Int32) (u7 : Int64) (u9 : Int32) (s0 : Int64) (A : ab_H) : Prop := if (lg_cmp ((wsr s0 u9) &&& (1 : Int64)) (1 : Int64)) = 0 then (wgR A (some a) 14 39 (fun r1 => wAI A r1 u9 (fun x2 => wC A (some a) 14 (fun b => wp_M_takes b p0 p1 p2 x2 A (fun x3 A => if x3 = 0 then (wq_M_through_91 a p0 p1 p2 p3 Q k33 u6 u7 u9 A) else (wq_M_through_92 a p0 p1 p2 p3 Q k33 u6 u7 u9 (1 : Int32) A)))))) else (wq_M_through_91 a p0 p1 p2 p3 Q k33 u6 u7 u9 A)
set_option maxRecDepth 100000 in
set_option maxHeartbeats 4000000 in
theorem sq_M_through_56 {l : Launch} {G : mm_G} {a : Nat} {p0 : Int32} {p1 : Int32} {p2 : Int32} {p3 : Int64} {Q : Int64 → ab_H → Prop} {k33 : Int32 → Int64 → Int32 → ab_H → Prop} (hk33 : ∀ (u6 : Int32) (u7 : Int64) (u9 : Int32) (A : ab_H) (h : mm_H), Vw G h A → k33 u6 u7 u9 A → mm_V l G M_M_through 0 0 33 [some (va_rf (some a)), some (.int p0), some (.int p1), some (.int p2), some (.long p3), none, some (.int u6), some (.long u7), none, some (.int u9), none, none, none] [] h (wQJ G Q)) : ∀ (u6 : Int32) (u7 : Int64) (u9 : Int32) (s0 : Int64) (A : ab_H) (h : mm_H), Vw G h A → wq_M_through_56 a p0 p1 p2 p3 Q k33 u6 u7 u9 s0 A → mm_V l G M_M_through 0 0 56 [some (va_rf (some a)), some (.int p0), some (.int p1), some (.int p2), some (.long p3), none, some (.int u6), some (.long u7), none, some (.int u9), none, none, none] [.long s0] h (wQJ G Q) := by
  intro u6 u7 u9 s0 A h hV hw
  unfold wq_M_through_56 at hw
  refine mm_lst10 (pc' := 58) d_M_through_56 rfl rfl (Nat.le_of_ble_eq_true rfl) ?_
  refine mm_lload (pc' := 60) d_M_through_58 rfl rfl ?_
  refine mm_iload (pc' := 62) d_M_through_60 rfl rfl ?_
  refine mm_lshr (v := wsr s0 u9) (pc' := 63) d_M_through_62 rfl rfl ?_
  refine mm_lconst (v := 1) (pc' := 64) d_M_through_63 rfl (by decide) ?_
  refine mm_land (pc' := 65) d_M_through_64 rfl ?_
  refine mm_lconst (v := 1) (pc' := 66) d_M_through_65 rfl (by decide) ?_
  refine mm_lcmp (pc' := 67) d_M_through_66 rfl ?_
  refine wr_if_ne hw (pc' := 70) d_M_through_67 rfl rfl (fun hw => ?_) (fun hw => ?_)
  · exact mm_drop (mm_le.s (mm_le.s (mm_le.s (mm_le.s (mm_le.s (mm_le.n (mm_le.s (mm_le.s (mm_le.n (mm_le.s (mm_le.n (mm_le.n (mm_le.n mm_le.e))))))))))))) (sq_M_through_91 hk33 _ _ _ _ _ hV hw)
  · refine wr_aload_n (some a) (pc' := 71) d_M_through_70 rfl rfl rfl ?_
    refine mm_iload_n (pc' := 72) d_M_through_71 rfl rfl rfl ?_
    refine mm_iload_n (pc' := 73) d_M_through_72 rfl rfl rfl ?_
    refine mm_iload_n (pc' := 74) d_M_through_73 rfl rfl rfl ?_
    refine wr_aload_n (some a) (pc' := 75) d_M_through_74 rfl rfl rfl ?_
    refine wr_getR hV hw (pc' := 78) d_M_through_75 rfl fl_M_89 (fun r1 hw => ?_)
    refine mm_iload (pc' := 80) d_M_through_78 rfl rfl ?_
    refine wr_aldI hV hw (pc' := 81) d_M_through_80 rfl (fun x2 hw => ?_)
    refine wr_cVI (pc' := 84) (as := [.int p0, .int p1, .int p2, .int x2]) (st := []) d_M_through_81 rfl cs_M_219 rfl (W := fun b Q' => wp_M_takes b p0 p1 p2 x2 A Q') hV hw (fun b Q' hw => sd_M_takes hV hw) rfl rfl (Nat.le_of_ble_eq_true rfl) (Nat.le_of_ble_eq_true rfl) (fun x3 h A hV hw => ?_)
    refine wr_if_eq hw (pc' := 87) d_M_through_84 rfl rfl (fun hw => ?_) (fun hw => ?_)
    · exact mm_drop (mm_le.s (mm_le.s (mm_le.s (mm_le.s (mm_le.s (mm_le.n (mm_le.s (mm_le.s (mm_le.n (mm_le.s (mm_le.n (mm_le.n (mm_le.n mm_le.e))))))))))))) (sq_M_through_91 hk33 _ _ _ _ _ hV hw)
    · refine mm_iconst (v := 1) (pc' := 88) d_M_through_87 rfl (by decide) ?_
      refine mm_goto (tgt := 92) d_M_through_88 rfl ?_
      exact mm_drop (mm_le.s (mm_le.s (mm_le.s (mm_le.s (mm_le.s (mm_le.n (mm_le.s (mm_le.s (mm_le.n (mm_le.s (mm_le.n (mm_le.n (mm_le.n mm_le.e))))))))))))) (sq_M_through_92 hk33 _ _ _ _ _ _ hV hw)
def wb_M_through_33 (a : Nat) (p0 : Int32) (p1 : Int32) (p2 : Int32) (p3 : Int64) (Q : Int64 → ab_H → Prop)  (k33 : Int32 → Int64 → Int32 → ab_H → Prop) (u6 : Int32) (u7 : Int64) (u9 : Int32) (A : ab_H) : Prop := wgI A (some a) 14 40 (fun x4 => if x4 ≤ u9 then (Q u7 A) else (if u6 = (42 : Int32) then (wq_M_through_56 a p0 p1 p2 p3 Q k33 u6 u7 u9 u7 A) else (wq_M_through_56 a p0 p1 p2 p3 Q k33 u6 u7 u9 p3 A)))
def wq_M_through_33 (a : Nat) (p0 : Int32) (p1 : Int32) (p2 : Int32) (p3 : Int64) (Q : Int64 → ab_H → Prop)  : Nat → Int32 → Int64 → Int32 → ab_H → Prop
  | 0 => fun _ _ _ _ => False
  | n + 1 => wb_M_through_33 a p0 p1 p2 p3 Q  (wq_M_through_33 a p0 p1 p2 p3 Q  n)
set_option maxRecDepth 100000 in
set_option maxHeartbeats 4000000 in
theorem sq_M_through_33 {l : Launch} {G : mm_G} {a : Nat} {p0 : Int32} {p1 : Int32} {p2 : Int32} {p3 : Int64} {Q : Int64 → ab_H → Prop}   : ∀ (n : Nat) (u6 : Int32) (u7 : Int64) (u9 : Int32) (A : ab_H) (h : mm_H), Vw G h A → wq_M_through_33 a p0 p1 p2 p3 Q  n u6 u7 u9 A → mm_V l G M_M_through 0 0 33 [some (va_rf (some a)), some (.int p0), some (.int p1), some (.int p2), some (.long p3), none, some (.int u6), some (.long u7), none, some (.int u9), none, none, none] [] h (wQJ G Q) := by
  intro n
  induction n with
  | zero =>
    intro u6 u7 u9 A h hV hw
    exact absurd hw id
  | succ n hk33 =>
    intro u6 u7 u9 A h hV hw
    have hw : wb_M_through_33 a p0 p1 p2 p3 Q  (wq_M_through_33 a p0 p1 p2 p3 Q  n) u6 u7 u9 A := hw
    unfold wb_M_through_33 at hw
    refine mm_iload (pc' := 35) d_M_through_33 rfl rfl ?_
    refine wr_aload_n (some a) (pc' := 36) d_M_through_35 rfl rfl rfl ?_
    refine wr_getI hV hw (pc' := 39) d_M_through_36 rfl fl_M_185 (fun x4 hw => ?_)
    refine wr_icmp_ge hw (pc' := 42) d_M_through_39 rfl rfl (fun hw => ?_) (fun hw => ?_)
    · refine mm_lload (pc' := 123) d_M_through_121 rfl rfl ?_
      exact wr_lret hV d_M_through_123 rfl hw
    · refine mm_iload (pc' := 44) d_M_through_42 rfl rfl ?_
      refine mm_bipush (v := 42) (pc' := 46) d_M_through_44 rfl (by decide) ?_
      refine wr_icmp_ne hw (pc' := 49) d_M_through_46 rfl rfl (fun hw => ?_) (fun hw => ?_)
      · refine mm_lload (pc' := 56) d_M_through_54 rfl rfl ?_
        exact mm_drop (mm_le.s (mm_le.s (mm_le.s (mm_le.s (mm_le.s (mm_le.n (mm_le.s (mm_le.s (mm_le.n (mm_le.s (mm_le.n (mm_le.n (mm_le.n mm_le.e))))))))))))) (sq_M_through_56 hk33 _ _ _ _ _ _ hV hw)
      · refine mm_lload (pc' := 51) d_M_through_49 rfl rfl ?_
        refine mm_goto (tgt := 56) d_M_through_51 rfl ?_
        exact mm_drop (mm_le.s (mm_le.s (mm_le.s (mm_le.s (mm_le.s (mm_le.n (mm_le.s (mm_le.s (mm_le.n (mm_le.s (mm_le.n (mm_le.n (mm_le.n mm_le.e))))))))))))) (sq_M_through_56 hk33 _ _ _ _ _ _ hV hw)
def wq_M_through_28 (a : Nat) (p0 : Int32) (p1 : Int32) (p2 : Int32) (p3 : Int64) (Q : Int64 → ab_H → Prop)  (u6 : Int32) (s0 : Int64) (A : ab_H) : Prop := ∃ n, wq_M_through_33 a p0 p1 p2 p3 Q n u6 s0 (0 : Int32) A
set_option maxRecDepth 100000 in
set_option maxHeartbeats 4000000 in
theorem sq_M_through_28 {l : Launch} {G : mm_G} {a : Nat} {p0 : Int32} {p1 : Int32} {p2 : Int32} {p3 : Int64} {Q : Int64 → ab_H → Prop}   : ∀ (u6 : Int32) (s0 : Int64) (A : ab_H) (h : mm_H), Vw G h A → wq_M_through_28 a p0 p1 p2 p3 Q  u6 s0 A → mm_V l G M_M_through 0 0 28 [some (va_rf (some a)), some (.int p0), some (.int p1), some (.int p2), some (.long p3), none, some (.int u6), none, none, none, none, none, none] [.long s0] h (wQJ G Q) := by
  intro u6 s0 A h hV hw
  unfold wq_M_through_28 at hw
  refine mm_lst7 (pc' := 30) d_M_through_28 rfl rfl (Nat.le_of_ble_eq_true rfl) ?_
  refine mm_iconst (v := 0) (pc' := 31) d_M_through_30 rfl (by decide) ?_
  refine mm_ist9 (pc' := 33) d_M_through_31 rfl rfl (Nat.le_of_ble_eq_true rfl) ?_
  obtain ⟨n, hw⟩ := hw
  exact mm_drop (mm_le.s (mm_le.s (mm_le.s (mm_le.s (mm_le.s (mm_le.n (mm_le.s (mm_le.s (mm_le.n (mm_le.s (mm_le.n (mm_le.n (mm_le.n mm_le.e))))))))))))) (sq_M_through_33  n _ _ _ _ _ hV hw)
def wq_M_through_22 (a : Nat) (p0 : Int32) (p1 : Int32) (p2 : Int32) (p3 : Int64) (Q : Int64 → ab_H → Prop)  (u6 : Int32) (A : ab_H) : Prop := wq_M_through_28 a p0 p1 p2 p3 Q u6 p3 A
set_option maxRecDepth 100000 in
set_option maxHeartbeats 4000000 in
theorem sq_M_through_22 {l : Launch} {G : mm_G} {a : Nat} {p0 : Int32} {p1 : Int32} {p2 : Int32} {p3 : Int64} {Q : Int64 → ab_H → Prop}   : ∀ (u6 : Int32) (A : ab_H) (h : mm_H), Vw G h A → wq_M_through_22 a p0 p1 p2 p3 Q  u6 A → mm_V l G M_M_through 0 0 22 [some (va_rf (some a)), some (.int p0), some (.int p1), some (.int p2), some (.long p3), none, some (.int u6), none, none, none, none, none, none] [] h (wQJ G Q) := by
  intro u6 A h hV hw
  unfold wq_M_through_22 at hw
  refine mm_lload (pc' := 24) d_M_through_22 rfl rfl ?_
  refine mm_goto (tgt := 28) d_M_through_24 rfl ?_
  exact mm_drop (mm_le.s (mm_le.s (mm_le.s (mm_le.s (mm_le.s (mm_le.n (mm_le.s (mm_le.n (mm_le.n (mm_le.n (mm_le.n (mm_le.n (mm_le.n mm_le.e))))))))))))) (sq_M_through_28  _ _ _ _ hV hw)
def wp_M_through (a : Nat) (p0 : Int32) (p1 : Int32) (p2 : Int32) (p3 : Int64) (A : ab_H) (Q : Int64 → ab_H → Prop) : Prop := wC A (some a) 14 (fun b => wp_M_letterOf b p0 p2 A (fun x5 A => if x5 = (42 : Int32) then (wq_M_through_22 a p0 p1 p2 p3 Q x5 A) else (if x5 = (63 : Int32) then (wq_M_through_22 a p0 p1 p2 p3 Q x5 A) else (wq_M_through_28 a p0 p1 p2 p3 Q x5 (0 : Int64) A))))
set_option maxRecDepth 100000 in
set_option maxHeartbeats 4000000 in
theorem sd_M_through {l : Launch} {G : mm_G} {h : mm_H} {A : ab_H} {a : Nat} {p0 : Int32} {p1 : Int32} {p2 : Int32} {p3 : Int64} {Q : Int64 → ab_H → Prop} (hV : Vw G h A) (hw : wp_M_through a p0 p1 p2 p3 A Q) : mm_S l G M_M_through [.ref a, .int p0, .int p1, .int p2, .long p3] h 0 0 (wQJ G Q) := by
  unfold wp_M_through at hw
  refine mm_start rfl (Nat.le_of_ble_eq_true rfl) ?_
  show mm_V l G M_M_through 0 0 0 [some (va_rf (some a)), some (.int p0), some (.int p1), some (.int p2), some (.long p3), none, none, none, none, none, none, none, none] [] h _
  refine wr_aload_n (some a) (pc' := 1) d_M_through_0 rfl rfl rfl ?_
  refine mm_iload_n (pc' := 2) d_M_through_1 rfl rfl rfl ?_
  refine mm_iload_n (pc' := 3) d_M_through_2 rfl rfl rfl ?_
  refine wr_cVI (pc' := 6) (as := [.int p0, .int p2]) (st := []) d_M_through_3 rfl cs_M_213 rfl (W := fun b Q' => wp_M_letterOf b p0 p2 A Q') hV hw (fun b Q' hw => sd_M_letterOf hV hw) rfl rfl (Nat.le_of_ble_eq_true rfl) (Nat.le_of_ble_eq_true rfl) (fun x5 h A hV hw => ?_)
  refine mm_ist6 (pc' := 8) d_M_through_6 rfl rfl (Nat.le_of_ble_eq_true rfl) ?_
  refine mm_iload (pc' := 10) d_M_through_8 rfl rfl ?_
  refine mm_bipush (v := 42) (pc' := 12) d_M_through_10 rfl (by decide) ?_
  refine wr_icmp_eq hw (pc' := 15) d_M_through_12 rfl rfl (fun hw => ?_) (fun hw => ?_)
  · exact mm_drop (mm_le.s (mm_le.s (mm_le.s (mm_le.s (mm_le.s (mm_le.n (mm_le.s (mm_le.n (mm_le.n (mm_le.n (mm_le.n (mm_le.n (mm_le.n mm_le.e))))))))))))) (sq_M_through_22  _ _ _ hV hw)
  · refine mm_iload (pc' := 17) d_M_through_15 rfl rfl ?_
    refine mm_bipush (v := 63) (pc' := 19) d_M_through_17 rfl (by decide) ?_
    refine wr_icmp_ne hw (pc' := 22) d_M_through_19 rfl rfl (fun hw => ?_) (fun hw => ?_)
    · refine mm_lconst (v := 0) (pc' := 28) d_M_through_27 rfl (by decide) ?_
      exact mm_drop (mm_le.s (mm_le.s (mm_le.s (mm_le.s (mm_le.s (mm_le.n (mm_le.s (mm_le.n (mm_le.n (mm_le.n (mm_le.n (mm_le.n (mm_le.n mm_le.e))))))))))))) (sq_M_through_28  _ _ _ _ hV hw)
    · exact mm_drop (mm_le.s (mm_le.s (mm_le.s (mm_le.s (mm_le.s (mm_le.n (mm_le.s (mm_le.n (mm_le.n (mm_le.n (mm_le.n (mm_le.n (mm_le.n mm_le.e))))))))))))) (sq_M_through_22  _ _ _ hV hw)
theorem d_M_fits_0 : decode prog_14_method_35_code 0 = .ok (.lconst 1, 1) := by decide +kernel
theorem d_M_fits_1 : decode prog_14_method_35_code 1 = .ok (.lstore_n 2, 1) := by decide +kernel
theorem d_M_fits_2 : decode prog_14_method_35_code 2 = .ok (.iconst 0, 1) := by decide +kernel
theorem d_M_fits_3 : decode prog_14_method_35_code 3 = .ok (.istore 4, 2) := by decide +kernel
theorem d_M_fits_5 : decode prog_14_method_35_code 5 = .ok (.aload_n 0, 1) := by decide +kernel
theorem d_M_fits_6 : decode prog_14_method_35_code 6 = .ok (.getfield 41, 3) := by decide +kernel
theorem d_M_fits_9 : decode prog_14_method_35_code 9 = .ok (.iload_n 1, 1) := by decide +kernel
theorem d_M_fits_10 : decode prog_14_method_35_code 10 = .ok (.iaload, 1) := by decide +kernel
theorem d_M_fits_11 : decode prog_14_method_35_code 11 = .ok (.iconst 1, 1) := by decide +kernel
theorem d_M_fits_12 : decode prog_14_method_35_code 12 = .ok (.iadd, 1) := by decide +kernel
theorem d_M_fits_13 : decode prog_14_method_35_code 13 = .ok (.istore 5, 2) := by decide +kernel
theorem d_M_fits_15 : decode prog_14_method_35_code 15 = .ok (.iload 5, 2) := by decide +kernel
theorem d_M_fits_17 : decode prog_14_method_35_code 17 = .ok (.aload_n 0, 1) := by decide +kernel
theorem d_M_fits_18 : decode prog_14_method_35_code 18 = .ok (.getfield 44, 3) := by decide +kernel
theorem d_M_fits_21 : decode prog_14_method_35_code 21 = .ok (.iload_n 1, 1) := by decide +kernel
theorem d_M_fits_22 : decode prog_14_method_35_code 22 = .ok (.iaload, 1) := by decide +kernel
theorem d_M_fits_23 : decode prog_14_method_35_code 23 = .ok (.if_icmp .ge 106, 3) := by decide +kernel
theorem d_M_fits_26 : decode prog_14_method_35_code 26 = .ok (.aload_n 0, 1) := by decide +kernel
theorem d_M_fits_27 : decode prog_14_method_35_code 27 = .ok (.iload_n 1, 1) := by decide +kernel
theorem d_M_fits_28 : decode prog_14_method_35_code 28 = .ok (.iload 5, 2) := by decide +kernel
theorem d_M_fits_30 : decode prog_14_method_35_code 30 = .ok (.invokevirtual 213, 3) := by decide +kernel
theorem d_M_fits_33 : decode prog_14_method_35_code 33 = .ok (.bipush 124, 2) := by decide +kernel
theorem d_M_fits_35 : decode prog_14_method_35_code 35 = .ok (.if_icmp .ne 36, 3) := by decide +kernel
theorem d_M_fits_38 : decode prog_14_method_35_code 38 = .ok (.iload 4, 2) := by decide +kernel
theorem d_M_fits_40 : decode prog_14_method_35_code 40 = .ok (.ifCond .ne 16, 3) := by decide +kernel
theorem d_M_fits_43 : decode prog_14_method_35_code 43 = .ok (.lload_n 2, 1) := by decide +kernel
theorem d_M_fits_44 : decode prog_14_method_35_code 44 = .ok (.aload_n 0, 1) := by decide +kernel
theorem d_M_fits_45 : decode prog_14_method_35_code 45 = .ok (.getfield 185, 3) := by decide +kernel
theorem d_M_fits_48 : decode prog_14_method_35_code 48 = .ok (.lshr, 1) := by decide +kernel
theorem d_M_fits_49 : decode prog_14_method_35_code 49 = .ok (.lconst 1, 1) := by decide +kernel
theorem d_M_fits_50 : decode prog_14_method_35_code 50 = .ok (.land, 1) := by decide +kernel
theorem d_M_fits_51 : decode prog_14_method_35_code 51 = .ok (.lconst 1, 1) := by decide +kernel
theorem d_M_fits_52 : decode prog_14_method_35_code 52 = .ok (.lcmp, 1) := by decide +kernel
theorem d_M_fits_53 : decode prog_14_method_35_code 53 = .ok (.ifCond .ne 7, 3) := by decide +kernel
theorem d_M_fits_56 : decode prog_14_method_35_code 56 = .ok (.iconst 1, 1) := by decide +kernel
theorem d_M_fits_57 : decode prog_14_method_35_code 57 = .ok (.goto 4, 3) := by decide +kernel
theorem d_M_fits_60 : decode prog_14_method_35_code 60 = .ok (.iconst 0, 1) := by decide +kernel
theorem d_M_fits_61 : decode prog_14_method_35_code 61 = .ok (.istore 4, 2) := by decide +kernel
theorem d_M_fits_63 : decode prog_14_method_35_code 63 = .ok (.lconst 1, 1) := by decide +kernel
theorem d_M_fits_64 : decode prog_14_method_35_code 64 = .ok (.lstore_n 2, 1) := by decide +kernel
theorem d_M_fits_65 : decode prog_14_method_35_code 65 = .ok (.iinc 5 1, 3) := by decide +kernel
theorem d_M_fits_68 : decode prog_14_method_35_code 68 = .ok (.goto (-53), 3) := by decide +kernel
theorem d_M_fits_71 : decode prog_14_method_35_code 71 = .ok (.aload_n 0, 1) := by decide +kernel
theorem d_M_fits_72 : decode prog_14_method_35_code 72 = .ok (.iload_n 1, 1) := by decide +kernel
theorem d_M_fits_73 : decode prog_14_method_35_code 73 = .ok (.iload 5, 2) := by decide +kernel
theorem d_M_fits_75 : decode prog_14_method_35_code 75 = .ok (.invokevirtual 216, 3) := by decide +kernel
theorem d_M_fits_78 : decode prog_14_method_35_code 78 = .ok (.istore 6, 2) := by decide +kernel
theorem d_M_fits_80 : decode prog_14_method_35_code 80 = .ok (.aload_n 0, 1) := by decide +kernel
theorem d_M_fits_81 : decode prog_14_method_35_code 81 = .ok (.iload_n 1, 1) := by decide +kernel
theorem d_M_fits_82 : decode prog_14_method_35_code 82 = .ok (.iload 5, 2) := by decide +kernel
theorem d_M_fits_84 : decode prog_14_method_35_code 84 = .ok (.iload 6, 2) := by decide +kernel
theorem d_M_fits_86 : decode prog_14_method_35_code 86 = .ok (.lload_n 2, 1) := by decide +kernel
theorem d_M_fits_87 : decode prog_14_method_35_code 87 = .ok (.invokevirtual 223, 3) := by decide +kernel
theorem d_M_fits_90 : decode prog_14_method_35_code 90 = .ok (.lstore_n 2, 1) := by decide +kernel
theorem d_M_fits_91 : decode prog_14_method_35_code 91 = .ok (.aload_n 0, 1) := by decide +kernel
theorem d_M_fits_92 : decode prog_14_method_35_code 92 = .ok (.iload_n 1, 1) := by decide +kernel
theorem d_M_fits_93 : decode prog_14_method_35_code 93 = .ok (.iload 6, 2) := by decide +kernel
theorem d_M_fits_95 : decode prog_14_method_35_code 95 = .ok (.invokevirtual 213, 3) := by decide +kernel
theorem d_M_fits_98 : decode prog_14_method_35_code 98 = .ok (.bipush 42, 2) := by decide +kernel
theorem d_M_fits_100 : decode prog_14_method_35_code 100 = .ok (.if_icmp .eq 15, 3) := by decide +kernel
theorem d_M_fits_103 : decode prog_14_method_35_code 103 = .ok (.aload_n 0, 1) := by decide +kernel
theorem d_M_fits_104 : decode prog_14_method_35_code 104 = .ok (.iload_n 1, 1) := by decide +kernel
theorem d_M_fits_105 : decode prog_14_method_35_code 105 = .ok (.iload 6, 2) := by decide +kernel
theorem d_M_fits_107 : decode prog_14_method_35_code 107 = .ok (.invokevirtual 213, 3) := by decide +kernel
theorem d_M_fits_110 : decode prog_14_method_35_code 110 = .ok (.bipush 63, 2) := by decide +kernel
theorem d_M_fits_112 : decode prog_14_method_35_code 112 = .ok (.if_icmp .ne 10, 3) := by decide +kernel
theorem d_M_fits_115 : decode prog_14_method_35_code 115 = .ok (.iload 6, 2) := by decide +kernel
theorem d_M_fits_117 : decode prog_14_method_35_code 117 = .ok (.iconst 1, 1) := by decide +kernel
theorem d_M_fits_118 : decode prog_14_method_35_code 118 = .ok (.iadd, 1) := by decide +kernel
theorem d_M_fits_119 : decode prog_14_method_35_code 119 = .ok (.goto 5, 3) := by decide +kernel
theorem d_M_fits_122 : decode prog_14_method_35_code 122 = .ok (.iload 6, 2) := by decide +kernel
theorem d_M_fits_124 : decode prog_14_method_35_code 124 = .ok (.istore 5, 2) := by decide +kernel
theorem d_M_fits_126 : decode prog_14_method_35_code 126 = .ok (.goto (-111), 3) := by decide +kernel
theorem d_M_fits_129 : decode prog_14_method_35_code 129 = .ok (.iload 4, 2) := by decide +kernel
theorem d_M_fits_131 : decode prog_14_method_35_code 131 = .ok (.ifCond .ne 16, 3) := by decide +kernel
theorem d_M_fits_134 : decode prog_14_method_35_code 134 = .ok (.lload_n 2, 1) := by decide +kernel
theorem d_M_fits_135 : decode prog_14_method_35_code 135 = .ok (.aload_n 0, 1) := by decide +kernel
theorem d_M_fits_136 : decode prog_14_method_35_code 136 = .ok (.getfield 185, 3) := by decide +kernel
theorem d_M_fits_139 : decode prog_14_method_35_code 139 = .ok (.lshr, 1) := by decide +kernel
theorem d_M_fits_140 : decode prog_14_method_35_code 140 = .ok (.lconst 1, 1) := by decide +kernel
theorem d_M_fits_141 : decode prog_14_method_35_code 141 = .ok (.land, 1) := by decide +kernel
theorem d_M_fits_142 : decode prog_14_method_35_code 142 = .ok (.lconst 1, 1) := by decide +kernel
theorem d_M_fits_143 : decode prog_14_method_35_code 143 = .ok (.lcmp, 1) := by decide +kernel
theorem d_M_fits_144 : decode prog_14_method_35_code 144 = .ok (.ifCond .ne 7, 3) := by decide +kernel
theorem d_M_fits_147 : decode prog_14_method_35_code 147 = .ok (.iconst 1, 1) := by decide +kernel
theorem d_M_fits_148 : decode prog_14_method_35_code 148 = .ok (.goto 4, 3) := by decide +kernel
theorem d_M_fits_151 : decode prog_14_method_35_code 151 = .ok (.iconst 0, 1) := by decide +kernel
theorem d_M_fits_152 : decode prog_14_method_35_code 152 = .ok (.ireturn, 1) := by decide +kernel
def wq_M_fits_129 (a : Nat) (p0 : Int32) (Q : Int32 → ab_H → Prop)  (u2 : Int64) (u4 : Int32) (A : ab_H) : Prop := if u4 = 0 then (wgI A (some a) 14 40 (fun x1 => if (lg_cmp ((wsr u2 x1) &&& (1 : Int64)) (1 : Int64)) = 0 then (Q (1 : Int32) A) else (Q (0 : Int32) A))) else (Q (1 : Int32) A)
set_option maxRecDepth 100000 in
set_option maxHeartbeats 4000000 in
theorem sq_M_fits_129 {l : Launch} {G : mm_G} {a : Nat} {p0 : Int32} {Q : Int32 → ab_H → Prop}   : ∀ (u2 : Int64) (u4 : Int32) (A : ab_H) (h : mm_H), Vw G h A → wq_M_fits_129 a p0 Q  u2 u4 A → mm_V l G M_M_fits 0 0 129 [some (va_rf (some a)), some (.int p0), some (.long u2), none, some (.int u4), none, none] [] h (wQI G Q) := by
  intro u2 u4 A h hV hw
  unfold wq_M_fits_129 at hw
  refine mm_iload (pc' := 131) d_M_fits_129 rfl rfl ?_
  refine wr_if_ne hw (pc' := 134) d_M_fits_131 rfl rfl (fun hw => ?_) (fun hw => ?_)
  · refine mm_iconst (v := 1) (pc' := 148) d_M_fits_147 rfl (by decide) ?_
    refine mm_goto (tgt := 152) d_M_fits_148 rfl ?_
    exact wr_iret hV d_M_fits_152 rfl rfl hw
  · refine mm_lload_n (pc' := 135) d_M_fits_134 rfl rfl rfl ?_
    refine wr_aload_n (some a) (pc' := 136) d_M_fits_135 rfl rfl rfl ?_
    refine wr_getI hV hw (pc' := 139) d_M_fits_136 rfl fl_M_185 (fun x1 hw => ?_)
    refine mm_lshr (v := wsr u2 x1) (pc' := 140) d_M_fits_139 rfl rfl ?_
    refine mm_lconst (v := 1) (pc' := 141) d_M_fits_140 rfl (by decide) ?_
    refine mm_land (pc' := 142) d_M_fits_141 rfl ?_
    refine mm_lconst (v := 1) (pc' := 143) d_M_fits_142 rfl (by decide) ?_
    refine mm_lcmp (pc' := 144) d_M_fits_143 rfl ?_
    refine wr_if_ne hw (pc' := 147) d_M_fits_144 rfl rfl (fun hw => ?_) (fun hw => ?_)
    · refine mm_iconst (v := 0) (pc' := 152) d_M_fits_151 rfl (by decide) ?_
      exact wr_iret hV d_M_fits_152 rfl rfl hw
    · refine mm_iconst (v := 1) (pc' := 148) d_M_fits_147 rfl (by decide) ?_
      refine mm_goto (tgt := 152) d_M_fits_148 rfl ?_
      exact wr_iret hV d_M_fits_152 rfl rfl hw
def wq_M_fits_61 (a : Nat) (p0 : Int32) (Q : Int32 → ab_H → Prop) (k15 : Int64 → Int32 → Int32 → ab_H → Prop) (u5 : Int32) (s0 : Int32) (A : ab_H) : Prop := k15 (1 : Int64) s0 (u5 + 1) A
set_option maxRecDepth 100000 in
set_option maxHeartbeats 4000000 in
theorem sq_M_fits_61 {l : Launch} {G : mm_G} {a : Nat} {p0 : Int32} {Q : Int32 → ab_H → Prop} {k15 : Int64 → Int32 → Int32 → ab_H → Prop} (hk15 : ∀ (u2 : Int64) (u4 : Int32) (u5 : Int32) (A : ab_H) (h : mm_H), Vw G h A → k15 u2 u4 u5 A → mm_V l G M_M_fits 0 0 15 [some (va_rf (some a)), some (.int p0), some (.long u2), none, some (.int u4), some (.int u5), none] [] h (wQI G Q)) : ∀ (u5 : Int32) (s0 : Int32) (A : ab_H) (h : mm_H), Vw G h A → wq_M_fits_61 a p0 Q k15 u5 s0 A → mm_V l G M_M_fits 0 0 61 [some (va_rf (some a)), some (.int p0), none, none, none, some (.int u5), none] [.int s0] h (wQI G Q) := by
  intro u5 s0 A h hV hw
  unfold wq_M_fits_61 at hw
  refine mm_ist4 (pc' := 63) d_M_fits_61 rfl rfl (Nat.le_of_ble_eq_true rfl) ?_
  refine mm_lconst (v := 1) (pc' := 64) d_M_fits_63 rfl (by decide) ?_
  refine mm_lst2 (pc' := 65) d_M_fits_64 rfl rfl (Nat.le_of_ble_eq_true rfl) ?_
  refine mm_iinc5 (v := (u5 + 1)) (pc' := 68) d_M_fits_65 rfl rfl rfl (Nat.le_of_ble_eq_true rfl) ?_
  refine mm_goto (tgt := 15) d_M_fits_68 rfl ?_
  exact mm_drop (mm_le.s (mm_le.s (mm_le.s (mm_le.n (mm_le.s (mm_le.s (mm_le.n mm_le.e))))))) (hk15 _ _ _ _ _ hV hw)
def wq_M_fits_56 (a : Nat) (p0 : Int32) (Q : Int32 → ab_H → Prop) (k15 : Int64 → Int32 → Int32 → ab_H → Prop) (u5 : Int32) (A : ab_H) : Prop := wq_M_fits_61 a p0 Q k15 u5 (1 : Int32) A
set_option maxRecDepth 100000 in
set_option maxHeartbeats 4000000 in
theorem sq_M_fits_56 {l : Launch} {G : mm_G} {a : Nat} {p0 : Int32} {Q : Int32 → ab_H → Prop} {k15 : Int64 → Int32 → Int32 → ab_H → Prop} (hk15 : ∀ (u2 : Int64) (u4 : Int32) (u5 : Int32) (A : ab_H) (h : mm_H), Vw G h A → k15 u2 u4 u5 A → mm_V l G M_M_fits 0 0 15 [some (va_rf (some a)), some (.int p0), some (.long u2), none, some (.int u4), some (.int u5), none] [] h (wQI G Q)) : ∀ (u5 : Int32) (A : ab_H) (h : mm_H), Vw G h A → wq_M_fits_56 a p0 Q k15 u5 A → mm_V l G M_M_fits 0 0 56 [some (va_rf (some a)), some (.int p0), none, none, none, some (.int u5), none] [] h (wQI G Q) := by
  intro u5 A h hV hw
  unfold wq_M_fits_56 at hw
  refine mm_iconst (v := 1) (pc' := 57) d_M_fits_56 rfl (by decide) ?_
  refine mm_goto (tgt := 61) d_M_fits_57 rfl ?_
  exact mm_drop (mm_le.s (mm_le.s (mm_le.n (mm_le.n (mm_le.n (mm_le.s (mm_le.n mm_le.e))))))) (sq_M_fits_61 hk15 _ _ _ _ hV hw)
def wb_M_fits_15 (a : Nat) (p0 : Int32) (Q : Int32 → ab_H → Prop)  (k15 : Int64 → Int32 → Int32 → ab_H → Prop) (u2 : Int64) (u4 : Int32) (u5 : Int32) (A : ab_H) : Prop := wgR A (some a) 14 14 (fun r2 => wAI A r2 p0 (fun x3 => if x3 ≤ u5 then (wq_M_fits_129 a p0 Q u2 u4 A) else (wC A (some a) 14 (fun b => wp_M_letterOf b p0 u5 A (fun x4 A => if x4 = (124 : Int32) then (if u4 = 0 then (wgI A (some a) 14 40 (fun x11 => if (lg_cmp ((wsr u2 x11) &&& (1 : Int64)) (1 : Int64)) = 0 then (wq_M_fits_56 a p0 Q k15 u5 A) else (wq_M_fits_61 a p0 Q k15 u5 (0 : Int32) A))) else (wq_M_fits_56 a p0 Q k15 u5 A)) else (wC A (some a) 14 (fun b => wp_M_pieceEnd b p0 u5 A (fun x5 A => wC A (some a) 14 (fun b => wp_M_through b p0 u5 x5 u2 A (fun y6 A => wC A (some a) 14 (fun b => wp_M_letterOf b p0 x5 A (fun x7 A => if x7 = (42 : Int32) then (wL ((x5 + (1 : Int32))) (fun x8 => k15 y6 u4 x8 A)) else (wC A (some a) 14 (fun b => wp_M_letterOf b p0 x5 A (fun x9 A => if x9 = (63 : Int32) then (wL ((x5 + (1 : Int32))) (fun x10 => k15 y6 u4 x10 A)) else (k15 y6 u4 x5 A))))))))))))))))
def wq_M_fits_15 (a : Nat) (p0 : Int32) (Q : Int32 → ab_H → Prop)  : Nat → Int64 → Int32 → Int32 → ab_H → Prop
  | 0 => fun _ _ _ _ => False
  | n + 1 => wb_M_fits_15 a p0 Q  (wq_M_fits_15 a p0 Q  n)
set_option maxRecDepth 100000 in
set_option maxHeartbeats 4000000 in
theorem sq_M_fits_15 {l : Launch} {G : mm_G} {a : Nat} {p0 : Int32} {Q : Int32 → ab_H → Prop}   : ∀ (n : Nat) (u2 : Int64) (u4 : Int32) (u5 : Int32) (A : ab_H) (h : mm_H), Vw G h A → wq_M_fits_15 a p0 Q  n u2 u4 u5 A → mm_V l G M_M_fits 0 0 15 [some (va_rf (some a)), some (.int p0), some (.long u2), none, some (.int u4), some (.int u5), none] [] h (wQI G Q) := by
  intro n
  induction n with
  | zero =>
    intro u2 u4 u5 A h hV hw
    exact absurd hw id
  | succ n hk15 =>
    intro u2 u4 u5 A h hV hw
    have hw : wb_M_fits_15 a p0 Q  (wq_M_fits_15 a p0 Q  n) u2 u4 u5 A := hw
    unfold wb_M_fits_15 at hw
    refine mm_iload (pc' := 17) d_M_fits_15 rfl rfl ?_
    refine wr_aload_n (some a) (pc' := 18) d_M_fits_17 rfl rfl rfl ?_
    refine wr_getR hV hw (pc' := 21) d_M_fits_18 rfl fl_M_44 (fun r2 hw => ?_)
    refine mm_iload_n (pc' := 22) d_M_fits_21 rfl rfl rfl ?_
    refine wr_aldI hV hw (pc' := 23) d_M_fits_22 rfl (fun x3 hw => ?_)
    refine wr_icmp_ge hw (pc' := 26) d_M_fits_23 rfl rfl (fun hw => ?_) (fun hw => ?_)
    · exact mm_drop (mm_le.s (mm_le.s (mm_le.s (mm_le.n (mm_le.s (mm_le.n (mm_le.n mm_le.e))))))) (sq_M_fits_129  _ _ _ _ hV hw)
    · refine wr_aload_n (some a) (pc' := 27) d_M_fits_26 rfl rfl rfl ?_
      refine mm_iload_n (pc' := 28) d_M_fits_27 rfl rfl rfl ?_
      refine mm_iload (pc' := 30) d_M_fits_28 rfl rfl ?_
      refine wr_cVI (pc' := 33) (as := [.int p0, .int u5]) (st := []) d_M_fits_30 rfl cs_M_213 rfl (W := fun b Q' => wp_M_letterOf b p0 u5 A Q') hV hw (fun b Q' hw => sd_M_letterOf hV hw) rfl rfl (Nat.le_of_ble_eq_true rfl) (Nat.le_of_ble_eq_true rfl) (fun x4 h A hV hw => ?_)
      refine mm_bipush (v := 124) (pc' := 35) d_M_fits_33 rfl (by decide) ?_
      refine wr_icmp_ne hw (pc' := 38) d_M_fits_35 rfl rfl (fun hw => ?_) (fun hw => ?_)
      · refine wr_aload_n (some a) (pc' := 72) d_M_fits_71 rfl rfl rfl ?_
        refine mm_iload_n (pc' := 73) d_M_fits_72 rfl rfl rfl ?_
        refine mm_iload (pc' := 75) d_M_fits_73 rfl rfl ?_
        refine wr_cVI (pc' := 78) (as := [.int p0, .int u5]) (st := []) d_M_fits_75 rfl cs_M_216 rfl (W := fun b Q' => wp_M_pieceEnd b p0 u5 A Q') hV hw (fun b Q' hw => sd_M_pieceEnd hV hw) rfl rfl (Nat.le_of_ble_eq_true rfl) (Nat.le_of_ble_eq_true rfl) (fun x5 h A hV hw => ?_)
        refine mm_ist6 (pc' := 80) d_M_fits_78 rfl rfl (Nat.le_of_ble_eq_true rfl) ?_
        refine wr_aload_n (some a) (pc' := 81) d_M_fits_80 rfl rfl rfl ?_
        refine mm_iload_n (pc' := 82) d_M_fits_81 rfl rfl rfl ?_
        refine mm_iload (pc' := 84) d_M_fits_82 rfl rfl ?_
        refine mm_iload (pc' := 86) d_M_fits_84 rfl rfl ?_
        refine mm_lload_n (pc' := 87) d_M_fits_86 rfl rfl rfl ?_
        refine wr_cVJ (pc' := 90) (as := [.int p0, .int u5, .int x5, .long u2]) (st := []) d_M_fits_87 rfl cs_M_223 rfl (W := fun b Q' => wp_M_through b p0 u5 x5 u2 A Q') hV hw (fun b Q' hw => sd_M_through hV hw) rfl rfl (Nat.le_of_ble_eq_true rfl) (Nat.le_of_ble_eq_true rfl) (fun y6 h A hV hw => ?_)
        refine mm_lst2 (pc' := 91) d_M_fits_90 rfl rfl (Nat.le_of_ble_eq_true rfl) ?_
        refine wr_aload_n (some a) (pc' := 92) d_M_fits_91 rfl rfl rfl ?_
        refine mm_iload_n (pc' := 93) d_M_fits_92 rfl rfl rfl ?_
        refine mm_iload (pc' := 95) d_M_fits_93 rfl rfl ?_
        refine wr_cVI (pc' := 98) (as := [.int p0, .int x5]) (st := []) d_M_fits_95 rfl cs_M_213 rfl (W := fun b Q' => wp_M_letterOf b p0 x5 A Q') hV hw (fun b Q' hw => sd_M_letterOf hV hw) rfl rfl (Nat.le_of_ble_eq_true rfl) (Nat.le_of_ble_eq_true rfl) (fun x7 h A hV hw => ?_)
        refine mm_bipush (v := 42) (pc' := 100) d_M_fits_98 rfl (by decide) ?_
        refine wr_icmp_eq hw (pc' := 103) d_M_fits_100 rfl rfl (fun hw => ?_) (fun hw => ?_)
        · refine mm_iload (pc' := 117) d_M_fits_115 rfl rfl ?_
          refine mm_iconst (v := 1) (pc' := 118) d_M_fits_117 rfl (by decide) ?_
          refine mm_iadd (pc' := 119) d_M_fits_118 rfl ?_
          refine mm_goto (tgt := 124) d_M_fits_119 rfl ?_
          refine wr_let (P := fun z => mm_V l G M_M_fits 0 0 124 [some (va_rf (some a)), some (.int p0), some (.long y6), none, some (.int u4), some (.int u5), some (.int x5)] (.int z :: []) h _) hw (fun x8 hw => ?_)
          refine mm_ist5 (pc' := 126) d_M_fits_124 rfl rfl (Nat.le_of_ble_eq_true rfl) ?_
          refine mm_goto (tgt := 15) d_M_fits_126 rfl ?_
          exact mm_drop (mm_le.s (mm_le.s (mm_le.s (mm_le.n (mm_le.s (mm_le.s (mm_le.n mm_le.e))))))) (hk15 _ _ _ _ _ hV hw)
        · refine wr_aload_n (some a) (pc' := 104) d_M_fits_103 rfl rfl rfl ?_
          refine mm_iload_n (pc' := 105) d_M_fits_104 rfl rfl rfl ?_
          refine mm_iload (pc' := 107) d_M_fits_105 rfl rfl ?_
          refine wr_cVI (pc' := 110) (as := [.int p0, .int x5]) (st := []) d_M_fits_107 rfl cs_M_213 rfl (W := fun b Q' => wp_M_letterOf b p0 x5 A Q') hV hw (fun b Q' hw => sd_M_letterOf hV hw) rfl rfl (Nat.le_of_ble_eq_true rfl) (Nat.le_of_ble_eq_true rfl) (fun x9 h A hV hw => ?_)
          refine mm_bipush (v := 63) (pc' := 112) d_M_fits_110 rfl (by decide) ?_
          refine wr_icmp_ne hw (pc' := 115) d_M_fits_112 rfl rfl (fun hw => ?_) (fun hw => ?_)
          · refine mm_iload (pc' := 124) d_M_fits_122 rfl rfl ?_
            refine mm_ist5 (pc' := 126) d_M_fits_124 rfl rfl (Nat.le_of_ble_eq_true rfl) ?_
            refine mm_goto (tgt := 15) d_M_fits_126 rfl ?_
            exact mm_drop (mm_le.s (mm_le.s (mm_le.s (mm_le.n (mm_le.s (mm_le.s (mm_le.n mm_le.e))))))) (hk15 _ _ _ _ _ hV hw)
          · refine mm_iload (pc' := 117) d_M_fits_115 rfl rfl ?_
            refine mm_iconst (v := 1) (pc' := 118) d_M_fits_117 rfl (by decide) ?_
            refine mm_iadd (pc' := 119) d_M_fits_118 rfl ?_
            refine mm_goto (tgt := 124) d_M_fits_119 rfl ?_
            refine wr_let (P := fun z => mm_V l G M_M_fits 0 0 124 [some (va_rf (some a)), some (.int p0), some (.long y6), none, some (.int u4), some (.int u5), some (.int x5)] (.int z :: []) h _) hw (fun x10 hw => ?_)
            refine mm_ist5 (pc' := 126) d_M_fits_124 rfl rfl (Nat.le_of_ble_eq_true rfl) ?_
            refine mm_goto (tgt := 15) d_M_fits_126 rfl ?_
            exact mm_drop (mm_le.s (mm_le.s (mm_le.s (mm_le.n (mm_le.s (mm_le.s (mm_le.n mm_le.e))))))) (hk15 _ _ _ _ _ hV hw)
      · refine mm_iload (pc' := 40) d_M_fits_38 rfl rfl ?_
        refine wr_if_ne hw (pc' := 43) d_M_fits_40 rfl rfl (fun hw => ?_) (fun hw => ?_)
        · exact mm_drop (mm_le.s (mm_le.s (mm_le.n (mm_le.n (mm_le.n (mm_le.s (mm_le.n mm_le.e))))))) (sq_M_fits_56 hk15 _ _ _ hV hw)
        · refine mm_lload_n (pc' := 44) d_M_fits_43 rfl rfl rfl ?_
          refine wr_aload_n (some a) (pc' := 45) d_M_fits_44 rfl rfl rfl ?_
          refine wr_getI hV hw (pc' := 48) d_M_fits_45 rfl fl_M_185 (fun x11 hw => ?_)
          refine mm_lshr (v := wsr u2 x11) (pc' := 49) d_M_fits_48 rfl rfl ?_
          refine mm_lconst (v := 1) (pc' := 50) d_M_fits_49 rfl (by decide) ?_
          refine mm_land (pc' := 51) d_M_fits_50 rfl ?_
          refine mm_lconst (v := 1) (pc' := 52) d_M_fits_51 rfl (by decide) ?_
          refine mm_lcmp (pc' := 53) d_M_fits_52 rfl ?_
          refine wr_if_ne hw (pc' := 56) d_M_fits_53 rfl rfl (fun hw => ?_) (fun hw => ?_)
          · refine mm_iconst (v := 0) (pc' := 61) d_M_fits_60 rfl (by decide) ?_
            exact mm_drop (mm_le.s (mm_le.s (mm_le.n (mm_le.n (mm_le.n (mm_le.s (mm_le.n mm_le.e))))))) (sq_M_fits_61 hk15 _ _ _ _ hV hw)
          · exact mm_drop (mm_le.s (mm_le.s (mm_le.n (mm_le.n (mm_le.n (mm_le.s (mm_le.n mm_le.e))))))) (sq_M_fits_56 hk15 _ _ _ hV hw)
def wp_M_fits (a : Nat) (p0 : Int32) (A : ab_H) (Q : Int32 → ab_H → Prop) : Prop := wgR A (some a) 14 13 (fun r12 => wAI A r12 p0 (fun x13 => wL ((x13 + (1 : Int32))) (fun x14 => ∃ n, wq_M_fits_15 a p0 Q n (1 : Int64) (0 : Int32) x14 A)))
set_option maxRecDepth 100000 in
set_option maxHeartbeats 4000000 in
theorem sd_M_fits {l : Launch} {G : mm_G} {h : mm_H} {A : ab_H} {a : Nat} {p0 : Int32} {Q : Int32 → ab_H → Prop} (hV : Vw G h A) (hw : wp_M_fits a p0 A Q) : mm_S l G M_M_fits [.ref a, .int p0] h 0 0 (wQI G Q) := by
  unfold wp_M_fits at hw
  refine mm_start rfl (Nat.le_of_ble_eq_true rfl) ?_
  show mm_V l G M_M_fits 0 0 0 [some (va_rf (some a)), some (.int p0), none, none, none, none, none] [] h _
  refine mm_lconst (v := 1) (pc' := 1) d_M_fits_0 rfl (by decide) ?_
  refine mm_lst2 (pc' := 2) d_M_fits_1 rfl rfl (Nat.le_of_ble_eq_true rfl) ?_
  refine mm_iconst (v := 0) (pc' := 3) d_M_fits_2 rfl (by decide) ?_
  refine mm_ist4 (pc' := 5) d_M_fits_3 rfl rfl (Nat.le_of_ble_eq_true rfl) ?_
  refine wr_aload_n (some a) (pc' := 6) d_M_fits_5 rfl rfl rfl ?_
  refine wr_getR hV hw (pc' := 9) d_M_fits_6 rfl fl_M_41 (fun r12 hw => ?_)
  refine mm_iload_n (pc' := 10) d_M_fits_9 rfl rfl rfl ?_
  refine wr_aldI hV hw (pc' := 11) d_M_fits_10 rfl (fun x13 hw => ?_)
  refine mm_iconst (v := 1) (pc' := 12) d_M_fits_11 rfl (by decide) ?_
  refine mm_iadd (pc' := 13) d_M_fits_12 rfl ?_
  refine wr_let (P := fun z => mm_V l G M_M_fits 0 0 13 [some (va_rf (some a)), some (.int p0), some (.long (1 : Int64)), none, some (.int (0 : Int32)), none, none] (.int z :: []) h _) hw (fun x14 hw => ?_)
  refine mm_ist5 (pc' := 15) d_M_fits_13 rfl rfl (Nat.le_of_ble_eq_true rfl) ?_
  obtain ⟨n, hw⟩ := hw
  exact mm_drop (mm_le.s (mm_le.s (mm_le.s (mm_le.n (mm_le.s (mm_le.s (mm_le.n mm_le.e))))))) (sq_M_fits_15  n _ _ _ _ _ hV hw)
theorem d_M_contains_0 : decode prog_14_method_36_code 0 = .ok (.aload_n 0, 1) := by decide +kernel
theorem d_M_contains_1 : decode prog_14_method_36_code 1 = .ok (.getfield 41, 3) := by decide +kernel
theorem d_M_contains_4 : decode prog_14_method_36_code 4 = .ok (.iload_n 1, 1) := by decide +kernel
theorem d_M_contains_5 : decode prog_14_method_36_code 5 = .ok (.iaload, 1) := by decide +kernel
theorem d_M_contains_6 : decode prog_14_method_36_code 6 = .ok (.iconst 1, 1) := by decide +kernel
theorem d_M_contains_7 : decode prog_14_method_36_code 7 = .ok (.iadd, 1) := by decide +kernel
theorem d_M_contains_8 : decode prog_14_method_36_code 8 = .ok (.istore_n 2, 1) := by decide +kernel
theorem d_M_contains_9 : decode prog_14_method_36_code 9 = .ok (.aload_n 0, 1) := by decide +kernel
theorem d_M_contains_10 : decode prog_14_method_36_code 10 = .ok (.getfield 44, 3) := by decide +kernel
theorem d_M_contains_13 : decode prog_14_method_36_code 13 = .ok (.iload_n 1, 1) := by decide +kernel
theorem d_M_contains_14 : decode prog_14_method_36_code 14 = .ok (.iaload, 1) := by decide +kernel
theorem d_M_contains_15 : decode prog_14_method_36_code 15 = .ok (.iload_n 2, 1) := by decide +kernel
theorem d_M_contains_16 : decode prog_14_method_36_code 16 = .ok (.isub, 1) := by decide +kernel
theorem d_M_contains_17 : decode prog_14_method_36_code 17 = .ok (.istore_n 3, 1) := by decide +kernel
theorem d_M_contains_18 : decode prog_14_method_36_code 18 = .ok (.iconst 0, 1) := by decide +kernel
theorem d_M_contains_19 : decode prog_14_method_36_code 19 = .ok (.istore 4, 2) := by decide +kernel
theorem d_M_contains_21 : decode prog_14_method_36_code 21 = .ok (.iconst 0, 1) := by decide +kernel
theorem d_M_contains_22 : decode prog_14_method_36_code 22 = .ok (.istore 5, 2) := by decide +kernel
theorem d_M_contains_24 : decode prog_14_method_36_code 24 = .ok (.iload 5, 2) := by decide +kernel
theorem d_M_contains_26 : decode prog_14_method_36_code 26 = .ok (.iload_n 3, 1) := by decide +kernel
theorem d_M_contains_27 : decode prog_14_method_36_code 27 = .ok (.iadd, 1) := by decide +kernel
theorem d_M_contains_28 : decode prog_14_method_36_code 28 = .ok (.aload_n 0, 1) := by decide +kernel
theorem d_M_contains_29 : decode prog_14_method_36_code 29 = .ok (.getfield 185, 3) := by decide +kernel
theorem d_M_contains_32 : decode prog_14_method_36_code 32 = .ok (.if_icmp .gt 83, 3) := by decide +kernel
theorem d_M_contains_35 : decode prog_14_method_36_code 35 = .ok (.iconst 1, 1) := by decide +kernel
theorem d_M_contains_36 : decode prog_14_method_36_code 36 = .ok (.istore 6, 2) := by decide +kernel
theorem d_M_contains_38 : decode prog_14_method_36_code 38 = .ok (.iconst 0, 1) := by decide +kernel
theorem d_M_contains_39 : decode prog_14_method_36_code 39 = .ok (.istore 7, 2) := by decide +kernel
theorem d_M_contains_41 : decode prog_14_method_36_code 41 = .ok (.iload 7, 2) := by decide +kernel
theorem d_M_contains_43 : decode prog_14_method_36_code 43 = .ok (.iload_n 3, 1) := by decide +kernel
theorem d_M_contains_44 : decode prog_14_method_36_code 44 = .ok (.if_icmp .ge 48, 3) := by decide +kernel
theorem d_M_contains_47 : decode prog_14_method_36_code 47 = .ok (.iload 6, 2) := by decide +kernel
theorem d_M_contains_49 : decode prog_14_method_36_code 49 = .ok (.ifCond .eq 34, 3) := by decide +kernel
theorem d_M_contains_52 : decode prog_14_method_36_code 52 = .ok (.aload_n 0, 1) := by decide +kernel
theorem d_M_contains_53 : decode prog_14_method_36_code 53 = .ok (.getfield 89, 3) := by decide +kernel
theorem d_M_contains_56 : decode prog_14_method_36_code 56 = .ok (.iload 5, 2) := by decide +kernel
theorem d_M_contains_58 : decode prog_14_method_36_code 58 = .ok (.iload 7, 2) := by decide +kernel
theorem d_M_contains_60 : decode prog_14_method_36_code 60 = .ok (.iadd, 1) := by decide +kernel
theorem d_M_contains_61 : decode prog_14_method_36_code 61 = .ok (.iaload, 1) := by decide +kernel
theorem d_M_contains_62 : decode prog_14_method_36_code 62 = .ok (.aload_n 0, 1) := by decide +kernel
theorem d_M_contains_63 : decode prog_14_method_36_code 63 = .ok (.getfield 47, 3) := by decide +kernel
theorem d_M_contains_66 : decode prog_14_method_36_code 66 = .ok (.bipush 40, 2) := by decide +kernel
theorem d_M_contains_68 : decode prog_14_method_36_code 68 = .ok (.iload_n 1, 1) := by decide +kernel
theorem d_M_contains_69 : decode prog_14_method_36_code 69 = .ok (.imul, 1) := by decide +kernel
theorem d_M_contains_70 : decode prog_14_method_36_code 70 = .ok (.iload_n 2, 1) := by decide +kernel
theorem d_M_contains_71 : decode prog_14_method_36_code 71 = .ok (.iadd, 1) := by decide +kernel
theorem d_M_contains_72 : decode prog_14_method_36_code 72 = .ok (.iload 7, 2) := by decide +kernel
theorem d_M_contains_74 : decode prog_14_method_36_code 74 = .ok (.iadd, 1) := by decide +kernel
theorem d_M_contains_75 : decode prog_14_method_36_code 75 = .ok (.iaload, 1) := by decide +kernel
theorem d_M_contains_76 : decode prog_14_method_36_code 76 = .ok (.if_icmp .ne 7, 3) := by decide +kernel
theorem d_M_contains_79 : decode prog_14_method_36_code 79 = .ok (.iconst 1, 1) := by decide +kernel
theorem d_M_contains_80 : decode prog_14_method_36_code 80 = .ok (.goto 4, 3) := by decide +kernel
theorem d_M_contains_83 : decode prog_14_method_36_code 83 = .ok (.iconst 0, 1) := by decide +kernel
theorem d_M_contains_84 : decode prog_14_method_36_code 84 = .ok (.istore 6, 2) := by decide +kernel
theorem d_M_contains_86 : decode prog_14_method_36_code 86 = .ok (.iinc 7 1, 3) := by decide +kernel
theorem d_M_contains_89 : decode prog_14_method_36_code 89 = .ok (.goto (-48), 3) := by decide +kernel
theorem d_M_contains_92 : decode prog_14_method_36_code 92 = .ok (.iload 4, 2) := by decide +kernel
theorem d_M_contains_94 : decode prog_14_method_36_code 94 = .ok (.ifCond .ne 8, 3) := by decide +kernel
theorem d_M_contains_97 : decode prog_14_method_36_code 97 = .ok (.iload 6, 2) := by decide +kernel
theorem d_M_contains_99 : decode prog_14_method_36_code 99 = .ok (.ifCond .eq 7, 3) := by decide +kernel
theorem d_M_contains_102 : decode prog_14_method_36_code 102 = .ok (.iconst 1, 1) := by decide +kernel
theorem d_M_contains_103 : decode prog_14_method_36_code 103 = .ok (.goto 4, 3) := by decide +kernel
theorem d_M_contains_106 : decode prog_14_method_36_code 106 = .ok (.iconst 0, 1) := by decide +kernel
theorem d_M_contains_107 : decode prog_14_method_36_code 107 = .ok (.istore 4, 2) := by decide +kernel
theorem d_M_contains_109 : decode prog_14_method_36_code 109 = .ok (.iinc 5 1, 3) := by decide +kernel
theorem d_M_contains_112 : decode prog_14_method_36_code 112 = .ok (.goto (-88), 3) := by decide +kernel
theorem d_M_contains_115 : decode prog_14_method_36_code 115 = .ok (.iload 4, 2) := by decide +kernel
theorem d_M_contains_117 : decode prog_14_method_36_code 117 = .ok (.ireturn, 1) := by decide +kernel
def wq_M_contains_92 (a : Nat) (p0 : Int32) (Q : Int32 → ab_H → Prop) (k24 : Int32 → Int32 → Int32 → Int32 → ab_H → Prop) (u2 : Int32) (u3 : Int32) (u4 : Int32) (u5 : Int32) (u6 : Int32) (A : ab_H) : Prop := if u4 = 0 then (if u6 = 0 then (k24 u2 u3 (0 : Int32) (u5 + 1) A) else (k24 u2 u3 (1 : Int32) (u5 + 1) A)) else (k24 u2 u3 (1 : Int32) (u5 + 1) A)
set_option maxRecDepth 100000 in
set_option maxHeartbeats 4000000 in
theorem sq_M_contains_92 {l : Launch} {G : mm_G} {a : Nat} {p0 : Int32} {Q : Int32 → ab_H → Prop} {k24 : Int32 → Int32 → Int32 → Int32 → ab_H → Prop} (hk24 : ∀ (u2 : Int32) (u3 : Int32) (u4 : Int32) (u5 : Int32) (A : ab_H) (h : mm_H), Vw G h A → k24 u2 u3 u4 u5 A → mm_V l G M_M_contains 0 0 24 [some (va_rf (some a)), some (.int p0), some (.int u2), some (.int u3), some (.int u4), some (.int u5), none, none] [] h (wQI G Q)) : ∀ (u2 : Int32) (u3 : Int32) (u4 : Int32) (u5 : Int32) (u6 : Int32) (A : ab_H) (h : mm_H), Vw G h A → wq_M_contains_92 a p0 Q k24 u2 u3 u4 u5 u6 A → mm_V l G M_M_contains 0 0 92 [some (va_rf (some a)), some (.int p0), some (.int u2), some (.int u3), some (.int u4), some (.int u5), some (.int u6), none] [] h (wQI G Q) := by
  intro u2 u3 u4 u5 u6 A h hV hw
  unfold wq_M_contains_92 at hw
  refine mm_iload (pc' := 94) d_M_contains_92 rfl rfl ?_
  refine wr_if_ne hw (pc' := 97) d_M_contains_94 rfl rfl (fun hw => ?_) (fun hw => ?_)
  · refine mm_iconst (v := 1) (pc' := 103) d_M_contains_102 rfl (by decide) ?_
    refine mm_goto (tgt := 107) d_M_contains_103 rfl ?_
    refine mm_ist4 (pc' := 109) d_M_contains_107 rfl rfl (Nat.le_of_ble_eq_true rfl) ?_
    refine mm_iinc5 (v := (u5 + 1)) (pc' := 112) d_M_contains_109 rfl rfl rfl (Nat.le_of_ble_eq_true rfl) ?_
    refine mm_goto (tgt := 24) d_M_contains_112 rfl ?_
    exact mm_drop (mm_le.s (mm_le.s (mm_le.s (mm_le.s (mm_le.s (mm_le.s (mm_le.n (mm_le.n mm_le.e)))))))) (hk24 _ _ _ _ _ _ hV hw)
  · refine mm_iload (pc' := 99) d_M_contains_97 rfl rfl ?_
    refine wr_if_eq hw (pc' := 102) d_M_contains_99 rfl rfl (fun hw => ?_) (fun hw => ?_)
    · refine mm_iconst (v := 0) (pc' := 107) d_M_contains_106 rfl (by decide) ?_
      refine mm_ist4 (pc' := 109) d_M_contains_107 rfl rfl (Nat.le_of_ble_eq_true rfl) ?_
      refine mm_iinc5 (v := (u5 + 1)) (pc' := 112) d_M_contains_109 rfl rfl rfl (Nat.le_of_ble_eq_true rfl) ?_
      refine mm_goto (tgt := 24) d_M_contains_112 rfl ?_
      exact mm_drop (mm_le.s (mm_le.s (mm_le.s (mm_le.s (mm_le.s (mm_le.s (mm_le.n (mm_le.n mm_le.e)))))))) (hk24 _ _ _ _ _ _ hV hw)
    · refine mm_iconst (v := 1) (pc' := 103) d_M_contains_102 rfl (by decide) ?_
      refine mm_goto (tgt := 107) d_M_contains_103 rfl ?_
      refine mm_ist4 (pc' := 109) d_M_contains_107 rfl rfl (Nat.le_of_ble_eq_true rfl) ?_
      refine mm_iinc5 (v := (u5 + 1)) (pc' := 112) d_M_contains_109 rfl rfl rfl (Nat.le_of_ble_eq_true rfl) ?_
      refine mm_goto (tgt := 24) d_M_contains_112 rfl ?_
      exact mm_drop (mm_le.s (mm_le.s (mm_le.s (mm_le.s (mm_le.s (mm_le.s (mm_le.n (mm_le.n mm_le.e)))))))) (hk24 _ _ _ _ _ _ hV hw)
def wb_M_contains_41 (a : Nat) (p0 : Int32) (Q : Int32 → ab_H → Prop) (k24 : Int32 → Int32 → Int32 → Int32 → ab_H → Prop) (k41 : Int32 → Int32 → Int32 → Int32 → Int32 → Int32 → ab_H → Prop) (u2 : Int32) (u3 : Int32) (u4 : Int32) (u5 : Int32) (u6 : Int32) (u7 : Int32) (A : ab_H) : Prop := if u3 ≤ u7 then (wq_M_contains_92 a p0 Q k24 u2 u3 u4 u5 u6 A) else (if u6 = 0 then (k41 u2 u3 u4 u5 (0 : Int32) (u7 + 1) A) else (wgR A (some a) 14 39 (fun r1 => wAI A r1 (u5 + u7) (fun x2 => wgR A (some a) 14 15 (fun r3 => wAI A r3 ((((40 : Int32) * p0) + u2) + u7) (fun x4 => if x2 = x4 then (k41 u2 u3 u4 u5 (1 : Int32) (u7 + 1) A) else (k41 u2 u3 u4 u5 (0 : Int32) (u7 + 1) A)))))))
def wq_M_contains_41 (a : Nat) (p0 : Int32) (Q : Int32 → ab_H → Prop) (k24 : Int32 → Int32 → Int32 → Int32 → ab_H → Prop) : Nat → Int32 → Int32 → Int32 → Int32 → Int32 → Int32 → ab_H → Prop
  | 0 => fun _ _ _ _ _ _ _ => False
  | n + 1 => wb_M_contains_41 a p0 Q k24 (wq_M_contains_41 a p0 Q k24 n)
set_option maxRecDepth 100000 in
set_option maxHeartbeats 4000000 in
theorem sq_M_contains_41 {l : Launch} {G : mm_G} {a : Nat} {p0 : Int32} {Q : Int32 → ab_H → Prop} {k24 : Int32 → Int32 → Int32 → Int32 → ab_H → Prop} (hk24 : ∀ (u2 : Int32) (u3 : Int32) (u4 : Int32) (u5 : Int32) (A : ab_H) (h : mm_H), Vw G h A → k24 u2 u3 u4 u5 A → mm_V l G M_M_contains 0 0 24 [some (va_rf (some a)), some (.int p0), some (.int u2), some (.int u3), some (.int u4), some (.int u5), none, none] [] h (wQI G Q)) : ∀ (n : Nat) (u2 : Int32) (u3 : Int32) (u4 : Int32) (u5 : Int32) (u6 : Int32) (u7 : Int32) (A : ab_H) (h : mm_H), Vw G h A → wq_M_contains_41 a p0 Q k24 n u2 u3 u4 u5 u6 u7 A → mm_V l G M_M_contains 0 0 41 [some (va_rf (some a)), some (.int p0), some (.int u2), some (.int u3), some (.int u4), some (.int u5), some (.int u6), some (.int u7)] [] h (wQI G Q) := by
  intro n
  induction n with
  | zero =>
    intro u2 u3 u4 u5 u6 u7 A h hV hw
    exact absurd hw id
  | succ n hk41 =>
    intro u2 u3 u4 u5 u6 u7 A h hV hw
    have hw : wb_M_contains_41 a p0 Q k24 (wq_M_contains_41 a p0 Q k24 n) u2 u3 u4 u5 u6 u7 A := hw
    unfold wb_M_contains_41 at hw
    refine mm_iload (pc' := 43) d_M_contains_41 rfl rfl ?_
    refine mm_iload_n (pc' := 44) d_M_contains_43 rfl rfl rfl ?_
    refine wr_icmp_ge hw (pc' := 47) d_M_contains_44 rfl rfl (fun hw => ?_) (fun hw => ?_)
    · exact mm_drop (mm_le.s (mm_le.s (mm_le.s (mm_le.s (mm_le.s (mm_le.s (mm_le.s (mm_le.n mm_le.e)))))))) (sq_M_contains_92 hk24 _ _ _ _ _ _ _ hV hw)
    · refine mm_iload (pc' := 49) d_M_contains_47 rfl rfl ?_
      refine wr_if_eq hw (pc' := 52) d_M_contains_49 rfl rfl (fun hw => ?_) (fun hw => ?_)
      · refine mm_iconst (v := 0) (pc' := 84) d_M_contains_83 rfl (by decide) ?_
        refine mm_ist6 (pc' := 86) d_M_contains_84 rfl rfl (Nat.le_of_ble_eq_true rfl) ?_
        refine mm_iinc7 (v := (u7 + 1)) (pc' := 89) d_M_contains_86 rfl rfl rfl (Nat.le_of_ble_eq_true rfl) ?_
        refine mm_goto (tgt := 41) d_M_contains_89 rfl ?_
        exact mm_drop (mm_le.s (mm_le.s (mm_le.s (mm_le.s (mm_le.s (mm_le.s (mm_le.s (mm_le.s mm_le.e)))))))) (hk41 _ _ _ _ _ _ _ _ hV hw)
      · refine wr_aload_n (some a) (pc' := 53) d_M_contains_52 rfl rfl rfl ?_
        refine wr_getR hV hw (pc' := 56) d_M_contains_53 rfl fl_M_89 (fun r1 hw => ?_)
        refine mm_iload (pc' := 58) d_M_contains_56 rfl rfl ?_
        refine mm_iload (pc' := 60) d_M_contains_58 rfl rfl ?_
        refine mm_iadd (pc' := 61) d_M_contains_60 rfl ?_
        refine wr_aldI hV hw (pc' := 62) d_M_contains_61 rfl (fun x2 hw => ?_)
        refine wr_aload_n (some a) (pc' := 63) d_M_contains_62 rfl rfl rfl ?_
        refine wr_getR hV hw (pc' := 66) d_M_contains_63 rfl fl_M_47 (fun r3 hw => ?_)
        refine mm_bipush (v := 40) (pc' := 68) d_M_contains_66 rfl (by decide) ?_
        refine mm_iload_n (pc' := 69) d_M_contains_68 rfl rfl rfl ?_
        refine mm_imul (pc' := 70) d_M_contains_69 rfl ?_
        refine mm_iload_n (pc' := 71) d_M_contains_70 rfl rfl rfl ?_
        refine mm_iadd (pc' := 72) d_M_contains_71 rfl ?_
        refine mm_iload (pc' := 74) d_M_contains_72 rfl rfl ?_
        refine mm_iadd (pc' := 75) d_M_contains_74 rfl ?_
        refine wr_aldI hV hw (pc' := 76) d_M_contains_75 rfl (fun x4 hw => ?_)
        refine wr_icmp_ne hw (pc' := 79) d_M_contains_76 rfl rfl (fun hw => ?_) (fun hw => ?_)
        · refine mm_iconst (v := 0) (pc' := 84) d_M_contains_83 rfl (by decide) ?_
          refine mm_ist6 (pc' := 86) d_M_contains_84 rfl rfl (Nat.le_of_ble_eq_true rfl) ?_
          refine mm_iinc7 (v := (u7 + 1)) (pc' := 89) d_M_contains_86 rfl rfl rfl (Nat.le_of_ble_eq_true rfl) ?_
          refine mm_goto (tgt := 41) d_M_contains_89 rfl ?_
          exact mm_drop (mm_le.s (mm_le.s (mm_le.s (mm_le.s (mm_le.s (mm_le.s (mm_le.s (mm_le.s mm_le.e)))))))) (hk41 _ _ _ _ _ _ _ _ hV hw)
        · refine mm_iconst (v := 1) (pc' := 80) d_M_contains_79 rfl (by decide) ?_
          refine mm_goto (tgt := 84) d_M_contains_80 rfl ?_
          refine mm_ist6 (pc' := 86) d_M_contains_84 rfl rfl (Nat.le_of_ble_eq_true rfl) ?_
          refine mm_iinc7 (v := (u7 + 1)) (pc' := 89) d_M_contains_86 rfl rfl rfl (Nat.le_of_ble_eq_true rfl) ?_
          refine mm_goto (tgt := 41) d_M_contains_89 rfl ?_
          exact mm_drop (mm_le.s (mm_le.s (mm_le.s (mm_le.s (mm_le.s (mm_le.s (mm_le.s (mm_le.s mm_le.e)))))))) (hk41 _ _ _ _ _ _ _ _ hV hw)
def wb_M_contains_24 (a : Nat) (p0 : Int32) (Q : Int32 → ab_H → Prop)  (k24 : Int32 → Int32 → Int32 → Int32 → ab_H → Prop) (u2 : Int32) (u3 : Int32) (u4 : Int32) (u5 : Int32) (A : ab_H) : Prop := wgI A (some a) 14 40 (fun x5 => if x5 < (u5 + u3) then (wB u4 (Q u4 A)) else (∃ n, wq_M_contains_41 a p0 Q k24 n u2 u3 u4 u5 (1 : Int32) (0 : Int32) A))
def wq_M_contains_24 (a : Nat) (p0 : Int32) (Q : Int32 → ab_H → Prop)  : Nat → Int32 → Int32 → Int32 → Int32 → ab_H → Prop
  | 0 => fun _ _ _ _ _ => False
  | n + 1 => wb_M_contains_24 a p0 Q  (wq_M_contains_24 a p0 Q  n)
set_option maxRecDepth 100000 in
set_option maxHeartbeats 4000000 in
theorem sq_M_contains_24 {l : Launch} {G : mm_G} {a : Nat} {p0 : Int32} {Q : Int32 → ab_H → Prop}   : ∀ (n : Nat) (u2 : Int32) (u3 : Int32) (u4 : Int32) (u5 : Int32) (A : ab_H) (h : mm_H), Vw G h A → wq_M_contains_24 a p0 Q  n u2 u3 u4 u5 A → mm_V l G M_M_contains 0 0 24 [some (va_rf (some a)), some (.int p0), some (.int u2), some (.int u3), some (.int u4), some (.int u5), none, none] [] h (wQI G Q) := by
  intro n
  induction n with
  | zero =>
    intro u2 u3 u4 u5 A h hV hw
    exact absurd hw id
  | succ n hk24 =>
    intro u2 u3 u4 u5 A h hV hw
    have hw : wb_M_contains_24 a p0 Q  (wq_M_contains_24 a p0 Q  n) u2 u3 u4 u5 A := hw
    unfold wb_M_contains_24 at hw
    refine mm_iload (pc' := 26) d_M_contains_24 rfl rfl ?_
    refine mm_iload_n (pc' := 27) d_M_contains_26 rfl rfl rfl ?_
    refine mm_iadd (pc' := 28) d_M_contains_27 rfl ?_
    refine wr_aload_n (some a) (pc' := 29) d_M_contains_28 rfl rfl rfl ?_
    refine wr_getI hV hw (pc' := 32) d_M_contains_29 rfl fl_M_185 (fun x5 hw => ?_)
    refine wr_icmp_gt hw (pc' := 35) d_M_contains_32 rfl rfl (fun hw => ?_) (fun hw => ?_)
    · refine mm_iload (pc' := 117) d_M_contains_115 rfl rfl ?_
      obtain ⟨hb, hw⟩ := hw
      exact wr_iret hV d_M_contains_117 rfl (wn_b hb) hw
    · refine mm_iconst (v := 1) (pc' := 36) d_M_contains_35 rfl (by decide) ?_
      refine mm_ist6 (pc' := 38) d_M_contains_36 rfl rfl (Nat.le_of_ble_eq_true rfl) ?_
      refine mm_iconst (v := 0) (pc' := 39) d_M_contains_38 rfl (by decide) ?_
      refine mm_ist7 (pc' := 41) d_M_contains_39 rfl rfl (Nat.le_of_ble_eq_true rfl) ?_
      obtain ⟨n, hw⟩ := hw
      exact mm_drop (mm_le.s (mm_le.s (mm_le.s (mm_le.s (mm_le.s (mm_le.s (mm_le.s (mm_le.s mm_le.e)))))))) (sq_M_contains_41 hk24 n _ _ _ _ _ _ _ _ hV hw)
def wp_M_contains (a : Nat) (p0 : Int32) (A : ab_H) (Q : Int32 → ab_H → Prop) : Prop := wgR A (some a) 14 13 (fun r6 => wAI A r6 p0 (fun x7 => wL ((x7 + (1 : Int32))) (fun x8 => wgR A (some a) 14 14 (fun r9 => wAI A r9 p0 (fun x10 => wL ((x10 - x8)) (fun x11 => ∃ n, wq_M_contains_24 a p0 Q n x8 x11 (0 : Int32) (0 : Int32) A))))))
set_option maxRecDepth 100000 in
set_option maxHeartbeats 4000000 in
theorem sd_M_contains {l : Launch} {G : mm_G} {h : mm_H} {A : ab_H} {a : Nat} {p0 : Int32} {Q : Int32 → ab_H → Prop} (hV : Vw G h A) (hw : wp_M_contains a p0 A Q) : mm_S l G M_M_contains [.ref a, .int p0] h 0 0 (wQI G Q) := by
  unfold wp_M_contains at hw
  refine mm_start rfl (Nat.le_of_ble_eq_true rfl) ?_
  show mm_V l G M_M_contains 0 0 0 [some (va_rf (some a)), some (.int p0), none, none, none, none, none, none] [] h _
  refine wr_aload_n (some a) (pc' := 1) d_M_contains_0 rfl rfl rfl ?_
  refine wr_getR hV hw (pc' := 4) d_M_contains_1 rfl fl_M_41 (fun r6 hw => ?_)
  refine mm_iload_n (pc' := 5) d_M_contains_4 rfl rfl rfl ?_
  refine wr_aldI hV hw (pc' := 6) d_M_contains_5 rfl (fun x7 hw => ?_)
  refine mm_iconst (v := 1) (pc' := 7) d_M_contains_6 rfl (by decide) ?_
  refine mm_iadd (pc' := 8) d_M_contains_7 rfl ?_
  refine wr_let (P := fun z => mm_V l G M_M_contains 0 0 8 [some (va_rf (some a)), some (.int p0), none, none, none, none, none, none] (.int z :: []) h _) hw (fun x8 hw => ?_)
  refine mm_ist2 (pc' := 9) d_M_contains_8 rfl rfl (Nat.le_of_ble_eq_true rfl) ?_
  refine wr_aload_n (some a) (pc' := 10) d_M_contains_9 rfl rfl rfl ?_
  refine wr_getR hV hw (pc' := 13) d_M_contains_10 rfl fl_M_44 (fun r9 hw => ?_)
  refine mm_iload_n (pc' := 14) d_M_contains_13 rfl rfl rfl ?_
  refine wr_aldI hV hw (pc' := 15) d_M_contains_14 rfl (fun x10 hw => ?_)
  refine mm_iload_n (pc' := 16) d_M_contains_15 rfl rfl rfl ?_
  refine mm_isub (pc' := 17) d_M_contains_16 rfl ?_
  refine wr_let (P := fun z => mm_V l G M_M_contains 0 0 17 [some (va_rf (some a)), some (.int p0), some (.int x8), none, none, none, none, none] (.int z :: []) h _) hw (fun x11 hw => ?_)
  refine mm_ist3 (pc' := 18) d_M_contains_17 rfl rfl (Nat.le_of_ble_eq_true rfl) ?_
  refine mm_iconst (v := 0) (pc' := 19) d_M_contains_18 rfl (by decide) ?_
  refine mm_ist4 (pc' := 21) d_M_contains_19 rfl rfl (Nat.le_of_ble_eq_true rfl) ?_
  refine mm_iconst (v := 0) (pc' := 22) d_M_contains_21 rfl (by decide) ?_
  refine mm_ist5 (pc' := 24) d_M_contains_22 rfl rfl (Nat.le_of_ble_eq_true rfl) ?_
  obtain ⟨n, hw⟩ := hw
  exact mm_drop (mm_le.s (mm_le.s (mm_le.s (mm_le.s (mm_le.s (mm_le.s (mm_le.n (mm_le.n mm_le.e)))))))) (sq_M_contains_24  n _ _ _ _ _ _ hV hw)
theorem d_M_holds_0 : decode prog_14_method_37_code 0 = .ok (.aload_n 0, 1) := by decide +kernel
theorem d_M_holds_1 : decode prog_14_method_37_code 1 = .ok (.aload_n 0, 1) := by decide +kernel
theorem d_M_holds_2 : decode prog_14_method_37_code 2 = .ok (.getfield 41, 3) := by decide +kernel
theorem d_M_holds_5 : decode prog_14_method_37_code 5 = .ok (.iload_n 1, 1) := by decide +kernel
theorem d_M_holds_6 : decode prog_14_method_37_code 6 = .ok (.iaload, 1) := by decide +kernel
theorem d_M_holds_7 : decode prog_14_method_37_code 7 = .ok (.ifCond .ge 7, 3) := by decide +kernel
theorem d_M_holds_10 : decode prog_14_method_37_code 10 = .ok (.iconst 0, 1) := by decide +kernel
theorem d_M_holds_11 : decode prog_14_method_37_code 11 = .ok (.goto 9, 3) := by decide +kernel
theorem d_M_holds_14 : decode prog_14_method_37_code 14 = .ok (.aload_n 0, 1) := by decide +kernel
theorem d_M_holds_15 : decode prog_14_method_37_code 15 = .ok (.getfield 41, 3) := by decide +kernel
theorem d_M_holds_18 : decode prog_14_method_37_code 18 = .ok (.iload_n 1, 1) := by decide +kernel
theorem d_M_holds_19 : decode prog_14_method_37_code 19 = .ok (.iaload, 1) := by decide +kernel
theorem d_M_holds_20 : decode prog_14_method_37_code 20 = .ok (.putfield 192, 3) := by decide +kernel
theorem d_M_holds_23 : decode prog_14_method_37_code 23 = .ok (.iconst 0, 1) := by decide +kernel
theorem d_M_holds_24 : decode prog_14_method_37_code 24 = .ok (.istore_n 2, 1) := by decide +kernel
theorem d_M_holds_25 : decode prog_14_method_37_code 25 = .ok (.iload_n 2, 1) := by decide +kernel
theorem d_M_holds_26 : decode prog_14_method_37_code 26 = .ok (.aload_n 0, 1) := by decide +kernel
theorem d_M_holds_27 : decode prog_14_method_37_code 27 = .ok (.getfield 192, 3) := by decide +kernel
theorem d_M_holds_30 : decode prog_14_method_37_code 30 = .ok (.if_icmp .ge 26, 3) := by decide +kernel
theorem d_M_holds_33 : decode prog_14_method_37_code 33 = .ok (.aload_n 0, 1) := by decide +kernel
theorem d_M_holds_34 : decode prog_14_method_37_code 34 = .ok (.getfield 86, 3) := by decide +kernel
theorem d_M_holds_37 : decode prog_14_method_37_code 37 = .ok (.iload_n 2, 1) := by decide +kernel
theorem d_M_holds_38 : decode prog_14_method_37_code 38 = .ok (.aload_n 0, 1) := by decide +kernel
theorem d_M_holds_39 : decode prog_14_method_37_code 39 = .ok (.getfield 47, 3) := by decide +kernel
theorem d_M_holds_42 : decode prog_14_method_37_code 42 = .ok (.bipush 40, 2) := by decide +kernel
theorem d_M_holds_44 : decode prog_14_method_37_code 44 = .ok (.iload_n 1, 1) := by decide +kernel
theorem d_M_holds_45 : decode prog_14_method_37_code 45 = .ok (.imul, 1) := by decide +kernel
theorem d_M_holds_46 : decode prog_14_method_37_code 46 = .ok (.iload_n 2, 1) := by decide +kernel
theorem d_M_holds_47 : decode prog_14_method_37_code 47 = .ok (.iadd, 1) := by decide +kernel
theorem d_M_holds_48 : decode prog_14_method_37_code 48 = .ok (.iaload, 1) := by decide +kernel
theorem d_M_holds_49 : decode prog_14_method_37_code 49 = .ok (.iastore, 1) := by decide +kernel
theorem d_M_holds_50 : decode prog_14_method_37_code 50 = .ok (.iinc 2 1, 3) := by decide +kernel
theorem d_M_holds_53 : decode prog_14_method_37_code 53 = .ok (.goto (-28), 3) := by decide +kernel
theorem d_M_holds_56 : decode prog_14_method_37_code 56 = .ok (.aload_n 0, 1) := by decide +kernel
theorem d_M_holds_57 : decode prog_14_method_37_code 57 = .ok (.aload_n 0, 1) := by decide +kernel
theorem d_M_holds_58 : decode prog_14_method_37_code 58 = .ok (.getfield 35, 3) := by decide +kernel
theorem d_M_holds_61 : decode prog_14_method_37_code 61 = .ok (.iload_n 1, 1) := by decide +kernel
theorem d_M_holds_62 : decode prog_14_method_37_code 62 = .ok (.iaload, 1) := by decide +kernel
theorem d_M_holds_63 : decode prog_14_method_37_code 63 = .ok (.invokevirtual 227, 3) := by decide +kernel
theorem d_M_holds_66 : decode prog_14_method_37_code 66 = .ok (.istore_n 2, 1) := by decide +kernel
theorem d_M_holds_67 : decode prog_14_method_37_code 67 = .ok (.aload_n 0, 1) := by decide +kernel
theorem d_M_holds_68 : decode prog_14_method_37_code 68 = .ok (.getfield 38, 3) := by decide +kernel
theorem d_M_holds_71 : decode prog_14_method_37_code 71 = .ok (.iload_n 1, 1) := by decide +kernel
theorem d_M_holds_72 : decode prog_14_method_37_code 72 = .ok (.iaload, 1) := by decide +kernel
theorem d_M_holds_73 : decode prog_14_method_37_code 73 = .ok (.iconst 3, 1) := by decide +kernel
theorem d_M_holds_74 : decode prog_14_method_37_code 74 = .ok (.if_icmp .lt 28, 3) := by decide +kernel
theorem d_M_holds_77 : decode prog_14_method_37_code 77 = .ok (.iload_n 2, 1) := by decide +kernel
theorem d_M_holds_78 : decode prog_14_method_37_code 78 = .ok (.aload_n 0, 1) := by decide +kernel
theorem d_M_holds_79 : decode prog_14_method_37_code 79 = .ok (.getfield 38, 3) := by decide +kernel
theorem d_M_holds_82 : decode prog_14_method_37_code 82 = .ok (.iload_n 1, 1) := by decide +kernel
theorem d_M_holds_83 : decode prog_14_method_37_code 83 = .ok (.iaload, 1) := by decide +kernel
theorem d_M_holds_84 : decode prog_14_method_37_code 84 = .ok (.iconst 4, 1) := by decide +kernel
theorem d_M_holds_85 : decode prog_14_method_37_code 85 = .ok (.if_icmp .ne 7, 3) := by decide +kernel
theorem d_M_holds_88 : decode prog_14_method_37_code 88 = .ok (.iconst 1, 1) := by decide +kernel
theorem d_M_holds_89 : decode prog_14_method_37_code 89 = .ok (.goto 4, 3) := by decide +kernel
theorem d_M_holds_92 : decode prog_14_method_37_code 92 = .ok (.iconst 0, 1) := by decide +kernel
theorem d_M_holds_93 : decode prog_14_method_37_code 93 = .ok (.if_icmp .ne 7, 3) := by decide +kernel
theorem d_M_holds_96 : decode prog_14_method_37_code 96 = .ok (.iconst 1, 1) := by decide +kernel
theorem d_M_holds_97 : decode prog_14_method_37_code 97 = .ok (.goto 4, 3) := by decide +kernel
theorem d_M_holds_100 : decode prog_14_method_37_code 100 = .ok (.iconst 0, 1) := by decide +kernel
theorem d_M_holds_101 : decode prog_14_method_37_code 101 = .ok (.ireturn, 1) := by decide +kernel
theorem d_M_holds_102 : decode prog_14_method_37_code 102 = .ok (.iload_n 2, 1) := by decide +kernel
theorem d_M_holds_103 : decode prog_14_method_37_code 103 = .ok (.ifCond .ne 5, 3) := by decide +kernel
theorem d_M_holds_106 : decode prog_14_method_37_code 106 = .ok (.iconst 0, 1) := by decide +kernel
theorem d_M_holds_107 : decode prog_14_method_37_code 107 = .ok (.ireturn, 1) := by decide +kernel
theorem d_M_holds_108 : decode prog_14_method_37_code 108 = .ok (.aload_n 0, 1) := by decide +kernel
theorem d_M_holds_109 : decode prog_14_method_37_code 109 = .ok (.getfield 38, 3) := by decide +kernel
theorem d_M_holds_112 : decode prog_14_method_37_code 112 = .ok (.iload_n 1, 1) := by decide +kernel
theorem d_M_holds_113 : decode prog_14_method_37_code 113 = .ok (.iaload, 1) := by decide +kernel
theorem d_M_holds_114 : decode prog_14_method_37_code 114 = .ok (.iconst 2, 1) := by decide +kernel
theorem d_M_holds_115 : decode prog_14_method_37_code 115 = .ok (.if_icmp .ne 11, 3) := by decide +kernel
theorem d_M_holds_118 : decode prog_14_method_37_code 118 = .ok (.aload_n 0, 1) := by decide +kernel
theorem d_M_holds_119 : decode prog_14_method_37_code 119 = .ok (.iload_n 1, 1) := by decide +kernel
theorem d_M_holds_120 : decode prog_14_method_37_code 120 = .ok (.invokevirtual 230, 3) := by decide +kernel
theorem d_M_holds_123 : decode prog_14_method_37_code 123 = .ok (.goto 48, 3) := by decide +kernel
theorem d_M_holds_126 : decode prog_14_method_37_code 126 = .ok (.aload_n 0, 1) := by decide +kernel
theorem d_M_holds_127 : decode prog_14_method_37_code 127 = .ok (.iload_n 1, 1) := by decide +kernel
theorem d_M_holds_128 : decode prog_14_method_37_code 128 = .ok (.invokevirtual 233, 3) := by decide +kernel
theorem d_M_holds_131 : decode prog_14_method_37_code 131 = .ok (.ifCond .eq 39, 3) := by decide +kernel
theorem d_M_holds_134 : decode prog_14_method_37_code 134 = .ok (.aload_n 0, 1) := by decide +kernel
theorem d_M_holds_135 : decode prog_14_method_37_code 135 = .ok (.getfield 38, 3) := by decide +kernel
theorem d_M_holds_138 : decode prog_14_method_37_code 138 = .ok (.iload_n 1, 1) := by decide +kernel
theorem d_M_holds_139 : decode prog_14_method_37_code 139 = .ok (.iaload, 1) := by decide +kernel
theorem d_M_holds_140 : decode prog_14_method_37_code 140 = .ok (.iconst 1, 1) := by decide +kernel
theorem d_M_holds_141 : decode prog_14_method_37_code 141 = .ok (.if_icmp .eq 25, 3) := by decide +kernel
theorem d_M_holds_144 : decode prog_14_method_37_code 144 = .ok (.aload_n 0, 1) := by decide +kernel
theorem d_M_holds_145 : decode prog_14_method_37_code 145 = .ok (.getfield 185, 3) := by decide +kernel
theorem d_M_holds_148 : decode prog_14_method_37_code 148 = .ok (.aload_n 0, 1) := by decide +kernel
theorem d_M_holds_149 : decode prog_14_method_37_code 149 = .ok (.getfield 44, 3) := by decide +kernel
theorem d_M_holds_152 : decode prog_14_method_37_code 152 = .ok (.iload_n 1, 1) := by decide +kernel
theorem d_M_holds_153 : decode prog_14_method_37_code 153 = .ok (.iaload, 1) := by decide +kernel
theorem d_M_holds_154 : decode prog_14_method_37_code 154 = .ok (.aload_n 0, 1) := by decide +kernel
theorem d_M_holds_155 : decode prog_14_method_37_code 155 = .ok (.getfield 41, 3) := by decide +kernel
theorem d_M_holds_158 : decode prog_14_method_37_code 158 = .ok (.iload_n 1, 1) := by decide +kernel
theorem d_M_holds_159 : decode prog_14_method_37_code 159 = .ok (.iaload, 1) := by decide +kernel
theorem d_M_holds_160 : decode prog_14_method_37_code 160 = .ok (.isub, 1) := by decide +kernel
theorem d_M_holds_161 : decode prog_14_method_37_code 161 = .ok (.iconst 1, 1) := by decide +kernel
theorem d_M_holds_162 : decode prog_14_method_37_code 162 = .ok (.isub, 1) := by decide +kernel
theorem d_M_holds_163 : decode prog_14_method_37_code 163 = .ok (.if_icmp .ne 7, 3) := by decide +kernel
theorem d_M_holds_166 : decode prog_14_method_37_code 166 = .ok (.iconst 1, 1) := by decide +kernel
theorem d_M_holds_167 : decode prog_14_method_37_code 167 = .ok (.goto 4, 3) := by decide +kernel
theorem d_M_holds_170 : decode prog_14_method_37_code 170 = .ok (.iconst 0, 1) := by decide +kernel
theorem d_M_holds_171 : decode prog_14_method_37_code 171 = .ok (.ireturn, 1) := by decide +kernel
def wq_M_holds_93 (a : Nat) (p0 : Int32) (Q : Int32 → ab_H → Prop)  (s0 : Int32) (s1 : Int32) (A : ab_H) : Prop := if s0 = s1 then (Q (1 : Int32) A) else (Q (0 : Int32) A)
set_option maxRecDepth 100000 in
set_option maxHeartbeats 4000000 in
theorem sq_M_holds_93 {l : Launch} {G : mm_G} {a : Nat} {p0 : Int32} {Q : Int32 → ab_H → Prop}   : ∀ (s0 : Int32) (s1 : Int32) (A : ab_H) (h : mm_H), Vw G h A → wq_M_holds_93 a p0 Q  s0 s1 A → mm_V l G M_M_holds 0 0 93 [some (va_rf (some a)), some (.int p0), none] [.int s1, .int s0] h (wQI G Q) := by
  intro s0 s1 A h hV hw
  unfold wq_M_holds_93 at hw
  refine wr_icmp_ne hw (pc' := 96) d_M_holds_93 rfl rfl (fun hw => ?_) (fun hw => ?_)
  · refine mm_iconst (v := 0) (pc' := 101) d_M_holds_100 rfl (by decide) ?_
    exact wr_iret hV d_M_holds_101 rfl rfl hw
  · refine mm_iconst (v := 1) (pc' := 97) d_M_holds_96 rfl (by decide) ?_
    refine mm_goto (tgt := 101) d_M_holds_97 rfl ?_
    exact wr_iret hV d_M_holds_101 rfl rfl hw
def wq_M_holds_56 (a : Nat) (p0 : Int32) (Q : Int32 → ab_H → Prop)   (A : ab_H) : Prop := wgR A (some a) 14 11 (fun r1 => wAI A r1 p0 (fun x2 => wC A (some a) 14 (fun b => wp_M_seekPart b x2 A (fun x3 A => wgR A (some a) 14 12 (fun r4 => wAI A r4 p0 (fun x5 => if x5 < (3 : Int32) then (if x3 = 0 then (Q (0 : Int32) A) else (wgR A (some a) 14 12 (fun r6 => wAI A r6 p0 (fun x7 => if x7 = (2 : Int32) then (wC A (some a) 14 (fun b => wp_M_fits b p0 A (fun x16 A => wB x16 (Q x16 A)))) else (wC A (some a) 14 (fun b => wp_M_contains b p0 A (fun x8 A => if x8 = 0 then (Q (0 : Int32) A) else (wgR A (some a) 14 12 (fun r9 => wAI A r9 p0 (fun x10 => if x10 = (1 : Int32) then (Q (1 : Int32) A) else (wgI A (some a) 14 40 (fun x11 => wgR A (some a) 14 14 (fun r12 => wAI A r12 p0 (fun x13 => wgR A (some a) 14 13 (fun r14 => wAI A r14 p0 (fun x15 => if x11 = ((x13 - x15) - (1 : Int32)) then (Q (1 : Int32) A) else (Q (0 : Int32) A))))))))))))))))) else (wgR A (some a) 14 12 (fun r17 => wAI A r17 p0 (fun x18 => if x18 = (4 : Int32) then (wq_M_holds_93 a p0 Q x3 (1 : Int32) A) else (wq_M_holds_93 a p0 Q x3 (0 : Int32) A))))))))))
set_option maxRecDepth 100000 in
set_option maxHeartbeats 4000000 in
theorem sq_M_holds_56 {l : Launch} {G : mm_G} {a : Nat} {p0 : Int32} {Q : Int32 → ab_H → Prop}   : ∀ (A : ab_H) (h : mm_H), Vw G h A → wq_M_holds_56 a p0 Q  A → mm_V l G M_M_holds 0 0 56 [some (va_rf (some a)), some (.int p0), none] [] h (wQI G Q) := by
  intro A h hV hw
  unfold wq_M_holds_56 at hw
  refine wr_aload_n (some a) (pc' := 57) d_M_holds_56 rfl rfl rfl ?_
  refine wr_aload_n (some a) (pc' := 58) d_M_holds_57 rfl rfl rfl ?_
  refine wr_getR hV hw (pc' := 61) d_M_holds_58 rfl fl_M_35 (fun r1 hw => ?_)
  refine mm_iload_n (pc' := 62) d_M_holds_61 rfl rfl rfl ?_
  refine wr_aldI hV hw (pc' := 63) d_M_holds_62 rfl (fun x2 hw => ?_)
  refine wr_cVI (pc' := 66) (as := [.int x2]) (st := []) d_M_holds_63 rfl cs_M_227 rfl (W := fun b Q' => wp_M_seekPart b x2 A Q') hV hw (fun b Q' hw => sd_M_seekPart hV hw) rfl rfl (Nat.le_of_ble_eq_true rfl) (Nat.le_of_ble_eq_true rfl) (fun x3 h A hV hw => ?_)
  refine mm_ist2 (pc' := 67) d_M_holds_66 rfl rfl (Nat.le_of_ble_eq_true rfl) ?_
  refine wr_aload_n (some a) (pc' := 68) d_M_holds_67 rfl rfl rfl ?_
  refine wr_getR hV hw (pc' := 71) d_M_holds_68 rfl fl_M_38 (fun r4 hw => ?_)
  refine mm_iload_n (pc' := 72) d_M_holds_71 rfl rfl rfl ?_
  refine wr_aldI hV hw (pc' := 73) d_M_holds_72 rfl (fun x5 hw => ?_)
  refine mm_iconst (v := 3) (pc' := 74) d_M_holds_73 rfl (by decide) ?_
  refine wr_icmp_lt hw (pc' := 77) d_M_holds_74 rfl rfl (fun hw => ?_) (fun hw => ?_)
  · refine mm_iload_n (pc' := 103) d_M_holds_102 rfl rfl rfl ?_
    refine wr_if_ne hw (pc' := 106) d_M_holds_103 rfl rfl (fun hw => ?_) (fun hw => ?_)
    · refine wr_aload_n (some a) (pc' := 109) d_M_holds_108 rfl rfl rfl ?_
      refine wr_getR hV hw (pc' := 112) d_M_holds_109 rfl fl_M_38 (fun r6 hw => ?_)
      refine mm_iload_n (pc' := 113) d_M_holds_112 rfl rfl rfl ?_
      refine wr_aldI hV hw (pc' := 114) d_M_holds_113 rfl (fun x7 hw => ?_)
      refine mm_iconst (v := 2) (pc' := 115) d_M_holds_114 rfl (by decide) ?_
      refine wr_icmp_ne hw (pc' := 118) d_M_holds_115 rfl rfl (fun hw => ?_) (fun hw => ?_)
      · refine wr_aload_n (some a) (pc' := 127) d_M_holds_126 rfl rfl rfl ?_
        refine mm_iload_n (pc' := 128) d_M_holds_127 rfl rfl rfl ?_
        refine wr_cVI (pc' := 131) (as := [.int p0]) (st := []) d_M_holds_128 rfl cs_M_233 rfl (W := fun b Q' => wp_M_contains b p0 A Q') hV hw (fun b Q' hw => sd_M_contains hV hw) rfl rfl (Nat.le_of_ble_eq_true rfl) (Nat.le_of_ble_eq_true rfl) (fun x8 h A hV hw => ?_)
        refine wr_if_eq hw (pc' := 134) d_M_holds_131 rfl rfl (fun hw => ?_) (fun hw => ?_)
        · refine mm_iconst (v := 0) (pc' := 171) d_M_holds_170 rfl (by decide) ?_
          exact wr_iret hV d_M_holds_171 rfl rfl hw
        · refine wr_aload_n (some a) (pc' := 135) d_M_holds_134 rfl rfl rfl ?_
          refine wr_getR hV hw (pc' := 138) d_M_holds_135 rfl fl_M_38 (fun r9 hw => ?_)
          refine mm_iload_n (pc' := 139) d_M_holds_138 rfl rfl rfl ?_
          refine wr_aldI hV hw (pc' := 140) d_M_holds_139 rfl (fun x10 hw => ?_)
          refine mm_iconst (v := 1) (pc' := 141) d_M_holds_140 rfl (by decide) ?_
          refine wr_icmp_eq hw (pc' := 144) d_M_holds_141 rfl rfl (fun hw => ?_) (fun hw => ?_)
          · refine mm_iconst (v := 1) (pc' := 167) d_M_holds_166 rfl (by decide) ?_
            refine mm_goto (tgt := 171) d_M_holds_167 rfl ?_
            exact wr_iret hV d_M_holds_171 rfl rfl hw
          · refine wr_aload_n (some a) (pc' := 145) d_M_holds_144 rfl rfl rfl ?_
            refine wr_getI hV hw (pc' := 148) d_M_holds_145 rfl fl_M_185 (fun x11 hw => ?_)
            refine wr_aload_n (some a) (pc' := 149) d_M_holds_148 rfl rfl rfl ?_
            refine wr_getR hV hw (pc' := 152) d_M_holds_149 rfl fl_M_44 (fun r12 hw => ?_)
            refine mm_iload_n (pc' := 153) d_M_holds_152 rfl rfl rfl ?_
            refine wr_aldI hV hw (pc' := 154) d_M_holds_153 rfl (fun x13 hw => ?_)
            refine wr_aload_n (some a) (pc' := 155) d_M_holds_154 rfl rfl rfl ?_
            refine wr_getR hV hw (pc' := 158) d_M_holds_155 rfl fl_M_41 (fun r14 hw => ?_)
            refine mm_iload_n (pc' := 159) d_M_holds_158 rfl rfl rfl ?_
            refine wr_aldI hV hw (pc' := 160) d_M_holds_159 rfl (fun x15 hw => ?_)
            refine mm_isub (pc' := 161) d_M_holds_160 rfl ?_
            refine mm_iconst (v := 1) (pc' := 162) d_M_holds_161 rfl (by decide) ?_
            refine mm_isub (pc' := 163) d_M_holds_162 rfl ?_
            refine wr_icmp_ne hw (pc' := 166) d_M_holds_163 rfl rfl (fun hw => ?_) (fun hw => ?_)
            · refine mm_iconst (v := 0) (pc' := 171) d_M_holds_170 rfl (by decide) ?_
              exact wr_iret hV d_M_holds_171 rfl rfl hw
            · refine mm_iconst (v := 1) (pc' := 167) d_M_holds_166 rfl (by decide) ?_
              refine mm_goto (tgt := 171) d_M_holds_167 rfl ?_
              exact wr_iret hV d_M_holds_171 rfl rfl hw
      · refine wr_aload_n (some a) (pc' := 119) d_M_holds_118 rfl rfl rfl ?_
        refine mm_iload_n (pc' := 120) d_M_holds_119 rfl rfl rfl ?_
        refine wr_cVI (pc' := 123) (as := [.int p0]) (st := []) d_M_holds_120 rfl cs_M_230 rfl (W := fun b Q' => wp_M_fits b p0 A Q') hV hw (fun b Q' hw => sd_M_fits hV hw) rfl rfl (Nat.le_of_ble_eq_true rfl) (Nat.le_of_ble_eq_true rfl) (fun x16 h A hV hw => ?_)
        refine mm_goto (tgt := 171) d_M_holds_123 rfl ?_
        obtain ⟨hb, hw⟩ := hw
        exact wr_iret hV d_M_holds_171 rfl (wn_b hb) hw
    · refine mm_iconst (v := 0) (pc' := 107) d_M_holds_106 rfl (by decide) ?_
      exact wr_iret hV d_M_holds_107 rfl rfl hw
  · refine mm_iload_n (pc' := 78) d_M_holds_77 rfl rfl rfl ?_
    refine wr_aload_n (some a) (pc' := 79) d_M_holds_78 rfl rfl rfl ?_
    refine wr_getR hV hw (pc' := 82) d_M_holds_79 rfl fl_M_38 (fun r17 hw => ?_)
    refine mm_iload_n (pc' := 83) d_M_holds_82 rfl rfl rfl ?_
    refine wr_aldI hV hw (pc' := 84) d_M_holds_83 rfl (fun x18 hw => ?_)
    refine mm_iconst (v := 4) (pc' := 85) d_M_holds_84 rfl (by decide) ?_
    refine wr_icmp_ne hw (pc' := 88) d_M_holds_85 rfl rfl (fun hw => ?_) (fun hw => ?_)
    · refine mm_iconst (v := 0) (pc' := 93) d_M_holds_92 rfl (by decide) ?_
      exact mm_drop (mm_le.s (mm_le.s (mm_le.n mm_le.e))) (sq_M_holds_93  _ _ _ _ hV hw)
    · refine mm_iconst (v := 1) (pc' := 89) d_M_holds_88 rfl (by decide) ?_
      refine mm_goto (tgt := 93) d_M_holds_89 rfl ?_
      exact mm_drop (mm_le.s (mm_le.s (mm_le.n mm_le.e))) (sq_M_holds_93  _ _ _ _ hV hw)
def wb_M_holds_25 (a : Nat) (p0 : Int32) (Q : Int32 → ab_H → Prop)  (k25 : Int32 → ab_H → Prop) (u2 : Int32) (A : ab_H) : Prop := wgI A (some a) 14 38 (fun x19 => if x19 ≤ u2 then (wq_M_holds_56 a p0 Q A) else (wgR A (some a) 14 37 (fun r20 => wgR A (some a) 14 15 (fun r21 => wAI A r21 (((40 : Int32) * p0) + u2) (fun x22 => wSI A r20 u2 x22 (fun A => k25 (u2 + 1) A))))))
def wq_M_holds_25 (a : Nat) (p0 : Int32) (Q : Int32 → ab_H → Prop)  : Nat → Int32 → ab_H → Prop
  | 0 => fun _ _ => False
  | n + 1 => wb_M_holds_25 a p0 Q  (wq_M_holds_25 a p0 Q  n)
set_option maxRecDepth 100000 in
set_option maxHeartbeats 4000000 in
theorem sq_M_holds_25 {l : Launch} {G : mm_G} {a : Nat} {p0 : Int32} {Q : Int32 → ab_H → Prop}   : ∀ (n : Nat) (u2 : Int32) (A : ab_H) (h : mm_H), Vw G h A → wq_M_holds_25 a p0 Q  n u2 A → mm_V l G M_M_holds 0 0 25 [some (va_rf (some a)), some (.int p0), some (.int u2)] [] h (wQI G Q) := by
  intro n
  induction n with
  | zero =>
    intro u2 A h hV hw
    exact absurd hw id
  | succ n hk25 =>
    intro u2 A h hV hw
    have hw : wb_M_holds_25 a p0 Q  (wq_M_holds_25 a p0 Q  n) u2 A := hw
    unfold wb_M_holds_25 at hw
    refine mm_iload_n (pc' := 26) d_M_holds_25 rfl rfl rfl ?_
    refine wr_aload_n (some a) (pc' := 27) d_M_holds_26 rfl rfl rfl ?_
    refine wr_getI hV hw (pc' := 30) d_M_holds_27 rfl fl_M_192 (fun x19 hw => ?_)
    refine wr_icmp_ge hw (pc' := 33) d_M_holds_30 rfl rfl (fun hw => ?_) (fun hw => ?_)
    · exact mm_drop (mm_le.s (mm_le.s (mm_le.n mm_le.e))) (sq_M_holds_56  _ _ hV hw)
    · refine wr_aload_n (some a) (pc' := 34) d_M_holds_33 rfl rfl rfl ?_
      refine wr_getR hV hw (pc' := 37) d_M_holds_34 rfl fl_M_86 (fun r20 hw => ?_)
      refine mm_iload_n (pc' := 38) d_M_holds_37 rfl rfl rfl ?_
      refine wr_aload_n (some a) (pc' := 39) d_M_holds_38 rfl rfl rfl ?_
      refine wr_getR hV hw (pc' := 42) d_M_holds_39 rfl fl_M_47 (fun r21 hw => ?_)
      refine mm_bipush (v := 40) (pc' := 44) d_M_holds_42 rfl (by decide) ?_
      refine mm_iload_n (pc' := 45) d_M_holds_44 rfl rfl rfl ?_
      refine mm_imul (pc' := 46) d_M_holds_45 rfl ?_
      refine mm_iload_n (pc' := 47) d_M_holds_46 rfl rfl rfl ?_
      refine mm_iadd (pc' := 48) d_M_holds_47 rfl ?_
      refine wr_aldI hV hw (pc' := 49) d_M_holds_48 rfl (fun x22 hw => ?_)
      refine wr_astI hV hw (pc' := 50) d_M_holds_49 rfl (fun h A hV hw => ?_)
      refine mm_iinc2 (v := (u2 + 1)) (pc' := 53) d_M_holds_50 rfl rfl rfl (Nat.le_of_ble_eq_true rfl) ?_
      refine mm_goto (tgt := 25) d_M_holds_53 rfl ?_
      exact mm_drop (mm_le.s (mm_le.s (mm_le.s mm_le.e))) (hk25 _ _ _ hV hw)
def wq_M_holds_20 (a : Nat) (p0 : Int32) (Q : Int32 → ab_H → Prop)  (s0 : Option Nat) (s1 : Int32) (A : ab_H) : Prop := wp A s0 14 38 (.int s1) (fun A => ∃ n, wq_M_holds_25 a p0 Q n (0 : Int32) A)
set_option maxRecDepth 100000 in
set_option maxHeartbeats 4000000 in
theorem sq_M_holds_20 {l : Launch} {G : mm_G} {a : Nat} {p0 : Int32} {Q : Int32 → ab_H → Prop}   : ∀ (s0 : Option Nat) (s1 : Int32) (A : ab_H) (h : mm_H), Vw G h A → wq_M_holds_20 a p0 Q  s0 s1 A → mm_V l G M_M_holds 0 0 20 [some (va_rf (some a)), some (.int p0), none] [.int s1, va_rf s0] h (wQI G Q) := by
  intro s0 s1 A h hV hw
  unfold wq_M_holds_20 at hw
  refine wr_put hV hw (pc' := 23) d_M_holds_20 rfl pl_M_holds_192 (Nat.le_of_ble_eq_true rfl) (wn_I _) (fun h A hV hw => ?_)
  refine mm_iconst (v := 0) (pc' := 24) d_M_holds_23 rfl (by decide) ?_
  refine mm_ist2 (pc' := 25) d_M_holds_24 rfl rfl (Nat.le_of_ble_eq_true rfl) ?_
  obtain ⟨n, hw⟩ := hw
  exact mm_drop (mm_le.s (mm_le.s (mm_le.s mm_le.e))) (sq_M_holds_25  n _ _ _ hV hw)
def wp_M_holds (a : Nat) (p0 : Int32) (A : ab_H) (Q : Int32 → ab_H → Prop) : Prop := wgR A (some a) 14 13 (fun r23 => wAI A r23 p0 (fun x24 => if 0 ≤ x24 then (wgR A (some a) 14 13 (fun r25 => wAI A r25 p0 (fun x26 => wq_M_holds_20 a p0 Q (some a) x26 A))) else (wq_M_holds_20 a p0 Q (some a) (0 : Int32) A)))
set_option maxRecDepth 100000 in
set_option maxHeartbeats 4000000 in
theorem sd_M_holds {l : Launch} {G : mm_G} {h : mm_H} {A : ab_H} {a : Nat} {p0 : Int32} {Q : Int32 → ab_H → Prop} (hV : Vw G h A) (hw : wp_M_holds a p0 A Q) : mm_S l G M_M_holds [.ref a, .int p0] h 0 0 (wQI G Q) := by
  unfold wp_M_holds at hw
  refine mm_start rfl (Nat.le_of_ble_eq_true rfl) ?_
  show mm_V l G M_M_holds 0 0 0 [some (va_rf (some a)), some (.int p0), none] [] h _
  refine wr_aload_n (some a) (pc' := 1) d_M_holds_0 rfl rfl rfl ?_
  refine wr_aload_n (some a) (pc' := 2) d_M_holds_1 rfl rfl rfl ?_
  refine wr_getR hV hw (pc' := 5) d_M_holds_2 rfl fl_M_41 (fun r23 hw => ?_)
  refine mm_iload_n (pc' := 6) d_M_holds_5 rfl rfl rfl ?_
  refine wr_aldI hV hw (pc' := 7) d_M_holds_6 rfl (fun x24 hw => ?_)
  refine wr_if_ge hw (pc' := 10) d_M_holds_7 rfl rfl (fun hw => ?_) (fun hw => ?_)
  · refine wr_aload_n (some a) (pc' := 15) d_M_holds_14 rfl rfl rfl ?_
    refine wr_getR hV hw (pc' := 18) d_M_holds_15 rfl fl_M_41 (fun r25 hw => ?_)
    refine mm_iload_n (pc' := 19) d_M_holds_18 rfl rfl rfl ?_
    refine wr_aldI hV hw (pc' := 20) d_M_holds_19 rfl (fun x26 hw => ?_)
    exact mm_drop (mm_le.s (mm_le.s (mm_le.n mm_le.e))) (sq_M_holds_20  _ _ _ _ hV hw)
  · refine mm_iconst (v := 0) (pc' := 11) d_M_holds_10 rfl (by decide) ?_
    refine mm_goto (tgt := 20) d_M_holds_11 rfl ?_
    exact mm_drop (mm_le.s (mm_le.s (mm_le.n mm_le.e))) (sq_M_holds_20  _ _ _ _ hV hw)
theorem d_M_failing_0 : decode prog_14_method_43_code 0 = .ok (.aload_n 0, 1) := by decide +kernel
theorem d_M_failing_1 : decode prog_14_method_43_code 1 = .ok (.iload_n 1, 1) := by decide +kernel
theorem d_M_failing_2 : decode prog_14_method_43_code 2 = .ok (.invokevirtual 251, 3) := by decide +kernel
theorem d_M_failing_5 : decode prog_14_method_43_code 5 = .ok (.ifCond .eq 7, 3) := by decide +kernel
theorem d_M_failing_8 : decode prog_14_method_43_code 8 = .ok (.iconst 0, 1) := by decide +kernel
theorem d_M_failing_9 : decode prog_14_method_43_code 9 = .ok (.goto 4, 3) := by decide +kernel
theorem d_M_failing_12 : decode prog_14_method_43_code 12 = .ok (.iconst 1, 1) := by decide +kernel
theorem d_M_failing_13 : decode prog_14_method_43_code 13 = .ok (.istore_n 2, 1) := by decide +kernel
theorem d_M_failing_14 : decode prog_14_method_43_code 14 = .ok (.iconst 0, 1) := by decide +kernel
theorem d_M_failing_15 : decode prog_14_method_43_code 15 = .ok (.istore_n 3, 1) := by decide +kernel
theorem d_M_failing_16 : decode prog_14_method_43_code 16 = .ok (.iload_n 3, 1) := by decide +kernel
theorem d_M_failing_17 : decode prog_14_method_43_code 17 = .ok (.aload_n 0, 1) := by decide +kernel
theorem d_M_failing_18 : decode prog_14_method_43_code 18 = .ok (.getfield 59, 3) := by decide +kernel
theorem d_M_failing_21 : decode prog_14_method_43_code 21 = .ok (.iload_n 1, 1) := by decide +kernel
theorem d_M_failing_22 : decode prog_14_method_43_code 22 = .ok (.iaload, 1) := by decide +kernel
theorem d_M_failing_23 : decode prog_14_method_43_code 23 = .ok (.if_icmp .ge 31, 3) := by decide +kernel
theorem d_M_failing_26 : decode prog_14_method_43_code 26 = .ok (.iload_n 2, 1) := by decide +kernel
theorem d_M_failing_27 : decode prog_14_method_43_code 27 = .ok (.aload_n 0, 1) := by decide +kernel
theorem d_M_failing_28 : decode prog_14_method_43_code 28 = .ok (.iconst 4, 1) := by decide +kernel
theorem d_M_failing_29 : decode prog_14_method_43_code 29 = .ok (.iload_n 1, 1) := by decide +kernel
theorem d_M_failing_30 : decode prog_14_method_43_code 30 = .ok (.imul, 1) := by decide +kernel
theorem d_M_failing_31 : decode prog_14_method_43_code 31 = .ok (.iconst 4, 1) := by decide +kernel
theorem d_M_failing_32 : decode prog_14_method_43_code 32 = .ok (.iadd, 1) := by decide +kernel
theorem d_M_failing_33 : decode prog_14_method_43_code 33 = .ok (.iload_n 3, 1) := by decide +kernel
theorem d_M_failing_34 : decode prog_14_method_43_code 34 = .ok (.iadd, 1) := by decide +kernel
theorem d_M_failing_35 : decode prog_14_method_43_code 35 = .ok (.invokevirtual 254, 3) := by decide +kernel
theorem d_M_failing_38 : decode prog_14_method_43_code 38 = .ok (.ifCond .eq 7, 3) := by decide +kernel
theorem d_M_failing_41 : decode prog_14_method_43_code 41 = .ok (.iconst 0, 1) := by decide +kernel
theorem d_M_failing_42 : decode prog_14_method_43_code 42 = .ok (.goto 4, 3) := by decide +kernel
theorem d_M_failing_45 : decode prog_14_method_43_code 45 = .ok (.iconst 1, 1) := by decide +kernel
theorem d_M_failing_46 : decode prog_14_method_43_code 46 = .ok (.iadd, 1) := by decide +kernel
theorem d_M_failing_47 : decode prog_14_method_43_code 47 = .ok (.istore_n 2, 1) := by decide +kernel
theorem d_M_failing_48 : decode prog_14_method_43_code 48 = .ok (.iinc 3 1, 3) := by decide +kernel
theorem d_M_failing_51 : decode prog_14_method_43_code 51 = .ok (.goto (-35), 3) := by decide +kernel
theorem d_M_failing_54 : decode prog_14_method_43_code 54 = .ok (.iload_n 2, 1) := by decide +kernel
theorem d_M_failing_55 : decode prog_14_method_43_code 55 = .ok (.ireturn, 1) := by decide +kernel
def wb_M_failing_16 (a : Nat) (p0 : Int32) (Q : Int32 → ab_H → Prop)  (k16 : Int32 → Int32 → ab_H → Prop) (u2 : Int32) (u3 : Int32) (A : ab_H) : Prop := wgR A (some a) 14 21 (fun r1 => wAI A r1 p0 (fun x2 => if x2 ≤ u3 then (Q u2 A) else (wC A (some a) 14 (fun b => wp_M_holds b ((((4 : Int32) * p0) + (4 : Int32)) + u3) A (fun x3 A => if x3 = 0 then (wL ((u2 + (1 : Int32))) (fun x4 => k16 x4 (u3 + 1) A)) else (wL ((u2 + (0 : Int32))) (fun x5 => k16 x5 (u3 + 1) A)))))))
def wq_M_failing_16 (a : Nat) (p0 : Int32) (Q : Int32 → ab_H → Prop)  : Nat → Int32 → Int32 → ab_H → Prop
  | 0 => fun _ _ _ => False
  | n + 1 => wb_M_failing_16 a p0 Q  (wq_M_failing_16 a p0 Q  n)
set_option maxRecDepth 100000 in
set_option maxHeartbeats 4000000 in
theorem sq_M_failing_16 {l : Launch} {G : mm_G} {a : Nat} {p0 : Int32} {Q : Int32 → ab_H → Prop}   : ∀ (n : Nat) (u2 : Int32) (u3 : Int32) (A : ab_H) (h : mm_H), Vw G h A → wq_M_failing_16 a p0 Q  n u2 u3 A → mm_V l G M_M_failing 0 0 16 [some (va_rf (some a)), some (.int p0), some (.int u2), some (.int u3)] [] h (wQI G Q) := by
  intro n
  induction n with
  | zero =>
    intro u2 u3 A h hV hw
    exact absurd hw id
  | succ n hk16 =>
    intro u2 u3 A h hV hw
    have hw : wb_M_failing_16 a p0 Q  (wq_M_failing_16 a p0 Q  n) u2 u3 A := hw
    unfold wb_M_failing_16 at hw
    refine mm_iload_n (pc' := 17) d_M_failing_16 rfl rfl rfl ?_
    refine wr_aload_n (some a) (pc' := 18) d_M_failing_17 rfl rfl rfl ?_
    refine wr_getR hV hw (pc' := 21) d_M_failing_18 rfl fl_M_59 (fun r1 hw => ?_)
    refine mm_iload_n (pc' := 22) d_M_failing_21 rfl rfl rfl ?_
    refine wr_aldI hV hw (pc' := 23) d_M_failing_22 rfl (fun x2 hw => ?_)
    refine wr_icmp_ge hw (pc' := 26) d_M_failing_23 rfl rfl (fun hw => ?_) (fun hw => ?_)
    · refine mm_iload_n (pc' := 55) d_M_failing_54 rfl rfl rfl ?_
      exact wr_iret hV d_M_failing_55 rfl rfl hw
    · refine mm_iload_n (pc' := 27) d_M_failing_26 rfl rfl rfl ?_
      refine wr_aload_n (some a) (pc' := 28) d_M_failing_27 rfl rfl rfl ?_
      refine mm_iconst (v := 4) (pc' := 29) d_M_failing_28 rfl (by decide) ?_
      refine mm_iload_n (pc' := 30) d_M_failing_29 rfl rfl rfl ?_
      refine mm_imul (pc' := 31) d_M_failing_30 rfl ?_
      refine mm_iconst (v := 4) (pc' := 32) d_M_failing_31 rfl (by decide) ?_
      refine mm_iadd (pc' := 33) d_M_failing_32 rfl ?_
      refine mm_iload_n (pc' := 34) d_M_failing_33 rfl rfl rfl ?_
      refine mm_iadd (pc' := 35) d_M_failing_34 rfl ?_
      refine wr_cVI (pc' := 38) (as := [.int ((((4 : Int32) * p0) + (4 : Int32)) + u3)]) (st := [.int u2]) d_M_failing_35 rfl cs_M_254 rfl (W := fun b Q' => wp_M_holds b ((((4 : Int32) * p0) + (4 : Int32)) + u3) A Q') hV hw (fun b Q' hw => sd_M_holds hV hw) rfl rfl (Nat.le_of_ble_eq_true rfl) (Nat.le_of_ble_eq_true rfl) (fun x3 h A hV hw => ?_)
      refine wr_if_eq hw (pc' := 41) d_M_failing_38 rfl rfl (fun hw => ?_) (fun hw => ?_)
      · refine mm_iconst (v := 1) (pc' := 46) d_M_failing_45 rfl (by decide) ?_
        refine mm_iadd (pc' := 47) d_M_failing_46 rfl ?_
        refine wr_let (P := fun z => mm_V l G M_M_failing 0 0 47 [some (va_rf (some a)), some (.int p0), some (.int u2), some (.int u3)] (.int z :: []) h _) hw (fun x4 hw => ?_)
        refine mm_ist2 (pc' := 48) d_M_failing_47 rfl rfl (Nat.le_of_ble_eq_true rfl) ?_
        refine mm_iinc3 (v := (u3 + 1)) (pc' := 51) d_M_failing_48 rfl rfl rfl (Nat.le_of_ble_eq_true rfl) ?_
        refine mm_goto (tgt := 16) d_M_failing_51 rfl ?_
        exact mm_drop (mm_le.s (mm_le.s (mm_le.s (mm_le.s mm_le.e)))) (hk16 _ _ _ _ hV hw)
      · refine mm_iconst (v := 0) (pc' := 42) d_M_failing_41 rfl (by decide) ?_
        refine mm_goto (tgt := 46) d_M_failing_42 rfl ?_
        refine mm_iadd (pc' := 47) d_M_failing_46 rfl ?_
        refine wr_let (P := fun z => mm_V l G M_M_failing 0 0 47 [some (va_rf (some a)), some (.int p0), some (.int u2), some (.int u3)] (.int z :: []) h _) hw (fun x5 hw => ?_)
        refine mm_ist2 (pc' := 48) d_M_failing_47 rfl rfl (Nat.le_of_ble_eq_true rfl) ?_
        refine mm_iinc3 (v := (u3 + 1)) (pc' := 51) d_M_failing_48 rfl rfl rfl (Nat.le_of_ble_eq_true rfl) ?_
        refine mm_goto (tgt := 16) d_M_failing_51 rfl ?_
        exact mm_drop (mm_le.s (mm_le.s (mm_le.s (mm_le.s mm_le.e)))) (hk16 _ _ _ _ hV hw)
def wq_M_failing_13 (a : Nat) (p0 : Int32) (Q : Int32 → ab_H → Prop)  (s0 : Int32) (A : ab_H) : Prop := ∃ n, wq_M_failing_16 a p0 Q n s0 (0 : Int32) A
set_option maxRecDepth 100000 in
set_option maxHeartbeats 4000000 in
theorem sq_M_failing_13 {l : Launch} {G : mm_G} {a : Nat} {p0 : Int32} {Q : Int32 → ab_H → Prop}   : ∀ (s0 : Int32) (A : ab_H) (h : mm_H), Vw G h A → wq_M_failing_13 a p0 Q  s0 A → mm_V l G M_M_failing 0 0 13 [some (va_rf (some a)), some (.int p0), none, none] [.int s0] h (wQI G Q) := by
  intro s0 A h hV hw
  unfold wq_M_failing_13 at hw
  refine mm_ist2 (pc' := 14) d_M_failing_13 rfl rfl (Nat.le_of_ble_eq_true rfl) ?_
  refine mm_iconst (v := 0) (pc' := 15) d_M_failing_14 rfl (by decide) ?_
  refine mm_ist3 (pc' := 16) d_M_failing_15 rfl rfl (Nat.le_of_ble_eq_true rfl) ?_
  obtain ⟨n, hw⟩ := hw
  exact mm_drop (mm_le.s (mm_le.s (mm_le.s (mm_le.s mm_le.e)))) (sq_M_failing_16  n _ _ _ _ hV hw)
def wp_M_failing (a : Nat) (p0 : Int32) (A : ab_H) (Q : Int32 → ab_H → Prop) : Prop := wC A (some a) 14 (fun b => wp_M_inScene b p0 A (fun x6 A => if x6 = 0 then (wq_M_failing_13 a p0 Q (1 : Int32) A) else (wq_M_failing_13 a p0 Q (0 : Int32) A)))
set_option maxRecDepth 100000 in
set_option maxHeartbeats 4000000 in
theorem sd_M_failing {l : Launch} {G : mm_G} {h : mm_H} {A : ab_H} {a : Nat} {p0 : Int32} {Q : Int32 → ab_H → Prop} (hV : Vw G h A) (hw : wp_M_failing a p0 A Q) : mm_S l G M_M_failing [.ref a, .int p0] h 0 0 (wQI G Q) := by
  unfold wp_M_failing at hw
  refine mm_start rfl (Nat.le_of_ble_eq_true rfl) ?_
  show mm_V l G M_M_failing 0 0 0 [some (va_rf (some a)), some (.int p0), none, none] [] h _
  refine wr_aload_n (some a) (pc' := 1) d_M_failing_0 rfl rfl rfl ?_
  refine mm_iload_n (pc' := 2) d_M_failing_1 rfl rfl rfl ?_
  refine wr_cVI (pc' := 5) (as := [.int p0]) (st := []) d_M_failing_2 rfl cs_M_251 rfl (W := fun b Q' => wp_M_inScene b p0 A Q') hV hw (fun b Q' hw => sd_M_inScene hV hw) rfl rfl (Nat.le_of_ble_eq_true rfl) (Nat.le_of_ble_eq_true rfl) (fun x6 h A hV hw => ?_)
  refine wr_if_eq hw (pc' := 8) d_M_failing_5 rfl rfl (fun hw => ?_) (fun hw => ?_)
  · refine mm_iconst (v := 1) (pc' := 13) d_M_failing_12 rfl (by decide) ?_
    exact mm_drop (mm_le.s (mm_le.s (mm_le.n (mm_le.n mm_le.e)))) (sq_M_failing_13  _ _ _ hV hw)
  · refine mm_iconst (v := 0) (pc' := 9) d_M_failing_8 rfl (by decide) ?_
    refine mm_goto (tgt := 13) d_M_failing_9 rfl ?_
    exact mm_drop (mm_le.s (mm_le.s (mm_le.n (mm_le.n mm_le.e)))) (sq_M_failing_13  _ _ _ hV hw)
theorem d_M_before_0 : decode prog_14_method_44_code 0 = .ok (.iload_n 2, 1) := by decide +kernel
theorem d_M_before_1 : decode prog_14_method_44_code 1 = .ok (.ifCond .lt 48, 3) := by decide +kernel
theorem d_M_before_4 : decode prog_14_method_44_code 4 = .ok (.aload_n 0, 1) := by decide +kernel
theorem d_M_before_5 : decode prog_14_method_44_code 5 = .ok (.getfield 53, 3) := by decide +kernel
theorem d_M_before_8 : decode prog_14_method_44_code 8 = .ok (.iload_n 1, 1) := by decide +kernel
theorem d_M_before_9 : decode prog_14_method_44_code 9 = .ok (.iaload, 1) := by decide +kernel
theorem d_M_before_10 : decode prog_14_method_44_code 10 = .ok (.aload_n 0, 1) := by decide +kernel
theorem d_M_before_11 : decode prog_14_method_44_code 11 = .ok (.getfield 53, 3) := by decide +kernel
theorem d_M_before_14 : decode prog_14_method_44_code 14 = .ok (.iload_n 2, 1) := by decide +kernel
theorem d_M_before_15 : decode prog_14_method_44_code 15 = .ok (.iaload, 1) := by decide +kernel
theorem d_M_before_16 : decode prog_14_method_44_code 16 = .ok (.if_icmp .lt 33, 3) := by decide +kernel
theorem d_M_before_19 : decode prog_14_method_44_code 19 = .ok (.aload_n 0, 1) := by decide +kernel
theorem d_M_before_20 : decode prog_14_method_44_code 20 = .ok (.getfield 53, 3) := by decide +kernel
theorem d_M_before_23 : decode prog_14_method_44_code 23 = .ok (.iload_n 1, 1) := by decide +kernel
theorem d_M_before_24 : decode prog_14_method_44_code 24 = .ok (.iaload, 1) := by decide +kernel
theorem d_M_before_25 : decode prog_14_method_44_code 25 = .ok (.aload_n 0, 1) := by decide +kernel
theorem d_M_before_26 : decode prog_14_method_44_code 26 = .ok (.getfield 53, 3) := by decide +kernel
theorem d_M_before_29 : decode prog_14_method_44_code 29 = .ok (.iload_n 2, 1) := by decide +kernel
theorem d_M_before_30 : decode prog_14_method_44_code 30 = .ok (.iaload, 1) := by decide +kernel
theorem d_M_before_31 : decode prog_14_method_44_code 31 = .ok (.if_icmp .ne 22, 3) := by decide +kernel
theorem d_M_before_34 : decode prog_14_method_44_code 34 = .ok (.aload_n 0, 1) := by decide +kernel
theorem d_M_before_35 : decode prog_14_method_44_code 35 = .ok (.getfield 50, 3) := by decide +kernel
theorem d_M_before_38 : decode prog_14_method_44_code 38 = .ok (.iload_n 1, 1) := by decide +kernel
theorem d_M_before_39 : decode prog_14_method_44_code 39 = .ok (.iaload, 1) := by decide +kernel
theorem d_M_before_40 : decode prog_14_method_44_code 40 = .ok (.aload_n 0, 1) := by decide +kernel
theorem d_M_before_41 : decode prog_14_method_44_code 41 = .ok (.getfield 50, 3) := by decide +kernel
theorem d_M_before_44 : decode prog_14_method_44_code 44 = .ok (.iload_n 2, 1) := by decide +kernel
theorem d_M_before_45 : decode prog_14_method_44_code 45 = .ok (.iaload, 1) := by decide +kernel
theorem d_M_before_46 : decode prog_14_method_44_code 46 = .ok (.if_icmp .le 7, 3) := by decide +kernel
theorem d_M_before_49 : decode prog_14_method_44_code 49 = .ok (.iconst 1, 1) := by decide +kernel
theorem d_M_before_50 : decode prog_14_method_44_code 50 = .ok (.goto 4, 3) := by decide +kernel
theorem d_M_before_53 : decode prog_14_method_44_code 53 = .ok (.iconst 0, 1) := by decide +kernel
theorem d_M_before_54 : decode prog_14_method_44_code 54 = .ok (.ireturn, 1) := by decide +kernel
def wp_M_before (a : Nat) (p0 : Int32) (p1 : Int32) (A : ab_H) (Q : Int32 → ab_H → Prop) : Prop := if p1 < 0 then (Q (1 : Int32) A) else (wgR A (some a) 14 19 (fun r1 => wAI A r1 p0 (fun x2 => wgR A (some a) 14 19 (fun r3 => wAI A r3 p1 (fun x4 => if x2 < x4 then (Q (1 : Int32) A) else (wgR A (some a) 14 19 (fun r5 => wAI A r5 p0 (fun x6 => wgR A (some a) 14 19 (fun r7 => wAI A r7 p1 (fun x8 => if x6 = x8 then (wgR A (some a) 14 18 (fun r9 => wAI A r9 p0 (fun x10 => wgR A (some a) 14 18 (fun r11 => wAI A r11 p1 (fun x12 => if x10 ≤ x12 then (Q (0 : Int32) A) else (Q (1 : Int32) A)))))) else (Q (0 : Int32) A)))))))))))
set_option maxRecDepth 100000 in
set_option maxHeartbeats 4000000 in
theorem sd_M_before {l : Launch} {G : mm_G} {h : mm_H} {A : ab_H} {a : Nat} {p0 : Int32} {p1 : Int32} {Q : Int32 → ab_H → Prop} (hV : Vw G h A) (hw : wp_M_before a p0 p1 A Q) : mm_S l G M_M_before [.ref a, .int p0, .int p1] h 0 0 (wQI G Q) := by
  unfold wp_M_before at hw
  refine mm_start rfl (Nat.le_of_ble_eq_true rfl) ?_
  show mm_V l G M_M_before 0 0 0 [some (va_rf (some a)), some (.int p0), some (.int p1)] [] h _
  refine mm_iload_n (pc' := 1) d_M_before_0 rfl rfl rfl ?_
  refine wr_if_lt hw (pc' := 4) d_M_before_1 rfl rfl (fun hw => ?_) (fun hw => ?_)
  · refine mm_iconst (v := 1) (pc' := 50) d_M_before_49 rfl (by decide) ?_
    refine mm_goto (tgt := 54) d_M_before_50 rfl ?_
    exact wr_iret hV d_M_before_54 rfl rfl hw
  · refine wr_aload_n (some a) (pc' := 5) d_M_before_4 rfl rfl rfl ?_
    refine wr_getR hV hw (pc' := 8) d_M_before_5 rfl fl_M_53 (fun r1 hw => ?_)
    refine mm_iload_n (pc' := 9) d_M_before_8 rfl rfl rfl ?_
    refine wr_aldI hV hw (pc' := 10) d_M_before_9 rfl (fun x2 hw => ?_)
    refine wr_aload_n (some a) (pc' := 11) d_M_before_10 rfl rfl rfl ?_
    refine wr_getR hV hw (pc' := 14) d_M_before_11 rfl fl_M_53 (fun r3 hw => ?_)
    refine mm_iload_n (pc' := 15) d_M_before_14 rfl rfl rfl ?_
    refine wr_aldI hV hw (pc' := 16) d_M_before_15 rfl (fun x4 hw => ?_)
    refine wr_icmp_lt hw (pc' := 19) d_M_before_16 rfl rfl (fun hw => ?_) (fun hw => ?_)
    · refine mm_iconst (v := 1) (pc' := 50) d_M_before_49 rfl (by decide) ?_
      refine mm_goto (tgt := 54) d_M_before_50 rfl ?_
      exact wr_iret hV d_M_before_54 rfl rfl hw
    · refine wr_aload_n (some a) (pc' := 20) d_M_before_19 rfl rfl rfl ?_
      refine wr_getR hV hw (pc' := 23) d_M_before_20 rfl fl_M_53 (fun r5 hw => ?_)
      refine mm_iload_n (pc' := 24) d_M_before_23 rfl rfl rfl ?_
      refine wr_aldI hV hw (pc' := 25) d_M_before_24 rfl (fun x6 hw => ?_)
      refine wr_aload_n (some a) (pc' := 26) d_M_before_25 rfl rfl rfl ?_
      refine wr_getR hV hw (pc' := 29) d_M_before_26 rfl fl_M_53 (fun r7 hw => ?_)
      refine mm_iload_n (pc' := 30) d_M_before_29 rfl rfl rfl ?_
      refine wr_aldI hV hw (pc' := 31) d_M_before_30 rfl (fun x8 hw => ?_)
      refine wr_icmp_ne hw (pc' := 34) d_M_before_31 rfl rfl (fun hw => ?_) (fun hw => ?_)
      · refine mm_iconst (v := 0) (pc' := 54) d_M_before_53 rfl (by decide) ?_
        exact wr_iret hV d_M_before_54 rfl rfl hw
      · refine wr_aload_n (some a) (pc' := 35) d_M_before_34 rfl rfl rfl ?_
        refine wr_getR hV hw (pc' := 38) d_M_before_35 rfl fl_M_50 (fun r9 hw => ?_)
        refine mm_iload_n (pc' := 39) d_M_before_38 rfl rfl rfl ?_
        refine wr_aldI hV hw (pc' := 40) d_M_before_39 rfl (fun x10 hw => ?_)
        refine wr_aload_n (some a) (pc' := 41) d_M_before_40 rfl rfl rfl ?_
        refine wr_getR hV hw (pc' := 44) d_M_before_41 rfl fl_M_50 (fun r11 hw => ?_)
        refine mm_iload_n (pc' := 45) d_M_before_44 rfl rfl rfl ?_
        refine wr_aldI hV hw (pc' := 46) d_M_before_45 rfl (fun x12 hw => ?_)
        refine wr_icmp_le hw (pc' := 49) d_M_before_46 rfl rfl (fun hw => ?_) (fun hw => ?_)
        · refine mm_iconst (v := 0) (pc' := 54) d_M_before_53 rfl (by decide) ?_
          exact wr_iret hV d_M_before_54 rfl rfl hw
        · refine mm_iconst (v := 1) (pc' := 50) d_M_before_49 rfl (by decide) ?_
          refine mm_goto (tgt := 54) d_M_before_50 rfl ?_
          exact wr_iret hV d_M_before_54 rfl rfl hw
theorem d_M_make_0 : decode prog_14_method_38_code 0 = .ok (.aload_n 0, 1) := by decide +kernel
theorem d_M_make_1 : decode prog_14_method_38_code 1 = .ok (.getfield 236, 3) := by decide +kernel
theorem d_M_make_4 : decode prog_14_method_38_code 4 = .ok (.bipush 60, 2) := by decide +kernel
theorem d_M_make_6 : decode prog_14_method_38_code 6 = .ok (.if_icmp .ge 23, 3) := by decide +kernel
theorem d_M_make_9 : decode prog_14_method_38_code 9 = .ok (.aload_n 0, 1) := by decide +kernel
theorem d_M_make_10 : decode prog_14_method_38_code 10 = .ok (.getfield 92, 3) := by decide +kernel
theorem d_M_make_13 : decode prog_14_method_38_code 13 = .ok (.aload_n 0, 1) := by decide +kernel
theorem d_M_make_14 : decode prog_14_method_38_code 14 = .ok (.getfield 236, 3) := by decide +kernel
theorem d_M_make_17 : decode prog_14_method_38_code 17 = .ok (.iload_n 1, 1) := by decide +kernel
theorem d_M_make_18 : decode prog_14_method_38_code 18 = .ok (.iastore, 1) := by decide +kernel
theorem d_M_make_19 : decode prog_14_method_38_code 19 = .ok (.aload_n 0, 1) := by decide +kernel
theorem d_M_make_20 : decode prog_14_method_38_code 20 = .ok (.dup, 1) := by decide +kernel
theorem d_M_make_21 : decode prog_14_method_38_code 21 = .ok (.getfield 236, 3) := by decide +kernel
theorem d_M_make_24 : decode prog_14_method_38_code 24 = .ok (.iconst 1, 1) := by decide +kernel
theorem d_M_make_25 : decode prog_14_method_38_code 25 = .ok (.iadd, 1) := by decide +kernel
theorem d_M_make_26 : decode prog_14_method_38_code 26 = .ok (.putfield 236, 3) := by decide +kernel
theorem d_M_make_29 : decode prog_14_method_38_code 29 = .ok (.return_, 1) := by decide +kernel
def wp_M_make (a : Nat) (p0 : Int32) (A : ab_H) (Q : ab_H → Prop) : Prop := wgI A (some a) 14 42 (fun x1 => if (60 : Int32) ≤ x1 then (Q A) else (wgR A (some a) 14 41 (fun r2 => wgI A (some a) 14 42 (fun x3 => wSI A r2 x3 p0 (fun A => wgI A (some a) 14 42 (fun x4 => wp A (some a) 14 42 (.int (x4 + (1 : Int32))) (fun A => Q A)))))))
set_option maxRecDepth 100000 in
set_option maxHeartbeats 4000000 in
theorem sd_M_make {l : Launch} {G : mm_G} {h : mm_H} {A : ab_H} {a : Nat} {p0 : Int32} {Q : ab_H → Prop} (hV : Vw G h A) (hw : wp_M_make a p0 A Q) : mm_S l G M_M_make [.ref a, .int p0] h 0 0 (wQV G Q) := by
  unfold wp_M_make at hw
  refine mm_start rfl (Nat.le_of_ble_eq_true rfl) ?_
  show mm_V l G M_M_make 0 0 0 [some (va_rf (some a)), some (.int p0)] [] h _
  refine wr_aload_n (some a) (pc' := 1) d_M_make_0 rfl rfl rfl ?_
  refine wr_getI hV hw (pc' := 4) d_M_make_1 rfl fl_M_236 (fun x1 hw => ?_)
  refine mm_bipush (v := 60) (pc' := 6) d_M_make_4 rfl (by decide) ?_
  refine wr_icmp_ge hw (pc' := 9) d_M_make_6 rfl rfl (fun hw => ?_) (fun hw => ?_)
  · exact wr_vret hV d_M_make_29 rfl hw
  · refine wr_aload_n (some a) (pc' := 10) d_M_make_9 rfl rfl rfl ?_
    refine wr_getR hV hw (pc' := 13) d_M_make_10 rfl fl_M_92 (fun r2 hw => ?_)
    refine wr_aload_n (some a) (pc' := 14) d_M_make_13 rfl rfl rfl ?_
    refine wr_getI hV hw (pc' := 17) d_M_make_14 rfl fl_M_236 (fun x3 hw => ?_)
    refine mm_iload_n (pc' := 18) d_M_make_17 rfl rfl rfl ?_
    refine wr_astI hV hw (pc' := 19) d_M_make_18 rfl (fun h A hV hw => ?_)
    refine wr_aload_n (some a) (pc' := 20) d_M_make_19 rfl rfl rfl ?_
    refine mm_dup (pc' := 21) d_M_make_20 rfl (wr_cat _) ?_
    refine wr_getI hV hw (pc' := 24) d_M_make_21 rfl fl_M_236 (fun x4 hw => ?_)
    refine mm_iconst (v := 1) (pc' := 25) d_M_make_24 rfl (by decide) ?_
    refine mm_iadd (pc' := 26) d_M_make_25 rfl ?_
    refine wr_put hV hw (pc' := 29) d_M_make_26 rfl pl_M_make_236 (Nat.le_of_ble_eq_true rfl) (wn_I _) (fun h A hV hw => ?_)
    exact wr_vret hV d_M_make_29 rfl hw
theorem d_M_makeNumber_0 : decode prog_14_method_39_code 0 = .ok (.iconst 1, 1) := by decide +kernel
theorem d_M_makeNumber_1 : decode prog_14_method_39_code 1 = .ok (.istore_n 2, 1) := by decide +kernel
theorem d_M_makeNumber_2 : decode prog_14_method_39_code 2 = .ok (.iload_n 1, 1) := by decide +kernel
theorem d_M_makeNumber_3 : decode prog_14_method_39_code 3 = .ok (.iload_n 2, 1) := by decide +kernel
theorem d_M_makeNumber_4 : decode prog_14_method_39_code 4 = .ok (.idiv, 1) := by decide +kernel
theorem d_M_makeNumber_5 : decode prog_14_method_39_code 5 = .ok (.bipush 10, 2) := by decide +kernel
theorem d_M_makeNumber_7 : decode prog_14_method_39_code 7 = .ok (.if_icmp .lt 11, 3) := by decide +kernel
theorem d_M_makeNumber_10 : decode prog_14_method_39_code 10 = .ok (.iload_n 2, 1) := by decide +kernel
theorem d_M_makeNumber_11 : decode prog_14_method_39_code 11 = .ok (.bipush 10, 2) := by decide +kernel
theorem d_M_makeNumber_13 : decode prog_14_method_39_code 13 = .ok (.imul, 1) := by decide +kernel
theorem d_M_makeNumber_14 : decode prog_14_method_39_code 14 = .ok (.istore_n 2, 1) := by decide +kernel
theorem d_M_makeNumber_15 : decode prog_14_method_39_code 15 = .ok (.goto (-13), 3) := by decide +kernel
theorem d_M_makeNumber_18 : decode prog_14_method_39_code 18 = .ok (.iload_n 2, 1) := by decide +kernel
theorem d_M_makeNumber_19 : decode prog_14_method_39_code 19 = .ok (.istore_n 3, 1) := by decide +kernel
theorem d_M_makeNumber_20 : decode prog_14_method_39_code 20 = .ok (.iload_n 3, 1) := by decide +kernel
theorem d_M_makeNumber_21 : decode prog_14_method_39_code 21 = .ok (.ifCond .le 24, 3) := by decide +kernel
theorem d_M_makeNumber_24 : decode prog_14_method_39_code 24 = .ok (.aload_n 0, 1) := by decide +kernel
theorem d_M_makeNumber_25 : decode prog_14_method_39_code 25 = .ok (.bipush 48, 2) := by decide +kernel
theorem d_M_makeNumber_27 : decode prog_14_method_39_code 27 = .ok (.iload_n 1, 1) := by decide +kernel
theorem d_M_makeNumber_28 : decode prog_14_method_39_code 28 = .ok (.iload_n 3, 1) := by decide +kernel
theorem d_M_makeNumber_29 : decode prog_14_method_39_code 29 = .ok (.idiv, 1) := by decide +kernel
theorem d_M_makeNumber_30 : decode prog_14_method_39_code 30 = .ok (.bipush 10, 2) := by decide +kernel
theorem d_M_makeNumber_32 : decode prog_14_method_39_code 32 = .ok (.irem, 1) := by decide +kernel
theorem d_M_makeNumber_33 : decode prog_14_method_39_code 33 = .ok (.iadd, 1) := by decide +kernel
theorem d_M_makeNumber_34 : decode prog_14_method_39_code 34 = .ok (.invokevirtual 239, 3) := by decide +kernel
theorem d_M_makeNumber_37 : decode prog_14_method_39_code 37 = .ok (.iload_n 3, 1) := by decide +kernel
theorem d_M_makeNumber_38 : decode prog_14_method_39_code 38 = .ok (.bipush 10, 2) := by decide +kernel
theorem d_M_makeNumber_40 : decode prog_14_method_39_code 40 = .ok (.idiv, 1) := by decide +kernel
theorem d_M_makeNumber_41 : decode prog_14_method_39_code 41 = .ok (.istore_n 3, 1) := by decide +kernel
theorem d_M_makeNumber_42 : decode prog_14_method_39_code 42 = .ok (.goto (-22), 3) := by decide +kernel
theorem d_M_makeNumber_45 : decode prog_14_method_39_code 45 = .ok (.return_, 1) := by decide +kernel
def wb_M_makeNumber_20 (a : Nat) (p0 : Int32) (Q : ab_H → Prop)  (k20 : Int32 → ab_H → Prop) (u3 : Int32) (A : ab_H) : Prop := if u3 ≤ 0 then (Q A) else ((¬ u3 = 0) ∧ (wC A (some a) 14 (fun b => wp_M_make b ((48 : Int32) + ((p0 / u3) - (p0 / u3) / (10 : Int32) * (10 : Int32))) A (fun A => wL ((u3 / (10 : Int32))) (fun x1 => k20 x1 A)))))
def wq_M_makeNumber_20 (a : Nat) (p0 : Int32) (Q : ab_H → Prop)  : Nat → Int32 → ab_H → Prop
  | 0 => fun _ _ => False
  | n + 1 => wb_M_makeNumber_20 a p0 Q  (wq_M_makeNumber_20 a p0 Q  n)
set_option maxRecDepth 100000 in
set_option maxHeartbeats 4000000 in
theorem sq_M_makeNumber_20 {l : Launch} {G : mm_G} {a : Nat} {p0 : Int32} {Q : ab_H → Prop}   : ∀ (n : Nat) (u3 : Int32) (A : ab_H) (h : mm_H), Vw G h A → wq_M_makeNumber_20 a p0 Q  n u3 A → mm_V l G M_M_makeNumber 0 0 20 [some (va_rf (some a)), some (.int p0), none, some (.int u3)] [] h (wQV G Q) := by
  intro n
  induction n with
  | zero =>
    intro u3 A h hV hw
    exact absurd hw id
  | succ n hk20 =>
    intro u3 A h hV hw
    have hw : wb_M_makeNumber_20 a p0 Q  (wq_M_makeNumber_20 a p0 Q  n) u3 A := hw
    unfold wb_M_makeNumber_20 at hw
    refine mm_iload_n (pc' := 21) d_M_makeNumber_20 rfl rfl rfl ?_
    refine wr_if_le hw (pc' := 24) d_M_makeNumber_21 rfl rfl (fun hw => ?_) (fun hw => ?_)
    · exact wr_vret hV d_M_makeNumber_45 rfl hw
    · refine wr_aload_n (some a) (pc' := 25) d_M_makeNumber_24 rfl rfl rfl ?_
      refine mm_bipush (v := 48) (pc' := 27) d_M_makeNumber_25 rfl (by decide) ?_
      refine mm_iload_n (pc' := 28) d_M_makeNumber_27 rfl rfl rfl ?_
      refine mm_iload_n (pc' := 29) d_M_makeNumber_28 rfl rfl rfl ?_
      obtain ⟨hz, hw⟩ := hw
      refine mm_idiv (pc' := 30) d_M_makeNumber_29 rfl hz ?_
      refine mm_bipush (v := 10) (pc' := 32) d_M_makeNumber_30 rfl (by decide) ?_
      refine mm_irem (pc' := 33) d_M_makeNumber_32 rfl (by decide) ?_
      refine mm_iadd (pc' := 34) d_M_makeNumber_33 rfl ?_
      refine wr_cVV (pc' := 37) (as := [.int ((48 : Int32) + ((p0 / u3) - (p0 / u3) / (10 : Int32) * (10 : Int32)))]) (st := []) d_M_makeNumber_34 rfl cs_M_239 rfl (W := fun b Q' => wp_M_make b ((48 : Int32) + ((p0 / u3) - (p0 / u3) / (10 : Int32) * (10 : Int32))) A Q') hV hw (fun b Q' hw => sd_M_make hV hw) rfl rfl (Nat.le_of_ble_eq_true rfl) (Nat.le_of_ble_eq_true rfl) (fun h A hV hw => ?_)
      refine mm_iload_n (pc' := 38) d_M_makeNumber_37 rfl rfl rfl ?_
      refine mm_bipush (v := 10) (pc' := 40) d_M_makeNumber_38 rfl (by decide) ?_
      refine mm_idiv (pc' := 41) d_M_makeNumber_40 rfl (by decide) ?_
      refine wr_let (P := fun z => mm_V l G M_M_makeNumber 0 0 41 [some (va_rf (some a)), some (.int p0), none, some (.int u3)] (.int z :: []) h _) hw (fun x1 hw => ?_)
      refine mm_ist3 (pc' := 42) d_M_makeNumber_41 rfl rfl (Nat.le_of_ble_eq_true rfl) ?_
      refine mm_goto (tgt := 20) d_M_makeNumber_42 rfl ?_
      exact mm_drop (mm_le.s (mm_le.s (mm_le.n (mm_le.s mm_le.e)))) (hk20 _ _ _ hV hw)
def wq_M_makeNumber_18 (a : Nat) (p0 : Int32) (Q : ab_H → Prop)  (u2 : Int32) (A : ab_H) : Prop := ∃ n, wq_M_makeNumber_20 a p0 Q n u2 A
set_option maxRecDepth 100000 in
set_option maxHeartbeats 4000000 in
theorem sq_M_makeNumber_18 {l : Launch} {G : mm_G} {a : Nat} {p0 : Int32} {Q : ab_H → Prop}   : ∀ (u2 : Int32) (A : ab_H) (h : mm_H), Vw G h A → wq_M_makeNumber_18 a p0 Q  u2 A → mm_V l G M_M_makeNumber 0 0 18 [some (va_rf (some a)), some (.int p0), some (.int u2), none] [] h (wQV G Q) := by
  intro u2 A h hV hw
  unfold wq_M_makeNumber_18 at hw
  refine mm_iload_n (pc' := 19) d_M_makeNumber_18 rfl rfl rfl ?_
  refine mm_ist3 (pc' := 20) d_M_makeNumber_19 rfl rfl (Nat.le_of_ble_eq_true rfl) ?_
  obtain ⟨n, hw⟩ := hw
  exact mm_drop (mm_le.s (mm_le.s (mm_le.n (mm_le.s mm_le.e)))) (sq_M_makeNumber_20  n _ _ _ hV hw)
def wb_M_makeNumber_2 (a : Nat) (p0 : Int32) (Q : ab_H → Prop)  (k2 : Int32 → ab_H → Prop) (u2 : Int32) (A : ab_H) : Prop := (¬ u2 = 0) ∧ (if (p0 / u2) < (10 : Int32) then (wq_M_makeNumber_18 a p0 Q u2 A) else (wL ((u2 * (10 : Int32))) (fun x2 => k2 x2 A)))
def wq_M_makeNumber_2 (a : Nat) (p0 : Int32) (Q : ab_H → Prop)  : Nat → Int32 → ab_H → Prop
  | 0 => fun _ _ => False
  | n + 1 => wb_M_makeNumber_2 a p0 Q  (wq_M_makeNumber_2 a p0 Q  n)
set_option maxRecDepth 100000 in
set_option maxHeartbeats 4000000 in
theorem sq_M_makeNumber_2 {l : Launch} {G : mm_G} {a : Nat} {p0 : Int32} {Q : ab_H → Prop}   : ∀ (n : Nat) (u2 : Int32) (A : ab_H) (h : mm_H), Vw G h A → wq_M_makeNumber_2 a p0 Q  n u2 A → mm_V l G M_M_makeNumber 0 0 2 [some (va_rf (some a)), some (.int p0), some (.int u2), none] [] h (wQV G Q) := by
  intro n
  induction n with
  | zero =>
    intro u2 A h hV hw
    exact absurd hw id
  | succ n hk2 =>
    intro u2 A h hV hw
    have hw : wb_M_makeNumber_2 a p0 Q  (wq_M_makeNumber_2 a p0 Q  n) u2 A := hw
    unfold wb_M_makeNumber_2 at hw
    refine mm_iload_n (pc' := 3) d_M_makeNumber_2 rfl rfl rfl ?_
    refine mm_iload_n (pc' := 4) d_M_makeNumber_3 rfl rfl rfl ?_
    obtain ⟨hz, hw⟩ := hw
    refine mm_idiv (pc' := 5) d_M_makeNumber_4 rfl hz ?_
    refine mm_bipush (v := 10) (pc' := 7) d_M_makeNumber_5 rfl (by decide) ?_
    refine wr_icmp_lt hw (pc' := 10) d_M_makeNumber_7 rfl rfl (fun hw => ?_) (fun hw => ?_)
    · exact mm_drop (mm_le.s (mm_le.s (mm_le.s (mm_le.n mm_le.e)))) (sq_M_makeNumber_18  _ _ _ hV hw)
    · refine mm_iload_n (pc' := 11) d_M_makeNumber_10 rfl rfl rfl ?_
      refine mm_bipush (v := 10) (pc' := 13) d_M_makeNumber_11 rfl (by decide) ?_
      refine mm_imul (pc' := 14) d_M_makeNumber_13 rfl ?_
      refine wr_let (P := fun z => mm_V l G M_M_makeNumber 0 0 14 [some (va_rf (some a)), some (.int p0), some (.int u2), none] (.int z :: []) h _) hw (fun x2 hw => ?_)
      refine mm_ist2 (pc' := 15) d_M_makeNumber_14 rfl rfl (Nat.le_of_ble_eq_true rfl) ?_
      refine mm_goto (tgt := 2) d_M_makeNumber_15 rfl ?_
      exact mm_drop (mm_le.s (mm_le.s (mm_le.s (mm_le.n mm_le.e)))) (hk2 _ _ _ hV hw)
def wp_M_makeNumber (a : Nat) (p0 : Int32) (A : ab_H) (Q : ab_H → Prop) : Prop := ∃ n, wq_M_makeNumber_2 a p0 Q n (1 : Int32) A
set_option maxRecDepth 100000 in
set_option maxHeartbeats 4000000 in
theorem sd_M_makeNumber {l : Launch} {G : mm_G} {h : mm_H} {A : ab_H} {a : Nat} {p0 : Int32} {Q : ab_H → Prop} (hV : Vw G h A) (hw : wp_M_makeNumber a p0 A Q) : mm_S l G M_M_makeNumber [.ref a, .int p0] h 0 0 (wQV G Q) := by
  unfold wp_M_makeNumber at hw
  refine mm_start rfl (Nat.le_of_ble_eq_true rfl) ?_
  show mm_V l G M_M_makeNumber 0 0 0 [some (va_rf (some a)), some (.int p0), none, none] [] h _
  refine mm_iconst (v := 1) (pc' := 1) d_M_makeNumber_0 rfl (by decide) ?_
  refine mm_ist2 (pc' := 2) d_M_makeNumber_1 rfl rfl (Nat.le_of_ble_eq_true rfl) ?_
  obtain ⟨n, hw⟩ := hw
  exact mm_drop (mm_le.s (mm_le.s (mm_le.s (mm_le.n mm_le.e)))) (sq_M_makeNumber_2  n _ _ _ hV hw)
