theorem d_M_isPattern_0 : decode prog_14_method_32_code 0 = .ok (.aload_n 0, 1) := by decide +kernel
theorem d_M_isPattern_1 : decode prog_14_method_32_code 1 = .ok (.getfield 41, 3) := by decide +kernel
theorem d_M_isPattern_4 : decode prog_14_method_32_code 4 = .ok (.iload_n 1, 1) := by decide +kernel
theorem d_M_isPattern_5 : decode prog_14_method_32_code 5 = .ok (.iaload, 1) := by decide +kernel
theorem d_M_isPattern_6 : decode prog_14_method_32_code 6 = .ok (.iconst 1, 1) := by decide +kernel
theorem d_M_isPattern_7 : decode prog_14_method_32_code 7 = .ok (.iadd, 1) := by decide +kernel
theorem d_M_isPattern_8 : decode prog_14_method_32_code 8 = .ok (.istore_n 2, 1) := by decide +kernel
theorem d_M_isPattern_9 : decode prog_14_method_32_code 9 = .ok (.iload_n 2, 1) := by decide +kernel
theorem d_M_isPattern_10 : decode prog_14_method_32_code 10 = .ok (.aload_n 0, 1) := by decide +kernel
theorem d_M_isPattern_11 : decode prog_14_method_32_code 11 = .ok (.getfield 44, 3) := by decide +kernel
theorem d_M_isPattern_14 : decode prog_14_method_32_code 14 = .ok (.iload_n 1, 1) := by decide +kernel
theorem d_M_isPattern_15 : decode prog_14_method_32_code 15 = .ok (.iaload, 1) := by decide +kernel
theorem d_M_isPattern_16 : decode prog_14_method_32_code 16 = .ok (.if_icmp .ge 66, 3) := by decide +kernel
theorem d_M_isPattern_19 : decode prog_14_method_32_code 19 = .ok (.aload_n 0, 1) := by decide +kernel
theorem d_M_isPattern_20 : decode prog_14_method_32_code 20 = .ok (.iload_n 1, 1) := by decide +kernel
theorem d_M_isPattern_21 : decode prog_14_method_32_code 21 = .ok (.iload_n 2, 1) := by decide +kernel
theorem d_M_isPattern_22 : decode prog_14_method_32_code 22 = .ok (.invokevirtual 213, 3) := by decide +kernel
theorem d_M_isPattern_25 : decode prog_14_method_32_code 25 = .ok (.bipush 124, 2) := by decide +kernel
theorem d_M_isPattern_27 : decode prog_14_method_32_code 27 = .ok (.if_icmp .ne 9, 3) := by decide +kernel
theorem d_M_isPattern_30 : decode prog_14_method_32_code 30 = .ok (.iinc 2 1, 3) := by decide +kernel
theorem d_M_isPattern_33 : decode prog_14_method_32_code 33 = .ok (.goto (-24), 3) := by decide +kernel
theorem d_M_isPattern_36 : decode prog_14_method_32_code 36 = .ok (.aload_n 0, 1) := by decide +kernel
theorem d_M_isPattern_37 : decode prog_14_method_32_code 37 = .ok (.iload_n 1, 1) := by decide +kernel
theorem d_M_isPattern_38 : decode prog_14_method_32_code 38 = .ok (.iload_n 2, 1) := by decide +kernel
theorem d_M_isPattern_39 : decode prog_14_method_32_code 39 = .ok (.invokevirtual 216, 3) := by decide +kernel
theorem d_M_isPattern_42 : decode prog_14_method_32_code 42 = .ok (.istore_n 3, 1) := by decide +kernel
theorem d_M_isPattern_43 : decode prog_14_method_32_code 43 = .ok (.iload_n 3, 1) := by decide +kernel
theorem d_M_isPattern_44 : decode prog_14_method_32_code 44 = .ok (.ifCond .ge 5, 3) := by decide +kernel
theorem d_M_isPattern_47 : decode prog_14_method_32_code 47 = .ok (.iconst 0, 1) := by decide +kernel
theorem d_M_isPattern_48 : decode prog_14_method_32_code 48 = .ok (.ireturn, 1) := by decide +kernel
theorem d_M_isPattern_49 : decode prog_14_method_32_code 49 = .ok (.aload_n 0, 1) := by decide +kernel
theorem d_M_isPattern_50 : decode prog_14_method_32_code 50 = .ok (.iload_n 1, 1) := by decide +kernel
theorem d_M_isPattern_51 : decode prog_14_method_32_code 51 = .ok (.iload_n 3, 1) := by decide +kernel
theorem d_M_isPattern_52 : decode prog_14_method_32_code 52 = .ok (.invokevirtual 213, 3) := by decide +kernel
theorem d_M_isPattern_55 : decode prog_14_method_32_code 55 = .ok (.bipush 42, 2) := by decide +kernel
theorem d_M_isPattern_57 : decode prog_14_method_32_code 57 = .ok (.if_icmp .eq 14, 3) := by decide +kernel
theorem d_M_isPattern_60 : decode prog_14_method_32_code 60 = .ok (.aload_n 0, 1) := by decide +kernel
theorem d_M_isPattern_61 : decode prog_14_method_32_code 61 = .ok (.iload_n 1, 1) := by decide +kernel
theorem d_M_isPattern_62 : decode prog_14_method_32_code 62 = .ok (.iload_n 3, 1) := by decide +kernel
theorem d_M_isPattern_63 : decode prog_14_method_32_code 63 = .ok (.invokevirtual 213, 3) := by decide +kernel
theorem d_M_isPattern_66 : decode prog_14_method_32_code 66 = .ok (.bipush 63, 2) := by decide +kernel
theorem d_M_isPattern_68 : decode prog_14_method_32_code 68 = .ok (.if_icmp .ne 9, 3) := by decide +kernel
theorem d_M_isPattern_71 : decode prog_14_method_32_code 71 = .ok (.iload_n 3, 1) := by decide +kernel
theorem d_M_isPattern_72 : decode prog_14_method_32_code 72 = .ok (.iconst 1, 1) := by decide +kernel
theorem d_M_isPattern_73 : decode prog_14_method_32_code 73 = .ok (.iadd, 1) := by decide +kernel
theorem d_M_isPattern_74 : decode prog_14_method_32_code 74 = .ok (.goto 4, 3) := by decide +kernel
theorem d_M_isPattern_77 : decode prog_14_method_32_code 77 = .ok (.iload_n 3, 1) := by decide +kernel
theorem d_M_isPattern_78 : decode prog_14_method_32_code 78 = .ok (.istore_n 2, 1) := by decide +kernel
theorem d_M_isPattern_79 : decode prog_14_method_32_code 79 = .ok (.goto (-70), 3) := by decide +kernel
theorem d_M_isPattern_82 : decode prog_14_method_32_code 82 = .ok (.iconst 1, 1) := by decide +kernel
theorem d_M_isPattern_83 : decode prog_14_method_32_code 83 = .ok (.ireturn, 1) := by decide +kernel
def wb_M_isPattern_9 (a : Nat) (p0 : Int32) (Q : Int32 → ab_H → Prop)  (k9 : Int32 → ab_H → Prop) (u2 : Int32) (A : ab_H) : Prop := wgR A (some a) 14 14 (fun r1 => wAI A r1 p0 (fun x2 => if x2 ≤ u2 then (Q (1 : Int32) A) else (wC A (some a) 14 (fun b => wp_M_letterOf b p0 u2 A (fun x3 A => if x3 = (124 : Int32) then (k9 (u2 + 1) A) else (wC A (some a) 14 (fun b => wp_M_pieceEnd b p0 u2 A (fun x4 A => if 0 ≤ x4 then (wC A (some a) 14 (fun b => wp_M_letterOf b p0 x4 A (fun x5 A => if x5 = (42 : Int32) then (wL ((x4 + (1 : Int32))) (fun x6 => k9 x6 A)) else (wC A (some a) 14 (fun b => wp_M_letterOf b p0 x4 A (fun x7 A => if x7 = (63 : Int32) then (wL ((x4 + (1 : Int32))) (fun x8 => k9 x8 A)) else (k9 x4 A))))))) else (Q (0 : Int32) A)))))))))
def wq_M_isPattern_9 (a : Nat) (p0 : Int32) (Q : Int32 → ab_H → Prop)  : Nat → Int32 → ab_H → Prop
  | 0 => fun _ _ => False
  | n + 1 => wb_M_isPattern_9 a p0 Q  (wq_M_isPattern_9 a p0 Q  n)
set_option maxRecDepth 100000 in
set_option maxHeartbeats 4000000 in
theorem sq_M_isPattern_9 {l : Launch} {G : mm_G} {a : Nat} {p0 : Int32} {Q : Int32 → ab_H → Prop}   : ∀ (n : Nat) (u2 : Int32) (A : ab_H) (h : mm_H), Vw G h A → wq_M_isPattern_9 a p0 Q  n u2 A → mm_V l G M_M_isPattern 0 0 9 [some (va_rf (some a)), some (.int p0), some (.int u2), none] [] h (wQI G Q) := by
  intro n
  induction n with
  | zero =>
    intro u2 A h hV hw
    exact absurd hw id
  | succ n hk9 =>
    intro u2 A h hV hw
    have hw : wb_M_isPattern_9 a p0 Q  (wq_M_isPattern_9 a p0 Q  n) u2 A := hw
    unfold wb_M_isPattern_9 at hw
    refine mm_iload_n (pc' := 10) d_M_isPattern_9 rfl rfl rfl ?_
    refine wr_aload_n (some a) (pc' := 11) d_M_isPattern_10 rfl rfl rfl ?_
    refine wr_getR hV hw (pc' := 14) d_M_isPattern_11 rfl fl_M_44 (fun r1 hw => ?_)
    refine mm_iload_n (pc' := 15) d_M_isPattern_14 rfl rfl rfl ?_
    refine wr_aldI hV hw (pc' := 16) d_M_isPattern_15 rfl (fun x2 hw => ?_)
    refine wr_icmp_ge hw (pc' := 19) d_M_isPattern_16 rfl rfl (fun hw => ?_) (fun hw => ?_)
    · refine mm_iconst (v := 1) (pc' := 83) d_M_isPattern_82 rfl (by decide) ?_
      exact wr_iret hV d_M_isPattern_83 rfl rfl hw
    · refine wr_aload_n (some a) (pc' := 20) d_M_isPattern_19 rfl rfl rfl ?_
      refine mm_iload_n (pc' := 21) d_M_isPattern_20 rfl rfl rfl ?_
      refine mm_iload_n (pc' := 22) d_M_isPattern_21 rfl rfl rfl ?_
      refine wr_cVI (pc' := 25) (as := [.int p0, .int u2]) (st := []) d_M_isPattern_22 rfl cs_M_213 rfl (W := fun b Q' => wp_M_letterOf b p0 u2 A Q') hV hw (fun b Q' hw => sd_M_letterOf hV hw) rfl rfl (Nat.le_of_ble_eq_true rfl) (Nat.le_of_ble_eq_true rfl) (fun x3 h A hV hw => ?_)
      refine mm_bipush (v := 124) (pc' := 27) d_M_isPattern_25 rfl (by decide) ?_
      refine wr_icmp_ne hw (pc' := 30) d_M_isPattern_27 rfl rfl (fun hw => ?_) (fun hw => ?_)
      · refine wr_aload_n (some a) (pc' := 37) d_M_isPattern_36 rfl rfl rfl ?_
        refine mm_iload_n (pc' := 38) d_M_isPattern_37 rfl rfl rfl ?_
        refine mm_iload_n (pc' := 39) d_M_isPattern_38 rfl rfl rfl ?_
        refine wr_cVI (pc' := 42) (as := [.int p0, .int u2]) (st := []) d_M_isPattern_39 rfl cs_M_216 rfl (W := fun b Q' => wp_M_pieceEnd b p0 u2 A Q') hV hw (fun b Q' hw => sd_M_pieceEnd hV hw) rfl rfl (Nat.le_of_ble_eq_true rfl) (Nat.le_of_ble_eq_true rfl) (fun x4 h A hV hw => ?_)
        refine mm_ist3 (pc' := 43) d_M_isPattern_42 rfl rfl (Nat.le_of_ble_eq_true rfl) ?_
        refine mm_iload_n (pc' := 44) d_M_isPattern_43 rfl rfl rfl ?_
        refine wr_if_ge hw (pc' := 47) d_M_isPattern_44 rfl rfl (fun hw => ?_) (fun hw => ?_)
        · refine wr_aload_n (some a) (pc' := 50) d_M_isPattern_49 rfl rfl rfl ?_
          refine mm_iload_n (pc' := 51) d_M_isPattern_50 rfl rfl rfl ?_
          refine mm_iload_n (pc' := 52) d_M_isPattern_51 rfl rfl rfl ?_
          refine wr_cVI (pc' := 55) (as := [.int p0, .int x4]) (st := []) d_M_isPattern_52 rfl cs_M_213 rfl (W := fun b Q' => wp_M_letterOf b p0 x4 A Q') hV hw (fun b Q' hw => sd_M_letterOf hV hw) rfl rfl (Nat.le_of_ble_eq_true rfl) (Nat.le_of_ble_eq_true rfl) (fun x5 h A hV hw => ?_)
          refine mm_bipush (v := 42) (pc' := 57) d_M_isPattern_55 rfl (by decide) ?_
          refine wr_icmp_eq hw (pc' := 60) d_M_isPattern_57 rfl rfl (fun hw => ?_) (fun hw => ?_)
          · refine mm_iload_n (pc' := 72) d_M_isPattern_71 rfl rfl rfl ?_
            refine mm_iconst (v := 1) (pc' := 73) d_M_isPattern_72 rfl (by decide) ?_
            refine mm_iadd (pc' := 74) d_M_isPattern_73 rfl ?_
            refine mm_goto (tgt := 78) d_M_isPattern_74 rfl ?_
            refine wr_let (P := fun z => mm_V l G M_M_isPattern 0 0 78 [some (va_rf (some a)), some (.int p0), some (.int u2), some (.int x4)] (.int z :: []) h _) hw (fun x6 hw => ?_)
            refine mm_ist2 (pc' := 79) d_M_isPattern_78 rfl rfl (Nat.le_of_ble_eq_true rfl) ?_
            refine mm_goto (tgt := 9) d_M_isPattern_79 rfl ?_
            exact mm_drop (mm_le.s (mm_le.s (mm_le.s (mm_le.n mm_le.e)))) (hk9 _ _ _ hV hw)
          · refine wr_aload_n (some a) (pc' := 61) d_M_isPattern_60 rfl rfl rfl ?_
            refine mm_iload_n (pc' := 62) d_M_isPattern_61 rfl rfl rfl ?_
            refine mm_iload_n (pc' := 63) d_M_isPattern_62 rfl rfl rfl ?_
            refine wr_cVI (pc' := 66) (as := [.int p0, .int x4]) (st := []) d_M_isPattern_63 rfl cs_M_213 rfl (W := fun b Q' => wp_M_letterOf b p0 x4 A Q') hV hw (fun b Q' hw => sd_M_letterOf hV hw) rfl rfl (Nat.le_of_ble_eq_true rfl) (Nat.le_of_ble_eq_true rfl) (fun x7 h A hV hw => ?_)
            refine mm_bipush (v := 63) (pc' := 68) d_M_isPattern_66 rfl (by decide) ?_
            refine wr_icmp_ne hw (pc' := 71) d_M_isPattern_68 rfl rfl (fun hw => ?_) (fun hw => ?_)
            · refine mm_iload_n (pc' := 78) d_M_isPattern_77 rfl rfl rfl ?_
              refine mm_ist2 (pc' := 79) d_M_isPattern_78 rfl rfl (Nat.le_of_ble_eq_true rfl) ?_
              refine mm_goto (tgt := 9) d_M_isPattern_79 rfl ?_
              exact mm_drop (mm_le.s (mm_le.s (mm_le.s (mm_le.n mm_le.e)))) (hk9 _ _ _ hV hw)
            · refine mm_iload_n (pc' := 72) d_M_isPattern_71 rfl rfl rfl ?_
              refine mm_iconst (v := 1) (pc' := 73) d_M_isPattern_72 rfl (by decide) ?_
              refine mm_iadd (pc' := 74) d_M_isPattern_73 rfl ?_
              refine mm_goto (tgt := 78) d_M_isPattern_74 rfl ?_
              refine wr_let (P := fun z => mm_V l G M_M_isPattern 0 0 78 [some (va_rf (some a)), some (.int p0), some (.int u2), some (.int x4)] (.int z :: []) h _) hw (fun x8 hw => ?_)
              refine mm_ist2 (pc' := 79) d_M_isPattern_78 rfl rfl (Nat.le_of_ble_eq_true rfl) ?_
              refine mm_goto (tgt := 9) d_M_isPattern_79 rfl ?_
              exact mm_drop (mm_le.s (mm_le.s (mm_le.s (mm_le.n mm_le.e)))) (hk9 _ _ _ hV hw)
        · refine mm_iconst (v := 0) (pc' := 48) d_M_isPattern_47 rfl (by decide) ?_
          exact wr_iret hV d_M_isPattern_48 rfl rfl hw
      · refine mm_iinc2 (v := (u2 + 1)) (pc' := 33) d_M_isPattern_30 rfl rfl rfl (Nat.le_of_ble_eq_true rfl) ?_
        refine mm_goto (tgt := 9) d_M_isPattern_33 rfl ?_
        exact mm_drop (mm_le.s (mm_le.s (mm_le.s (mm_le.n mm_le.e)))) (hk9 _ _ _ hV hw)
def wp_M_isPattern (a : Nat) (p0 : Int32) (A : ab_H) (Q : Int32 → ab_H → Prop) : Prop := wgR A (some a) 14 13 (fun r9 => wAI A r9 p0 (fun x10 => wL ((x10 + (1 : Int32))) (fun x11 => ∃ n, wq_M_isPattern_9 a p0 Q n x11 A)))
set_option maxRecDepth 100000 in
set_option maxHeartbeats 4000000 in
theorem sd_M_isPattern {l : Launch} {G : mm_G} {h : mm_H} {A : ab_H} {a : Nat} {p0 : Int32} {Q : Int32 → ab_H → Prop} (hV : Vw G h A) (hw : wp_M_isPattern a p0 A Q) : mm_S l G M_M_isPattern [.ref a, .int p0] h 0 0 (wQI G Q) := by
  unfold wp_M_isPattern at hw
  refine mm_start rfl (Nat.le_of_ble_eq_true rfl) ?_
  show mm_V l G M_M_isPattern 0 0 0 [some (va_rf (some a)), some (.int p0), none, none] [] h _
  refine wr_aload_n (some a) (pc' := 1) d_M_isPattern_0 rfl rfl rfl ?_
  refine wr_getR hV hw (pc' := 4) d_M_isPattern_1 rfl fl_M_41 (fun r9 hw => ?_)
  refine mm_iload_n (pc' := 5) d_M_isPattern_4 rfl rfl rfl ?_
  refine wr_aldI hV hw (pc' := 6) d_M_isPattern_5 rfl (fun x10 hw => ?_)
  refine mm_iconst (v := 1) (pc' := 7) d_M_isPattern_6 rfl (by decide) ?_
  refine mm_iadd (pc' := 8) d_M_isPattern_7 rfl ?_
  refine wr_let (P := fun z => mm_V l G M_M_isPattern 0 0 8 [some (va_rf (some a)), some (.int p0), none, none] (.int z :: []) h _) hw (fun x11 hw => ?_)
  refine mm_ist2 (pc' := 9) d_M_isPattern_8 rfl rfl (Nat.le_of_ble_eq_true rfl) ?_
  obtain ⟨n, hw⟩ := hw
  exact mm_drop (mm_le.s (mm_le.s (mm_le.s (mm_le.n mm_le.e)))) (sq_M_isPattern_9  n _ _ _ hV hw)
theorem d_M_match_0 : decode prog_14_method_55_code 0 = .ok (.iload_n 1, 1) := by decide +kernel
theorem d_M_match_1 : decode prog_14_method_55_code 1 = .ok (.iconst 2, 1) := by decide +kernel
theorem d_M_match_2 : decode prog_14_method_55_code 2 = .ok (.if_icmp .eq 8, 3) := by decide +kernel
theorem d_M_match_5 : decode prog_14_method_55_code 5 = .ok (.iload_n 1, 1) := by decide +kernel
theorem d_M_match_6 : decode prog_14_method_55_code 6 = .ok (.iconst 3, 1) := by decide +kernel
theorem d_M_match_7 : decode prog_14_method_55_code 7 = .ok (.if_icmp .ne 7, 3) := by decide +kernel
theorem d_M_match_10 : decode prog_14_method_55_code 10 = .ok (.iconst 1, 1) := by decide +kernel
theorem d_M_match_11 : decode prog_14_method_55_code 11 = .ok (.goto 4, 3) := by decide +kernel
theorem d_M_match_14 : decode prog_14_method_55_code 14 = .ok (.iconst 0, 1) := by decide +kernel
theorem d_M_match_15 : decode prog_14_method_55_code 15 = .ok (.istore_n 3, 1) := by decide +kernel
theorem d_M_match_16 : decode prog_14_method_55_code 16 = .ok (.iload_n 1, 1) := by decide +kernel
theorem d_M_match_17 : decode prog_14_method_55_code 17 = .ok (.ifCond .lt 33, 3) := by decide +kernel
theorem d_M_match_20 : decode prog_14_method_55_code 20 = .ok (.iload_n 1, 1) := by decide +kernel
theorem d_M_match_21 : decode prog_14_method_55_code 21 = .ok (.iconst 4, 1) := by decide +kernel
theorem d_M_match_22 : decode prog_14_method_55_code 22 = .ok (.if_icmp .gt 28, 3) := by decide +kernel
theorem d_M_match_25 : decode prog_14_method_55_code 25 = .ok (.iload_n 2, 1) := by decide +kernel
theorem d_M_match_26 : decode prog_14_method_55_code 26 = .ok (.ifCond .lt 24, 3) := by decide +kernel
theorem d_M_match_29 : decode prog_14_method_55_code 29 = .ok (.iload_n 2, 1) := by decide +kernel
theorem d_M_match_30 : decode prog_14_method_55_code 30 = .ok (.iload_n 3, 1) := by decide +kernel
theorem d_M_match_31 : decode prog_14_method_55_code 31 = .ok (.ifCond .eq 7, 3) := by decide +kernel
theorem d_M_match_34 : decode prog_14_method_55_code 34 = .ok (.iconst 4, 1) := by decide +kernel
theorem d_M_match_35 : decode prog_14_method_55_code 35 = .ok (.goto 4, 3) := by decide +kernel
theorem d_M_match_38 : decode prog_14_method_55_code 38 = .ok (.iconst 2, 1) := by decide +kernel
theorem d_M_match_39 : decode prog_14_method_55_code 39 = .ok (.if_icmp .gt 11, 3) := by decide +kernel
theorem d_M_match_42 : decode prog_14_method_55_code 42 = .ok (.aload_n 0, 1) := by decide +kernel
theorem d_M_match_43 : decode prog_14_method_55_code 43 = .ok (.getfield 289, 3) := by decide +kernel
theorem d_M_match_46 : decode prog_14_method_55_code 46 = .ok (.iconst 4, 1) := by decide +kernel
theorem d_M_match_47 : decode prog_14_method_55_code 47 = .ok (.if_icmp .ne 5, 3) := by decide +kernel
theorem d_M_match_50 : decode prog_14_method_55_code 50 = .ok (.iconst 0, 1) := by decide +kernel
theorem d_M_match_51 : decode prog_14_method_55_code 51 = .ok (.ireturn, 1) := by decide +kernel
theorem d_M_match_52 : decode prog_14_method_55_code 52 = .ok (.iconst 0, 1) := by decide +kernel
theorem d_M_match_53 : decode prog_14_method_55_code 53 = .ok (.istore 4, 2) := by decide +kernel
theorem d_M_match_55 : decode prog_14_method_55_code 55 = .ok (.iload 4, 2) := by decide +kernel
theorem d_M_match_57 : decode prog_14_method_55_code 57 = .ok (.aload_n 0, 1) := by decide +kernel
theorem d_M_match_58 : decode prog_14_method_55_code 58 = .ok (.getfield 286, 3) := by decide +kernel
theorem d_M_match_61 : decode prog_14_method_55_code 61 = .ok (.if_icmp .ge 21, 3) := by decide +kernel
theorem d_M_match_64 : decode prog_14_method_55_code 64 = .ok (.aload_n 0, 1) := by decide +kernel
theorem d_M_match_65 : decode prog_14_method_55_code 65 = .ok (.getfield 32, 3) := by decide +kernel
theorem d_M_match_68 : decode prog_14_method_55_code 68 = .ok (.iload 4, 2) := by decide +kernel
theorem d_M_match_70 : decode prog_14_method_55_code 70 = .ok (.iaload, 1) := by decide +kernel
theorem d_M_match_71 : decode prog_14_method_55_code 71 = .ok (.bipush 32, 2) := by decide +kernel
theorem d_M_match_73 : decode prog_14_method_55_code 73 = .ok (.if_icmp .eq 9, 3) := by decide +kernel
theorem d_M_match_76 : decode prog_14_method_55_code 76 = .ok (.iinc 4 1, 3) := by decide +kernel
theorem d_M_match_79 : decode prog_14_method_55_code 79 = .ok (.goto (-24), 3) := by decide +kernel
theorem d_M_match_82 : decode prog_14_method_55_code 82 = .ok (.iload_n 2, 1) := by decide +kernel
theorem d_M_match_83 : decode prog_14_method_55_code 83 = .ok (.iconst 3, 1) := by decide +kernel
theorem d_M_match_84 : decode prog_14_method_55_code 84 = .ok (.if_icmp .lt 7, 3) := by decide +kernel
theorem d_M_match_87 : decode prog_14_method_55_code 87 = .ok (.iconst 1, 1) := by decide +kernel
theorem d_M_match_88 : decode prog_14_method_55_code 88 = .ok (.goto 4, 3) := by decide +kernel
theorem d_M_match_91 : decode prog_14_method_55_code 91 = .ok (.iconst 0, 1) := by decide +kernel
theorem d_M_match_92 : decode prog_14_method_55_code 92 = .ok (.istore 5, 2) := by decide +kernel
theorem d_M_match_94 : decode prog_14_method_55_code 94 = .ok (.iload_n 3, 1) := by decide +kernel
theorem d_M_match_95 : decode prog_14_method_55_code 95 = .ok (.ifCond .eq 29, 3) := by decide +kernel
theorem d_M_match_98 : decode prog_14_method_55_code 98 = .ok (.iload 4, 2) := by decide +kernel
theorem d_M_match_100 : decode prog_14_method_55_code 100 = .ok (.ifCond .eq 22, 3) := by decide +kernel
theorem d_M_match_103 : decode prog_14_method_55_code 103 = .ok (.iload 5, 2) := by decide +kernel
theorem d_M_match_105 : decode prog_14_method_55_code 105 = .ok (.iload 4, 2) := by decide +kernel
theorem d_M_match_107 : decode prog_14_method_55_code 107 = .ok (.aload_n 0, 1) := by decide +kernel
theorem d_M_match_108 : decode prog_14_method_55_code 108 = .ok (.getfield 286, 3) := by decide +kernel
theorem d_M_match_111 : decode prog_14_method_55_code 111 = .ok (.if_icmp .ne 7, 3) := by decide +kernel
theorem d_M_match_114 : decode prog_14_method_55_code 114 = .ok (.iconst 1, 1) := by decide +kernel
theorem d_M_match_115 : decode prog_14_method_55_code 115 = .ok (.goto 4, 3) := by decide +kernel
theorem d_M_match_118 : decode prog_14_method_55_code 118 = .ok (.iconst 0, 1) := by decide +kernel
theorem d_M_match_119 : decode prog_14_method_55_code 119 = .ok (.if_icmp .eq 5, 3) := by decide +kernel
theorem d_M_match_122 : decode prog_14_method_55_code 122 = .ok (.iconst 0, 1) := by decide +kernel
theorem d_M_match_123 : decode prog_14_method_55_code 123 = .ok (.ireturn, 1) := by decide +kernel
theorem d_M_match_124 : decode prog_14_method_55_code 124 = .ok (.aload_n 0, 1) := by decide +kernel
theorem d_M_match_125 : decode prog_14_method_55_code 125 = .ok (.getfield 289, 3) := by decide +kernel
theorem d_M_match_128 : decode prog_14_method_55_code 128 = .ok (.istore 6, 2) := by decide +kernel
theorem d_M_match_130 : decode prog_14_method_55_code 130 = .ok (.aload_n 0, 1) := by decide +kernel
theorem d_M_match_131 : decode prog_14_method_55_code 131 = .ok (.getfield 41, 3) := by decide +kernel
theorem d_M_match_134 : decode prog_14_method_55_code 134 = .ok (.iload 6, 2) := by decide +kernel
theorem d_M_match_136 : decode prog_14_method_55_code 136 = .ok (.iload_n 3, 1) := by decide +kernel
theorem d_M_match_137 : decode prog_14_method_55_code 137 = .ok (.ifCond .eq 8, 3) := by decide +kernel
theorem d_M_match_140 : decode prog_14_method_55_code 140 = .ok (.iload 4, 2) := by decide +kernel
theorem d_M_match_142 : decode prog_14_method_55_code 142 = .ok (.goto 4, 3) := by decide +kernel
theorem d_M_match_145 : decode prog_14_method_55_code 145 = .ok (.iconst (-1), 1) := by decide +kernel
theorem d_M_match_146 : decode prog_14_method_55_code 146 = .ok (.iastore, 1) := by decide +kernel
theorem d_M_match_147 : decode prog_14_method_55_code 147 = .ok (.aload_n 0, 1) := by decide +kernel
theorem d_M_match_148 : decode prog_14_method_55_code 148 = .ok (.getfield 44, 3) := by decide +kernel
theorem d_M_match_151 : decode prog_14_method_55_code 151 = .ok (.iload 6, 2) := by decide +kernel
theorem d_M_match_153 : decode prog_14_method_55_code 153 = .ok (.aload_n 0, 1) := by decide +kernel
theorem d_M_match_154 : decode prog_14_method_55_code 154 = .ok (.getfield 286, 3) := by decide +kernel
theorem d_M_match_157 : decode prog_14_method_55_code 157 = .ok (.iastore, 1) := by decide +kernel
theorem d_M_match_158 : decode prog_14_method_55_code 158 = .ok (.iconst 0, 1) := by decide +kernel
theorem d_M_match_159 : decode prog_14_method_55_code 159 = .ok (.istore 7, 2) := by decide +kernel
theorem d_M_match_161 : decode prog_14_method_55_code 161 = .ok (.iload 7, 2) := by decide +kernel
theorem d_M_match_163 : decode prog_14_method_55_code 163 = .ok (.aload_n 0, 1) := by decide +kernel
theorem d_M_match_164 : decode prog_14_method_55_code 164 = .ok (.getfield 286, 3) := by decide +kernel
theorem d_M_match_167 : decode prog_14_method_55_code 167 = .ok (.if_icmp .ge 29, 3) := by decide +kernel
theorem d_M_match_170 : decode prog_14_method_55_code 170 = .ok (.aload_n 0, 1) := by decide +kernel
theorem d_M_match_171 : decode prog_14_method_55_code 171 = .ok (.getfield 47, 3) := by decide +kernel
theorem d_M_match_174 : decode prog_14_method_55_code 174 = .ok (.bipush 40, 2) := by decide +kernel
theorem d_M_match_176 : decode prog_14_method_55_code 176 = .ok (.iload 6, 2) := by decide +kernel
theorem d_M_match_178 : decode prog_14_method_55_code 178 = .ok (.imul, 1) := by decide +kernel
theorem d_M_match_179 : decode prog_14_method_55_code 179 = .ok (.iload 7, 2) := by decide +kernel
theorem d_M_match_181 : decode prog_14_method_55_code 181 = .ok (.iadd, 1) := by decide +kernel
theorem d_M_match_182 : decode prog_14_method_55_code 182 = .ok (.aload_n 0, 1) := by decide +kernel
theorem d_M_match_183 : decode prog_14_method_55_code 183 = .ok (.getfield 32, 3) := by decide +kernel
theorem d_M_match_186 : decode prog_14_method_55_code 186 = .ok (.iload 7, 2) := by decide +kernel
theorem d_M_match_188 : decode prog_14_method_55_code 188 = .ok (.iaload, 1) := by decide +kernel
theorem d_M_match_189 : decode prog_14_method_55_code 189 = .ok (.iastore, 1) := by decide +kernel
theorem d_M_match_190 : decode prog_14_method_55_code 190 = .ok (.iinc 7 1, 3) := by decide +kernel
theorem d_M_match_193 : decode prog_14_method_55_code 193 = .ok (.goto (-32), 3) := by decide +kernel
theorem d_M_match_196 : decode prog_14_method_55_code 196 = .ok (.iload_n 2, 1) := by decide +kernel
theorem d_M_match_197 : decode prog_14_method_55_code 197 = .ok (.iconst 2, 1) := by decide +kernel
theorem d_M_match_198 : decode prog_14_method_55_code 198 = .ok (.if_icmp .ne 14, 3) := by decide +kernel
theorem d_M_match_201 : decode prog_14_method_55_code 201 = .ok (.aload_n 0, 1) := by decide +kernel
theorem d_M_match_202 : decode prog_14_method_55_code 202 = .ok (.iload 6, 2) := by decide +kernel
theorem d_M_match_204 : decode prog_14_method_55_code 204 = .ok (.invokevirtual 292, 3) := by decide +kernel
theorem d_M_match_207 : decode prog_14_method_55_code 207 = .ok (.ifCond .ne 5, 3) := by decide +kernel
theorem d_M_match_210 : decode prog_14_method_55_code 210 = .ok (.iconst 0, 1) := by decide +kernel
theorem d_M_match_211 : decode prog_14_method_55_code 211 = .ok (.ireturn, 1) := by decide +kernel
theorem d_M_match_212 : decode prog_14_method_55_code 212 = .ok (.aload_n 0, 1) := by decide +kernel
theorem d_M_match_213 : decode prog_14_method_55_code 213 = .ok (.getfield 35, 3) := by decide +kernel
theorem d_M_match_216 : decode prog_14_method_55_code 216 = .ok (.iload 6, 2) := by decide +kernel
theorem d_M_match_218 : decode prog_14_method_55_code 218 = .ok (.iload_n 1, 1) := by decide +kernel
theorem d_M_match_219 : decode prog_14_method_55_code 219 = .ok (.iastore, 1) := by decide +kernel
theorem d_M_match_220 : decode prog_14_method_55_code 220 = .ok (.aload_n 0, 1) := by decide +kernel
theorem d_M_match_221 : decode prog_14_method_55_code 221 = .ok (.getfield 38, 3) := by decide +kernel
theorem d_M_match_224 : decode prog_14_method_55_code 224 = .ok (.iload 6, 2) := by decide +kernel
theorem d_M_match_226 : decode prog_14_method_55_code 226 = .ok (.iload_n 2, 1) := by decide +kernel
theorem d_M_match_227 : decode prog_14_method_55_code 227 = .ok (.iastore, 1) := by decide +kernel
theorem d_M_match_228 : decode prog_14_method_55_code 228 = .ok (.aload_n 0, 1) := by decide +kernel
theorem d_M_match_229 : decode prog_14_method_55_code 229 = .ok (.dup, 1) := by decide +kernel
theorem d_M_match_230 : decode prog_14_method_55_code 230 = .ok (.getfield 289, 3) := by decide +kernel
theorem d_M_match_233 : decode prog_14_method_55_code 233 = .ok (.iconst 1, 1) := by decide +kernel
theorem d_M_match_234 : decode prog_14_method_55_code 234 = .ok (.iadd, 1) := by decide +kernel
theorem d_M_match_235 : decode prog_14_method_55_code 235 = .ok (.putfield 289, 3) := by decide +kernel
theorem d_M_match_238 : decode prog_14_method_55_code 238 = .ok (.aload_n 0, 1) := by decide +kernel
theorem d_M_match_239 : decode prog_14_method_55_code 239 = .ok (.iconst 0, 1) := by decide +kernel
theorem d_M_match_240 : decode prog_14_method_55_code 240 = .ok (.putfield 286, 3) := by decide +kernel
theorem d_M_match_243 : decode prog_14_method_55_code 243 = .ok (.iconst 1, 1) := by decide +kernel
theorem d_M_match_244 : decode prog_14_method_55_code 244 = .ok (.ireturn, 1) := by decide +kernel
def wq_M_match_212 (a : Nat) (p0 : Int32) (p1 : Int32) (Q : Int32 → ab_H → Prop)  (u6 : Int32) (A : ab_H) : Prop := wgR A (some a) 14 11 (fun r1 => wSI A r1 u6 p0 (fun A => wgR A (some a) 14 12 (fun r2 => wSI A r2 u6 p1 (fun A => wgI A (some a) 14 16 (fun x3 => wp A (some a) 14 16 (.int (x3 + (1 : Int32))) (fun A => wp A (some a) 14 10 (.int (0 : Int32)) (fun A => Q (1 : Int32) A)))))))
set_option maxRecDepth 100000 in
set_option maxHeartbeats 4000000 in
theorem sq_M_match_212 {l : Launch} {G : mm_G} {a : Nat} {p0 : Int32} {p1 : Int32} {Q : Int32 → ab_H → Prop}   : ∀ (u6 : Int32) (A : ab_H) (h : mm_H), Vw G h A → wq_M_match_212 a p0 p1 Q  u6 A → mm_V l G M_M_match 0 0 212 [some (va_rf (some a)), some (.int p0), some (.int p1), none, none, none, some (.int u6), none] [] h (wQI G Q) := by
  intro u6 A h hV hw
  unfold wq_M_match_212 at hw
  refine wr_aload_n (some a) (pc' := 213) d_M_match_212 rfl rfl rfl ?_
  refine wr_getR hV hw (pc' := 216) d_M_match_213 rfl fl_M_35 (fun r1 hw => ?_)
  refine mm_iload (pc' := 218) d_M_match_216 rfl rfl ?_
  refine mm_iload_n (pc' := 219) d_M_match_218 rfl rfl rfl ?_
  refine wr_astI hV hw (pc' := 220) d_M_match_219 rfl (fun h A hV hw => ?_)
  refine wr_aload_n (some a) (pc' := 221) d_M_match_220 rfl rfl rfl ?_
  refine wr_getR hV hw (pc' := 224) d_M_match_221 rfl fl_M_38 (fun r2 hw => ?_)
  refine mm_iload (pc' := 226) d_M_match_224 rfl rfl ?_
  refine mm_iload_n (pc' := 227) d_M_match_226 rfl rfl rfl ?_
  refine wr_astI hV hw (pc' := 228) d_M_match_227 rfl (fun h A hV hw => ?_)
  refine wr_aload_n (some a) (pc' := 229) d_M_match_228 rfl rfl rfl ?_
  refine mm_dup (pc' := 230) d_M_match_229 rfl (wr_cat _) ?_
  refine wr_getI hV hw (pc' := 233) d_M_match_230 rfl fl_M_289 (fun x3 hw => ?_)
  refine mm_iconst (v := 1) (pc' := 234) d_M_match_233 rfl (by decide) ?_
  refine mm_iadd (pc' := 235) d_M_match_234 rfl ?_
  refine wr_put hV hw (pc' := 238) d_M_match_235 rfl pl_M_match_289 (Nat.le_of_ble_eq_true rfl) (wn_I _) (fun h A hV hw => ?_)
  refine wr_aload_n (some a) (pc' := 239) d_M_match_238 rfl rfl rfl ?_
  refine mm_iconst (v := 0) (pc' := 240) d_M_match_239 rfl (by decide) ?_
  refine wr_put hV hw (pc' := 243) d_M_match_240 rfl pl_M_match_286 (Nat.le_of_ble_eq_true rfl) (wn_I _) (fun h A hV hw => ?_)
  refine mm_iconst (v := 1) (pc' := 244) d_M_match_243 rfl (by decide) ?_
  exact wr_iret hV d_M_match_244 rfl rfl hw
def wq_M_match_196 (a : Nat) (p0 : Int32) (p1 : Int32) (Q : Int32 → ab_H → Prop)  (u6 : Int32) (A : ab_H) : Prop := if p1 = (2 : Int32) then (wC A (some a) 14 (fun b => wp_M_isPattern b u6 A (fun x4 A => if x4 = 0 then (Q (0 : Int32) A) else (wq_M_match_212 a p0 p1 Q u6 A)))) else (wq_M_match_212 a p0 p1 Q u6 A)
set_option maxRecDepth 100000 in
set_option maxHeartbeats 4000000 in
theorem sq_M_match_196 {l : Launch} {G : mm_G} {a : Nat} {p0 : Int32} {p1 : Int32} {Q : Int32 → ab_H → Prop}   : ∀ (u6 : Int32) (A : ab_H) (h : mm_H), Vw G h A → wq_M_match_196 a p0 p1 Q  u6 A → mm_V l G M_M_match 0 0 196 [some (va_rf (some a)), some (.int p0), some (.int p1), none, none, none, some (.int u6), none] [] h (wQI G Q) := by
  intro u6 A h hV hw
  unfold wq_M_match_196 at hw
  refine mm_iload_n (pc' := 197) d_M_match_196 rfl rfl rfl ?_
  refine mm_iconst (v := 2) (pc' := 198) d_M_match_197 rfl (by decide) ?_
  refine wr_icmp_ne hw (pc' := 201) d_M_match_198 rfl rfl (fun hw => ?_) (fun hw => ?_)
  · exact mm_drop (mm_le.s (mm_le.s (mm_le.s (mm_le.n (mm_le.n (mm_le.n (mm_le.s (mm_le.n mm_le.e)))))))) (sq_M_match_212  _ _ _ hV hw)
  · refine wr_aload_n (some a) (pc' := 202) d_M_match_201 rfl rfl rfl ?_
    refine mm_iload (pc' := 204) d_M_match_202 rfl rfl ?_
    refine wr_cVI (pc' := 207) (as := [.int u6]) (st := []) d_M_match_204 rfl cs_M_292 rfl (W := fun b Q' => wp_M_isPattern b u6 A Q') hV hw (fun b Q' hw => sd_M_isPattern hV hw) rfl rfl (Nat.le_of_ble_eq_true rfl) (Nat.le_of_ble_eq_true rfl) (fun x4 h A hV hw => ?_)
    refine wr_if_ne hw (pc' := 210) d_M_match_207 rfl rfl (fun hw => ?_) (fun hw => ?_)
    · exact mm_drop (mm_le.s (mm_le.s (mm_le.s (mm_le.n (mm_le.n (mm_le.n (mm_le.s (mm_le.n mm_le.e)))))))) (sq_M_match_212  _ _ _ hV hw)
    · refine mm_iconst (v := 0) (pc' := 211) d_M_match_210 rfl (by decide) ?_
      exact wr_iret hV d_M_match_211 rfl rfl hw
def wb_M_match_161 (a : Nat) (p0 : Int32) (p1 : Int32) (Q : Int32 → ab_H → Prop)  (k161 : Int32 → Int32 → ab_H → Prop) (u6 : Int32) (u7 : Int32) (A : ab_H) : Prop := wgI A (some a) 14 10 (fun x5 => if x5 ≤ u7 then (wq_M_match_196 a p0 p1 Q u6 A) else (wgR A (some a) 14 15 (fun r6 => wgR A (some a) 14 9 (fun r7 => wAI A r7 u7 (fun x8 => wSI A r6 (((40 : Int32) * u6) + u7) x8 (fun A => k161 u6 (u7 + 1) A))))))
def wq_M_match_161 (a : Nat) (p0 : Int32) (p1 : Int32) (Q : Int32 → ab_H → Prop)  : Nat → Int32 → Int32 → ab_H → Prop
  | 0 => fun _ _ _ => False
  | n + 1 => wb_M_match_161 a p0 p1 Q  (wq_M_match_161 a p0 p1 Q  n)
set_option maxRecDepth 100000 in
set_option maxHeartbeats 4000000 in
theorem sq_M_match_161 {l : Launch} {G : mm_G} {a : Nat} {p0 : Int32} {p1 : Int32} {Q : Int32 → ab_H → Prop}   : ∀ (n : Nat) (u6 : Int32) (u7 : Int32) (A : ab_H) (h : mm_H), Vw G h A → wq_M_match_161 a p0 p1 Q  n u6 u7 A → mm_V l G M_M_match 0 0 161 [some (va_rf (some a)), some (.int p0), some (.int p1), none, none, none, some (.int u6), some (.int u7)] [] h (wQI G Q) := by
  intro n
  induction n with
  | zero =>
    intro u6 u7 A h hV hw
    exact absurd hw id
  | succ n hk161 =>
    intro u6 u7 A h hV hw
    have hw : wb_M_match_161 a p0 p1 Q  (wq_M_match_161 a p0 p1 Q  n) u6 u7 A := hw
    unfold wb_M_match_161 at hw
    refine mm_iload (pc' := 163) d_M_match_161 rfl rfl ?_
    refine wr_aload_n (some a) (pc' := 164) d_M_match_163 rfl rfl rfl ?_
    refine wr_getI hV hw (pc' := 167) d_M_match_164 rfl fl_M_286 (fun x5 hw => ?_)
    refine wr_icmp_ge hw (pc' := 170) d_M_match_167 rfl rfl (fun hw => ?_) (fun hw => ?_)
    · exact mm_drop (mm_le.s (mm_le.s (mm_le.s (mm_le.n (mm_le.n (mm_le.n (mm_le.s (mm_le.n mm_le.e)))))))) (sq_M_match_196  _ _ _ hV hw)
    · refine wr_aload_n (some a) (pc' := 171) d_M_match_170 rfl rfl rfl ?_
      refine wr_getR hV hw (pc' := 174) d_M_match_171 rfl fl_M_47 (fun r6 hw => ?_)
      refine mm_bipush (v := 40) (pc' := 176) d_M_match_174 rfl (by decide) ?_
      refine mm_iload (pc' := 178) d_M_match_176 rfl rfl ?_
      refine mm_imul (pc' := 179) d_M_match_178 rfl ?_
      refine mm_iload (pc' := 181) d_M_match_179 rfl rfl ?_
      refine mm_iadd (pc' := 182) d_M_match_181 rfl ?_
      refine wr_aload_n (some a) (pc' := 183) d_M_match_182 rfl rfl rfl ?_
      refine wr_getR hV hw (pc' := 186) d_M_match_183 rfl fl_M_32 (fun r7 hw => ?_)
      refine mm_iload (pc' := 188) d_M_match_186 rfl rfl ?_
      refine wr_aldI hV hw (pc' := 189) d_M_match_188 rfl (fun x8 hw => ?_)
      refine wr_astI hV hw (pc' := 190) d_M_match_189 rfl (fun h A hV hw => ?_)
      refine mm_iinc7 (v := (u7 + 1)) (pc' := 193) d_M_match_190 rfl rfl rfl (Nat.le_of_ble_eq_true rfl) ?_
      refine mm_goto (tgt := 161) d_M_match_193 rfl ?_
      exact mm_drop (mm_le.s (mm_le.s (mm_le.s (mm_le.n (mm_le.n (mm_le.n (mm_le.s (mm_le.s mm_le.e)))))))) (hk161 _ _ _ _ hV hw)
def wq_M_match_146 (a : Nat) (p0 : Int32) (p1 : Int32) (Q : Int32 → ab_H → Prop)  (u6 : Int32) (s0 : Option Nat) (s1 : Int32) (s2 : Int32) (A : ab_H) : Prop := wSI A s0 s1 s2 (fun A => wgR A (some a) 14 14 (fun r9 => wgI A (some a) 14 10 (fun x10 => wSI A r9 u6 x10 (fun A => ∃ n, wq_M_match_161 a p0 p1 Q n u6 (0 : Int32) A))))
set_option maxRecDepth 100000 in
set_option maxHeartbeats 4000000 in
theorem sq_M_match_146 {l : Launch} {G : mm_G} {a : Nat} {p0 : Int32} {p1 : Int32} {Q : Int32 → ab_H → Prop}   : ∀ (u6 : Int32) (s0 : Option Nat) (s1 : Int32) (s2 : Int32) (A : ab_H) (h : mm_H), Vw G h A → wq_M_match_146 a p0 p1 Q  u6 s0 s1 s2 A → mm_V l G M_M_match 0 0 146 [some (va_rf (some a)), some (.int p0), some (.int p1), none, none, none, some (.int u6), none] [.int s2, .int s1, va_rf s0] h (wQI G Q) := by
  intro u6 s0 s1 s2 A h hV hw
  unfold wq_M_match_146 at hw
  refine wr_astI hV hw (pc' := 147) d_M_match_146 rfl (fun h A hV hw => ?_)
  refine wr_aload_n (some a) (pc' := 148) d_M_match_147 rfl rfl rfl ?_
  refine wr_getR hV hw (pc' := 151) d_M_match_148 rfl fl_M_44 (fun r9 hw => ?_)
  refine mm_iload (pc' := 153) d_M_match_151 rfl rfl ?_
  refine wr_aload_n (some a) (pc' := 154) d_M_match_153 rfl rfl rfl ?_
  refine wr_getI hV hw (pc' := 157) d_M_match_154 rfl fl_M_286 (fun x10 hw => ?_)
  refine wr_astI hV hw (pc' := 158) d_M_match_157 rfl (fun h A hV hw => ?_)
  refine mm_iconst (v := 0) (pc' := 159) d_M_match_158 rfl (by decide) ?_
  refine mm_ist7 (pc' := 161) d_M_match_159 rfl rfl (Nat.le_of_ble_eq_true rfl) ?_
  obtain ⟨n, hw⟩ := hw
  exact mm_drop (mm_le.s (mm_le.s (mm_le.s (mm_le.n (mm_le.n (mm_le.n (mm_le.s (mm_le.s mm_le.e)))))))) (sq_M_match_161  n _ _ _ _ hV hw)
def wq_M_match_124 (a : Nat) (p0 : Int32) (p1 : Int32) (Q : Int32 → ab_H → Prop)  (u3 : Int32) (u4 : Int32) (A : ab_H) : Prop := wgI A (some a) 14 16 (fun x11 => wgR A (some a) 14 13 (fun r12 => if u3 = 0 then (wq_M_match_146 a p0 p1 Q x11 r12 x11 ((-1) : Int32) A) else (wq_M_match_146 a p0 p1 Q x11 r12 x11 u4 A)))
set_option maxRecDepth 100000 in
set_option maxHeartbeats 4000000 in
theorem sq_M_match_124 {l : Launch} {G : mm_G} {a : Nat} {p0 : Int32} {p1 : Int32} {Q : Int32 → ab_H → Prop}   : ∀ (u3 : Int32) (u4 : Int32) (A : ab_H) (h : mm_H), Vw G h A → wq_M_match_124 a p0 p1 Q  u3 u4 A → mm_V l G M_M_match 0 0 124 [some (va_rf (some a)), some (.int p0), some (.int p1), some (.int u3), some (.int u4), none, none, none] [] h (wQI G Q) := by
  intro u3 u4 A h hV hw
  unfold wq_M_match_124 at hw
  refine wr_aload_n (some a) (pc' := 125) d_M_match_124 rfl rfl rfl ?_
  refine wr_getI hV hw (pc' := 128) d_M_match_125 rfl fl_M_289 (fun x11 hw => ?_)
  refine mm_ist6 (pc' := 130) d_M_match_128 rfl rfl (Nat.le_of_ble_eq_true rfl) ?_
  refine wr_aload_n (some a) (pc' := 131) d_M_match_130 rfl rfl rfl ?_
  refine wr_getR hV hw (pc' := 134) d_M_match_131 rfl fl_M_41 (fun r12 hw => ?_)
  refine mm_iload (pc' := 136) d_M_match_134 rfl rfl ?_
  refine mm_iload_n (pc' := 137) d_M_match_136 rfl rfl rfl ?_
  refine wr_if_eq hw (pc' := 140) d_M_match_137 rfl rfl (fun hw => ?_) (fun hw => ?_)
  · refine mm_iconst (v := (-1)) (pc' := 146) d_M_match_145 rfl (by decide) ?_
    exact mm_drop (mm_le.s (mm_le.s (mm_le.s (mm_le.n (mm_le.n (mm_le.n (mm_le.s (mm_le.n mm_le.e)))))))) (sq_M_match_146  _ _ _ _ _ _ hV hw)
  · refine mm_iload (pc' := 142) d_M_match_140 rfl rfl ?_
    refine mm_goto (tgt := 146) d_M_match_142 rfl ?_
    exact mm_drop (mm_le.s (mm_le.s (mm_le.s (mm_le.n (mm_le.n (mm_le.n (mm_le.s (mm_le.n mm_le.e)))))))) (sq_M_match_146  _ _ _ _ _ _ hV hw)
def wq_M_match_119 (a : Nat) (p0 : Int32) (p1 : Int32) (Q : Int32 → ab_H → Prop)  (u3 : Int32) (u4 : Int32) (s0 : Int32) (s1 : Int32) (A : ab_H) : Prop := if s0 = s1 then (wq_M_match_124 a p0 p1 Q u3 u4 A) else (Q (0 : Int32) A)
set_option maxRecDepth 100000 in
set_option maxHeartbeats 4000000 in
theorem sq_M_match_119 {l : Launch} {G : mm_G} {a : Nat} {p0 : Int32} {p1 : Int32} {Q : Int32 → ab_H → Prop}   : ∀ (u3 : Int32) (u4 : Int32) (s0 : Int32) (s1 : Int32) (A : ab_H) (h : mm_H), Vw G h A → wq_M_match_119 a p0 p1 Q  u3 u4 s0 s1 A → mm_V l G M_M_match 0 0 119 [some (va_rf (some a)), some (.int p0), some (.int p1), some (.int u3), some (.int u4), none, none, none] [.int s1, .int s0] h (wQI G Q) := by
  intro u3 u4 s0 s1 A h hV hw
  unfold wq_M_match_119 at hw
  refine wr_icmp_eq hw (pc' := 122) d_M_match_119 rfl rfl (fun hw => ?_) (fun hw => ?_)
  · exact mm_drop (mm_le.s (mm_le.s (mm_le.s (mm_le.s (mm_le.s (mm_le.n (mm_le.n (mm_le.n mm_le.e)))))))) (sq_M_match_124  _ _ _ _ hV hw)
  · refine mm_iconst (v := 0) (pc' := 123) d_M_match_122 rfl (by decide) ?_
    exact wr_iret hV d_M_match_123 rfl rfl hw
def wq_M_match_92 (a : Nat) (p0 : Int32) (p1 : Int32) (Q : Int32 → ab_H → Prop)  (u3 : Int32) (u4 : Int32) (s0 : Int32) (A : ab_H) : Prop := if u3 = 0 then (wq_M_match_124 a p0 p1 Q u3 u4 A) else (if u4 = 0 then (Q (0 : Int32) A) else (wgI A (some a) 14 10 (fun x13 => if u4 = x13 then (wq_M_match_119 a p0 p1 Q u3 u4 s0 (1 : Int32) A) else (wq_M_match_119 a p0 p1 Q u3 u4 s0 (0 : Int32) A))))
set_option maxRecDepth 100000 in
set_option maxHeartbeats 4000000 in
theorem sq_M_match_92 {l : Launch} {G : mm_G} {a : Nat} {p0 : Int32} {p1 : Int32} {Q : Int32 → ab_H → Prop}   : ∀ (u3 : Int32) (u4 : Int32) (s0 : Int32) (A : ab_H) (h : mm_H), Vw G h A → wq_M_match_92 a p0 p1 Q  u3 u4 s0 A → mm_V l G M_M_match 0 0 92 [some (va_rf (some a)), some (.int p0), some (.int p1), some (.int u3), some (.int u4), none, none, none] [.int s0] h (wQI G Q) := by
  intro u3 u4 s0 A h hV hw
  unfold wq_M_match_92 at hw
  refine mm_ist5 (pc' := 94) d_M_match_92 rfl rfl (Nat.le_of_ble_eq_true rfl) ?_
  refine mm_iload_n (pc' := 95) d_M_match_94 rfl rfl rfl ?_
  refine wr_if_eq hw (pc' := 98) d_M_match_95 rfl rfl (fun hw => ?_) (fun hw => ?_)
  · exact mm_drop (mm_le.s (mm_le.s (mm_le.s (mm_le.s (mm_le.s (mm_le.n (mm_le.n (mm_le.n mm_le.e)))))))) (sq_M_match_124  _ _ _ _ hV hw)
  · refine mm_iload (pc' := 100) d_M_match_98 rfl rfl ?_
    refine wr_if_eq hw (pc' := 103) d_M_match_100 rfl rfl (fun hw => ?_) (fun hw => ?_)
    · refine mm_iconst (v := 0) (pc' := 123) d_M_match_122 rfl (by decide) ?_
      exact wr_iret hV d_M_match_123 rfl rfl hw
    · refine mm_iload (pc' := 105) d_M_match_103 rfl rfl ?_
      refine mm_iload (pc' := 107) d_M_match_105 rfl rfl ?_
      refine wr_aload_n (some a) (pc' := 108) d_M_match_107 rfl rfl rfl ?_
      refine wr_getI hV hw (pc' := 111) d_M_match_108 rfl fl_M_286 (fun x13 hw => ?_)
      refine wr_icmp_ne hw (pc' := 114) d_M_match_111 rfl rfl (fun hw => ?_) (fun hw => ?_)
      · refine mm_iconst (v := 0) (pc' := 119) d_M_match_118 rfl (by decide) ?_
        exact mm_drop (mm_le.s (mm_le.s (mm_le.s (mm_le.s (mm_le.s (mm_le.n (mm_le.n (mm_le.n mm_le.e)))))))) (sq_M_match_119  _ _ _ _ _ _ hV hw)
      · refine mm_iconst (v := 1) (pc' := 115) d_M_match_114 rfl (by decide) ?_
        refine mm_goto (tgt := 119) d_M_match_115 rfl ?_
        exact mm_drop (mm_le.s (mm_le.s (mm_le.s (mm_le.s (mm_le.s (mm_le.n (mm_le.n (mm_le.n mm_le.e)))))))) (sq_M_match_119  _ _ _ _ _ _ hV hw)
def wq_M_match_82 (a : Nat) (p0 : Int32) (p1 : Int32) (Q : Int32 → ab_H → Prop)  (u3 : Int32) (u4 : Int32) (A : ab_H) : Prop := if p1 < (3 : Int32) then (wq_M_match_92 a p0 p1 Q u3 u4 (0 : Int32) A) else (wq_M_match_92 a p0 p1 Q u3 u4 (1 : Int32) A)
set_option maxRecDepth 100000 in
set_option maxHeartbeats 4000000 in
theorem sq_M_match_82 {l : Launch} {G : mm_G} {a : Nat} {p0 : Int32} {p1 : Int32} {Q : Int32 → ab_H → Prop}   : ∀ (u3 : Int32) (u4 : Int32) (A : ab_H) (h : mm_H), Vw G h A → wq_M_match_82 a p0 p1 Q  u3 u4 A → mm_V l G M_M_match 0 0 82 [some (va_rf (some a)), some (.int p0), some (.int p1), some (.int u3), some (.int u4), none, none, none] [] h (wQI G Q) := by
  intro u3 u4 A h hV hw
  unfold wq_M_match_82 at hw
  refine mm_iload_n (pc' := 83) d_M_match_82 rfl rfl rfl ?_
  refine mm_iconst (v := 3) (pc' := 84) d_M_match_83 rfl (by decide) ?_
  refine wr_icmp_lt hw (pc' := 87) d_M_match_84 rfl rfl (fun hw => ?_) (fun hw => ?_)
  · refine mm_iconst (v := 0) (pc' := 92) d_M_match_91 rfl (by decide) ?_
    exact mm_drop (mm_le.s (mm_le.s (mm_le.s (mm_le.s (mm_le.s (mm_le.n (mm_le.n (mm_le.n mm_le.e)))))))) (sq_M_match_92  _ _ _ _ _ hV hw)
  · refine mm_iconst (v := 1) (pc' := 88) d_M_match_87 rfl (by decide) ?_
    refine mm_goto (tgt := 92) d_M_match_88 rfl ?_
    exact mm_drop (mm_le.s (mm_le.s (mm_le.s (mm_le.s (mm_le.s (mm_le.n (mm_le.n (mm_le.n mm_le.e)))))))) (sq_M_match_92  _ _ _ _ _ hV hw)
def wb_M_match_55 (a : Nat) (p0 : Int32) (p1 : Int32) (Q : Int32 → ab_H → Prop)  (k55 : Int32 → Int32 → ab_H → Prop) (u3 : Int32) (u4 : Int32) (A : ab_H) : Prop := wgI A (some a) 14 10 (fun x14 => if x14 ≤ u4 then (wq_M_match_82 a p0 p1 Q u3 u4 A) else (wgR A (some a) 14 9 (fun r15 => wAI A r15 u4 (fun x16 => if x16 = (32 : Int32) then (wq_M_match_82 a p0 p1 Q u3 u4 A) else (k55 u3 (u4 + 1) A)))))
def wq_M_match_55 (a : Nat) (p0 : Int32) (p1 : Int32) (Q : Int32 → ab_H → Prop)  : Nat → Int32 → Int32 → ab_H → Prop
  | 0 => fun _ _ _ => False
  | n + 1 => wb_M_match_55 a p0 p1 Q  (wq_M_match_55 a p0 p1 Q  n)
set_option maxRecDepth 100000 in
set_option maxHeartbeats 4000000 in
theorem sq_M_match_55 {l : Launch} {G : mm_G} {a : Nat} {p0 : Int32} {p1 : Int32} {Q : Int32 → ab_H → Prop}   : ∀ (n : Nat) (u3 : Int32) (u4 : Int32) (A : ab_H) (h : mm_H), Vw G h A → wq_M_match_55 a p0 p1 Q  n u3 u4 A → mm_V l G M_M_match 0 0 55 [some (va_rf (some a)), some (.int p0), some (.int p1), some (.int u3), some (.int u4), none, none, none] [] h (wQI G Q) := by
  intro n
  induction n with
  | zero =>
    intro u3 u4 A h hV hw
    exact absurd hw id
  | succ n hk55 =>
    intro u3 u4 A h hV hw
    have hw : wb_M_match_55 a p0 p1 Q  (wq_M_match_55 a p0 p1 Q  n) u3 u4 A := hw
    unfold wb_M_match_55 at hw
    refine mm_iload (pc' := 57) d_M_match_55 rfl rfl ?_
    refine wr_aload_n (some a) (pc' := 58) d_M_match_57 rfl rfl rfl ?_
    refine wr_getI hV hw (pc' := 61) d_M_match_58 rfl fl_M_286 (fun x14 hw => ?_)
    refine wr_icmp_ge hw (pc' := 64) d_M_match_61 rfl rfl (fun hw => ?_) (fun hw => ?_)
    · exact mm_drop (mm_le.s (mm_le.s (mm_le.s (mm_le.s (mm_le.s (mm_le.n (mm_le.n (mm_le.n mm_le.e)))))))) (sq_M_match_82  _ _ _ _ hV hw)
    · refine wr_aload_n (some a) (pc' := 65) d_M_match_64 rfl rfl rfl ?_
      refine wr_getR hV hw (pc' := 68) d_M_match_65 rfl fl_M_32 (fun r15 hw => ?_)
      refine mm_iload (pc' := 70) d_M_match_68 rfl rfl ?_
      refine wr_aldI hV hw (pc' := 71) d_M_match_70 rfl (fun x16 hw => ?_)
      refine mm_bipush (v := 32) (pc' := 73) d_M_match_71 rfl (by decide) ?_
      refine wr_icmp_eq hw (pc' := 76) d_M_match_73 rfl rfl (fun hw => ?_) (fun hw => ?_)
      · exact mm_drop (mm_le.s (mm_le.s (mm_le.s (mm_le.s (mm_le.s (mm_le.n (mm_le.n (mm_le.n mm_le.e)))))))) (sq_M_match_82  _ _ _ _ hV hw)
      · refine mm_iinc4 (v := (u4 + 1)) (pc' := 79) d_M_match_76 rfl rfl rfl (Nat.le_of_ble_eq_true rfl) ?_
        refine mm_goto (tgt := 55) d_M_match_79 rfl ?_
        exact mm_drop (mm_le.s (mm_le.s (mm_le.s (mm_le.s (mm_le.s (mm_le.n (mm_le.n (mm_le.n mm_le.e)))))))) (hk55 _ _ _ _ hV hw)
def wq_M_match_39 (a : Nat) (p0 : Int32) (p1 : Int32) (Q : Int32 → ab_H → Prop)  (u3 : Int32) (s0 : Int32) (s1 : Int32) (A : ab_H) : Prop := if s1 < s0 then (Q (0 : Int32) A) else (wgI A (some a) 14 16 (fun x17 => if x17 = (4 : Int32) then (Q (0 : Int32) A) else (∃ n, wq_M_match_55 a p0 p1 Q n u3 (0 : Int32) A)))
set_option maxRecDepth 100000 in
set_option maxHeartbeats 4000000 in
theorem sq_M_match_39 {l : Launch} {G : mm_G} {a : Nat} {p0 : Int32} {p1 : Int32} {Q : Int32 → ab_H → Prop}   : ∀ (u3 : Int32) (s0 : Int32) (s1 : Int32) (A : ab_H) (h : mm_H), Vw G h A → wq_M_match_39 a p0 p1 Q  u3 s0 s1 A → mm_V l G M_M_match 0 0 39 [some (va_rf (some a)), some (.int p0), some (.int p1), some (.int u3), none, none, none, none] [.int s1, .int s0] h (wQI G Q) := by
  intro u3 s0 s1 A h hV hw
  unfold wq_M_match_39 at hw
  refine wr_icmp_gt hw (pc' := 42) d_M_match_39 rfl rfl (fun hw => ?_) (fun hw => ?_)
  · refine mm_iconst (v := 0) (pc' := 51) d_M_match_50 rfl (by decide) ?_
    exact wr_iret hV d_M_match_51 rfl rfl hw
  · refine wr_aload_n (some a) (pc' := 43) d_M_match_42 rfl rfl rfl ?_
    refine wr_getI hV hw (pc' := 46) d_M_match_43 rfl fl_M_289 (fun x17 hw => ?_)
    refine mm_iconst (v := 4) (pc' := 47) d_M_match_46 rfl (by decide) ?_
    refine wr_icmp_ne hw (pc' := 50) d_M_match_47 rfl rfl (fun hw => ?_) (fun hw => ?_)
    · refine mm_iconst (v := 0) (pc' := 53) d_M_match_52 rfl (by decide) ?_
      refine mm_ist4 (pc' := 55) d_M_match_53 rfl rfl (Nat.le_of_ble_eq_true rfl) ?_
      obtain ⟨n, hw⟩ := hw
      exact mm_drop (mm_le.s (mm_le.s (mm_le.s (mm_le.s (mm_le.s (mm_le.n (mm_le.n (mm_le.n mm_le.e)))))))) (sq_M_match_55  n _ _ _ _ hV hw)
    · refine mm_iconst (v := 0) (pc' := 51) d_M_match_50 rfl (by decide) ?_
      exact wr_iret hV d_M_match_51 rfl rfl hw
def wq_M_match_15 (a : Nat) (p0 : Int32) (p1 : Int32) (Q : Int32 → ab_H → Prop)  (s0 : Int32) (A : ab_H) : Prop := if p0 < 0 then (Q (0 : Int32) A) else (if (4 : Int32) < p0 then (Q (0 : Int32) A) else (if p1 < 0 then (Q (0 : Int32) A) else (if s0 = 0 then (wq_M_match_39 a p0 p1 Q s0 p1 (2 : Int32) A) else (wq_M_match_39 a p0 p1 Q s0 p1 (4 : Int32) A))))
set_option maxRecDepth 100000 in
set_option maxHeartbeats 4000000 in
theorem sq_M_match_15 {l : Launch} {G : mm_G} {a : Nat} {p0 : Int32} {p1 : Int32} {Q : Int32 → ab_H → Prop}   : ∀ (s0 : Int32) (A : ab_H) (h : mm_H), Vw G h A → wq_M_match_15 a p0 p1 Q  s0 A → mm_V l G M_M_match 0 0 15 [some (va_rf (some a)), some (.int p0), some (.int p1), none, none, none, none, none] [.int s0] h (wQI G Q) := by
  intro s0 A h hV hw
  unfold wq_M_match_15 at hw
  refine mm_ist3 (pc' := 16) d_M_match_15 rfl rfl (Nat.le_of_ble_eq_true rfl) ?_
  refine mm_iload_n (pc' := 17) d_M_match_16 rfl rfl rfl ?_
  refine wr_if_lt hw (pc' := 20) d_M_match_17 rfl rfl (fun hw => ?_) (fun hw => ?_)
  · refine mm_iconst (v := 0) (pc' := 51) d_M_match_50 rfl (by decide) ?_
    exact wr_iret hV d_M_match_51 rfl rfl hw
  · refine mm_iload_n (pc' := 21) d_M_match_20 rfl rfl rfl ?_
    refine mm_iconst (v := 4) (pc' := 22) d_M_match_21 rfl (by decide) ?_
    refine wr_icmp_gt hw (pc' := 25) d_M_match_22 rfl rfl (fun hw => ?_) (fun hw => ?_)
    · refine mm_iconst (v := 0) (pc' := 51) d_M_match_50 rfl (by decide) ?_
      exact wr_iret hV d_M_match_51 rfl rfl hw
    · refine mm_iload_n (pc' := 26) d_M_match_25 rfl rfl rfl ?_
      refine wr_if_lt hw (pc' := 29) d_M_match_26 rfl rfl (fun hw => ?_) (fun hw => ?_)
      · refine mm_iconst (v := 0) (pc' := 51) d_M_match_50 rfl (by decide) ?_
        exact wr_iret hV d_M_match_51 rfl rfl hw
      · refine mm_iload_n (pc' := 30) d_M_match_29 rfl rfl rfl ?_
        refine mm_iload_n (pc' := 31) d_M_match_30 rfl rfl rfl ?_
        refine wr_if_eq hw (pc' := 34) d_M_match_31 rfl rfl (fun hw => ?_) (fun hw => ?_)
        · refine mm_iconst (v := 2) (pc' := 39) d_M_match_38 rfl (by decide) ?_
          exact mm_drop (mm_le.s (mm_le.s (mm_le.s (mm_le.s (mm_le.n (mm_le.n (mm_le.n (mm_le.n mm_le.e)))))))) (sq_M_match_39  _ _ _ _ _ hV hw)
        · refine mm_iconst (v := 4) (pc' := 35) d_M_match_34 rfl (by decide) ?_
          refine mm_goto (tgt := 39) d_M_match_35 rfl ?_
          exact mm_drop (mm_le.s (mm_le.s (mm_le.s (mm_le.s (mm_le.n (mm_le.n (mm_le.n (mm_le.n mm_le.e)))))))) (sq_M_match_39  _ _ _ _ _ hV hw)
def wq_M_match_10 (a : Nat) (p0 : Int32) (p1 : Int32) (Q : Int32 → ab_H → Prop)   (A : ab_H) : Prop := wq_M_match_15 a p0 p1 Q (1 : Int32) A
set_option maxRecDepth 100000 in
set_option maxHeartbeats 4000000 in
theorem sq_M_match_10 {l : Launch} {G : mm_G} {a : Nat} {p0 : Int32} {p1 : Int32} {Q : Int32 → ab_H → Prop}   : ∀ (A : ab_H) (h : mm_H), Vw G h A → wq_M_match_10 a p0 p1 Q  A → mm_V l G M_M_match 0 0 10 [some (va_rf (some a)), some (.int p0), some (.int p1), none, none, none, none, none] [] h (wQI G Q) := by
  intro A h hV hw
  unfold wq_M_match_10 at hw
  refine mm_iconst (v := 1) (pc' := 11) d_M_match_10 rfl (by decide) ?_
  refine mm_goto (tgt := 15) d_M_match_11 rfl ?_
  exact mm_drop (mm_le.s (mm_le.s (mm_le.s (mm_le.n (mm_le.n (mm_le.n (mm_le.n (mm_le.n mm_le.e)))))))) (sq_M_match_15  _ _ _ hV hw)
def wp_M_match (a : Nat) (p0 : Int32) (p1 : Int32) (A : ab_H) (Q : Int32 → ab_H → Prop) : Prop := if p0 = (2 : Int32) then (wq_M_match_10 a p0 p1 Q A) else (if p0 = (3 : Int32) then (wq_M_match_10 a p0 p1 Q A) else (wq_M_match_15 a p0 p1 Q (0 : Int32) A))
set_option maxRecDepth 100000 in
set_option maxHeartbeats 4000000 in
theorem sd_M_match {l : Launch} {G : mm_G} {h : mm_H} {A : ab_H} {a : Nat} {p0 : Int32} {p1 : Int32} {Q : Int32 → ab_H → Prop} (hV : Vw G h A) (hw : wp_M_match a p0 p1 A Q) : mm_S l G M_M_match [.ref a, .int p0, .int p1] h 0 0 (wQI G Q) := by
  unfold wp_M_match at hw
  refine mm_start rfl (Nat.le_of_ble_eq_true rfl) ?_
  show mm_V l G M_M_match 0 0 0 [some (va_rf (some a)), some (.int p0), some (.int p1), none, none, none, none, none] [] h _
  refine mm_iload_n (pc' := 1) d_M_match_0 rfl rfl rfl ?_
  refine mm_iconst (v := 2) (pc' := 2) d_M_match_1 rfl (by decide) ?_
  refine wr_icmp_eq hw (pc' := 5) d_M_match_2 rfl rfl (fun hw => ?_) (fun hw => ?_)
  · exact mm_drop (mm_le.s (mm_le.s (mm_le.s (mm_le.n (mm_le.n (mm_le.n (mm_le.n (mm_le.n mm_le.e)))))))) (sq_M_match_10  _ _ hV hw)
  · refine mm_iload_n (pc' := 6) d_M_match_5 rfl rfl rfl ?_
    refine mm_iconst (v := 3) (pc' := 7) d_M_match_6 rfl (by decide) ?_
    refine wr_icmp_ne hw (pc' := 10) d_M_match_7 rfl rfl (fun hw => ?_) (fun hw => ?_)
    · refine mm_iconst (v := 0) (pc' := 15) d_M_match_14 rfl (by decide) ?_
      exact mm_drop (mm_le.s (mm_le.s (mm_le.s (mm_le.n (mm_le.n (mm_le.n (mm_le.n (mm_le.n mm_le.e)))))))) (sq_M_match_15  _ _ _ hV hw)
    · exact mm_drop (mm_le.s (mm_le.s (mm_le.s (mm_le.n (mm_le.n (mm_le.n (mm_le.n (mm_le.n mm_le.e)))))))) (sq_M_match_10  _ _ hV hw)
theorem d_M_stub_0 : decode prog_14_method_56_code 0 = .ok (.iconst (-1), 1) := by decide +kernel
theorem d_M_stub_1 : decode prog_14_method_56_code 1 = .ok (.istore_n 3, 1) := by decide +kernel
theorem d_M_stub_2 : decode prog_14_method_56_code 2 = .ok (.iconst 0, 1) := by decide +kernel
theorem d_M_stub_3 : decode prog_14_method_56_code 3 = .ok (.istore 4, 2) := by decide +kernel
theorem d_M_stub_5 : decode prog_14_method_56_code 5 = .ok (.iload 4, 2) := by decide +kernel
theorem d_M_stub_7 : decode prog_14_method_56_code 7 = .ok (.bipush 8, 2) := by decide +kernel
theorem d_M_stub_9 : decode prog_14_method_56_code 9 = .ok (.if_icmp .ge 26, 3) := by decide +kernel
theorem d_M_stub_12 : decode prog_14_method_56_code 12 = .ok (.aload_n 0, 1) := by decide +kernel
theorem d_M_stub_13 : decode prog_14_method_56_code 13 = .ok (.getfield 50, 3) := by decide +kernel
theorem d_M_stub_16 : decode prog_14_method_56_code 16 = .ok (.iload 4, 2) := by decide +kernel
theorem d_M_stub_18 : decode prog_14_method_56_code 18 = .ok (.iaload, 1) := by decide +kernel
theorem d_M_stub_19 : decode prog_14_method_56_code 19 = .ok (.ifCond .ge 8, 3) := by decide +kernel
theorem d_M_stub_22 : decode prog_14_method_56_code 22 = .ok (.iload 4, 2) := by decide +kernel
theorem d_M_stub_24 : decode prog_14_method_56_code 24 = .ok (.goto 4, 3) := by decide +kernel
theorem d_M_stub_27 : decode prog_14_method_56_code 27 = .ok (.iload_n 3, 1) := by decide +kernel
theorem d_M_stub_28 : decode prog_14_method_56_code 28 = .ok (.istore_n 3, 1) := by decide +kernel
theorem d_M_stub_29 : decode prog_14_method_56_code 29 = .ok (.iinc 4 1, 3) := by decide +kernel
theorem d_M_stub_32 : decode prog_14_method_56_code 32 = .ok (.goto (-27), 3) := by decide +kernel
theorem d_M_stub_35 : decode prog_14_method_56_code 35 = .ok (.iload_n 1, 1) := by decide +kernel
theorem d_M_stub_36 : decode prog_14_method_56_code 36 = .ok (.ifCond .lt 26, 3) := by decide +kernel
theorem d_M_stub_39 : decode prog_14_method_56_code 39 = .ok (.iload_n 1, 1) := by decide +kernel
theorem d_M_stub_40 : decode prog_14_method_56_code 40 = .ok (.bipush 9, 2) := by decide +kernel
theorem d_M_stub_42 : decode prog_14_method_56_code 42 = .ok (.if_icmp .gt 20, 3) := by decide +kernel
theorem d_M_stub_45 : decode prog_14_method_56_code 45 = .ok (.iload_n 2, 1) := by decide +kernel
theorem d_M_stub_46 : decode prog_14_method_56_code 46 = .ok (.bipush 100, 2) := by decide +kernel
theorem d_M_stub_48 : decode prog_14_method_56_code 48 = .ok (.if_icmp .lt 14, 3) := by decide +kernel
theorem d_M_stub_51 : decode prog_14_method_56_code 51 = .ok (.iload_n 2, 1) := by decide +kernel
theorem d_M_stub_52 : decode prog_14_method_56_code 52 = .ok (.sipush 599, 3) := by decide +kernel
theorem d_M_stub_55 : decode prog_14_method_56_code 55 = .ok (.if_icmp .gt 7, 3) := by decide +kernel
theorem d_M_stub_58 : decode prog_14_method_56_code 58 = .ok (.iload_n 3, 1) := by decide +kernel
theorem d_M_stub_59 : decode prog_14_method_56_code 59 = .ok (.ifCond .ge 5, 3) := by decide +kernel
theorem d_M_stub_62 : decode prog_14_method_56_code 62 = .ok (.iconst (-1), 1) := by decide +kernel
theorem d_M_stub_63 : decode prog_14_method_56_code 63 = .ok (.ireturn, 1) := by decide +kernel
theorem d_M_stub_64 : decode prog_14_method_56_code 64 = .ok (.iconst 0, 1) := by decide +kernel
theorem d_M_stub_65 : decode prog_14_method_56_code 65 = .ok (.istore 4, 2) := by decide +kernel
theorem d_M_stub_67 : decode prog_14_method_56_code 67 = .ok (.iload 4, 2) := by decide +kernel
theorem d_M_stub_69 : decode prog_14_method_56_code 69 = .ok (.aload_n 0, 1) := by decide +kernel
theorem d_M_stub_70 : decode prog_14_method_56_code 70 = .ok (.getfield 289, 3) := by decide +kernel
theorem d_M_stub_73 : decode prog_14_method_56_code 73 = .ok (.if_icmp .ge 117, 3) := by decide +kernel
theorem d_M_stub_76 : decode prog_14_method_56_code 76 = .ok (.iconst 4, 1) := by decide +kernel
theorem d_M_stub_77 : decode prog_14_method_56_code 77 = .ok (.iload_n 3, 1) := by decide +kernel
theorem d_M_stub_78 : decode prog_14_method_56_code 78 = .ok (.imul, 1) := by decide +kernel
theorem d_M_stub_79 : decode prog_14_method_56_code 79 = .ok (.iconst 4, 1) := by decide +kernel
theorem d_M_stub_80 : decode prog_14_method_56_code 80 = .ok (.iadd, 1) := by decide +kernel
theorem d_M_stub_81 : decode prog_14_method_56_code 81 = .ok (.iload 4, 2) := by decide +kernel
theorem d_M_stub_83 : decode prog_14_method_56_code 83 = .ok (.iadd, 1) := by decide +kernel
theorem d_M_stub_84 : decode prog_14_method_56_code 84 = .ok (.istore 5, 2) := by decide +kernel
theorem d_M_stub_86 : decode prog_14_method_56_code 86 = .ok (.aload_n 0, 1) := by decide +kernel
theorem d_M_stub_87 : decode prog_14_method_56_code 87 = .ok (.getfield 35, 3) := by decide +kernel
theorem d_M_stub_90 : decode prog_14_method_56_code 90 = .ok (.iload 5, 2) := by decide +kernel
theorem d_M_stub_92 : decode prog_14_method_56_code 92 = .ok (.aload_n 0, 1) := by decide +kernel
theorem d_M_stub_93 : decode prog_14_method_56_code 93 = .ok (.getfield 35, 3) := by decide +kernel
theorem d_M_stub_96 : decode prog_14_method_56_code 96 = .ok (.iload 4, 2) := by decide +kernel
theorem d_M_stub_98 : decode prog_14_method_56_code 98 = .ok (.iaload, 1) := by decide +kernel
theorem d_M_stub_99 : decode prog_14_method_56_code 99 = .ok (.iastore, 1) := by decide +kernel
theorem d_M_stub_100 : decode prog_14_method_56_code 100 = .ok (.aload_n 0, 1) := by decide +kernel
theorem d_M_stub_101 : decode prog_14_method_56_code 101 = .ok (.getfield 38, 3) := by decide +kernel
theorem d_M_stub_104 : decode prog_14_method_56_code 104 = .ok (.iload 5, 2) := by decide +kernel
theorem d_M_stub_106 : decode prog_14_method_56_code 106 = .ok (.aload_n 0, 1) := by decide +kernel
theorem d_M_stub_107 : decode prog_14_method_56_code 107 = .ok (.getfield 38, 3) := by decide +kernel
theorem d_M_stub_110 : decode prog_14_method_56_code 110 = .ok (.iload 4, 2) := by decide +kernel
theorem d_M_stub_112 : decode prog_14_method_56_code 112 = .ok (.iaload, 1) := by decide +kernel
theorem d_M_stub_113 : decode prog_14_method_56_code 113 = .ok (.iastore, 1) := by decide +kernel
theorem d_M_stub_114 : decode prog_14_method_56_code 114 = .ok (.aload_n 0, 1) := by decide +kernel
theorem d_M_stub_115 : decode prog_14_method_56_code 115 = .ok (.getfield 41, 3) := by decide +kernel
theorem d_M_stub_118 : decode prog_14_method_56_code 118 = .ok (.iload 5, 2) := by decide +kernel
theorem d_M_stub_120 : decode prog_14_method_56_code 120 = .ok (.aload_n 0, 1) := by decide +kernel
theorem d_M_stub_121 : decode prog_14_method_56_code 121 = .ok (.getfield 41, 3) := by decide +kernel
theorem d_M_stub_124 : decode prog_14_method_56_code 124 = .ok (.iload 4, 2) := by decide +kernel
theorem d_M_stub_126 : decode prog_14_method_56_code 126 = .ok (.iaload, 1) := by decide +kernel
theorem d_M_stub_127 : decode prog_14_method_56_code 127 = .ok (.iastore, 1) := by decide +kernel
theorem d_M_stub_128 : decode prog_14_method_56_code 128 = .ok (.aload_n 0, 1) := by decide +kernel
theorem d_M_stub_129 : decode prog_14_method_56_code 129 = .ok (.getfield 44, 3) := by decide +kernel
theorem d_M_stub_132 : decode prog_14_method_56_code 132 = .ok (.iload 5, 2) := by decide +kernel
theorem d_M_stub_134 : decode prog_14_method_56_code 134 = .ok (.aload_n 0, 1) := by decide +kernel
theorem d_M_stub_135 : decode prog_14_method_56_code 135 = .ok (.getfield 44, 3) := by decide +kernel
theorem d_M_stub_138 : decode prog_14_method_56_code 138 = .ok (.iload 4, 2) := by decide +kernel
theorem d_M_stub_140 : decode prog_14_method_56_code 140 = .ok (.iaload, 1) := by decide +kernel
theorem d_M_stub_141 : decode prog_14_method_56_code 141 = .ok (.iastore, 1) := by decide +kernel
theorem d_M_stub_142 : decode prog_14_method_56_code 142 = .ok (.iconst 0, 1) := by decide +kernel
theorem d_M_stub_143 : decode prog_14_method_56_code 143 = .ok (.istore 6, 2) := by decide +kernel
theorem d_M_stub_145 : decode prog_14_method_56_code 145 = .ok (.iload 6, 2) := by decide +kernel
theorem d_M_stub_147 : decode prog_14_method_56_code 147 = .ok (.bipush 40, 2) := by decide +kernel
theorem d_M_stub_149 : decode prog_14_method_56_code 149 = .ok (.if_icmp .ge 35, 3) := by decide +kernel
theorem d_M_stub_152 : decode prog_14_method_56_code 152 = .ok (.aload_n 0, 1) := by decide +kernel
theorem d_M_stub_153 : decode prog_14_method_56_code 153 = .ok (.getfield 47, 3) := by decide +kernel
theorem d_M_stub_156 : decode prog_14_method_56_code 156 = .ok (.bipush 40, 2) := by decide +kernel
theorem d_M_stub_158 : decode prog_14_method_56_code 158 = .ok (.iload 5, 2) := by decide +kernel
theorem d_M_stub_160 : decode prog_14_method_56_code 160 = .ok (.imul, 1) := by decide +kernel
theorem d_M_stub_161 : decode prog_14_method_56_code 161 = .ok (.iload 6, 2) := by decide +kernel
theorem d_M_stub_163 : decode prog_14_method_56_code 163 = .ok (.iadd, 1) := by decide +kernel
theorem d_M_stub_164 : decode prog_14_method_56_code 164 = .ok (.aload_n 0, 1) := by decide +kernel
theorem d_M_stub_165 : decode prog_14_method_56_code 165 = .ok (.getfield 47, 3) := by decide +kernel
theorem d_M_stub_168 : decode prog_14_method_56_code 168 = .ok (.bipush 40, 2) := by decide +kernel
theorem d_M_stub_170 : decode prog_14_method_56_code 170 = .ok (.iload 4, 2) := by decide +kernel
theorem d_M_stub_172 : decode prog_14_method_56_code 172 = .ok (.imul, 1) := by decide +kernel
theorem d_M_stub_173 : decode prog_14_method_56_code 173 = .ok (.iload 6, 2) := by decide +kernel
theorem d_M_stub_175 : decode prog_14_method_56_code 175 = .ok (.iadd, 1) := by decide +kernel
theorem d_M_stub_176 : decode prog_14_method_56_code 176 = .ok (.iaload, 1) := by decide +kernel
theorem d_M_stub_177 : decode prog_14_method_56_code 177 = .ok (.iastore, 1) := by decide +kernel
theorem d_M_stub_178 : decode prog_14_method_56_code 178 = .ok (.iinc 6 1, 3) := by decide +kernel
theorem d_M_stub_181 : decode prog_14_method_56_code 181 = .ok (.goto (-36), 3) := by decide +kernel
theorem d_M_stub_184 : decode prog_14_method_56_code 184 = .ok (.iinc 4 1, 3) := by decide +kernel
theorem d_M_stub_187 : decode prog_14_method_56_code 187 = .ok (.goto (-120), 3) := by decide +kernel
theorem d_M_stub_190 : decode prog_14_method_56_code 190 = .ok (.iconst 0, 1) := by decide +kernel
theorem d_M_stub_191 : decode prog_14_method_56_code 191 = .ok (.istore 4, 2) := by decide +kernel
theorem d_M_stub_193 : decode prog_14_method_56_code 193 = .ok (.iload 4, 2) := by decide +kernel
theorem d_M_stub_195 : decode prog_14_method_56_code 195 = .ok (.aload_n 0, 1) := by decide +kernel
theorem d_M_stub_196 : decode prog_14_method_56_code 196 = .ok (.getfield 286, 3) := by decide +kernel
theorem d_M_stub_199 : decode prog_14_method_56_code 199 = .ok (.if_icmp .ge 28, 3) := by decide +kernel
theorem d_M_stub_202 : decode prog_14_method_56_code 202 = .ok (.aload_n 0, 1) := by decide +kernel
theorem d_M_stub_203 : decode prog_14_method_56_code 203 = .ok (.getfield 62, 3) := by decide +kernel
theorem d_M_stub_206 : decode prog_14_method_56_code 206 = .ok (.bipush 40, 2) := by decide +kernel
theorem d_M_stub_208 : decode prog_14_method_56_code 208 = .ok (.iload_n 3, 1) := by decide +kernel
theorem d_M_stub_209 : decode prog_14_method_56_code 209 = .ok (.imul, 1) := by decide +kernel
theorem d_M_stub_210 : decode prog_14_method_56_code 210 = .ok (.iload 4, 2) := by decide +kernel
theorem d_M_stub_212 : decode prog_14_method_56_code 212 = .ok (.iadd, 1) := by decide +kernel
theorem d_M_stub_213 : decode prog_14_method_56_code 213 = .ok (.aload_n 0, 1) := by decide +kernel
theorem d_M_stub_214 : decode prog_14_method_56_code 214 = .ok (.getfield 32, 3) := by decide +kernel
theorem d_M_stub_217 : decode prog_14_method_56_code 217 = .ok (.iload 4, 2) := by decide +kernel
theorem d_M_stub_219 : decode prog_14_method_56_code 219 = .ok (.iaload, 1) := by decide +kernel
theorem d_M_stub_220 : decode prog_14_method_56_code 220 = .ok (.iastore, 1) := by decide +kernel
theorem d_M_stub_221 : decode prog_14_method_56_code 221 = .ok (.iinc 4 1, 3) := by decide +kernel
theorem d_M_stub_224 : decode prog_14_method_56_code 224 = .ok (.goto (-31), 3) := by decide +kernel
theorem d_M_stub_227 : decode prog_14_method_56_code 227 = .ok (.aload_n 0, 1) := by decide +kernel
theorem d_M_stub_228 : decode prog_14_method_56_code 228 = .ok (.getfield 65, 3) := by decide +kernel
theorem d_M_stub_231 : decode prog_14_method_56_code 231 = .ok (.iload_n 3, 1) := by decide +kernel
theorem d_M_stub_232 : decode prog_14_method_56_code 232 = .ok (.aload_n 0, 1) := by decide +kernel
theorem d_M_stub_233 : decode prog_14_method_56_code 233 = .ok (.getfield 286, 3) := by decide +kernel
theorem d_M_stub_236 : decode prog_14_method_56_code 236 = .ok (.iastore, 1) := by decide +kernel
theorem d_M_stub_237 : decode prog_14_method_56_code 237 = .ok (.aload_n 0, 1) := by decide +kernel
theorem d_M_stub_238 : decode prog_14_method_56_code 238 = .ok (.getfield 50, 3) := by decide +kernel
theorem d_M_stub_241 : decode prog_14_method_56_code 241 = .ok (.iload_n 3, 1) := by decide +kernel
theorem d_M_stub_242 : decode prog_14_method_56_code 242 = .ok (.aload_n 0, 1) := by decide +kernel
theorem d_M_stub_243 : decode prog_14_method_56_code 243 = .ok (.getfield 295, 3) := by decide +kernel
theorem d_M_stub_246 : decode prog_14_method_56_code 246 = .ok (.iastore, 1) := by decide +kernel
theorem d_M_stub_247 : decode prog_14_method_56_code 247 = .ok (.aload_n 0, 1) := by decide +kernel
theorem d_M_stub_248 : decode prog_14_method_56_code 248 = .ok (.getfield 53, 3) := by decide +kernel
theorem d_M_stub_251 : decode prog_14_method_56_code 251 = .ok (.iload_n 3, 1) := by decide +kernel
theorem d_M_stub_252 : decode prog_14_method_56_code 252 = .ok (.iload_n 1, 1) := by decide +kernel
theorem d_M_stub_253 : decode prog_14_method_56_code 253 = .ok (.iastore, 1) := by decide +kernel
theorem d_M_stub_254 : decode prog_14_method_56_code 254 = .ok (.aload_n 0, 1) := by decide +kernel
theorem d_M_stub_255 : decode prog_14_method_56_code 255 = .ok (.getfield 56, 3) := by decide +kernel
theorem d_M_stub_258 : decode prog_14_method_56_code 258 = .ok (.iload_n 3, 1) := by decide +kernel
theorem d_M_stub_259 : decode prog_14_method_56_code 259 = .ok (.iload_n 2, 1) := by decide +kernel
theorem d_M_stub_260 : decode prog_14_method_56_code 260 = .ok (.iastore, 1) := by decide +kernel
theorem d_M_stub_261 : decode prog_14_method_56_code 261 = .ok (.aload_n 0, 1) := by decide +kernel
theorem d_M_stub_262 : decode prog_14_method_56_code 262 = .ok (.getfield 59, 3) := by decide +kernel
theorem d_M_stub_265 : decode prog_14_method_56_code 265 = .ok (.iload_n 3, 1) := by decide +kernel
theorem d_M_stub_266 : decode prog_14_method_56_code 266 = .ok (.aload_n 0, 1) := by decide +kernel
theorem d_M_stub_267 : decode prog_14_method_56_code 267 = .ok (.getfield 289, 3) := by decide +kernel
theorem d_M_stub_270 : decode prog_14_method_56_code 270 = .ok (.iastore, 1) := by decide +kernel
theorem d_M_stub_271 : decode prog_14_method_56_code 271 = .ok (.aload_n 0, 1) := by decide +kernel
theorem d_M_stub_272 : decode prog_14_method_56_code 272 = .ok (.getfield 68, 3) := by decide +kernel
theorem d_M_stub_275 : decode prog_14_method_56_code 275 = .ok (.iload_n 3, 1) := by decide +kernel
theorem d_M_stub_276 : decode prog_14_method_56_code 276 = .ok (.iconst (-1), 1) := by decide +kernel
theorem d_M_stub_277 : decode prog_14_method_56_code 277 = .ok (.iastore, 1) := by decide +kernel
theorem d_M_stub_278 : decode prog_14_method_56_code 278 = .ok (.aload_n 0, 1) := by decide +kernel
theorem d_M_stub_279 : decode prog_14_method_56_code 279 = .ok (.iconst 0, 1) := by decide +kernel
theorem d_M_stub_280 : decode prog_14_method_56_code 280 = .ok (.putfield 289, 3) := by decide +kernel
theorem d_M_stub_283 : decode prog_14_method_56_code 283 = .ok (.aload_n 0, 1) := by decide +kernel
theorem d_M_stub_284 : decode prog_14_method_56_code 284 = .ok (.iconst 0, 1) := by decide +kernel
theorem d_M_stub_285 : decode prog_14_method_56_code 285 = .ok (.putfield 286, 3) := by decide +kernel
theorem d_M_stub_288 : decode prog_14_method_56_code 288 = .ok (.aload_n 0, 1) := by decide +kernel
theorem d_M_stub_289 : decode prog_14_method_56_code 289 = .ok (.dup, 1) := by decide +kernel
theorem d_M_stub_290 : decode prog_14_method_56_code 290 = .ok (.getfield 295, 3) := by decide +kernel
theorem d_M_stub_293 : decode prog_14_method_56_code 293 = .ok (.iconst 1, 1) := by decide +kernel
theorem d_M_stub_294 : decode prog_14_method_56_code 294 = .ok (.iadd, 1) := by decide +kernel
theorem d_M_stub_295 : decode prog_14_method_56_code 295 = .ok (.putfield 295, 3) := by decide +kernel
theorem d_M_stub_298 : decode prog_14_method_56_code 298 = .ok (.aload_n 0, 1) := by decide +kernel
theorem d_M_stub_299 : decode prog_14_method_56_code 299 = .ok (.getfield 295, 3) := by decide +kernel
theorem d_M_stub_302 : decode prog_14_method_56_code 302 = .ok (.iconst 1, 1) := by decide +kernel
theorem d_M_stub_303 : decode prog_14_method_56_code 303 = .ok (.isub, 1) := by decide +kernel
theorem d_M_stub_304 : decode prog_14_method_56_code 304 = .ok (.ireturn, 1) := by decide +kernel
def wq_M_stub_227 (a : Nat) (p0 : Int32) (p1 : Int32) (Q : Int32 → ab_H → Prop)  (u3 : Int32) (A : ab_H) : Prop := wgR A (some a) 14 23 (fun r1 => wgI A (some a) 14 10 (fun x2 => wSI A r1 u3 x2 (fun A => wgR A (some a) 14 18 (fun r3 => wgI A (some a) 14 17 (fun x4 => wSI A r3 u3 x4 (fun A => wgR A (some a) 14 19 (fun r5 => wSI A r5 u3 p0 (fun A => wgR A (some a) 14 20 (fun r6 => wSI A r6 u3 p1 (fun A => wgR A (some a) 14 21 (fun r7 => wgI A (some a) 14 16 (fun x8 => wSI A r7 u3 x8 (fun A => wgR A (some a) 14 24 (fun r9 => wSI A r9 u3 ((-1) : Int32) (fun A => wp A (some a) 14 16 (.int (0 : Int32)) (fun A => wp A (some a) 14 10 (.int (0 : Int32)) (fun A => wgI A (some a) 14 17 (fun x10 => wp A (some a) 14 17 (.int (x10 + (1 : Int32))) (fun A => wgI A (some a) 14 17 (fun x11 => Q (x11 - (1 : Int32)) A))))))))))))))))))))
set_option maxRecDepth 100000 in
set_option maxHeartbeats 4000000 in
theorem sq_M_stub_227 {l : Launch} {G : mm_G} {a : Nat} {p0 : Int32} {p1 : Int32} {Q : Int32 → ab_H → Prop}   : ∀ (u3 : Int32) (A : ab_H) (h : mm_H), Vw G h A → wq_M_stub_227 a p0 p1 Q  u3 A → mm_V l G M_M_stub 0 0 227 [some (va_rf (some a)), some (.int p0), some (.int p1), some (.int u3), none, none, none] [] h (wQI G Q) := by
  intro u3 A h hV hw
  unfold wq_M_stub_227 at hw
  refine wr_aload_n (some a) (pc' := 228) d_M_stub_227 rfl rfl rfl ?_
  refine wr_getR hV hw (pc' := 231) d_M_stub_228 rfl fl_M_65 (fun r1 hw => ?_)
  refine mm_iload_n (pc' := 232) d_M_stub_231 rfl rfl rfl ?_
  refine wr_aload_n (some a) (pc' := 233) d_M_stub_232 rfl rfl rfl ?_
  refine wr_getI hV hw (pc' := 236) d_M_stub_233 rfl fl_M_286 (fun x2 hw => ?_)
  refine wr_astI hV hw (pc' := 237) d_M_stub_236 rfl (fun h A hV hw => ?_)
  refine wr_aload_n (some a) (pc' := 238) d_M_stub_237 rfl rfl rfl ?_
  refine wr_getR hV hw (pc' := 241) d_M_stub_238 rfl fl_M_50 (fun r3 hw => ?_)
  refine mm_iload_n (pc' := 242) d_M_stub_241 rfl rfl rfl ?_
  refine wr_aload_n (some a) (pc' := 243) d_M_stub_242 rfl rfl rfl ?_
  refine wr_getI hV hw (pc' := 246) d_M_stub_243 rfl fl_M_295 (fun x4 hw => ?_)
  refine wr_astI hV hw (pc' := 247) d_M_stub_246 rfl (fun h A hV hw => ?_)
  refine wr_aload_n (some a) (pc' := 248) d_M_stub_247 rfl rfl rfl ?_
  refine wr_getR hV hw (pc' := 251) d_M_stub_248 rfl fl_M_53 (fun r5 hw => ?_)
  refine mm_iload_n (pc' := 252) d_M_stub_251 rfl rfl rfl ?_
  refine mm_iload_n (pc' := 253) d_M_stub_252 rfl rfl rfl ?_
  refine wr_astI hV hw (pc' := 254) d_M_stub_253 rfl (fun h A hV hw => ?_)
  refine wr_aload_n (some a) (pc' := 255) d_M_stub_254 rfl rfl rfl ?_
  refine wr_getR hV hw (pc' := 258) d_M_stub_255 rfl fl_M_56 (fun r6 hw => ?_)
  refine mm_iload_n (pc' := 259) d_M_stub_258 rfl rfl rfl ?_
  refine mm_iload_n (pc' := 260) d_M_stub_259 rfl rfl rfl ?_
  refine wr_astI hV hw (pc' := 261) d_M_stub_260 rfl (fun h A hV hw => ?_)
  refine wr_aload_n (some a) (pc' := 262) d_M_stub_261 rfl rfl rfl ?_
  refine wr_getR hV hw (pc' := 265) d_M_stub_262 rfl fl_M_59 (fun r7 hw => ?_)
  refine mm_iload_n (pc' := 266) d_M_stub_265 rfl rfl rfl ?_
  refine wr_aload_n (some a) (pc' := 267) d_M_stub_266 rfl rfl rfl ?_
  refine wr_getI hV hw (pc' := 270) d_M_stub_267 rfl fl_M_289 (fun x8 hw => ?_)
  refine wr_astI hV hw (pc' := 271) d_M_stub_270 rfl (fun h A hV hw => ?_)
  refine wr_aload_n (some a) (pc' := 272) d_M_stub_271 rfl rfl rfl ?_
  refine wr_getR hV hw (pc' := 275) d_M_stub_272 rfl fl_M_68 (fun r9 hw => ?_)
  refine mm_iload_n (pc' := 276) d_M_stub_275 rfl rfl rfl ?_
  refine mm_iconst (v := (-1)) (pc' := 277) d_M_stub_276 rfl (by decide) ?_
  refine wr_astI hV hw (pc' := 278) d_M_stub_277 rfl (fun h A hV hw => ?_)
  refine wr_aload_n (some a) (pc' := 279) d_M_stub_278 rfl rfl rfl ?_
  refine mm_iconst (v := 0) (pc' := 280) d_M_stub_279 rfl (by decide) ?_
  refine wr_put hV hw (pc' := 283) d_M_stub_280 rfl pl_M_stub_289 (Nat.le_of_ble_eq_true rfl) (wn_I _) (fun h A hV hw => ?_)
  refine wr_aload_n (some a) (pc' := 284) d_M_stub_283 rfl rfl rfl ?_
  refine mm_iconst (v := 0) (pc' := 285) d_M_stub_284 rfl (by decide) ?_
  refine wr_put hV hw (pc' := 288) d_M_stub_285 rfl pl_M_stub_286 (Nat.le_of_ble_eq_true rfl) (wn_I _) (fun h A hV hw => ?_)
  refine wr_aload_n (some a) (pc' := 289) d_M_stub_288 rfl rfl rfl ?_
  refine mm_dup (pc' := 290) d_M_stub_289 rfl (wr_cat _) ?_
  refine wr_getI hV hw (pc' := 293) d_M_stub_290 rfl fl_M_295 (fun x10 hw => ?_)
  refine mm_iconst (v := 1) (pc' := 294) d_M_stub_293 rfl (by decide) ?_
  refine mm_iadd (pc' := 295) d_M_stub_294 rfl ?_
  refine wr_put hV hw (pc' := 298) d_M_stub_295 rfl pl_M_stub_295 (Nat.le_of_ble_eq_true rfl) (wn_I _) (fun h A hV hw => ?_)
  refine wr_aload_n (some a) (pc' := 299) d_M_stub_298 rfl rfl rfl ?_
  refine wr_getI hV hw (pc' := 302) d_M_stub_299 rfl fl_M_295 (fun x11 hw => ?_)
  refine mm_iconst (v := 1) (pc' := 303) d_M_stub_302 rfl (by decide) ?_
  refine mm_isub (pc' := 304) d_M_stub_303 rfl ?_
  exact wr_iret hV d_M_stub_304 rfl rfl hw
def wb_M_stub_193 (a : Nat) (p0 : Int32) (p1 : Int32) (Q : Int32 → ab_H → Prop)  (k193 : Int32 → Int32 → ab_H → Prop) (u3 : Int32) (u4 : Int32) (A : ab_H) : Prop := wgI A (some a) 14 10 (fun x12 => if x12 ≤ u4 then (wq_M_stub_227 a p0 p1 Q u3 A) else (wgR A (some a) 14 22 (fun r13 => wgR A (some a) 14 9 (fun r14 => wAI A r14 u4 (fun x15 => wSI A r13 (((40 : Int32) * u3) + u4) x15 (fun A => k193 u3 (u4 + 1) A))))))
def wq_M_stub_193 (a : Nat) (p0 : Int32) (p1 : Int32) (Q : Int32 → ab_H → Prop)  : Nat → Int32 → Int32 → ab_H → Prop
  | 0 => fun _ _ _ => False
  | n + 1 => wb_M_stub_193 a p0 p1 Q  (wq_M_stub_193 a p0 p1 Q  n)
set_option maxRecDepth 100000 in
set_option maxHeartbeats 4000000 in
theorem sq_M_stub_193 {l : Launch} {G : mm_G} {a : Nat} {p0 : Int32} {p1 : Int32} {Q : Int32 → ab_H → Prop}   : ∀ (n : Nat) (u3 : Int32) (u4 : Int32) (A : ab_H) (h : mm_H), Vw G h A → wq_M_stub_193 a p0 p1 Q  n u3 u4 A → mm_V l G M_M_stub 0 0 193 [some (va_rf (some a)), some (.int p0), some (.int p1), some (.int u3), some (.int u4), none, none] [] h (wQI G Q) := by
  intro n
  induction n with
  | zero =>
    intro u3 u4 A h hV hw
    exact absurd hw id
  | succ n hk193 =>
    intro u3 u4 A h hV hw
    have hw : wb_M_stub_193 a p0 p1 Q  (wq_M_stub_193 a p0 p1 Q  n) u3 u4 A := hw
    unfold wb_M_stub_193 at hw
    refine mm_iload (pc' := 195) d_M_stub_193 rfl rfl ?_
    refine wr_aload_n (some a) (pc' := 196) d_M_stub_195 rfl rfl rfl ?_
    refine wr_getI hV hw (pc' := 199) d_M_stub_196 rfl fl_M_286 (fun x12 hw => ?_)
    refine wr_icmp_ge hw (pc' := 202) d_M_stub_199 rfl rfl (fun hw => ?_) (fun hw => ?_)
    · exact mm_drop (mm_le.s (mm_le.s (mm_le.s (mm_le.s (mm_le.n (mm_le.n (mm_le.n mm_le.e))))))) (sq_M_stub_227  _ _ _ hV hw)
    · refine wr_aload_n (some a) (pc' := 203) d_M_stub_202 rfl rfl rfl ?_
      refine wr_getR hV hw (pc' := 206) d_M_stub_203 rfl fl_M_62 (fun r13 hw => ?_)
      refine mm_bipush (v := 40) (pc' := 208) d_M_stub_206 rfl (by decide) ?_
      refine mm_iload_n (pc' := 209) d_M_stub_208 rfl rfl rfl ?_
      refine mm_imul (pc' := 210) d_M_stub_209 rfl ?_
      refine mm_iload (pc' := 212) d_M_stub_210 rfl rfl ?_
      refine mm_iadd (pc' := 213) d_M_stub_212 rfl ?_
      refine wr_aload_n (some a) (pc' := 214) d_M_stub_213 rfl rfl rfl ?_
      refine wr_getR hV hw (pc' := 217) d_M_stub_214 rfl fl_M_32 (fun r14 hw => ?_)
      refine mm_iload (pc' := 219) d_M_stub_217 rfl rfl ?_
      refine wr_aldI hV hw (pc' := 220) d_M_stub_219 rfl (fun x15 hw => ?_)
      refine wr_astI hV hw (pc' := 221) d_M_stub_220 rfl (fun h A hV hw => ?_)
      refine mm_iinc4 (v := (u4 + 1)) (pc' := 224) d_M_stub_221 rfl rfl rfl (Nat.le_of_ble_eq_true rfl) ?_
      refine mm_goto (tgt := 193) d_M_stub_224 rfl ?_
      exact mm_drop (mm_le.s (mm_le.s (mm_le.s (mm_le.s (mm_le.s (mm_le.n (mm_le.n mm_le.e))))))) (hk193 _ _ _ _ hV hw)
def wq_M_stub_190 (a : Nat) (p0 : Int32) (p1 : Int32) (Q : Int32 → ab_H → Prop)  (u3 : Int32) (A : ab_H) : Prop := ∃ n, wq_M_stub_193 a p0 p1 Q n u3 (0 : Int32) A
set_option maxRecDepth 100000 in
set_option maxHeartbeats 4000000 in
theorem sq_M_stub_190 {l : Launch} {G : mm_G} {a : Nat} {p0 : Int32} {p1 : Int32} {Q : Int32 → ab_H → Prop}   : ∀ (u3 : Int32) (A : ab_H) (h : mm_H), Vw G h A → wq_M_stub_190 a p0 p1 Q  u3 A → mm_V l G M_M_stub 0 0 190 [some (va_rf (some a)), some (.int p0), some (.int p1), some (.int u3), none, none, none] [] h (wQI G Q) := by
  intro u3 A h hV hw
  unfold wq_M_stub_190 at hw
  refine mm_iconst (v := 0) (pc' := 191) d_M_stub_190 rfl (by decide) ?_
  refine mm_ist4 (pc' := 193) d_M_stub_191 rfl rfl (Nat.le_of_ble_eq_true rfl) ?_
  obtain ⟨n, hw⟩ := hw
  exact mm_drop (mm_le.s (mm_le.s (mm_le.s (mm_le.s (mm_le.s (mm_le.n (mm_le.n mm_le.e))))))) (sq_M_stub_193  n _ _ _ _ hV hw)
def wb_M_stub_145 (a : Nat) (p0 : Int32) (p1 : Int32) (Q : Int32 → ab_H → Prop) (k67 : Int32 → Int32 → ab_H → Prop) (k145 : Int32 → Int32 → Int32 → Int32 → ab_H → Prop) (u3 : Int32) (u4 : Int32) (u5 : Int32) (u6 : Int32) (A : ab_H) : Prop := if (40 : Int32) ≤ u6 then (k67 u3 (u4 + 1) A) else (wgR A (some a) 14 15 (fun r16 => wgR A (some a) 14 15 (fun r17 => wAI A r17 (((40 : Int32) * u4) + u6) (fun x18 => wSI A r16 (((40 : Int32) * u5) + u6) x18 (fun A => k145 u3 u4 u5 (u6 + 1) A)))))
def wq_M_stub_145 (a : Nat) (p0 : Int32) (p1 : Int32) (Q : Int32 → ab_H → Prop) (k67 : Int32 → Int32 → ab_H → Prop) : Nat → Int32 → Int32 → Int32 → Int32 → ab_H → Prop
  | 0 => fun _ _ _ _ _ => False
  | n + 1 => wb_M_stub_145 a p0 p1 Q k67 (wq_M_stub_145 a p0 p1 Q k67 n)
set_option maxRecDepth 100000 in
set_option maxHeartbeats 4000000 in
theorem sq_M_stub_145 {l : Launch} {G : mm_G} {a : Nat} {p0 : Int32} {p1 : Int32} {Q : Int32 → ab_H → Prop} {k67 : Int32 → Int32 → ab_H → Prop} (hk67 : ∀ (u3 : Int32) (u4 : Int32) (A : ab_H) (h : mm_H), Vw G h A → k67 u3 u4 A → mm_V l G M_M_stub 0 0 67 [some (va_rf (some a)), some (.int p0), some (.int p1), some (.int u3), some (.int u4), none, none] [] h (wQI G Q)) : ∀ (n : Nat) (u3 : Int32) (u4 : Int32) (u5 : Int32) (u6 : Int32) (A : ab_H) (h : mm_H), Vw G h A → wq_M_stub_145 a p0 p1 Q k67 n u3 u4 u5 u6 A → mm_V l G M_M_stub 0 0 145 [some (va_rf (some a)), some (.int p0), some (.int p1), some (.int u3), some (.int u4), some (.int u5), some (.int u6)] [] h (wQI G Q) := by
  intro n
  induction n with
  | zero =>
    intro u3 u4 u5 u6 A h hV hw
    exact absurd hw id
  | succ n hk145 =>
    intro u3 u4 u5 u6 A h hV hw
    have hw : wb_M_stub_145 a p0 p1 Q k67 (wq_M_stub_145 a p0 p1 Q k67 n) u3 u4 u5 u6 A := hw
    unfold wb_M_stub_145 at hw
    refine mm_iload (pc' := 147) d_M_stub_145 rfl rfl ?_
    refine mm_bipush (v := 40) (pc' := 149) d_M_stub_147 rfl (by decide) ?_
    refine wr_icmp_ge hw (pc' := 152) d_M_stub_149 rfl rfl (fun hw => ?_) (fun hw => ?_)
    · refine mm_iinc4 (v := (u4 + 1)) (pc' := 187) d_M_stub_184 rfl rfl rfl (Nat.le_of_ble_eq_true rfl) ?_
      refine mm_goto (tgt := 67) d_M_stub_187 rfl ?_
      exact mm_drop (mm_le.s (mm_le.s (mm_le.s (mm_le.s (mm_le.s (mm_le.n (mm_le.n mm_le.e))))))) (hk67 _ _ _ _ hV hw)
    · refine wr_aload_n (some a) (pc' := 153) d_M_stub_152 rfl rfl rfl ?_
      refine wr_getR hV hw (pc' := 156) d_M_stub_153 rfl fl_M_47 (fun r16 hw => ?_)
      refine mm_bipush (v := 40) (pc' := 158) d_M_stub_156 rfl (by decide) ?_
      refine mm_iload (pc' := 160) d_M_stub_158 rfl rfl ?_
      refine mm_imul (pc' := 161) d_M_stub_160 rfl ?_
      refine mm_iload (pc' := 163) d_M_stub_161 rfl rfl ?_
      refine mm_iadd (pc' := 164) d_M_stub_163 rfl ?_
      refine wr_aload_n (some a) (pc' := 165) d_M_stub_164 rfl rfl rfl ?_
      refine wr_getR hV hw (pc' := 168) d_M_stub_165 rfl fl_M_47 (fun r17 hw => ?_)
      refine mm_bipush (v := 40) (pc' := 170) d_M_stub_168 rfl (by decide) ?_
      refine mm_iload (pc' := 172) d_M_stub_170 rfl rfl ?_
      refine mm_imul (pc' := 173) d_M_stub_172 rfl ?_
      refine mm_iload (pc' := 175) d_M_stub_173 rfl rfl ?_
      refine mm_iadd (pc' := 176) d_M_stub_175 rfl ?_
      refine wr_aldI hV hw (pc' := 177) d_M_stub_176 rfl (fun x18 hw => ?_)
      refine wr_astI hV hw (pc' := 178) d_M_stub_177 rfl (fun h A hV hw => ?_)
      refine mm_iinc6 (v := (u6 + 1)) (pc' := 181) d_M_stub_178 rfl rfl rfl (Nat.le_of_ble_eq_true rfl) ?_
      refine mm_goto (tgt := 145) d_M_stub_181 rfl ?_
      exact mm_drop (mm_le.s (mm_le.s (mm_le.s (mm_le.s (mm_le.s (mm_le.s (mm_le.s mm_le.e))))))) (hk145 _ _ _ _ _ _ hV hw)
def wb_M_stub_67 (a : Nat) (p0 : Int32) (p1 : Int32) (Q : Int32 → ab_H → Prop)  (k67 : Int32 → Int32 → ab_H → Prop) (u3 : Int32) (u4 : Int32) (A : ab_H) : Prop := wgI A (some a) 14 16 (fun x19 => if x19 ≤ u4 then (wq_M_stub_190 a p0 p1 Q u3 A) else (wL (((((4 : Int32) * u3) + (4 : Int32)) + u4)) (fun x20 => wgR A (some a) 14 11 (fun r21 => wgR A (some a) 14 11 (fun r22 => wAI A r22 u4 (fun x23 => wSI A r21 x20 x23 (fun A => wgR A (some a) 14 12 (fun r24 => wgR A (some a) 14 12 (fun r25 => wAI A r25 u4 (fun x26 => wSI A r24 x20 x26 (fun A => wgR A (some a) 14 13 (fun r27 => wgR A (some a) 14 13 (fun r28 => wAI A r28 u4 (fun x29 => wSI A r27 x20 x29 (fun A => wgR A (some a) 14 14 (fun r30 => wgR A (some a) 14 14 (fun r31 => wAI A r31 u4 (fun x32 => wSI A r30 x20 x32 (fun A => ∃ n, wq_M_stub_145 a p0 p1 Q k67 n u3 u4 x20 (0 : Int32) A)))))))))))))))))))
def wq_M_stub_67 (a : Nat) (p0 : Int32) (p1 : Int32) (Q : Int32 → ab_H → Prop)  : Nat → Int32 → Int32 → ab_H → Prop
  | 0 => fun _ _ _ => False
  | n + 1 => wb_M_stub_67 a p0 p1 Q  (wq_M_stub_67 a p0 p1 Q  n)
set_option maxRecDepth 100000 in
set_option maxHeartbeats 4000000 in
theorem sq_M_stub_67 {l : Launch} {G : mm_G} {a : Nat} {p0 : Int32} {p1 : Int32} {Q : Int32 → ab_H → Prop}   : ∀ (n : Nat) (u3 : Int32) (u4 : Int32) (A : ab_H) (h : mm_H), Vw G h A → wq_M_stub_67 a p0 p1 Q  n u3 u4 A → mm_V l G M_M_stub 0 0 67 [some (va_rf (some a)), some (.int p0), some (.int p1), some (.int u3), some (.int u4), none, none] [] h (wQI G Q) := by
  intro n
  induction n with
  | zero =>
    intro u3 u4 A h hV hw
    exact absurd hw id
  | succ n hk67 =>
    intro u3 u4 A h hV hw
    have hw : wb_M_stub_67 a p0 p1 Q  (wq_M_stub_67 a p0 p1 Q  n) u3 u4 A := hw
    unfold wb_M_stub_67 at hw
    refine mm_iload (pc' := 69) d_M_stub_67 rfl rfl ?_
    refine wr_aload_n (some a) (pc' := 70) d_M_stub_69 rfl rfl rfl ?_
    refine wr_getI hV hw (pc' := 73) d_M_stub_70 rfl fl_M_289 (fun x19 hw => ?_)
    refine wr_icmp_ge hw (pc' := 76) d_M_stub_73 rfl rfl (fun hw => ?_) (fun hw => ?_)
    · exact mm_drop (mm_le.s (mm_le.s (mm_le.s (mm_le.s (mm_le.n (mm_le.n (mm_le.n mm_le.e))))))) (sq_M_stub_190  _ _ _ hV hw)
    · refine mm_iconst (v := 4) (pc' := 77) d_M_stub_76 rfl (by decide) ?_
      refine mm_iload_n (pc' := 78) d_M_stub_77 rfl rfl rfl ?_
      refine mm_imul (pc' := 79) d_M_stub_78 rfl ?_
      refine mm_iconst (v := 4) (pc' := 80) d_M_stub_79 rfl (by decide) ?_
      refine mm_iadd (pc' := 81) d_M_stub_80 rfl ?_
      refine mm_iload (pc' := 83) d_M_stub_81 rfl rfl ?_
      refine mm_iadd (pc' := 84) d_M_stub_83 rfl ?_
      refine wr_let (P := fun z => mm_V l G M_M_stub 0 0 84 [some (va_rf (some a)), some (.int p0), some (.int p1), some (.int u3), some (.int u4), none, none] (.int z :: []) h _) hw (fun x20 hw => ?_)
      refine mm_ist5 (pc' := 86) d_M_stub_84 rfl rfl (Nat.le_of_ble_eq_true rfl) ?_
      refine wr_aload_n (some a) (pc' := 87) d_M_stub_86 rfl rfl rfl ?_
      refine wr_getR hV hw (pc' := 90) d_M_stub_87 rfl fl_M_35 (fun r21 hw => ?_)
      refine mm_iload (pc' := 92) d_M_stub_90 rfl rfl ?_
      refine wr_aload_n (some a) (pc' := 93) d_M_stub_92 rfl rfl rfl ?_
      refine wr_getR hV hw (pc' := 96) d_M_stub_93 rfl fl_M_35 (fun r22 hw => ?_)
      refine mm_iload (pc' := 98) d_M_stub_96 rfl rfl ?_
      refine wr_aldI hV hw (pc' := 99) d_M_stub_98 rfl (fun x23 hw => ?_)
      refine wr_astI hV hw (pc' := 100) d_M_stub_99 rfl (fun h A hV hw => ?_)
      refine wr_aload_n (some a) (pc' := 101) d_M_stub_100 rfl rfl rfl ?_
      refine wr_getR hV hw (pc' := 104) d_M_stub_101 rfl fl_M_38 (fun r24 hw => ?_)
      refine mm_iload (pc' := 106) d_M_stub_104 rfl rfl ?_
      refine wr_aload_n (some a) (pc' := 107) d_M_stub_106 rfl rfl rfl ?_
      refine wr_getR hV hw (pc' := 110) d_M_stub_107 rfl fl_M_38 (fun r25 hw => ?_)
      refine mm_iload (pc' := 112) d_M_stub_110 rfl rfl ?_
      refine wr_aldI hV hw (pc' := 113) d_M_stub_112 rfl (fun x26 hw => ?_)
      refine wr_astI hV hw (pc' := 114) d_M_stub_113 rfl (fun h A hV hw => ?_)
      refine wr_aload_n (some a) (pc' := 115) d_M_stub_114 rfl rfl rfl ?_
      refine wr_getR hV hw (pc' := 118) d_M_stub_115 rfl fl_M_41 (fun r27 hw => ?_)
      refine mm_iload (pc' := 120) d_M_stub_118 rfl rfl ?_
      refine wr_aload_n (some a) (pc' := 121) d_M_stub_120 rfl rfl rfl ?_
      refine wr_getR hV hw (pc' := 124) d_M_stub_121 rfl fl_M_41 (fun r28 hw => ?_)
      refine mm_iload (pc' := 126) d_M_stub_124 rfl rfl ?_
      refine wr_aldI hV hw (pc' := 127) d_M_stub_126 rfl (fun x29 hw => ?_)
      refine wr_astI hV hw (pc' := 128) d_M_stub_127 rfl (fun h A hV hw => ?_)
      refine wr_aload_n (some a) (pc' := 129) d_M_stub_128 rfl rfl rfl ?_
      refine wr_getR hV hw (pc' := 132) d_M_stub_129 rfl fl_M_44 (fun r30 hw => ?_)
      refine mm_iload (pc' := 134) d_M_stub_132 rfl rfl ?_
      refine wr_aload_n (some a) (pc' := 135) d_M_stub_134 rfl rfl rfl ?_
      refine wr_getR hV hw (pc' := 138) d_M_stub_135 rfl fl_M_44 (fun r31 hw => ?_)
      refine mm_iload (pc' := 140) d_M_stub_138 rfl rfl ?_
      refine wr_aldI hV hw (pc' := 141) d_M_stub_140 rfl (fun x32 hw => ?_)
      refine wr_astI hV hw (pc' := 142) d_M_stub_141 rfl (fun h A hV hw => ?_)
      refine mm_iconst (v := 0) (pc' := 143) d_M_stub_142 rfl (by decide) ?_
      refine mm_ist6 (pc' := 145) d_M_stub_143 rfl rfl (Nat.le_of_ble_eq_true rfl) ?_
      obtain ⟨n, hw⟩ := hw
      exact mm_drop (mm_le.s (mm_le.s (mm_le.s (mm_le.s (mm_le.s (mm_le.s (mm_le.s mm_le.e))))))) (sq_M_stub_145 hk67 n _ _ _ _ _ _ hV hw)
def wq_M_stub_35 (a : Nat) (p0 : Int32) (p1 : Int32) (Q : Int32 → ab_H → Prop)  (u3 : Int32) (A : ab_H) : Prop := if p0 < 0 then (Q ((-1) : Int32) A) else (if (9 : Int32) < p0 then (Q ((-1) : Int32) A) else (if p1 < (100 : Int32) then (Q ((-1) : Int32) A) else (if (599 : Int32) < p1 then (Q ((-1) : Int32) A) else (if 0 ≤ u3 then (∃ n, wq_M_stub_67 a p0 p1 Q n u3 (0 : Int32) A) else (Q ((-1) : Int32) A)))))
set_option maxRecDepth 100000 in
set_option maxHeartbeats 4000000 in
theorem sq_M_stub_35 {l : Launch} {G : mm_G} {a : Nat} {p0 : Int32} {p1 : Int32} {Q : Int32 → ab_H → Prop}   : ∀ (u3 : Int32) (A : ab_H) (h : mm_H), Vw G h A → wq_M_stub_35 a p0 p1 Q  u3 A → mm_V l G M_M_stub 0 0 35 [some (va_rf (some a)), some (.int p0), some (.int p1), some (.int u3), none, none, none] [] h (wQI G Q) := by
  intro u3 A h hV hw
  unfold wq_M_stub_35 at hw
  refine mm_iload_n (pc' := 36) d_M_stub_35 rfl rfl rfl ?_
  refine wr_if_lt hw (pc' := 39) d_M_stub_36 rfl rfl (fun hw => ?_) (fun hw => ?_)
  · refine mm_iconst (v := (-1)) (pc' := 63) d_M_stub_62 rfl (by decide) ?_
    exact wr_iret hV d_M_stub_63 rfl rfl hw
  · refine mm_iload_n (pc' := 40) d_M_stub_39 rfl rfl rfl ?_
    refine mm_bipush (v := 9) (pc' := 42) d_M_stub_40 rfl (by decide) ?_
    refine wr_icmp_gt hw (pc' := 45) d_M_stub_42 rfl rfl (fun hw => ?_) (fun hw => ?_)
    · refine mm_iconst (v := (-1)) (pc' := 63) d_M_stub_62 rfl (by decide) ?_
      exact wr_iret hV d_M_stub_63 rfl rfl hw
    · refine mm_iload_n (pc' := 46) d_M_stub_45 rfl rfl rfl ?_
      refine mm_bipush (v := 100) (pc' := 48) d_M_stub_46 rfl (by decide) ?_
      refine wr_icmp_lt hw (pc' := 51) d_M_stub_48 rfl rfl (fun hw => ?_) (fun hw => ?_)
      · refine mm_iconst (v := (-1)) (pc' := 63) d_M_stub_62 rfl (by decide) ?_
        exact wr_iret hV d_M_stub_63 rfl rfl hw
      · refine mm_iload_n (pc' := 52) d_M_stub_51 rfl rfl rfl ?_
        refine mm_sipush (v := 599) (pc' := 55) d_M_stub_52 rfl (by decide) ?_
        refine wr_icmp_gt hw (pc' := 58) d_M_stub_55 rfl rfl (fun hw => ?_) (fun hw => ?_)
        · refine mm_iconst (v := (-1)) (pc' := 63) d_M_stub_62 rfl (by decide) ?_
          exact wr_iret hV d_M_stub_63 rfl rfl hw
        · refine mm_iload_n (pc' := 59) d_M_stub_58 rfl rfl rfl ?_
          refine wr_if_ge hw (pc' := 62) d_M_stub_59 rfl rfl (fun hw => ?_) (fun hw => ?_)
          · refine mm_iconst (v := 0) (pc' := 65) d_M_stub_64 rfl (by decide) ?_
            refine mm_ist4 (pc' := 67) d_M_stub_65 rfl rfl (Nat.le_of_ble_eq_true rfl) ?_
            obtain ⟨n, hw⟩ := hw
            exact mm_drop (mm_le.s (mm_le.s (mm_le.s (mm_le.s (mm_le.s (mm_le.n (mm_le.n mm_le.e))))))) (sq_M_stub_67  n _ _ _ _ hV hw)
          · refine mm_iconst (v := (-1)) (pc' := 63) d_M_stub_62 rfl (by decide) ?_
            exact wr_iret hV d_M_stub_63 rfl rfl hw
def wb_M_stub_5 (a : Nat) (p0 : Int32) (p1 : Int32) (Q : Int32 → ab_H → Prop)  (k5 : Int32 → Int32 → ab_H → Prop) (u3 : Int32) (u4 : Int32) (A : ab_H) : Prop := if (8 : Int32) ≤ u4 then (wq_M_stub_35 a p0 p1 Q u3 A) else (wgR A (some a) 14 18 (fun r33 => wAI A r33 u4 (fun x34 => if 0 ≤ x34 then (k5 u3 (u4 + 1) A) else (k5 u4 (u4 + 1) A))))
def wq_M_stub_5 (a : Nat) (p0 : Int32) (p1 : Int32) (Q : Int32 → ab_H → Prop)  : Nat → Int32 → Int32 → ab_H → Prop
  | 0 => fun _ _ _ => False
  | n + 1 => wb_M_stub_5 a p0 p1 Q  (wq_M_stub_5 a p0 p1 Q  n)
set_option maxRecDepth 100000 in
set_option maxHeartbeats 4000000 in
theorem sq_M_stub_5 {l : Launch} {G : mm_G} {a : Nat} {p0 : Int32} {p1 : Int32} {Q : Int32 → ab_H → Prop}   : ∀ (n : Nat) (u3 : Int32) (u4 : Int32) (A : ab_H) (h : mm_H), Vw G h A → wq_M_stub_5 a p0 p1 Q  n u3 u4 A → mm_V l G M_M_stub 0 0 5 [some (va_rf (some a)), some (.int p0), some (.int p1), some (.int u3), some (.int u4), none, none] [] h (wQI G Q) := by
  intro n
  induction n with
  | zero =>
    intro u3 u4 A h hV hw
    exact absurd hw id
  | succ n hk5 =>
    intro u3 u4 A h hV hw
    have hw : wb_M_stub_5 a p0 p1 Q  (wq_M_stub_5 a p0 p1 Q  n) u3 u4 A := hw
    unfold wb_M_stub_5 at hw
    refine mm_iload (pc' := 7) d_M_stub_5 rfl rfl ?_
    refine mm_bipush (v := 8) (pc' := 9) d_M_stub_7 rfl (by decide) ?_
    refine wr_icmp_ge hw (pc' := 12) d_M_stub_9 rfl rfl (fun hw => ?_) (fun hw => ?_)
    · exact mm_drop (mm_le.s (mm_le.s (mm_le.s (mm_le.s (mm_le.n (mm_le.n (mm_le.n mm_le.e))))))) (sq_M_stub_35  _ _ _ hV hw)
    · refine wr_aload_n (some a) (pc' := 13) d_M_stub_12 rfl rfl rfl ?_
      refine wr_getR hV hw (pc' := 16) d_M_stub_13 rfl fl_M_50 (fun r33 hw => ?_)
      refine mm_iload (pc' := 18) d_M_stub_16 rfl rfl ?_
      refine wr_aldI hV hw (pc' := 19) d_M_stub_18 rfl (fun x34 hw => ?_)
      refine wr_if_ge hw (pc' := 22) d_M_stub_19 rfl rfl (fun hw => ?_) (fun hw => ?_)
      · refine mm_iload_n (pc' := 28) d_M_stub_27 rfl rfl rfl ?_
        refine mm_ist3 (pc' := 29) d_M_stub_28 rfl rfl (Nat.le_of_ble_eq_true rfl) ?_
        refine mm_iinc4 (v := (u4 + 1)) (pc' := 32) d_M_stub_29 rfl rfl rfl (Nat.le_of_ble_eq_true rfl) ?_
        refine mm_goto (tgt := 5) d_M_stub_32 rfl ?_
        exact mm_drop (mm_le.s (mm_le.s (mm_le.s (mm_le.s (mm_le.s (mm_le.n (mm_le.n mm_le.e))))))) (hk5 _ _ _ _ hV hw)
      · refine mm_iload (pc' := 24) d_M_stub_22 rfl rfl ?_
        refine mm_goto (tgt := 28) d_M_stub_24 rfl ?_
        refine mm_ist3 (pc' := 29) d_M_stub_28 rfl rfl (Nat.le_of_ble_eq_true rfl) ?_
        refine mm_iinc4 (v := (u4 + 1)) (pc' := 32) d_M_stub_29 rfl rfl rfl (Nat.le_of_ble_eq_true rfl) ?_
        refine mm_goto (tgt := 5) d_M_stub_32 rfl ?_
        exact mm_drop (mm_le.s (mm_le.s (mm_le.s (mm_le.s (mm_le.s (mm_le.n (mm_le.n mm_le.e))))))) (hk5 _ _ _ _ hV hw)
def wp_M_stub (a : Nat) (p0 : Int32) (p1 : Int32) (A : ab_H) (Q : Int32 → ab_H → Prop) : Prop := ∃ n, wq_M_stub_5 a p0 p1 Q n ((-1) : Int32) (0 : Int32) A
set_option maxRecDepth 100000 in
set_option maxHeartbeats 4000000 in
theorem sd_M_stub {l : Launch} {G : mm_G} {h : mm_H} {A : ab_H} {a : Nat} {p0 : Int32} {p1 : Int32} {Q : Int32 → ab_H → Prop} (hV : Vw G h A) (hw : wp_M_stub a p0 p1 A Q) : mm_S l G M_M_stub [.ref a, .int p0, .int p1] h 0 0 (wQI G Q) := by
  unfold wp_M_stub at hw
  refine mm_start rfl (Nat.le_of_ble_eq_true rfl) ?_
  show mm_V l G M_M_stub 0 0 0 [some (va_rf (some a)), some (.int p0), some (.int p1), none, none, none, none] [] h _
  refine mm_iconst (v := (-1)) (pc' := 1) d_M_stub_0 rfl (by decide) ?_
  refine mm_ist3 (pc' := 2) d_M_stub_1 rfl rfl (Nat.le_of_ble_eq_true rfl) ?_
  refine mm_iconst (v := 0) (pc' := 3) d_M_stub_2 rfl (by decide) ?_
  refine mm_ist4 (pc' := 5) d_M_stub_3 rfl rfl (Nat.le_of_ble_eq_true rfl) ?_
  obtain ⟨n, hw⟩ := hw
  exact mm_drop (mm_le.s (mm_le.s (mm_le.s (mm_le.s (mm_le.s (mm_le.n (mm_le.n mm_le.e))))))) (sq_M_stub_5  n _ _ _ _ hV hw)
theorem d_M_placeOf_0 : decode prog_14_method_57_code 0 = .ok (.iconst (-1), 1) := by decide +kernel
theorem d_M_placeOf_1 : decode prog_14_method_57_code 1 = .ok (.istore_n 2, 1) := by decide +kernel
theorem d_M_placeOf_2 : decode prog_14_method_57_code 2 = .ok (.iconst 0, 1) := by decide +kernel
theorem d_M_placeOf_3 : decode prog_14_method_57_code 3 = .ok (.istore_n 3, 1) := by decide +kernel
theorem d_M_placeOf_4 : decode prog_14_method_57_code 4 = .ok (.iload_n 3, 1) := by decide +kernel
theorem d_M_placeOf_5 : decode prog_14_method_57_code 5 = .ok (.bipush 8, 2) := by decide +kernel
theorem d_M_placeOf_7 : decode prog_14_method_57_code 7 = .ok (.if_icmp .ge 29, 3) := by decide +kernel
theorem d_M_placeOf_10 : decode prog_14_method_57_code 10 = .ok (.iload_n 1, 1) := by decide +kernel
theorem d_M_placeOf_11 : decode prog_14_method_57_code 11 = .ok (.ifCond .lt 17, 3) := by decide +kernel
theorem d_M_placeOf_14 : decode prog_14_method_57_code 14 = .ok (.aload_n 0, 1) := by decide +kernel
theorem d_M_placeOf_15 : decode prog_14_method_57_code 15 = .ok (.getfield 50, 3) := by decide +kernel
theorem d_M_placeOf_18 : decode prog_14_method_57_code 18 = .ok (.iload_n 3, 1) := by decide +kernel
theorem d_M_placeOf_19 : decode prog_14_method_57_code 19 = .ok (.iaload, 1) := by decide +kernel
theorem d_M_placeOf_20 : decode prog_14_method_57_code 20 = .ok (.iload_n 1, 1) := by decide +kernel
theorem d_M_placeOf_21 : decode prog_14_method_57_code 21 = .ok (.if_icmp .ne 7, 3) := by decide +kernel
theorem d_M_placeOf_24 : decode prog_14_method_57_code 24 = .ok (.iload_n 3, 1) := by decide +kernel
theorem d_M_placeOf_25 : decode prog_14_method_57_code 25 = .ok (.goto 4, 3) := by decide +kernel
theorem d_M_placeOf_28 : decode prog_14_method_57_code 28 = .ok (.iload_n 2, 1) := by decide +kernel
theorem d_M_placeOf_29 : decode prog_14_method_57_code 29 = .ok (.istore_n 2, 1) := by decide +kernel
theorem d_M_placeOf_30 : decode prog_14_method_57_code 30 = .ok (.iinc 3 1, 3) := by decide +kernel
theorem d_M_placeOf_33 : decode prog_14_method_57_code 33 = .ok (.goto (-29), 3) := by decide +kernel
theorem d_M_placeOf_36 : decode prog_14_method_57_code 36 = .ok (.iload_n 2, 1) := by decide +kernel
theorem d_M_placeOf_37 : decode prog_14_method_57_code 37 = .ok (.ireturn, 1) := by decide +kernel
def wb_M_placeOf_4 (a : Nat) (p0 : Int32) (Q : Int32 → ab_H → Prop)  (k4 : Int32 → Int32 → ab_H → Prop) (u2 : Int32) (u3 : Int32) (A : ab_H) : Prop := if (8 : Int32) ≤ u3 then (Q u2 A) else (if p0 < 0 then (k4 u2 (u3 + 1) A) else (wgR A (some a) 14 18 (fun r1 => wAI A r1 u3 (fun x2 => if x2 = p0 then (k4 u3 (u3 + 1) A) else (k4 u2 (u3 + 1) A)))))
def wq_M_placeOf_4 (a : Nat) (p0 : Int32) (Q : Int32 → ab_H → Prop)  : Nat → Int32 → Int32 → ab_H → Prop
  | 0 => fun _ _ _ => False
  | n + 1 => wb_M_placeOf_4 a p0 Q  (wq_M_placeOf_4 a p0 Q  n)
set_option maxRecDepth 100000 in
set_option maxHeartbeats 4000000 in
theorem sq_M_placeOf_4 {l : Launch} {G : mm_G} {a : Nat} {p0 : Int32} {Q : Int32 → ab_H → Prop}   : ∀ (n : Nat) (u2 : Int32) (u3 : Int32) (A : ab_H) (h : mm_H), Vw G h A → wq_M_placeOf_4 a p0 Q  n u2 u3 A → mm_V l G M_M_placeOf 0 0 4 [some (va_rf (some a)), some (.int p0), some (.int u2), some (.int u3)] [] h (wQI G Q) := by
  intro n
  induction n with
  | zero =>
    intro u2 u3 A h hV hw
    exact absurd hw id
  | succ n hk4 =>
    intro u2 u3 A h hV hw
    have hw : wb_M_placeOf_4 a p0 Q  (wq_M_placeOf_4 a p0 Q  n) u2 u3 A := hw
    unfold wb_M_placeOf_4 at hw
    refine mm_iload_n (pc' := 5) d_M_placeOf_4 rfl rfl rfl ?_
    refine mm_bipush (v := 8) (pc' := 7) d_M_placeOf_5 rfl (by decide) ?_
    refine wr_icmp_ge hw (pc' := 10) d_M_placeOf_7 rfl rfl (fun hw => ?_) (fun hw => ?_)
    · refine mm_iload_n (pc' := 37) d_M_placeOf_36 rfl rfl rfl ?_
      exact wr_iret hV d_M_placeOf_37 rfl rfl hw
    · refine mm_iload_n (pc' := 11) d_M_placeOf_10 rfl rfl rfl ?_
      refine wr_if_lt hw (pc' := 14) d_M_placeOf_11 rfl rfl (fun hw => ?_) (fun hw => ?_)
      · refine mm_iload_n (pc' := 29) d_M_placeOf_28 rfl rfl rfl ?_
        refine mm_ist2 (pc' := 30) d_M_placeOf_29 rfl rfl (Nat.le_of_ble_eq_true rfl) ?_
        refine mm_iinc3 (v := (u3 + 1)) (pc' := 33) d_M_placeOf_30 rfl rfl rfl (Nat.le_of_ble_eq_true rfl) ?_
        refine mm_goto (tgt := 4) d_M_placeOf_33 rfl ?_
        exact mm_drop (mm_le.s (mm_le.s (mm_le.s (mm_le.s mm_le.e)))) (hk4 _ _ _ _ hV hw)
      · refine wr_aload_n (some a) (pc' := 15) d_M_placeOf_14 rfl rfl rfl ?_
        refine wr_getR hV hw (pc' := 18) d_M_placeOf_15 rfl fl_M_50 (fun r1 hw => ?_)
        refine mm_iload_n (pc' := 19) d_M_placeOf_18 rfl rfl rfl ?_
        refine wr_aldI hV hw (pc' := 20) d_M_placeOf_19 rfl (fun x2 hw => ?_)
        refine mm_iload_n (pc' := 21) d_M_placeOf_20 rfl rfl rfl ?_
        refine wr_icmp_ne hw (pc' := 24) d_M_placeOf_21 rfl rfl (fun hw => ?_) (fun hw => ?_)
        · refine mm_iload_n (pc' := 29) d_M_placeOf_28 rfl rfl rfl ?_
          refine mm_ist2 (pc' := 30) d_M_placeOf_29 rfl rfl (Nat.le_of_ble_eq_true rfl) ?_
          refine mm_iinc3 (v := (u3 + 1)) (pc' := 33) d_M_placeOf_30 rfl rfl rfl (Nat.le_of_ble_eq_true rfl) ?_
          refine mm_goto (tgt := 4) d_M_placeOf_33 rfl ?_
          exact mm_drop (mm_le.s (mm_le.s (mm_le.s (mm_le.s mm_le.e)))) (hk4 _ _ _ _ hV hw)
        · refine mm_iload_n (pc' := 25) d_M_placeOf_24 rfl rfl rfl ?_
          refine mm_goto (tgt := 29) d_M_placeOf_25 rfl ?_
          refine mm_ist2 (pc' := 30) d_M_placeOf_29 rfl rfl (Nat.le_of_ble_eq_true rfl) ?_
          refine mm_iinc3 (v := (u3 + 1)) (pc' := 33) d_M_placeOf_30 rfl rfl rfl (Nat.le_of_ble_eq_true rfl) ?_
          refine mm_goto (tgt := 4) d_M_placeOf_33 rfl ?_
          exact mm_drop (mm_le.s (mm_le.s (mm_le.s (mm_le.s mm_le.e)))) (hk4 _ _ _ _ hV hw)
def wp_M_placeOf (a : Nat) (p0 : Int32) (A : ab_H) (Q : Int32 → ab_H → Prop) : Prop := ∃ n, wq_M_placeOf_4 a p0 Q n ((-1) : Int32) (0 : Int32) A
set_option maxRecDepth 100000 in
set_option maxHeartbeats 4000000 in
theorem sd_M_placeOf {l : Launch} {G : mm_G} {h : mm_H} {A : ab_H} {a : Nat} {p0 : Int32} {Q : Int32 → ab_H → Prop} (hV : Vw G h A) (hw : wp_M_placeOf a p0 A Q) : mm_S l G M_M_placeOf [.ref a, .int p0] h 0 0 (wQI G Q) := by
  unfold wp_M_placeOf at hw
  refine mm_start rfl (Nat.le_of_ble_eq_true rfl) ?_
  show mm_V l G M_M_placeOf 0 0 0 [some (va_rf (some a)), some (.int p0), none, none] [] h _
  refine mm_iconst (v := (-1)) (pc' := 1) d_M_placeOf_0 rfl (by decide) ?_
  refine mm_ist2 (pc' := 2) d_M_placeOf_1 rfl rfl (Nat.le_of_ble_eq_true rfl) ?_
  refine mm_iconst (v := 0) (pc' := 3) d_M_placeOf_2 rfl (by decide) ?_
  refine mm_ist3 (pc' := 4) d_M_placeOf_3 rfl rfl (Nat.le_of_ble_eq_true rfl) ?_
  obtain ⟨n, hw⟩ := hw
  exact mm_drop (mm_le.s (mm_le.s (mm_le.s (mm_le.s mm_le.e)))) (sq_M_placeOf_4  n _ _ _ _ hV hw)
theorem d_M_scene_0 : decode prog_14_method_58_code 0 = .ok (.aload_n 0, 1) := by decide +kernel
theorem d_M_scene_1 : decode prog_14_method_58_code 1 = .ok (.iload_n 1, 1) := by decide +kernel
theorem d_M_scene_2 : decode prog_14_method_58_code 2 = .ok (.invokevirtual 298, 3) := by decide +kernel
theorem d_M_scene_5 : decode prog_14_method_58_code 5 = .ok (.istore 5, 2) := by decide +kernel
theorem d_M_scene_7 : decode prog_14_method_58_code 7 = .ok (.iload 5, 2) := by decide +kernel
theorem d_M_scene_9 : decode prog_14_method_58_code 9 = .ok (.ifCond .lt 32, 3) := by decide +kernel
theorem d_M_scene_12 : decode prog_14_method_58_code 12 = .ok (.iload_n 2, 1) := by decide +kernel
theorem d_M_scene_13 : decode prog_14_method_58_code 13 = .ok (.ifCond .lt 28, 3) := by decide +kernel
theorem d_M_scene_16 : decode prog_14_method_58_code 16 = .ok (.iload_n 2, 1) := by decide +kernel
theorem d_M_scene_17 : decode prog_14_method_58_code 17 = .ok (.iconst 2, 1) := by decide +kernel
theorem d_M_scene_18 : decode prog_14_method_58_code 18 = .ok (.if_icmp .gt 23, 3) := by decide +kernel
theorem d_M_scene_21 : decode prog_14_method_58_code 21 = .ok (.iload_n 3, 1) := by decide +kernel
theorem d_M_scene_22 : decode prog_14_method_58_code 22 = .ok (.ifCond .lt 19, 3) := by decide +kernel
theorem d_M_scene_25 : decode prog_14_method_58_code 25 = .ok (.iload_n 3, 1) := by decide +kernel
theorem d_M_scene_26 : decode prog_14_method_58_code 26 = .ok (.iconst 3, 1) := by decide +kernel
theorem d_M_scene_27 : decode prog_14_method_58_code 27 = .ok (.if_icmp .gt 14, 3) := by decide +kernel
theorem d_M_scene_30 : decode prog_14_method_58_code 30 = .ok (.iload 4, 2) := by decide +kernel
theorem d_M_scene_32 : decode prog_14_method_58_code 32 = .ok (.ifCond .lt 9, 3) := by decide +kernel
theorem d_M_scene_35 : decode prog_14_method_58_code 35 = .ok (.iload 4, 2) := by decide +kernel
theorem d_M_scene_37 : decode prog_14_method_58_code 37 = .ok (.iconst 3, 1) := by decide +kernel
theorem d_M_scene_38 : decode prog_14_method_58_code 38 = .ok (.if_icmp .le 5, 3) := by decide +kernel
theorem d_M_scene_41 : decode prog_14_method_58_code 41 = .ok (.iconst 0, 1) := by decide +kernel
theorem d_M_scene_42 : decode prog_14_method_58_code 42 = .ok (.ireturn, 1) := by decide +kernel
theorem d_M_scene_43 : decode prog_14_method_58_code 43 = .ok (.aload_n 0, 1) := by decide +kernel
theorem d_M_scene_44 : decode prog_14_method_58_code 44 = .ok (.getfield 68, 3) := by decide +kernel
theorem d_M_scene_47 : decode prog_14_method_58_code 47 = .ok (.iload 5, 2) := by decide +kernel
theorem d_M_scene_49 : decode prog_14_method_58_code 49 = .ok (.iload_n 2, 1) := by decide +kernel
theorem d_M_scene_50 : decode prog_14_method_58_code 50 = .ok (.iastore, 1) := by decide +kernel
theorem d_M_scene_51 : decode prog_14_method_58_code 51 = .ok (.aload_n 0, 1) := by decide +kernel
theorem d_M_scene_52 : decode prog_14_method_58_code 52 = .ok (.getfield 71, 3) := by decide +kernel
theorem d_M_scene_55 : decode prog_14_method_58_code 55 = .ok (.iload 5, 2) := by decide +kernel
theorem d_M_scene_57 : decode prog_14_method_58_code 57 = .ok (.iload_n 3, 1) := by decide +kernel
theorem d_M_scene_58 : decode prog_14_method_58_code 58 = .ok (.iastore, 1) := by decide +kernel
theorem d_M_scene_59 : decode prog_14_method_58_code 59 = .ok (.aload_n 0, 1) := by decide +kernel
theorem d_M_scene_60 : decode prog_14_method_58_code 60 = .ok (.getfield 74, 3) := by decide +kernel
theorem d_M_scene_63 : decode prog_14_method_58_code 63 = .ok (.iload 5, 2) := by decide +kernel
theorem d_M_scene_65 : decode prog_14_method_58_code 65 = .ok (.iload 4, 2) := by decide +kernel
theorem d_M_scene_67 : decode prog_14_method_58_code 67 = .ok (.iastore, 1) := by decide +kernel
theorem d_M_scene_68 : decode prog_14_method_58_code 68 = .ok (.iconst 1, 1) := by decide +kernel
theorem d_M_scene_69 : decode prog_14_method_58_code 69 = .ok (.ireturn, 1) := by decide +kernel
def wp_M_scene (a : Nat) (p0 : Int32) (p1 : Int32) (p2 : Int32) (p3 : Int32) (A : ab_H) (Q : Int32 → ab_H → Prop) : Prop := wC A (some a) 14 (fun b => wp_M_placeOf b p0 A (fun x1 A => if x1 < 0 then (Q (0 : Int32) A) else (if p1 < 0 then (Q (0 : Int32) A) else (if (2 : Int32) < p1 then (Q (0 : Int32) A) else (if p2 < 0 then (Q (0 : Int32) A) else (if (3 : Int32) < p2 then (Q (0 : Int32) A) else (if p3 < 0 then (Q (0 : Int32) A) else (if p3 ≤ (3 : Int32) then (wgR A (some a) 14 24 (fun r2 => wSI A r2 x1 p1 (fun A => wgR A (some a) 14 25 (fun r3 => wSI A r3 x1 p2 (fun A => wgR A (some a) 14 26 (fun r4 => wSI A r4 x1 p3 (fun A => Q (1 : Int32) A))))))) else (Q (0 : Int32) A)))))))))
set_option maxRecDepth 100000 in
set_option maxHeartbeats 4000000 in
theorem sd_M_scene {l : Launch} {G : mm_G} {h : mm_H} {A : ab_H} {a : Nat} {p0 : Int32} {p1 : Int32} {p2 : Int32} {p3 : Int32} {Q : Int32 → ab_H → Prop} (hV : Vw G h A) (hw : wp_M_scene a p0 p1 p2 p3 A Q) : mm_S l G M_M_scene [.ref a, .int p0, .int p1, .int p2, .int p3] h 0 0 (wQI G Q) := by
  unfold wp_M_scene at hw
  refine mm_start rfl (Nat.le_of_ble_eq_true rfl) ?_
  show mm_V l G M_M_scene 0 0 0 [some (va_rf (some a)), some (.int p0), some (.int p1), some (.int p2), some (.int p3), none] [] h _
  refine wr_aload_n (some a) (pc' := 1) d_M_scene_0 rfl rfl rfl ?_
  refine mm_iload_n (pc' := 2) d_M_scene_1 rfl rfl rfl ?_
  refine wr_cVI (pc' := 5) (as := [.int p0]) (st := []) d_M_scene_2 rfl cs_M_298 rfl (W := fun b Q' => wp_M_placeOf b p0 A Q') hV hw (fun b Q' hw => sd_M_placeOf hV hw) rfl rfl (Nat.le_of_ble_eq_true rfl) (Nat.le_of_ble_eq_true rfl) (fun x1 h A hV hw => ?_)
  refine mm_ist5 (pc' := 7) d_M_scene_5 rfl rfl (Nat.le_of_ble_eq_true rfl) ?_
  refine mm_iload (pc' := 9) d_M_scene_7 rfl rfl ?_
  refine wr_if_lt hw (pc' := 12) d_M_scene_9 rfl rfl (fun hw => ?_) (fun hw => ?_)
  · refine mm_iconst (v := 0) (pc' := 42) d_M_scene_41 rfl (by decide) ?_
    exact wr_iret hV d_M_scene_42 rfl rfl hw
  · refine mm_iload_n (pc' := 13) d_M_scene_12 rfl rfl rfl ?_
    refine wr_if_lt hw (pc' := 16) d_M_scene_13 rfl rfl (fun hw => ?_) (fun hw => ?_)
    · refine mm_iconst (v := 0) (pc' := 42) d_M_scene_41 rfl (by decide) ?_
      exact wr_iret hV d_M_scene_42 rfl rfl hw
    · refine mm_iload_n (pc' := 17) d_M_scene_16 rfl rfl rfl ?_
      refine mm_iconst (v := 2) (pc' := 18) d_M_scene_17 rfl (by decide) ?_
      refine wr_icmp_gt hw (pc' := 21) d_M_scene_18 rfl rfl (fun hw => ?_) (fun hw => ?_)
      · refine mm_iconst (v := 0) (pc' := 42) d_M_scene_41 rfl (by decide) ?_
        exact wr_iret hV d_M_scene_42 rfl rfl hw
      · refine mm_iload_n (pc' := 22) d_M_scene_21 rfl rfl rfl ?_
        refine wr_if_lt hw (pc' := 25) d_M_scene_22 rfl rfl (fun hw => ?_) (fun hw => ?_)
        · refine mm_iconst (v := 0) (pc' := 42) d_M_scene_41 rfl (by decide) ?_
          exact wr_iret hV d_M_scene_42 rfl rfl hw
        · refine mm_iload_n (pc' := 26) d_M_scene_25 rfl rfl rfl ?_
          refine mm_iconst (v := 3) (pc' := 27) d_M_scene_26 rfl (by decide) ?_
          refine wr_icmp_gt hw (pc' := 30) d_M_scene_27 rfl rfl (fun hw => ?_) (fun hw => ?_)
          · refine mm_iconst (v := 0) (pc' := 42) d_M_scene_41 rfl (by decide) ?_
            exact wr_iret hV d_M_scene_42 rfl rfl hw
          · refine mm_iload (pc' := 32) d_M_scene_30 rfl rfl ?_
            refine wr_if_lt hw (pc' := 35) d_M_scene_32 rfl rfl (fun hw => ?_) (fun hw => ?_)
            · refine mm_iconst (v := 0) (pc' := 42) d_M_scene_41 rfl (by decide) ?_
              exact wr_iret hV d_M_scene_42 rfl rfl hw
            · refine mm_iload (pc' := 37) d_M_scene_35 rfl rfl ?_
              refine mm_iconst (v := 3) (pc' := 38) d_M_scene_37 rfl (by decide) ?_
              refine wr_icmp_le hw (pc' := 41) d_M_scene_38 rfl rfl (fun hw => ?_) (fun hw => ?_)
              · refine wr_aload_n (some a) (pc' := 44) d_M_scene_43 rfl rfl rfl ?_
                refine wr_getR hV hw (pc' := 47) d_M_scene_44 rfl fl_M_68 (fun r2 hw => ?_)
                refine mm_iload (pc' := 49) d_M_scene_47 rfl rfl ?_
                refine mm_iload_n (pc' := 50) d_M_scene_49 rfl rfl rfl ?_
                refine wr_astI hV hw (pc' := 51) d_M_scene_50 rfl (fun h A hV hw => ?_)
                refine wr_aload_n (some a) (pc' := 52) d_M_scene_51 rfl rfl rfl ?_
                refine wr_getR hV hw (pc' := 55) d_M_scene_52 rfl fl_M_71 (fun r3 hw => ?_)
                refine mm_iload (pc' := 57) d_M_scene_55 rfl rfl ?_
                refine mm_iload_n (pc' := 58) d_M_scene_57 rfl rfl rfl ?_
                refine wr_astI hV hw (pc' := 59) d_M_scene_58 rfl (fun h A hV hw => ?_)
                refine wr_aload_n (some a) (pc' := 60) d_M_scene_59 rfl rfl rfl ?_
                refine wr_getR hV hw (pc' := 63) d_M_scene_60 rfl fl_M_74 (fun r4 hw => ?_)
                refine mm_iload (pc' := 65) d_M_scene_63 rfl rfl ?_
                refine mm_iload (pc' := 67) d_M_scene_65 rfl rfl ?_
                refine wr_astI hV hw (pc' := 68) d_M_scene_67 rfl (fun h A hV hw => ?_)
                refine mm_iconst (v := 1) (pc' := 69) d_M_scene_68 rfl (by decide) ?_
                exact wr_iret hV d_M_scene_69 rfl rfl hw
              · refine mm_iconst (v := 0) (pc' := 42) d_M_scene_41 rfl (by decide) ?_
                exact wr_iret hV d_M_scene_42 rfl rfl hw
theorem d_M_remove_0 : decode prog_14_method_59_code 0 = .ok (.aload_n 0, 1) := by decide +kernel
theorem d_M_remove_1 : decode prog_14_method_59_code 1 = .ok (.iload_n 1, 1) := by decide +kernel
theorem d_M_remove_2 : decode prog_14_method_59_code 2 = .ok (.invokevirtual 298, 3) := by decide +kernel
theorem d_M_remove_5 : decode prog_14_method_59_code 5 = .ok (.istore_n 2, 1) := by decide +kernel
theorem d_M_remove_6 : decode prog_14_method_59_code 6 = .ok (.iload_n 2, 1) := by decide +kernel
theorem d_M_remove_7 : decode prog_14_method_59_code 7 = .ok (.ifCond .ge 5, 3) := by decide +kernel
theorem d_M_remove_10 : decode prog_14_method_59_code 10 = .ok (.iconst 0, 1) := by decide +kernel
theorem d_M_remove_11 : decode prog_14_method_59_code 11 = .ok (.ireturn, 1) := by decide +kernel
theorem d_M_remove_12 : decode prog_14_method_59_code 12 = .ok (.aload_n 0, 1) := by decide +kernel
theorem d_M_remove_13 : decode prog_14_method_59_code 13 = .ok (.getfield 50, 3) := by decide +kernel
theorem d_M_remove_16 : decode prog_14_method_59_code 16 = .ok (.iload_n 2, 1) := by decide +kernel
theorem d_M_remove_17 : decode prog_14_method_59_code 17 = .ok (.iconst (-1), 1) := by decide +kernel
theorem d_M_remove_18 : decode prog_14_method_59_code 18 = .ok (.iastore, 1) := by decide +kernel
theorem d_M_remove_19 : decode prog_14_method_59_code 19 = .ok (.iconst 1, 1) := by decide +kernel
theorem d_M_remove_20 : decode prog_14_method_59_code 20 = .ok (.ireturn, 1) := by decide +kernel
def wp_M_remove (a : Nat) (p0 : Int32) (A : ab_H) (Q : Int32 → ab_H → Prop) : Prop := wC A (some a) 14 (fun b => wp_M_placeOf b p0 A (fun x1 A => if 0 ≤ x1 then (wgR A (some a) 14 18 (fun r2 => wSI A r2 x1 ((-1) : Int32) (fun A => Q (1 : Int32) A))) else (Q (0 : Int32) A)))
set_option maxRecDepth 100000 in
set_option maxHeartbeats 4000000 in
theorem sd_M_remove {l : Launch} {G : mm_G} {h : mm_H} {A : ab_H} {a : Nat} {p0 : Int32} {Q : Int32 → ab_H → Prop} (hV : Vw G h A) (hw : wp_M_remove a p0 A Q) : mm_S l G M_M_remove [.ref a, .int p0] h 0 0 (wQI G Q) := by
  unfold wp_M_remove at hw
  refine mm_start rfl (Nat.le_of_ble_eq_true rfl) ?_
  show mm_V l G M_M_remove 0 0 0 [some (va_rf (some a)), some (.int p0), none] [] h _
  refine wr_aload_n (some a) (pc' := 1) d_M_remove_0 rfl rfl rfl ?_
  refine mm_iload_n (pc' := 2) d_M_remove_1 rfl rfl rfl ?_
  refine wr_cVI (pc' := 5) (as := [.int p0]) (st := []) d_M_remove_2 rfl cs_M_298 rfl (W := fun b Q' => wp_M_placeOf b p0 A Q') hV hw (fun b Q' hw => sd_M_placeOf hV hw) rfl rfl (Nat.le_of_ble_eq_true rfl) (Nat.le_of_ble_eq_true rfl) (fun x1 h A hV hw => ?_)
  refine mm_ist2 (pc' := 6) d_M_remove_5 rfl rfl (Nat.le_of_ble_eq_true rfl) ?_
  refine mm_iload_n (pc' := 7) d_M_remove_6 rfl rfl rfl ?_
  refine wr_if_ge hw (pc' := 10) d_M_remove_7 rfl rfl (fun hw => ?_) (fun hw => ?_)
  · refine wr_aload_n (some a) (pc' := 13) d_M_remove_12 rfl rfl rfl ?_
    refine wr_getR hV hw (pc' := 16) d_M_remove_13 rfl fl_M_50 (fun r2 hw => ?_)
    refine mm_iload_n (pc' := 17) d_M_remove_16 rfl rfl rfl ?_
    refine mm_iconst (v := (-1)) (pc' := 18) d_M_remove_17 rfl (by decide) ?_
    refine wr_astI hV hw (pc' := 19) d_M_remove_18 rfl (fun h A hV hw => ?_)
    refine mm_iconst (v := 1) (pc' := 20) d_M_remove_19 rfl (by decide) ?_
    exact wr_iret hV d_M_remove_20 rfl rfl hw
  · refine mm_iconst (v := 0) (pc' := 11) d_M_remove_10 rfl (by decide) ?_
    exact wr_iret hV d_M_remove_11 rfl rfl hw
theorem d_M_reset_0 : decode prog_14_method_60_code 0 = .ok (.aload_n 0, 1) := by decide +kernel
theorem d_M_reset_1 : decode prog_14_method_60_code 1 = .ok (.getfield 269, 3) := by decide +kernel
theorem d_M_reset_4 : decode prog_14_method_60_code 4 = .ok (.istore_n 1, 1) := by decide +kernel
theorem d_M_reset_5 : decode prog_14_method_60_code 5 = .ok (.aload_n 0, 1) := by decide +kernel
theorem d_M_reset_6 : decode prog_14_method_60_code 6 = .ok (.iconst 0, 1) := by decide +kernel
theorem d_M_reset_7 : decode prog_14_method_60_code 7 = .ok (.putfield 269, 3) := by decide +kernel
theorem d_M_reset_10 : decode prog_14_method_60_code 10 = .ok (.iconst 0, 1) := by decide +kernel
theorem d_M_reset_11 : decode prog_14_method_60_code 11 = .ok (.istore_n 2, 1) := by decide +kernel
theorem d_M_reset_12 : decode prog_14_method_60_code 12 = .ok (.iload_n 2, 1) := by decide +kernel
theorem d_M_reset_13 : decode prog_14_method_60_code 13 = .ok (.iconst 3, 1) := by decide +kernel
theorem d_M_reset_14 : decode prog_14_method_60_code 14 = .ok (.if_icmp .ge 16, 3) := by decide +kernel
theorem d_M_reset_17 : decode prog_14_method_60_code 17 = .ok (.aload_n 0, 1) := by decide +kernel
theorem d_M_reset_18 : decode prog_14_method_60_code 18 = .ok (.getfield 29, 3) := by decide +kernel
theorem d_M_reset_21 : decode prog_14_method_60_code 21 = .ok (.iload_n 2, 1) := by decide +kernel
theorem d_M_reset_22 : decode prog_14_method_60_code 22 = .ok (.iconst 0, 1) := by decide +kernel
theorem d_M_reset_23 : decode prog_14_method_60_code 23 = .ok (.iastore, 1) := by decide +kernel
theorem d_M_reset_24 : decode prog_14_method_60_code 24 = .ok (.iinc 2 1, 3) := by decide +kernel
theorem d_M_reset_27 : decode prog_14_method_60_code 27 = .ok (.goto (-15), 3) := by decide +kernel
theorem d_M_reset_30 : decode prog_14_method_60_code 30 = .ok (.iload_n 1, 1) := by decide +kernel
theorem d_M_reset_31 : decode prog_14_method_60_code 31 = .ok (.ireturn, 1) := by decide +kernel
def wb_M_reset_12 (a : Nat) (Q : Int32 → ab_H → Prop)  (k12 : Int32 → Int32 → ab_H → Prop) (u1 : Int32) (u2 : Int32) (A : ab_H) : Prop := if (3 : Int32) ≤ u2 then (Q u1 A) else (wgR A (some a) 14 8 (fun r1 => wSI A r1 u2 (0 : Int32) (fun A => k12 u1 (u2 + 1) A)))
def wq_M_reset_12 (a : Nat) (Q : Int32 → ab_H → Prop)  : Nat → Int32 → Int32 → ab_H → Prop
  | 0 => fun _ _ _ => False
  | n + 1 => wb_M_reset_12 a Q  (wq_M_reset_12 a Q  n)
set_option maxRecDepth 100000 in
set_option maxHeartbeats 4000000 in
theorem sq_M_reset_12 {l : Launch} {G : mm_G} {a : Nat} {Q : Int32 → ab_H → Prop}   : ∀ (n : Nat) (u1 : Int32) (u2 : Int32) (A : ab_H) (h : mm_H), Vw G h A → wq_M_reset_12 a Q  n u1 u2 A → mm_V l G M_M_reset 0 0 12 [some (va_rf (some a)), some (.int u1), some (.int u2)] [] h (wQI G Q) := by
  intro n
  induction n with
  | zero =>
    intro u1 u2 A h hV hw
    exact absurd hw id
  | succ n hk12 =>
    intro u1 u2 A h hV hw
    have hw : wb_M_reset_12 a Q  (wq_M_reset_12 a Q  n) u1 u2 A := hw
    unfold wb_M_reset_12 at hw
    refine mm_iload_n (pc' := 13) d_M_reset_12 rfl rfl rfl ?_
    refine mm_iconst (v := 3) (pc' := 14) d_M_reset_13 rfl (by decide) ?_
    refine wr_icmp_ge hw (pc' := 17) d_M_reset_14 rfl rfl (fun hw => ?_) (fun hw => ?_)
    · refine mm_iload_n (pc' := 31) d_M_reset_30 rfl rfl rfl ?_
      exact wr_iret hV d_M_reset_31 rfl rfl hw
    · refine wr_aload_n (some a) (pc' := 18) d_M_reset_17 rfl rfl rfl ?_
      refine wr_getR hV hw (pc' := 21) d_M_reset_18 rfl fl_M_29 (fun r1 hw => ?_)
      refine mm_iload_n (pc' := 22) d_M_reset_21 rfl rfl rfl ?_
      refine mm_iconst (v := 0) (pc' := 23) d_M_reset_22 rfl (by decide) ?_
      refine wr_astI hV hw (pc' := 24) d_M_reset_23 rfl (fun h A hV hw => ?_)
      refine mm_iinc2 (v := (u2 + 1)) (pc' := 27) d_M_reset_24 rfl rfl rfl (Nat.le_of_ble_eq_true rfl) ?_
      refine mm_goto (tgt := 12) d_M_reset_27 rfl ?_
      exact mm_drop (mm_le.s (mm_le.s (mm_le.s mm_le.e))) (hk12 _ _ _ _ hV hw)
def wp_M_reset (a : Nat) (A : ab_H) (Q : Int32 → ab_H → Prop) : Prop := wgI A (some a) 14 5 (fun x2 => wp A (some a) 14 5 (.int (0 : Int32)) (fun A => ∃ n, wq_M_reset_12 a Q n x2 (0 : Int32) A))
set_option maxRecDepth 100000 in
set_option maxHeartbeats 4000000 in
theorem sd_M_reset {l : Launch} {G : mm_G} {h : mm_H} {A : ab_H} {a : Nat} {Q : Int32 → ab_H → Prop} (hV : Vw G h A) (hw : wp_M_reset a A Q) : mm_S l G M_M_reset [.ref a] h 0 0 (wQI G Q) := by
  unfold wp_M_reset at hw
  refine mm_start rfl (Nat.le_of_ble_eq_true rfl) ?_
  show mm_V l G M_M_reset 0 0 0 [some (va_rf (some a)), none, none] [] h _
  refine wr_aload_n (some a) (pc' := 1) d_M_reset_0 rfl rfl rfl ?_
  refine wr_getI hV hw (pc' := 4) d_M_reset_1 rfl fl_M_269 (fun x2 hw => ?_)
  refine mm_ist1 (pc' := 5) d_M_reset_4 rfl (wr_2 _) (Nat.le_of_ble_eq_true rfl) ?_
  refine wr_aload_n (some a) (pc' := 6) d_M_reset_5 rfl rfl rfl ?_
  refine mm_iconst (v := 0) (pc' := 7) d_M_reset_6 rfl (by decide) ?_
  refine wr_put hV hw (pc' := 10) d_M_reset_7 rfl pl_M_reset_269 (Nat.le_of_ble_eq_true rfl) (wn_I _) (fun h A hV hw => ?_)
  refine mm_iconst (v := 0) (pc' := 11) d_M_reset_10 rfl (by decide) ?_
  refine mm_ist2 (pc' := 12) d_M_reset_11 rfl rfl (Nat.le_of_ble_eq_true rfl) ?_
  obtain ⟨n, hw⟩ := hw
  exact mm_drop (mm_le.s (mm_le.s (mm_le.s mm_le.e))) (sq_M_reset_12  n _ _ _ _ hV hw)
theorem d_M_count_0 : decode prog_14_method_61_code 0 = .ok (.iconst 0, 1) := by decide +kernel
theorem d_M_count_1 : decode prog_14_method_61_code 1 = .ok (.istore_n 1, 1) := by decide +kernel
theorem d_M_count_2 : decode prog_14_method_61_code 2 = .ok (.iconst 0, 1) := by decide +kernel
theorem d_M_count_3 : decode prog_14_method_61_code 3 = .ok (.istore_n 2, 1) := by decide +kernel
theorem d_M_count_4 : decode prog_14_method_61_code 4 = .ok (.iload_n 2, 1) := by decide +kernel
theorem d_M_count_5 : decode prog_14_method_61_code 5 = .ok (.aload_n 0, 1) := by decide +kernel
theorem d_M_count_6 : decode prog_14_method_61_code 6 = .ok (.getfield 269, 3) := by decide +kernel
theorem d_M_count_9 : decode prog_14_method_61_code 9 = .ok (.if_icmp .ge 68, 3) := by decide +kernel
theorem d_M_count_12 : decode prog_14_method_61_code 12 = .ok (.aload_n 0, 1) := by decide +kernel
theorem d_M_count_13 : decode prog_14_method_61_code 13 = .ok (.iconst 3, 1) := by decide +kernel
theorem d_M_count_14 : decode prog_14_method_61_code 14 = .ok (.iload_n 2, 1) := by decide +kernel
theorem d_M_count_15 : decode prog_14_method_61_code 15 = .ok (.iadd, 1) := by decide +kernel
theorem d_M_count_16 : decode prog_14_method_61_code 16 = .ok (.invokevirtual 275, 3) := by decide +kernel
theorem d_M_count_19 : decode prog_14_method_61_code 19 = .ok (.pop, 1) := by decide +kernel
theorem d_M_count_20 : decode prog_14_method_61_code 20 = .ok (.iconst 1, 1) := by decide +kernel
theorem d_M_count_21 : decode prog_14_method_61_code 21 = .ok (.istore_n 3, 1) := by decide +kernel
theorem d_M_count_22 : decode prog_14_method_61_code 22 = .ok (.iconst 0, 1) := by decide +kernel
theorem d_M_count_23 : decode prog_14_method_61_code 23 = .ok (.istore 4, 2) := by decide +kernel
theorem d_M_count_25 : decode prog_14_method_61_code 25 = .ok (.iload 4, 2) := by decide +kernel
theorem d_M_count_27 : decode prog_14_method_61_code 27 = .ok (.aload_n 0, 1) := by decide +kernel
theorem d_M_count_28 : decode prog_14_method_61_code 28 = .ok (.getfield 289, 3) := by decide +kernel
theorem d_M_count_31 : decode prog_14_method_61_code 31 = .ok (.if_icmp .ge 28, 3) := by decide +kernel
theorem d_M_count_34 : decode prog_14_method_61_code 34 = .ok (.iload_n 3, 1) := by decide +kernel
theorem d_M_count_35 : decode prog_14_method_61_code 35 = .ok (.ifCond .eq 16, 3) := by decide +kernel
theorem d_M_count_38 : decode prog_14_method_61_code 38 = .ok (.aload_n 0, 1) := by decide +kernel
theorem d_M_count_39 : decode prog_14_method_61_code 39 = .ok (.iload 4, 2) := by decide +kernel
theorem d_M_count_41 : decode prog_14_method_61_code 41 = .ok (.invokevirtual 254, 3) := by decide +kernel
theorem d_M_count_44 : decode prog_14_method_61_code 44 = .ok (.ifCond .eq 7, 3) := by decide +kernel
theorem d_M_count_47 : decode prog_14_method_61_code 47 = .ok (.iconst 1, 1) := by decide +kernel
theorem d_M_count_48 : decode prog_14_method_61_code 48 = .ok (.goto 4, 3) := by decide +kernel
theorem d_M_count_51 : decode prog_14_method_61_code 51 = .ok (.iconst 0, 1) := by decide +kernel
theorem d_M_count_52 : decode prog_14_method_61_code 52 = .ok (.istore_n 3, 1) := by decide +kernel
theorem d_M_count_53 : decode prog_14_method_61_code 53 = .ok (.iinc 4 1, 3) := by decide +kernel
theorem d_M_count_56 : decode prog_14_method_61_code 56 = .ok (.goto (-31), 3) := by decide +kernel
theorem d_M_count_59 : decode prog_14_method_61_code 59 = .ok (.iload_n 1, 1) := by decide +kernel
theorem d_M_count_60 : decode prog_14_method_61_code 60 = .ok (.iload_n 3, 1) := by decide +kernel
theorem d_M_count_61 : decode prog_14_method_61_code 61 = .ok (.ifCond .eq 7, 3) := by decide +kernel
theorem d_M_count_64 : decode prog_14_method_61_code 64 = .ok (.iconst 1, 1) := by decide +kernel
theorem d_M_count_65 : decode prog_14_method_61_code 65 = .ok (.goto 4, 3) := by decide +kernel
theorem d_M_count_68 : decode prog_14_method_61_code 68 = .ok (.iconst 0, 1) := by decide +kernel
theorem d_M_count_69 : decode prog_14_method_61_code 69 = .ok (.iadd, 1) := by decide +kernel
theorem d_M_count_70 : decode prog_14_method_61_code 70 = .ok (.istore_n 1, 1) := by decide +kernel
theorem d_M_count_71 : decode prog_14_method_61_code 71 = .ok (.iinc 2 1, 3) := by decide +kernel
theorem d_M_count_74 : decode prog_14_method_61_code 74 = .ok (.goto (-70), 3) := by decide +kernel
theorem d_M_count_77 : decode prog_14_method_61_code 77 = .ok (.aload_n 0, 1) := by decide +kernel
theorem d_M_count_78 : decode prog_14_method_61_code 78 = .ok (.iconst 0, 1) := by decide +kernel
theorem d_M_count_79 : decode prog_14_method_61_code 79 = .ok (.putfield 289, 3) := by decide +kernel
theorem d_M_count_82 : decode prog_14_method_61_code 82 = .ok (.iload_n 1, 1) := by decide +kernel
theorem d_M_count_83 : decode prog_14_method_61_code 83 = .ok (.ireturn, 1) := by decide +kernel
def wq_M_count_77 (a : Nat) (Q : Int32 → ab_H → Prop)  (u1 : Int32) (A : ab_H) : Prop := wp A (some a) 14 16 (.int (0 : Int32)) (fun A => Q u1 A)
set_option maxRecDepth 100000 in
set_option maxHeartbeats 4000000 in
theorem sq_M_count_77 {l : Launch} {G : mm_G} {a : Nat} {Q : Int32 → ab_H → Prop}   : ∀ (u1 : Int32) (A : ab_H) (h : mm_H), Vw G h A → wq_M_count_77 a Q  u1 A → mm_V l G M_M_count 0 0 77 [some (va_rf (some a)), some (.int u1), none, none, none] [] h (wQI G Q) := by
  intro u1 A h hV hw
  unfold wq_M_count_77 at hw
  refine wr_aload_n (some a) (pc' := 78) d_M_count_77 rfl rfl rfl ?_
  refine mm_iconst (v := 0) (pc' := 79) d_M_count_78 rfl (by decide) ?_
  refine wr_put hV hw (pc' := 82) d_M_count_79 rfl pl_M_count_289 (Nat.le_of_ble_eq_true rfl) (wn_I _) (fun h A hV hw => ?_)
  refine mm_iload_n (pc' := 83) d_M_count_82 rfl rfl rfl ?_
  exact wr_iret hV d_M_count_83 rfl rfl hw
def wq_M_count_59 (a : Nat) (Q : Int32 → ab_H → Prop) (k4 : Int32 → Int32 → ab_H → Prop) (u1 : Int32) (u2 : Int32) (u3 : Int32) (A : ab_H) : Prop := if u3 = 0 then (wL ((u1 + (0 : Int32))) (fun x1 => k4 x1 (u2 + 1) A)) else (wL ((u1 + (1 : Int32))) (fun x2 => k4 x2 (u2 + 1) A))
set_option maxRecDepth 100000 in
set_option maxHeartbeats 4000000 in
theorem sq_M_count_59 {l : Launch} {G : mm_G} {a : Nat} {Q : Int32 → ab_H → Prop} {k4 : Int32 → Int32 → ab_H → Prop} (hk4 : ∀ (u1 : Int32) (u2 : Int32) (A : ab_H) (h : mm_H), Vw G h A → k4 u1 u2 A → mm_V l G M_M_count 0 0 4 [some (va_rf (some a)), some (.int u1), some (.int u2), none, none] [] h (wQI G Q)) : ∀ (u1 : Int32) (u2 : Int32) (u3 : Int32) (A : ab_H) (h : mm_H), Vw G h A → wq_M_count_59 a Q k4 u1 u2 u3 A → mm_V l G M_M_count 0 0 59 [some (va_rf (some a)), some (.int u1), some (.int u2), some (.int u3), none] [] h (wQI G Q) := by
  intro u1 u2 u3 A h hV hw
  unfold wq_M_count_59 at hw
  refine mm_iload_n (pc' := 60) d_M_count_59 rfl rfl rfl ?_
  refine mm_iload_n (pc' := 61) d_M_count_60 rfl rfl rfl ?_
  refine wr_if_eq hw (pc' := 64) d_M_count_61 rfl rfl (fun hw => ?_) (fun hw => ?_)
  · refine mm_iconst (v := 0) (pc' := 69) d_M_count_68 rfl (by decide) ?_
    refine mm_iadd (pc' := 70) d_M_count_69 rfl ?_
    refine wr_let (P := fun z => mm_V l G M_M_count 0 0 70 [some (va_rf (some a)), some (.int u1), some (.int u2), some (.int u3), none] (.int z :: []) h _) hw (fun x1 hw => ?_)
    refine mm_ist1 (pc' := 71) d_M_count_70 rfl (wr_2 _) (Nat.le_of_ble_eq_true rfl) ?_
    refine mm_iinc2 (v := (u2 + 1)) (pc' := 74) d_M_count_71 rfl rfl rfl (Nat.le_of_ble_eq_true rfl) ?_
    refine mm_goto (tgt := 4) d_M_count_74 rfl ?_
    exact mm_drop (mm_le.s (mm_le.s (mm_le.s (mm_le.n (mm_le.n mm_le.e))))) (hk4 _ _ _ _ hV hw)
  · refine mm_iconst (v := 1) (pc' := 65) d_M_count_64 rfl (by decide) ?_
    refine mm_goto (tgt := 69) d_M_count_65 rfl ?_
    refine mm_iadd (pc' := 70) d_M_count_69 rfl ?_
    refine wr_let (P := fun z => mm_V l G M_M_count 0 0 70 [some (va_rf (some a)), some (.int u1), some (.int u2), some (.int u3), none] (.int z :: []) h _) hw (fun x2 hw => ?_)
    refine mm_ist1 (pc' := 71) d_M_count_70 rfl (wr_2 _) (Nat.le_of_ble_eq_true rfl) ?_
    refine mm_iinc2 (v := (u2 + 1)) (pc' := 74) d_M_count_71 rfl rfl rfl (Nat.le_of_ble_eq_true rfl) ?_
    refine mm_goto (tgt := 4) d_M_count_74 rfl ?_
    exact mm_drop (mm_le.s (mm_le.s (mm_le.s (mm_le.n (mm_le.n mm_le.e))))) (hk4 _ _ _ _ hV hw)
def wb_M_count_25 (a : Nat) (Q : Int32 → ab_H → Prop) (k4 : Int32 → Int32 → ab_H → Prop) (k25 : Int32 → Int32 → Int32 → Int32 → ab_H → Prop) (u1 : Int32) (u2 : Int32) (u3 : Int32) (u4 : Int32) (A : ab_H) : Prop := wgI A (some a) 14 16 (fun x3 => if x3 ≤ u4 then (wq_M_count_59 a Q k4 u1 u2 u3 A) else (if u3 = 0 then (k25 u1 u2 (0 : Int32) (u4 + 1) A) else (wC A (some a) 14 (fun b => wp_M_holds b u4 A (fun x4 A => if x4 = 0 then (k25 u1 u2 (0 : Int32) (u4 + 1) A) else (k25 u1 u2 (1 : Int32) (u4 + 1) A))))))
def wq_M_count_25 (a : Nat) (Q : Int32 → ab_H → Prop) (k4 : Int32 → Int32 → ab_H → Prop) : Nat → Int32 → Int32 → Int32 → Int32 → ab_H → Prop
  | 0 => fun _ _ _ _ _ => False
  | n + 1 => wb_M_count_25 a Q k4 (wq_M_count_25 a Q k4 n)
set_option maxRecDepth 100000 in
set_option maxHeartbeats 4000000 in
theorem sq_M_count_25 {l : Launch} {G : mm_G} {a : Nat} {Q : Int32 → ab_H → Prop} {k4 : Int32 → Int32 → ab_H → Prop} (hk4 : ∀ (u1 : Int32) (u2 : Int32) (A : ab_H) (h : mm_H), Vw G h A → k4 u1 u2 A → mm_V l G M_M_count 0 0 4 [some (va_rf (some a)), some (.int u1), some (.int u2), none, none] [] h (wQI G Q)) : ∀ (n : Nat) (u1 : Int32) (u2 : Int32) (u3 : Int32) (u4 : Int32) (A : ab_H) (h : mm_H), Vw G h A → wq_M_count_25 a Q k4 n u1 u2 u3 u4 A → mm_V l G M_M_count 0 0 25 [some (va_rf (some a)), some (.int u1), some (.int u2), some (.int u3), some (.int u4)] [] h (wQI G Q) := by
  intro n
  induction n with
  | zero =>
    intro u1 u2 u3 u4 A h hV hw
    exact absurd hw id
  | succ n hk25 =>
    intro u1 u2 u3 u4 A h hV hw
    have hw : wb_M_count_25 a Q k4 (wq_M_count_25 a Q k4 n) u1 u2 u3 u4 A := hw
    unfold wb_M_count_25 at hw
    refine mm_iload (pc' := 27) d_M_count_25 rfl rfl ?_
    refine wr_aload_n (some a) (pc' := 28) d_M_count_27 rfl rfl rfl ?_
    refine wr_getI hV hw (pc' := 31) d_M_count_28 rfl fl_M_289 (fun x3 hw => ?_)
    refine wr_icmp_ge hw (pc' := 34) d_M_count_31 rfl rfl (fun hw => ?_) (fun hw => ?_)
    · exact mm_drop (mm_le.s (mm_le.s (mm_le.s (mm_le.s (mm_le.n mm_le.e))))) (sq_M_count_59 hk4 _ _ _ _ _ hV hw)
    · refine mm_iload_n (pc' := 35) d_M_count_34 rfl rfl rfl ?_
      refine wr_if_eq hw (pc' := 38) d_M_count_35 rfl rfl (fun hw => ?_) (fun hw => ?_)
      · refine mm_iconst (v := 0) (pc' := 52) d_M_count_51 rfl (by decide) ?_
        refine mm_ist3 (pc' := 53) d_M_count_52 rfl rfl (Nat.le_of_ble_eq_true rfl) ?_
        refine mm_iinc4 (v := (u4 + 1)) (pc' := 56) d_M_count_53 rfl rfl rfl (Nat.le_of_ble_eq_true rfl) ?_
        refine mm_goto (tgt := 25) d_M_count_56 rfl ?_
        exact mm_drop (mm_le.s (mm_le.s (mm_le.s (mm_le.s (mm_le.s mm_le.e))))) (hk25 _ _ _ _ _ _ hV hw)
      · refine wr_aload_n (some a) (pc' := 39) d_M_count_38 rfl rfl rfl ?_
        refine mm_iload (pc' := 41) d_M_count_39 rfl rfl ?_
        refine wr_cVI (pc' := 44) (as := [.int u4]) (st := []) d_M_count_41 rfl cs_M_254 rfl (W := fun b Q' => wp_M_holds b u4 A Q') hV hw (fun b Q' hw => sd_M_holds hV hw) rfl rfl (Nat.le_of_ble_eq_true rfl) (Nat.le_of_ble_eq_true rfl) (fun x4 h A hV hw => ?_)
        refine wr_if_eq hw (pc' := 47) d_M_count_44 rfl rfl (fun hw => ?_) (fun hw => ?_)
        · refine mm_iconst (v := 0) (pc' := 52) d_M_count_51 rfl (by decide) ?_
          refine mm_ist3 (pc' := 53) d_M_count_52 rfl rfl (Nat.le_of_ble_eq_true rfl) ?_
          refine mm_iinc4 (v := (u4 + 1)) (pc' := 56) d_M_count_53 rfl rfl rfl (Nat.le_of_ble_eq_true rfl) ?_
          refine mm_goto (tgt := 25) d_M_count_56 rfl ?_
          exact mm_drop (mm_le.s (mm_le.s (mm_le.s (mm_le.s (mm_le.s mm_le.e))))) (hk25 _ _ _ _ _ _ hV hw)
        · refine mm_iconst (v := 1) (pc' := 48) d_M_count_47 rfl (by decide) ?_
          refine mm_goto (tgt := 52) d_M_count_48 rfl ?_
          refine mm_ist3 (pc' := 53) d_M_count_52 rfl rfl (Nat.le_of_ble_eq_true rfl) ?_
          refine mm_iinc4 (v := (u4 + 1)) (pc' := 56) d_M_count_53 rfl rfl rfl (Nat.le_of_ble_eq_true rfl) ?_
          refine mm_goto (tgt := 25) d_M_count_56 rfl ?_
          exact mm_drop (mm_le.s (mm_le.s (mm_le.s (mm_le.s (mm_le.s mm_le.e))))) (hk25 _ _ _ _ _ _ hV hw)
def wb_M_count_4 (a : Nat) (Q : Int32 → ab_H → Prop)  (k4 : Int32 → Int32 → ab_H → Prop) (u1 : Int32) (u2 : Int32) (A : ab_H) : Prop := wgI A (some a) 14 5 (fun x5 => if x5 ≤ u2 then (wq_M_count_77 a Q u1 A) else (wC A (some a) 14 (fun b => wp_M_judge b ((3 : Int32) + u2) A (fun x6 A => ∃ n, wq_M_count_25 a Q k4 n u1 u2 (1 : Int32) (0 : Int32) A))))
def wq_M_count_4 (a : Nat) (Q : Int32 → ab_H → Prop)  : Nat → Int32 → Int32 → ab_H → Prop
  | 0 => fun _ _ _ => False
  | n + 1 => wb_M_count_4 a Q  (wq_M_count_4 a Q  n)
set_option maxRecDepth 100000 in
set_option maxHeartbeats 4000000 in
theorem sq_M_count_4 {l : Launch} {G : mm_G} {a : Nat} {Q : Int32 → ab_H → Prop}   : ∀ (n : Nat) (u1 : Int32) (u2 : Int32) (A : ab_H) (h : mm_H), Vw G h A → wq_M_count_4 a Q  n u1 u2 A → mm_V l G M_M_count 0 0 4 [some (va_rf (some a)), some (.int u1), some (.int u2), none, none] [] h (wQI G Q) := by
  intro n
  induction n with
  | zero =>
    intro u1 u2 A h hV hw
    exact absurd hw id
  | succ n hk4 =>
    intro u1 u2 A h hV hw
    have hw : wb_M_count_4 a Q  (wq_M_count_4 a Q  n) u1 u2 A := hw
    unfold wb_M_count_4 at hw
    refine mm_iload_n (pc' := 5) d_M_count_4 rfl rfl rfl ?_
    refine wr_aload_n (some a) (pc' := 6) d_M_count_5 rfl rfl rfl ?_
    refine wr_getI hV hw (pc' := 9) d_M_count_6 rfl fl_M_269 (fun x5 hw => ?_)
    refine wr_icmp_ge hw (pc' := 12) d_M_count_9 rfl rfl (fun hw => ?_) (fun hw => ?_)
    · exact mm_drop (mm_le.s (mm_le.s (mm_le.n (mm_le.n (mm_le.n mm_le.e))))) (sq_M_count_77  _ _ _ hV hw)
    · refine wr_aload_n (some a) (pc' := 13) d_M_count_12 rfl rfl rfl ?_
      refine mm_iconst (v := 3) (pc' := 14) d_M_count_13 rfl (by decide) ?_
      refine mm_iload_n (pc' := 15) d_M_count_14 rfl rfl rfl ?_
      refine mm_iadd (pc' := 16) d_M_count_15 rfl ?_
      refine wr_cVI (pc' := 19) (as := [.int ((3 : Int32) + u2)]) (st := []) d_M_count_16 rfl cs_M_275 rfl (W := fun b Q' => wp_M_judge b ((3 : Int32) + u2) A Q') hV hw (fun b Q' hw => sd_M_judge hV hw) rfl rfl (Nat.le_of_ble_eq_true rfl) (Nat.le_of_ble_eq_true rfl) (fun x6 h A hV hw => ?_)
      refine mm_pop (pc' := 20) d_M_count_19 rfl rfl ?_
      refine mm_iconst (v := 1) (pc' := 21) d_M_count_20 rfl (by decide) ?_
      refine mm_ist3 (pc' := 22) d_M_count_21 rfl rfl (Nat.le_of_ble_eq_true rfl) ?_
      refine mm_iconst (v := 0) (pc' := 23) d_M_count_22 rfl (by decide) ?_
      refine mm_ist4 (pc' := 25) d_M_count_23 rfl rfl (Nat.le_of_ble_eq_true rfl) ?_
      obtain ⟨n, hw⟩ := hw
      exact mm_drop (mm_le.s (mm_le.s (mm_le.s (mm_le.s (mm_le.s mm_le.e))))) (sq_M_count_25 hk4 n _ _ _ _ _ _ hV hw)
def wp_M_count (a : Nat) (A : ab_H) (Q : Int32 → ab_H → Prop) : Prop := ∃ n, wq_M_count_4 a Q n (0 : Int32) (0 : Int32) A
set_option maxRecDepth 100000 in
set_option maxHeartbeats 4000000 in
theorem sd_M_count {l : Launch} {G : mm_G} {h : mm_H} {A : ab_H} {a : Nat} {Q : Int32 → ab_H → Prop} (hV : Vw G h A) (hw : wp_M_count a A Q) : mm_S l G M_M_count [.ref a] h 0 0 (wQI G Q) := by
  unfold wp_M_count at hw
  refine mm_start rfl (Nat.le_of_ble_eq_true rfl) ?_
  show mm_V l G M_M_count 0 0 0 [some (va_rf (some a)), none, none, none, none] [] h _
  refine mm_iconst (v := 0) (pc' := 1) d_M_count_0 rfl (by decide) ?_
  refine mm_ist1 (pc' := 2) d_M_count_1 rfl (wr_2 _) (Nat.le_of_ble_eq_true rfl) ?_
  refine mm_iconst (v := 0) (pc' := 3) d_M_count_2 rfl (by decide) ?_
  refine mm_ist2 (pc' := 4) d_M_count_3 rfl rfl (Nat.le_of_ble_eq_true rfl) ?_
  obtain ⟨n, hw⟩ := hw
  exact mm_drop (mm_le.s (mm_le.s (mm_le.s (mm_le.n (mm_le.n mm_le.e))))) (sq_M_count_4  n _ _ _ _ hV hw)
theorem d_M_journal_0 : decode prog_14_method_62_code 0 = .ok (.aload_n 0, 1) := by decide +kernel
theorem d_M_journal_1 : decode prog_14_method_62_code 1 = .ok (.getfield 269, 3) := by decide +kernel
theorem d_M_journal_4 : decode prog_14_method_62_code 4 = .ok (.ireturn, 1) := by decide +kernel
def wp_M_journal (a : Nat) (A : ab_H) (Q : Int32 → ab_H → Prop) : Prop := wgI A (some a) 14 5 (fun x1 => Q x1 A)
set_option maxRecDepth 100000 in
set_option maxHeartbeats 4000000 in
theorem sd_M_journal {l : Launch} {G : mm_G} {h : mm_H} {A : ab_H} {a : Nat} {Q : Int32 → ab_H → Prop} (hV : Vw G h A) (hw : wp_M_journal a A Q) : mm_S l G M_M_journal [.ref a] h 0 0 (wQI G Q) := by
  unfold wp_M_journal at hw
  refine mm_start rfl (Nat.le_of_ble_eq_true rfl) ?_
  show mm_V l G M_M_journal 0 0 0 [some (va_rf (some a))] [] h _
  refine wr_aload_n (some a) (pc' := 1) d_M_journal_0 rfl rfl rfl ?_
  refine wr_getI hV hw (pc' := 4) d_M_journal_1 rfl fl_M_269 (fun x1 hw => ?_)
  exact wr_iret hV d_M_journal_4 rfl rfl hw
theorem d_M_chosen_0 : decode prog_14_method_63_code 0 = .ok (.iload_n 1, 1) := by decide +kernel
theorem d_M_chosen_1 : decode prog_14_method_63_code 1 = .ok (.ifCond .lt 11, 3) := by decide +kernel
theorem d_M_chosen_4 : decode prog_14_method_63_code 4 = .ok (.iload_n 1, 1) := by decide +kernel
theorem d_M_chosen_5 : decode prog_14_method_63_code 5 = .ok (.aload_n 0, 1) := by decide +kernel
theorem d_M_chosen_6 : decode prog_14_method_63_code 6 = .ok (.getfield 269, 3) := by decide +kernel
theorem d_M_chosen_9 : decode prog_14_method_63_code 9 = .ok (.if_icmp .lt 8, 3) := by decide +kernel
theorem d_M_chosen_12 : decode prog_14_method_63_code 12 = .ok (.bipush (-2), 2) := by decide +kernel
theorem d_M_chosen_14 : decode prog_14_method_63_code 14 = .ok (.goto 11, 3) := by decide +kernel
theorem d_M_chosen_17 : decode prog_14_method_63_code 17 = .ok (.aload_n 0, 1) := by decide +kernel
theorem d_M_chosen_18 : decode prog_14_method_63_code 18 = .ok (.getfield 26, 3) := by decide +kernel
theorem d_M_chosen_21 : decode prog_14_method_63_code 21 = .ok (.iconst 3, 1) := by decide +kernel
theorem d_M_chosen_22 : decode prog_14_method_63_code 22 = .ok (.iload_n 1, 1) := by decide +kernel
theorem d_M_chosen_23 : decode prog_14_method_63_code 23 = .ok (.iadd, 1) := by decide +kernel
theorem d_M_chosen_24 : decode prog_14_method_63_code 24 = .ok (.iaload, 1) := by decide +kernel
theorem d_M_chosen_25 : decode prog_14_method_63_code 25 = .ok (.ireturn, 1) := by decide +kernel
def wp_M_chosen (a : Nat) (p0 : Int32) (A : ab_H) (Q : Int32 → ab_H → Prop) : Prop := if p0 < 0 then (Q ((-2) : Int32) A) else (wgI A (some a) 14 5 (fun x1 => if p0 < x1 then (wgR A (some a) 14 6 (fun r2 => wAI A r2 ((3 : Int32) + p0) (fun x3 => Q x3 A))) else (Q ((-2) : Int32) A)))
set_option maxRecDepth 100000 in
set_option maxHeartbeats 4000000 in
theorem sd_M_chosen {l : Launch} {G : mm_G} {h : mm_H} {A : ab_H} {a : Nat} {p0 : Int32} {Q : Int32 → ab_H → Prop} (hV : Vw G h A) (hw : wp_M_chosen a p0 A Q) : mm_S l G M_M_chosen [.ref a, .int p0] h 0 0 (wQI G Q) := by
  unfold wp_M_chosen at hw
  refine mm_start rfl (Nat.le_of_ble_eq_true rfl) ?_
  show mm_V l G M_M_chosen 0 0 0 [some (va_rf (some a)), some (.int p0)] [] h _
  refine mm_iload_n (pc' := 1) d_M_chosen_0 rfl rfl rfl ?_
  refine wr_if_lt hw (pc' := 4) d_M_chosen_1 rfl rfl (fun hw => ?_) (fun hw => ?_)
  · refine mm_bipush (v := (-2)) (pc' := 14) d_M_chosen_12 rfl (by decide) ?_
    refine mm_goto (tgt := 25) d_M_chosen_14 rfl ?_
    exact wr_iret hV d_M_chosen_25 rfl rfl hw
  · refine mm_iload_n (pc' := 5) d_M_chosen_4 rfl rfl rfl ?_
    refine wr_aload_n (some a) (pc' := 6) d_M_chosen_5 rfl rfl rfl ?_
    refine wr_getI hV hw (pc' := 9) d_M_chosen_6 rfl fl_M_269 (fun x1 hw => ?_)
    refine wr_icmp_lt hw (pc' := 12) d_M_chosen_9 rfl rfl (fun hw => ?_) (fun hw => ?_)
    · refine wr_aload_n (some a) (pc' := 18) d_M_chosen_17 rfl rfl rfl ?_
      refine wr_getR hV hw (pc' := 21) d_M_chosen_18 rfl fl_M_26 (fun r2 hw => ?_)
      refine mm_iconst (v := 3) (pc' := 22) d_M_chosen_21 rfl (by decide) ?_
      refine mm_iload_n (pc' := 23) d_M_chosen_22 rfl rfl rfl ?_
      refine mm_iadd (pc' := 24) d_M_chosen_23 rfl ?_
      refine wr_aldI hV hw (pc' := 25) d_M_chosen_24 rfl (fun x3 hw => ?_)
      exact wr_iret hV d_M_chosen_25 rfl rfl hw
    · refine mm_bipush (v := (-2)) (pc' := 14) d_M_chosen_12 rfl (by decide) ?_
      refine mm_goto (tgt := 25) d_M_chosen_14 rfl ?_
      exact wr_iret hV d_M_chosen_25 rfl rfl hw
theorem d_M_near_0 : decode prog_14_method_64_code 0 = .ok (.iload_n 1, 1) := by decide +kernel
theorem d_M_near_1 : decode prog_14_method_64_code 1 = .ok (.ifCond .lt 11, 3) := by decide +kernel
theorem d_M_near_4 : decode prog_14_method_64_code 4 = .ok (.iload_n 1, 1) := by decide +kernel
theorem d_M_near_5 : decode prog_14_method_64_code 5 = .ok (.aload_n 0, 1) := by decide +kernel
theorem d_M_near_6 : decode prog_14_method_64_code 6 = .ok (.getfield 269, 3) := by decide +kernel
theorem d_M_near_9 : decode prog_14_method_64_code 9 = .ok (.if_icmp .lt 5, 3) := by decide +kernel
theorem d_M_near_12 : decode prog_14_method_64_code 12 = .ok (.iconst (-1), 1) := by decide +kernel
theorem d_M_near_13 : decode prog_14_method_64_code 13 = .ok (.ireturn, 1) := by decide +kernel
theorem d_M_near_14 : decode prog_14_method_64_code 14 = .ok (.aload_n 0, 1) := by decide +kernel
theorem d_M_near_15 : decode prog_14_method_64_code 15 = .ok (.iconst 3, 1) := by decide +kernel
theorem d_M_near_16 : decode prog_14_method_64_code 16 = .ok (.iload_n 1, 1) := by decide +kernel
theorem d_M_near_17 : decode prog_14_method_64_code 17 = .ok (.iadd, 1) := by decide +kernel
theorem d_M_near_18 : decode prog_14_method_64_code 18 = .ok (.invokevirtual 275, 3) := by decide +kernel
theorem d_M_near_21 : decode prog_14_method_64_code 21 = .ok (.pop, 1) := by decide +kernel
theorem d_M_near_22 : decode prog_14_method_64_code 22 = .ok (.iconst (-1), 1) := by decide +kernel
theorem d_M_near_23 : decode prog_14_method_64_code 23 = .ok (.istore_n 2, 1) := by decide +kernel
theorem d_M_near_24 : decode prog_14_method_64_code 24 = .ok (.iconst 0, 1) := by decide +kernel
theorem d_M_near_25 : decode prog_14_method_64_code 25 = .ok (.istore_n 3, 1) := by decide +kernel
theorem d_M_near_26 : decode prog_14_method_64_code 26 = .ok (.iconst 0, 1) := by decide +kernel
theorem d_M_near_27 : decode prog_14_method_64_code 27 = .ok (.istore 4, 2) := by decide +kernel
theorem d_M_near_29 : decode prog_14_method_64_code 29 = .ok (.iload 4, 2) := by decide +kernel
theorem d_M_near_31 : decode prog_14_method_64_code 31 = .ok (.bipush 8, 2) := by decide +kernel
theorem d_M_near_33 : decode prog_14_method_64_code 33 = .ok (.if_icmp .ge 74, 3) := by decide +kernel
theorem d_M_near_36 : decode prog_14_method_64_code 36 = .ok (.aload_n 0, 1) := by decide +kernel
theorem d_M_near_37 : decode prog_14_method_64_code 37 = .ok (.getfield 50, 3) := by decide +kernel
theorem d_M_near_40 : decode prog_14_method_64_code 40 = .ok (.iload 4, 2) := by decide +kernel
theorem d_M_near_42 : decode prog_14_method_64_code 42 = .ok (.iaload, 1) := by decide +kernel
theorem d_M_near_43 : decode prog_14_method_64_code 43 = .ok (.ifCond .ge 8, 3) := by decide +kernel
theorem d_M_near_46 : decode prog_14_method_64_code 46 = .ok (.bipush 99, 2) := by decide +kernel
theorem d_M_near_48 : decode prog_14_method_64_code 48 = .ok (.goto 9, 3) := by decide +kernel
theorem d_M_near_51 : decode prog_14_method_64_code 51 = .ok (.aload_n 0, 1) := by decide +kernel
theorem d_M_near_52 : decode prog_14_method_64_code 52 = .ok (.iload 4, 2) := by decide +kernel
theorem d_M_near_54 : decode prog_14_method_64_code 54 = .ok (.invokevirtual 257, 3) := by decide +kernel
theorem d_M_near_57 : decode prog_14_method_64_code 57 = .ok (.istore 5, 2) := by decide +kernel
theorem d_M_near_59 : decode prog_14_method_64_code 59 = .ok (.aload_n 0, 1) := by decide +kernel
theorem d_M_near_60 : decode prog_14_method_64_code 60 = .ok (.getfield 50, 3) := by decide +kernel
theorem d_M_near_63 : decode prog_14_method_64_code 63 = .ok (.iload 4, 2) := by decide +kernel
theorem d_M_near_65 : decode prog_14_method_64_code 65 = .ok (.iaload, 1) := by decide +kernel
theorem d_M_near_66 : decode prog_14_method_64_code 66 = .ok (.ifCond .lt 35, 3) := by decide +kernel
theorem d_M_near_69 : decode prog_14_method_64_code 69 = .ok (.iload_n 2, 1) := by decide +kernel
theorem d_M_near_70 : decode prog_14_method_64_code 70 = .ok (.ifCond .lt 25, 3) := by decide +kernel
theorem d_M_near_73 : decode prog_14_method_64_code 73 = .ok (.iload 5, 2) := by decide +kernel
theorem d_M_near_75 : decode prog_14_method_64_code 75 = .ok (.iload_n 3, 1) := by decide +kernel
theorem d_M_near_76 : decode prog_14_method_64_code 76 = .ok (.if_icmp .lt 19, 3) := by decide +kernel
theorem d_M_near_79 : decode prog_14_method_64_code 79 = .ok (.iload 5, 2) := by decide +kernel
theorem d_M_near_81 : decode prog_14_method_64_code 81 = .ok (.iload_n 3, 1) := by decide +kernel
theorem d_M_near_82 : decode prog_14_method_64_code 82 = .ok (.if_icmp .ne 19, 3) := by decide +kernel
theorem d_M_near_85 : decode prog_14_method_64_code 85 = .ok (.aload_n 0, 1) := by decide +kernel
theorem d_M_near_86 : decode prog_14_method_64_code 86 = .ok (.iload 4, 2) := by decide +kernel
theorem d_M_near_88 : decode prog_14_method_64_code 88 = .ok (.iload_n 2, 1) := by decide +kernel
theorem d_M_near_89 : decode prog_14_method_64_code 89 = .ok (.invokevirtual 260, 3) := by decide +kernel
theorem d_M_near_92 : decode prog_14_method_64_code 92 = .ok (.ifCond .eq 9, 3) := by decide +kernel
theorem d_M_near_95 : decode prog_14_method_64_code 95 = .ok (.iload 4, 2) := by decide +kernel
theorem d_M_near_97 : decode prog_14_method_64_code 97 = .ok (.istore_n 2, 1) := by decide +kernel
theorem d_M_near_98 : decode prog_14_method_64_code 98 = .ok (.iload 5, 2) := by decide +kernel
theorem d_M_near_100 : decode prog_14_method_64_code 100 = .ok (.istore_n 3, 1) := by decide +kernel
theorem d_M_near_101 : decode prog_14_method_64_code 101 = .ok (.iinc 4 1, 3) := by decide +kernel
theorem d_M_near_104 : decode prog_14_method_64_code 104 = .ok (.goto (-75), 3) := by decide +kernel
theorem d_M_near_107 : decode prog_14_method_64_code 107 = .ok (.iload_n 2, 1) := by decide +kernel
theorem d_M_near_108 : decode prog_14_method_64_code 108 = .ok (.ifCond .ge 7, 3) := by decide +kernel
theorem d_M_near_111 : decode prog_14_method_64_code 111 = .ok (.iconst (-1), 1) := by decide +kernel
theorem d_M_near_112 : decode prog_14_method_64_code 112 = .ok (.goto 14, 3) := by decide +kernel
theorem d_M_near_115 : decode prog_14_method_64_code 115 = .ok (.bipush 100, 2) := by decide +kernel
theorem d_M_near_117 : decode prog_14_method_64_code 117 = .ok (.aload_n 0, 1) := by decide +kernel
theorem d_M_near_118 : decode prog_14_method_64_code 118 = .ok (.getfield 50, 3) := by decide +kernel
theorem d_M_near_121 : decode prog_14_method_64_code 121 = .ok (.iload_n 2, 1) := by decide +kernel
theorem d_M_near_122 : decode prog_14_method_64_code 122 = .ok (.iaload, 1) := by decide +kernel
theorem d_M_near_123 : decode prog_14_method_64_code 123 = .ok (.imul, 1) := by decide +kernel
theorem d_M_near_124 : decode prog_14_method_64_code 124 = .ok (.iload_n 3, 1) := by decide +kernel
theorem d_M_near_125 : decode prog_14_method_64_code 125 = .ok (.iadd, 1) := by decide +kernel
theorem d_M_near_126 : decode prog_14_method_64_code 126 = .ok (.ireturn, 1) := by decide +kernel
def wq_M_near_107 (a : Nat) (p0 : Int32) (Q : Int32 → ab_H → Prop)  (u2 : Int32) (u3 : Int32) (A : ab_H) : Prop := if 0 ≤ u2 then (wgR A (some a) 14 18 (fun r1 => wAI A r1 u2 (fun x2 => Q (((100 : Int32) * x2) + u3) A))) else (Q ((-1) : Int32) A)
set_option maxRecDepth 100000 in
set_option maxHeartbeats 4000000 in
theorem sq_M_near_107 {l : Launch} {G : mm_G} {a : Nat} {p0 : Int32} {Q : Int32 → ab_H → Prop}   : ∀ (u2 : Int32) (u3 : Int32) (A : ab_H) (h : mm_H), Vw G h A → wq_M_near_107 a p0 Q  u2 u3 A → mm_V l G M_M_near 0 0 107 [some (va_rf (some a)), some (.int p0), some (.int u2), some (.int u3), none, none] [] h (wQI G Q) := by
  intro u2 u3 A h hV hw
  unfold wq_M_near_107 at hw
  refine mm_iload_n (pc' := 108) d_M_near_107 rfl rfl rfl ?_
  refine wr_if_ge hw (pc' := 111) d_M_near_108 rfl rfl (fun hw => ?_) (fun hw => ?_)
  · refine mm_bipush (v := 100) (pc' := 117) d_M_near_115 rfl (by decide) ?_
    refine wr_aload_n (some a) (pc' := 118) d_M_near_117 rfl rfl rfl ?_
    refine wr_getR hV hw (pc' := 121) d_M_near_118 rfl fl_M_50 (fun r1 hw => ?_)
    refine mm_iload_n (pc' := 122) d_M_near_121 rfl rfl rfl ?_
    refine wr_aldI hV hw (pc' := 123) d_M_near_122 rfl (fun x2 hw => ?_)
    refine mm_imul (pc' := 124) d_M_near_123 rfl ?_
    refine mm_iload_n (pc' := 125) d_M_near_124 rfl rfl rfl ?_
    refine mm_iadd (pc' := 126) d_M_near_125 rfl ?_
    exact wr_iret hV d_M_near_126 rfl rfl hw
  · refine mm_iconst (v := (-1)) (pc' := 112) d_M_near_111 rfl (by decide) ?_
    refine mm_goto (tgt := 126) d_M_near_112 rfl ?_
    exact wr_iret hV d_M_near_126 rfl rfl hw
def wq_M_near_57 (a : Nat) (p0 : Int32) (Q : Int32 → ab_H → Prop) (k29 : Int32 → Int32 → Int32 → ab_H → Prop) (u2 : Int32) (u3 : Int32) (u4 : Int32) (s0 : Int32) (A : ab_H) : Prop := wgR A (some a) 14 18 (fun r3 => wAI A r3 u4 (fun x4 => if x4 < 0 then (k29 u2 u3 (u4 + 1) A) else (if u2 < 0 then (k29 u4 s0 (u4 + 1) A) else (if s0 < u3 then (k29 u4 s0 (u4 + 1) A) else (if s0 = u3 then (wC A (some a) 14 (fun b => wp_M_before b u4 u2 A (fun x5 A => if x5 = 0 then (k29 u2 u3 (u4 + 1) A) else (k29 u4 s0 (u4 + 1) A)))) else (k29 u2 u3 (u4 + 1) A))))))
set_option maxRecDepth 100000 in
set_option maxHeartbeats 4000000 in
theorem sq_M_near_57 {l : Launch} {G : mm_G} {a : Nat} {p0 : Int32} {Q : Int32 → ab_H → Prop} {k29 : Int32 → Int32 → Int32 → ab_H → Prop} (hk29 : ∀ (u2 : Int32) (u3 : Int32) (u4 : Int32) (A : ab_H) (h : mm_H), Vw G h A → k29 u2 u3 u4 A → mm_V l G M_M_near 0 0 29 [some (va_rf (some a)), some (.int p0), some (.int u2), some (.int u3), some (.int u4), none] [] h (wQI G Q)) : ∀ (u2 : Int32) (u3 : Int32) (u4 : Int32) (s0 : Int32) (A : ab_H) (h : mm_H), Vw G h A → wq_M_near_57 a p0 Q k29 u2 u3 u4 s0 A → mm_V l G M_M_near 0 0 57 [some (va_rf (some a)), some (.int p0), some (.int u2), some (.int u3), some (.int u4), none] [.int s0] h (wQI G Q) := by
  intro u2 u3 u4 s0 A h hV hw
  unfold wq_M_near_57 at hw
  refine mm_ist5 (pc' := 59) d_M_near_57 rfl rfl (Nat.le_of_ble_eq_true rfl) ?_
  refine wr_aload_n (some a) (pc' := 60) d_M_near_59 rfl rfl rfl ?_
  refine wr_getR hV hw (pc' := 63) d_M_near_60 rfl fl_M_50 (fun r3 hw => ?_)
  refine mm_iload (pc' := 65) d_M_near_63 rfl rfl ?_
  refine wr_aldI hV hw (pc' := 66) d_M_near_65 rfl (fun x4 hw => ?_)
  refine wr_if_lt hw (pc' := 69) d_M_near_66 rfl rfl (fun hw => ?_) (fun hw => ?_)
  · refine mm_iinc4 (v := (u4 + 1)) (pc' := 104) d_M_near_101 rfl rfl rfl (Nat.le_of_ble_eq_true rfl) ?_
    refine mm_goto (tgt := 29) d_M_near_104 rfl ?_
    exact mm_drop (mm_le.s (mm_le.s (mm_le.s (mm_le.s (mm_le.s (mm_le.n mm_le.e)))))) (hk29 _ _ _ _ _ hV hw)
  · refine mm_iload_n (pc' := 70) d_M_near_69 rfl rfl rfl ?_
    refine wr_if_lt hw (pc' := 73) d_M_near_70 rfl rfl (fun hw => ?_) (fun hw => ?_)
    · refine mm_iload (pc' := 97) d_M_near_95 rfl rfl ?_
      refine mm_ist2 (pc' := 98) d_M_near_97 rfl rfl (Nat.le_of_ble_eq_true rfl) ?_
      refine mm_iload (pc' := 100) d_M_near_98 rfl rfl ?_
      refine mm_ist3 (pc' := 101) d_M_near_100 rfl rfl (Nat.le_of_ble_eq_true rfl) ?_
      refine mm_iinc4 (v := (u4 + 1)) (pc' := 104) d_M_near_101 rfl rfl rfl (Nat.le_of_ble_eq_true rfl) ?_
      refine mm_goto (tgt := 29) d_M_near_104 rfl ?_
      exact mm_drop (mm_le.s (mm_le.s (mm_le.s (mm_le.s (mm_le.s (mm_le.n mm_le.e)))))) (hk29 _ _ _ _ _ hV hw)
    · refine mm_iload (pc' := 75) d_M_near_73 rfl rfl ?_
      refine mm_iload_n (pc' := 76) d_M_near_75 rfl rfl rfl ?_
      refine wr_icmp_lt hw (pc' := 79) d_M_near_76 rfl rfl (fun hw => ?_) (fun hw => ?_)
      · refine mm_iload (pc' := 97) d_M_near_95 rfl rfl ?_
        refine mm_ist2 (pc' := 98) d_M_near_97 rfl rfl (Nat.le_of_ble_eq_true rfl) ?_
        refine mm_iload (pc' := 100) d_M_near_98 rfl rfl ?_
        refine mm_ist3 (pc' := 101) d_M_near_100 rfl rfl (Nat.le_of_ble_eq_true rfl) ?_
        refine mm_iinc4 (v := (u4 + 1)) (pc' := 104) d_M_near_101 rfl rfl rfl (Nat.le_of_ble_eq_true rfl) ?_
        refine mm_goto (tgt := 29) d_M_near_104 rfl ?_
        exact mm_drop (mm_le.s (mm_le.s (mm_le.s (mm_le.s (mm_le.s (mm_le.n mm_le.e)))))) (hk29 _ _ _ _ _ hV hw)
      · refine mm_iload (pc' := 81) d_M_near_79 rfl rfl ?_
        refine mm_iload_n (pc' := 82) d_M_near_81 rfl rfl rfl ?_
        refine wr_icmp_ne hw (pc' := 85) d_M_near_82 rfl rfl (fun hw => ?_) (fun hw => ?_)
        · refine mm_iinc4 (v := (u4 + 1)) (pc' := 104) d_M_near_101 rfl rfl rfl (Nat.le_of_ble_eq_true rfl) ?_
          refine mm_goto (tgt := 29) d_M_near_104 rfl ?_
          exact mm_drop (mm_le.s (mm_le.s (mm_le.s (mm_le.s (mm_le.s (mm_le.n mm_le.e)))))) (hk29 _ _ _ _ _ hV hw)
        · refine wr_aload_n (some a) (pc' := 86) d_M_near_85 rfl rfl rfl ?_
          refine mm_iload (pc' := 88) d_M_near_86 rfl rfl ?_
          refine mm_iload_n (pc' := 89) d_M_near_88 rfl rfl rfl ?_
          refine wr_cVI (pc' := 92) (as := [.int u4, .int u2]) (st := []) d_M_near_89 rfl cs_M_260 rfl (W := fun b Q' => wp_M_before b u4 u2 A Q') hV hw (fun b Q' hw => sd_M_before hV hw) rfl rfl (Nat.le_of_ble_eq_true rfl) (Nat.le_of_ble_eq_true rfl) (fun x5 h A hV hw => ?_)
          refine wr_if_eq hw (pc' := 95) d_M_near_92 rfl rfl (fun hw => ?_) (fun hw => ?_)
          · refine mm_iinc4 (v := (u4 + 1)) (pc' := 104) d_M_near_101 rfl rfl rfl (Nat.le_of_ble_eq_true rfl) ?_
            refine mm_goto (tgt := 29) d_M_near_104 rfl ?_
            exact mm_drop (mm_le.s (mm_le.s (mm_le.s (mm_le.s (mm_le.s (mm_le.n mm_le.e)))))) (hk29 _ _ _ _ _ hV hw)
          · refine mm_iload (pc' := 97) d_M_near_95 rfl rfl ?_
            refine mm_ist2 (pc' := 98) d_M_near_97 rfl rfl (Nat.le_of_ble_eq_true rfl) ?_
            refine mm_iload (pc' := 100) d_M_near_98 rfl rfl ?_
            refine mm_ist3 (pc' := 101) d_M_near_100 rfl rfl (Nat.le_of_ble_eq_true rfl) ?_
            refine mm_iinc4 (v := (u4 + 1)) (pc' := 104) d_M_near_101 rfl rfl rfl (Nat.le_of_ble_eq_true rfl) ?_
            refine mm_goto (tgt := 29) d_M_near_104 rfl ?_
            exact mm_drop (mm_le.s (mm_le.s (mm_le.s (mm_le.s (mm_le.s (mm_le.n mm_le.e)))))) (hk29 _ _ _ _ _ hV hw)
def wb_M_near_29 (a : Nat) (p0 : Int32) (Q : Int32 → ab_H → Prop)  (k29 : Int32 → Int32 → Int32 → ab_H → Prop) (u2 : Int32) (u3 : Int32) (u4 : Int32) (A : ab_H) : Prop := if (8 : Int32) ≤ u4 then (wq_M_near_107 a p0 Q u2 u3 A) else (wgR A (some a) 14 18 (fun r6 => wAI A r6 u4 (fun x7 => if 0 ≤ x7 then (wC A (some a) 14 (fun b => wp_M_failing b u4 A (fun x8 A => wq_M_near_57 a p0 Q k29 u2 u3 u4 x8 A))) else (wq_M_near_57 a p0 Q k29 u2 u3 u4 (99 : Int32) A))))
def wq_M_near_29 (a : Nat) (p0 : Int32) (Q : Int32 → ab_H → Prop)  : Nat → Int32 → Int32 → Int32 → ab_H → Prop
  | 0 => fun _ _ _ _ => False
  | n + 1 => wb_M_near_29 a p0 Q  (wq_M_near_29 a p0 Q  n)
set_option maxRecDepth 100000 in
set_option maxHeartbeats 4000000 in
theorem sq_M_near_29 {l : Launch} {G : mm_G} {a : Nat} {p0 : Int32} {Q : Int32 → ab_H → Prop}   : ∀ (n : Nat) (u2 : Int32) (u3 : Int32) (u4 : Int32) (A : ab_H) (h : mm_H), Vw G h A → wq_M_near_29 a p0 Q  n u2 u3 u4 A → mm_V l G M_M_near 0 0 29 [some (va_rf (some a)), some (.int p0), some (.int u2), some (.int u3), some (.int u4), none] [] h (wQI G Q) := by
  intro n
  induction n with
  | zero =>
    intro u2 u3 u4 A h hV hw
    exact absurd hw id
  | succ n hk29 =>
    intro u2 u3 u4 A h hV hw
    have hw : wb_M_near_29 a p0 Q  (wq_M_near_29 a p0 Q  n) u2 u3 u4 A := hw
    unfold wb_M_near_29 at hw
    refine mm_iload (pc' := 31) d_M_near_29 rfl rfl ?_
    refine mm_bipush (v := 8) (pc' := 33) d_M_near_31 rfl (by decide) ?_
    refine wr_icmp_ge hw (pc' := 36) d_M_near_33 rfl rfl (fun hw => ?_) (fun hw => ?_)
    · exact mm_drop (mm_le.s (mm_le.s (mm_le.s (mm_le.s (mm_le.n (mm_le.n mm_le.e)))))) (sq_M_near_107  _ _ _ _ hV hw)
    · refine wr_aload_n (some a) (pc' := 37) d_M_near_36 rfl rfl rfl ?_
      refine wr_getR hV hw (pc' := 40) d_M_near_37 rfl fl_M_50 (fun r6 hw => ?_)
      refine mm_iload (pc' := 42) d_M_near_40 rfl rfl ?_
      refine wr_aldI hV hw (pc' := 43) d_M_near_42 rfl (fun x7 hw => ?_)
      refine wr_if_ge hw (pc' := 46) d_M_near_43 rfl rfl (fun hw => ?_) (fun hw => ?_)
      · refine wr_aload_n (some a) (pc' := 52) d_M_near_51 rfl rfl rfl ?_
        refine mm_iload (pc' := 54) d_M_near_52 rfl rfl ?_
        refine wr_cVI (pc' := 57) (as := [.int u4]) (st := []) d_M_near_54 rfl cs_M_257 rfl (W := fun b Q' => wp_M_failing b u4 A Q') hV hw (fun b Q' hw => sd_M_failing hV hw) rfl rfl (Nat.le_of_ble_eq_true rfl) (Nat.le_of_ble_eq_true rfl) (fun x8 h A hV hw => ?_)
        exact mm_drop (mm_le.s (mm_le.s (mm_le.s (mm_le.s (mm_le.s (mm_le.n mm_le.e)))))) (sq_M_near_57 hk29 _ _ _ _ _ _ hV hw)
      · refine mm_bipush (v := 99) (pc' := 48) d_M_near_46 rfl (by decide) ?_
        refine mm_goto (tgt := 57) d_M_near_48 rfl ?_
        exact mm_drop (mm_le.s (mm_le.s (mm_le.s (mm_le.s (mm_le.s (mm_le.n mm_le.e)))))) (sq_M_near_57 hk29 _ _ _ _ _ _ hV hw)
def wp_M_near (a : Nat) (p0 : Int32) (A : ab_H) (Q : Int32 → ab_H → Prop) : Prop := if p0 < 0 then (Q ((-1) : Int32) A) else (wgI A (some a) 14 5 (fun x9 => if p0 < x9 then (wC A (some a) 14 (fun b => wp_M_judge b ((3 : Int32) + p0) A (fun x10 A => ∃ n, wq_M_near_29 a p0 Q n ((-1) : Int32) (0 : Int32) (0 : Int32) A))) else (Q ((-1) : Int32) A)))
set_option maxRecDepth 100000 in
set_option maxHeartbeats 4000000 in
theorem sd_M_near {l : Launch} {G : mm_G} {h : mm_H} {A : ab_H} {a : Nat} {p0 : Int32} {Q : Int32 → ab_H → Prop} (hV : Vw G h A) (hw : wp_M_near a p0 A Q) : mm_S l G M_M_near [.ref a, .int p0] h 0 0 (wQI G Q) := by
  unfold wp_M_near at hw
  refine mm_start rfl (Nat.le_of_ble_eq_true rfl) ?_
  show mm_V l G M_M_near 0 0 0 [some (va_rf (some a)), some (.int p0), none, none, none, none] [] h _
  refine mm_iload_n (pc' := 1) d_M_near_0 rfl rfl rfl ?_
  refine wr_if_lt hw (pc' := 4) d_M_near_1 rfl rfl (fun hw => ?_) (fun hw => ?_)
  · refine mm_iconst (v := (-1)) (pc' := 13) d_M_near_12 rfl (by decide) ?_
    exact wr_iret hV d_M_near_13 rfl rfl hw
  · refine mm_iload_n (pc' := 5) d_M_near_4 rfl rfl rfl ?_
    refine wr_aload_n (some a) (pc' := 6) d_M_near_5 rfl rfl rfl ?_
    refine wr_getI hV hw (pc' := 9) d_M_near_6 rfl fl_M_269 (fun x9 hw => ?_)
    refine wr_icmp_lt hw (pc' := 12) d_M_near_9 rfl rfl (fun hw => ?_) (fun hw => ?_)
    · refine wr_aload_n (some a) (pc' := 15) d_M_near_14 rfl rfl rfl ?_
      refine mm_iconst (v := 3) (pc' := 16) d_M_near_15 rfl (by decide) ?_
      refine mm_iload_n (pc' := 17) d_M_near_16 rfl rfl rfl ?_
      refine mm_iadd (pc' := 18) d_M_near_17 rfl ?_
      refine wr_cVI (pc' := 21) (as := [.int ((3 : Int32) + p0)]) (st := []) d_M_near_18 rfl cs_M_275 rfl (W := fun b Q' => wp_M_judge b ((3 : Int32) + p0) A Q') hV hw (fun b Q' hw => sd_M_judge hV hw) rfl rfl (Nat.le_of_ble_eq_true rfl) (Nat.le_of_ble_eq_true rfl) (fun x10 h A hV hw => ?_)
      refine mm_pop (pc' := 22) d_M_near_21 rfl rfl ?_
      refine mm_iconst (v := (-1)) (pc' := 23) d_M_near_22 rfl (by decide) ?_
      refine mm_ist2 (pc' := 24) d_M_near_23 rfl rfl (Nat.le_of_ble_eq_true rfl) ?_
      refine mm_iconst (v := 0) (pc' := 25) d_M_near_24 rfl (by decide) ?_
      refine mm_ist3 (pc' := 26) d_M_near_25 rfl rfl (Nat.le_of_ble_eq_true rfl) ?_
      refine mm_iconst (v := 0) (pc' := 27) d_M_near_26 rfl (by decide) ?_
      refine mm_ist4 (pc' := 29) d_M_near_27 rfl rfl (Nat.le_of_ble_eq_true rfl) ?_
      obtain ⟨n, hw⟩ := hw
      exact mm_drop (mm_le.s (mm_le.s (mm_le.s (mm_le.s (mm_le.s (mm_le.n mm_le.e)))))) (sq_M_near_29  n _ _ _ _ _ hV hw)
    · refine mm_iconst (v := (-1)) (pc' := 13) d_M_near_12 rfl (by decide) ?_
      exact wr_iret hV d_M_near_13 rfl rfl hw
theorem d_M_state_0 : decode prog_14_method_65_code 0 = .ok (.iload_n 1, 1) := by decide +kernel
theorem d_M_state_1 : decode prog_14_method_65_code 1 = .ok (.ifCond .lt 8, 3) := by decide +kernel
theorem d_M_state_4 : decode prog_14_method_65_code 4 = .ok (.iload_n 1, 1) := by decide +kernel
theorem d_M_state_5 : decode prog_14_method_65_code 5 = .ok (.iconst 2, 1) := by decide +kernel
theorem d_M_state_6 : decode prog_14_method_65_code 6 = .ok (.if_icmp .le 7, 3) := by decide +kernel
theorem d_M_state_9 : decode prog_14_method_65_code 9 = .ok (.iconst (-1), 1) := by decide +kernel
theorem d_M_state_10 : decode prog_14_method_65_code 10 = .ok (.goto 9, 3) := by decide +kernel
theorem d_M_state_13 : decode prog_14_method_65_code 13 = .ok (.aload_n 0, 1) := by decide +kernel
theorem d_M_state_14 : decode prog_14_method_65_code 14 = .ok (.getfield 29, 3) := by decide +kernel
theorem d_M_state_17 : decode prog_14_method_65_code 17 = .ok (.iload_n 1, 1) := by decide +kernel
theorem d_M_state_18 : decode prog_14_method_65_code 18 = .ok (.iaload, 1) := by decide +kernel
theorem d_M_state_19 : decode prog_14_method_65_code 19 = .ok (.ireturn, 1) := by decide +kernel
def wp_M_state (a : Nat) (p0 : Int32) (A : ab_H) (Q : Int32 → ab_H → Prop) : Prop := if p0 < 0 then (Q ((-1) : Int32) A) else (if p0 ≤ (2 : Int32) then (wgR A (some a) 14 8 (fun r1 => wAI A r1 p0 (fun x2 => Q x2 A))) else (Q ((-1) : Int32) A))
set_option maxRecDepth 100000 in
set_option maxHeartbeats 4000000 in
theorem sd_M_state {l : Launch} {G : mm_G} {h : mm_H} {A : ab_H} {a : Nat} {p0 : Int32} {Q : Int32 → ab_H → Prop} (hV : Vw G h A) (hw : wp_M_state a p0 A Q) : mm_S l G M_M_state [.ref a, .int p0] h 0 0 (wQI G Q) := by
  unfold wp_M_state at hw
  refine mm_start rfl (Nat.le_of_ble_eq_true rfl) ?_
  show mm_V l G M_M_state 0 0 0 [some (va_rf (some a)), some (.int p0)] [] h _
  refine mm_iload_n (pc' := 1) d_M_state_0 rfl rfl rfl ?_
  refine wr_if_lt hw (pc' := 4) d_M_state_1 rfl rfl (fun hw => ?_) (fun hw => ?_)
  · refine mm_iconst (v := (-1)) (pc' := 10) d_M_state_9 rfl (by decide) ?_
    refine mm_goto (tgt := 19) d_M_state_10 rfl ?_
    exact wr_iret hV d_M_state_19 rfl rfl hw
  · refine mm_iload_n (pc' := 5) d_M_state_4 rfl rfl rfl ?_
    refine mm_iconst (v := 2) (pc' := 6) d_M_state_5 rfl (by decide) ?_
    refine wr_icmp_le hw (pc' := 9) d_M_state_6 rfl rfl (fun hw => ?_) (fun hw => ?_)
    · refine wr_aload_n (some a) (pc' := 14) d_M_state_13 rfl rfl rfl ?_
      refine wr_getR hV hw (pc' := 17) d_M_state_14 rfl fl_M_29 (fun r1 hw => ?_)
      refine mm_iload_n (pc' := 18) d_M_state_17 rfl rfl rfl ?_
      refine wr_aldI hV hw (pc' := 19) d_M_state_18 rfl (fun x2 hw => ?_)
      exact wr_iret hV d_M_state_19 rfl rfl hw
    · refine mm_iconst (v := (-1)) (pc' := 10) d_M_state_9 rfl (by decide) ?_
      refine mm_goto (tgt := 19) d_M_state_10 rfl ?_
      exact wr_iret hV d_M_state_19 rfl rfl hw
theorem d_M_served_0 : decode prog_14_method_66_code 0 = .ok (.aload_n 0, 1) := by decide +kernel
theorem d_M_served_1 : decode prog_14_method_66_code 1 = .ok (.getfield 242, 3) := by decide +kernel
theorem d_M_served_4 : decode prog_14_method_66_code 4 = .ok (.ireturn, 1) := by decide +kernel
def wp_M_served (a : Nat) (A : ab_H) (Q : Int32 → ab_H → Prop) : Prop := wgI A (some a) 14 7 (fun x1 => Q x1 A)
set_option maxRecDepth 100000 in
set_option maxHeartbeats 4000000 in
theorem sd_M_served {l : Launch} {G : mm_G} {h : mm_H} {A : ab_H} {a : Nat} {Q : Int32 → ab_H → Prop} (hV : Vw G h A) (hw : wp_M_served a A Q) : mm_S l G M_M_served [.ref a] h 0 0 (wQI G Q) := by
  unfold wp_M_served at hw
  refine mm_start rfl (Nat.le_of_ble_eq_true rfl) ?_
  show mm_V l G M_M_served 0 0 0 [some (va_rf (some a))] [] h _
  refine wr_aload_n (some a) (pc' := 1) d_M_served_0 rfl rfl rfl ?_
  refine wr_getI hV hw (pc' := 4) d_M_served_1 rfl fl_M_242 (fun x1 hw => ?_)
  exact wr_iret hV d_M_served_4 rfl rfl hw
