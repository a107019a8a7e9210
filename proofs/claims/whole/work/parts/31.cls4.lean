theorem d_H_of_0 : decode prog_3_method_2_code 0 = .ok (.iload_n 0, 1) := by decide +kernel
theorem d_H_of_1 : decode prog_3_method_2_code 1 = .ok (.ifCond .lt 17, 3) := by decide +kernel
theorem d_H_of_4 : decode prog_3_method_2_code 4 = .ok (.iload_n 0, 1) := by decide +kernel
theorem d_H_of_5 : decode prog_3_method_2_code 5 = .ok (.iconst 4, 1) := by decide +kernel
theorem d_H_of_6 : decode prog_3_method_2_code 6 = .ok (.if_icmp .gt 12, 3) := by decide +kernel
theorem d_H_of_9 : decode prog_3_method_2_code 9 = .ok (.iload_n 1, 1) := by decide +kernel
theorem d_H_of_10 : decode prog_3_method_2_code 10 = .ok (.ifCond .lt 8, 3) := by decide +kernel
theorem d_H_of_13 : decode prog_3_method_2_code 13 = .ok (.iload_n 1, 1) := by decide +kernel
theorem d_H_of_14 : decode prog_3_method_2_code 14 = .ok (.iconst 4, 1) := by decide +kernel
theorem d_H_of_15 : decode prog_3_method_2_code 15 = .ok (.if_icmp .le 5, 3) := by decide +kernel
theorem d_H_of_18 : decode prog_3_method_2_code 18 = .ok (.aconst_null, 1) := by decide +kernel
theorem d_H_of_19 : decode prog_3_method_2_code 19 = .ok (.areturn, 1) := by decide +kernel
theorem d_H_of_20 : decode prog_3_method_2_code 20 = .ok (.iload_n 0, 1) := by decide +kernel
theorem d_H_of_21 : decode prog_3_method_2_code 21 = .ok (.iconst 2, 1) := by decide +kernel
theorem d_H_of_22 : decode prog_3_method_2_code 22 = .ok (.if_icmp .eq 8, 3) := by decide +kernel
theorem d_H_of_25 : decode prog_3_method_2_code 25 = .ok (.iload_n 0, 1) := by decide +kernel
theorem d_H_of_26 : decode prog_3_method_2_code 26 = .ok (.iconst 3, 1) := by decide +kernel
theorem d_H_of_27 : decode prog_3_method_2_code 27 = .ok (.if_icmp .ne 7, 3) := by decide +kernel
theorem d_H_of_30 : decode prog_3_method_2_code 30 = .ok (.iconst 1, 1) := by decide +kernel
theorem d_H_of_31 : decode prog_3_method_2_code 31 = .ok (.goto 4, 3) := by decide +kernel
theorem d_H_of_34 : decode prog_3_method_2_code 34 = .ok (.iconst 0, 1) := by decide +kernel
theorem d_H_of_35 : decode prog_3_method_2_code 35 = .ok (.istore_n 3, 1) := by decide +kernel
theorem d_H_of_36 : decode prog_3_method_2_code 36 = .ok (.iload_n 1, 1) := by decide +kernel
theorem d_H_of_37 : decode prog_3_method_2_code 37 = .ok (.iconst 3, 1) := by decide +kernel
theorem d_H_of_38 : decode prog_3_method_2_code 38 = .ok (.if_icmp .eq 12, 3) := by decide +kernel
theorem d_H_of_41 : decode prog_3_method_2_code 41 = .ok (.iload_n 1, 1) := by decide +kernel
theorem d_H_of_42 : decode prog_3_method_2_code 42 = .ok (.iconst 4, 1) := by decide +kernel
theorem d_H_of_43 : decode prog_3_method_2_code 43 = .ok (.if_icmp .eq 7, 3) := by decide +kernel
theorem d_H_of_46 : decode prog_3_method_2_code 46 = .ok (.iconst 1, 1) := by decide +kernel
theorem d_H_of_47 : decode prog_3_method_2_code 47 = .ok (.goto 4, 3) := by decide +kernel
theorem d_H_of_50 : decode prog_3_method_2_code 50 = .ok (.iconst 0, 1) := by decide +kernel
theorem d_H_of_51 : decode prog_3_method_2_code 51 = .ok (.istore 4, 2) := by decide +kernel
theorem d_H_of_53 : decode prog_3_method_2_code 53 = .ok (.iload_n 3, 1) := by decide +kernel
theorem d_H_of_54 : decode prog_3_method_2_code 54 = .ok (.ifCond .ne 21, 3) := by decide +kernel
theorem d_H_of_57 : decode prog_3_method_2_code 57 = .ok (.iload 4, 2) := by decide +kernel
theorem d_H_of_59 : decode prog_3_method_2_code 59 = .ok (.ifCond .eq 14, 3) := by decide +kernel
theorem d_H_of_62 : decode prog_3_method_2_code 62 = .ok (.iload_n 0, 1) := by decide +kernel
theorem d_H_of_63 : decode prog_3_method_2_code 63 = .ok (.iload_n 1, 1) := by decide +kernel
theorem d_H_of_64 : decode prog_3_method_2_code 64 = .ok (.ldc 29, 2) := by decide +kernel
theorem d_H_of_66 : decode prog_3_method_2_code 66 = .ok (.aload_n 2, 1) := by decide +kernel
theorem d_H_of_67 : decode prog_3_method_2_code 67 = .ok (.invokestatic 31, 3) := by decide +kernel
theorem d_H_of_70 : decode prog_3_method_2_code 70 = .ok (.goto 4, 3) := by decide +kernel
theorem d_H_of_73 : decode prog_3_method_2_code 73 = .ok (.aconst_null, 1) := by decide +kernel
theorem d_H_of_74 : decode prog_3_method_2_code 74 = .ok (.areturn, 1) := by decide +kernel
theorem d_H_of_75 : decode prog_3_method_2_code 75 = .ok (.aload_n 2, 1) := by decide +kernel
theorem d_H_of_76 : decode prog_3_method_2_code 76 = .ok (.bipush 32, 2) := by decide +kernel
theorem d_H_of_78 : decode prog_3_method_2_code 78 = .ok (.invokevirtual 35, 3) := by decide +kernel
theorem d_H_of_81 : decode prog_3_method_2_code 81 = .ok (.istore 5, 2) := by decide +kernel
theorem d_H_of_83 : decode prog_3_method_2_code 83 = .ok (.aload_n 2, 1) := by decide +kernel
theorem d_H_of_84 : decode prog_3_method_2_code 84 = .ok (.invokevirtual 41, 3) := by decide +kernel
theorem d_H_of_87 : decode prog_3_method_2_code 87 = .ok (.ifCond .ne 23, 3) := by decide +kernel
theorem d_H_of_90 : decode prog_3_method_2_code 90 = .ok (.iload 5, 2) := by decide +kernel
theorem d_H_of_92 : decode prog_3_method_2_code 92 = .ok (.ifCond .eq 18, 3) := by decide +kernel
theorem d_H_of_95 : decode prog_3_method_2_code 95 = .ok (.iload 4, 2) := by decide +kernel
theorem d_H_of_97 : decode prog_3_method_2_code 97 = .ok (.iload 5, 2) := by decide +kernel
theorem d_H_of_99 : decode prog_3_method_2_code 99 = .ok (.ifCond .le 7, 3) := by decide +kernel
theorem d_H_of_102 : decode prog_3_method_2_code 102 = .ok (.iconst 1, 1) := by decide +kernel
theorem d_H_of_103 : decode prog_3_method_2_code 103 = .ok (.goto 4, 3) := by decide +kernel
theorem d_H_of_106 : decode prog_3_method_2_code 106 = .ok (.iconst 0, 1) := by decide +kernel
theorem d_H_of_107 : decode prog_3_method_2_code 107 = .ok (.if_icmp .eq 5, 3) := by decide +kernel
theorem d_H_of_110 : decode prog_3_method_2_code 110 = .ok (.aconst_null, 1) := by decide +kernel
theorem d_H_of_111 : decode prog_3_method_2_code 111 = .ok (.areturn, 1) := by decide +kernel
theorem d_H_of_112 : decode prog_3_method_2_code 112 = .ok (.iload 4, 2) := by decide +kernel
theorem d_H_of_114 : decode prog_3_method_2_code 114 = .ok (.ifCond .eq 13, 3) := by decide +kernel
theorem d_H_of_117 : decode prog_3_method_2_code 117 = .ok (.aload_n 2, 1) := by decide +kernel
theorem d_H_of_118 : decode prog_3_method_2_code 118 = .ok (.iconst 0, 1) := by decide +kernel
theorem d_H_of_119 : decode prog_3_method_2_code 119 = .ok (.iload 5, 2) := by decide +kernel
theorem d_H_of_121 : decode prog_3_method_2_code 121 = .ok (.invokevirtual 45, 3) := by decide +kernel
theorem d_H_of_124 : decode prog_3_method_2_code 124 = .ok (.goto 4, 3) := by decide +kernel
theorem d_H_of_127 : decode prog_3_method_2_code 127 = .ok (.aload_n 2, 1) := by decide +kernel
theorem d_H_of_128 : decode prog_3_method_2_code 128 = .ok (.astore 6, 2) := by decide +kernel
theorem d_H_of_130 : decode prog_3_method_2_code 130 = .ok (.iload 4, 2) := by decide +kernel
theorem d_H_of_132 : decode prog_3_method_2_code 132 = .ok (.ifCond .eq 14, 3) := by decide +kernel
theorem d_H_of_135 : decode prog_3_method_2_code 135 = .ok (.aload_n 2, 1) := by decide +kernel
theorem d_H_of_136 : decode prog_3_method_2_code 136 = .ok (.iload 5, 2) := by decide +kernel
theorem d_H_of_138 : decode prog_3_method_2_code 138 = .ok (.iconst 1, 1) := by decide +kernel
theorem d_H_of_139 : decode prog_3_method_2_code 139 = .ok (.iadd, 1) := by decide +kernel
theorem d_H_of_140 : decode prog_3_method_2_code 140 = .ok (.invokevirtual 49, 3) := by decide +kernel
theorem d_H_of_143 : decode prog_3_method_2_code 143 = .ok (.goto 5, 3) := by decide +kernel
theorem d_H_of_146 : decode prog_3_method_2_code 146 = .ok (.ldc 29, 2) := by decide +kernel
theorem d_H_of_148 : decode prog_3_method_2_code 148 = .ok (.astore 7, 2) := by decide +kernel
theorem d_H_of_150 : decode prog_3_method_2_code 150 = .ok (.iload_n 0, 1) := by decide +kernel
theorem d_H_of_151 : decode prog_3_method_2_code 151 = .ok (.iload_n 1, 1) := by decide +kernel
theorem d_H_of_152 : decode prog_3_method_2_code 152 = .ok (.iload_n 0, 1) := by decide +kernel
theorem d_H_of_153 : decode prog_3_method_2_code 153 = .ok (.iconst 3, 1) := by decide +kernel
theorem d_H_of_154 : decode prog_3_method_2_code 154 = .ok (.if_icmp .ne 11, 3) := by decide +kernel
theorem d_H_of_157 : decode prog_3_method_2_code 157 = .ok (.aload 6, 2) := by decide +kernel
theorem d_H_of_159 : decode prog_3_method_2_code 159 = .ok (.invokestatic 52, 3) := by decide +kernel
theorem d_H_of_162 : decode prog_3_method_2_code 162 = .ok (.goto 5, 3) := by decide +kernel
theorem d_H_of_165 : decode prog_3_method_2_code 165 = .ok (.aload 6, 2) := by decide +kernel
theorem d_H_of_167 : decode prog_3_method_2_code 167 = .ok (.aload 7, 2) := by decide +kernel
theorem d_H_of_169 : decode prog_3_method_2_code 169 = .ok (.invokestatic 31, 3) := by decide +kernel
theorem d_H_of_172 : decode prog_3_method_2_code 172 = .ok (.areturn, 1) := by decide +kernel
def wq_H_of_167 (p0 : Int32) (p1 : Int32) (p2 : Option Nat) (Q : Option Nat → ab_H → Prop)  (u7 : Option Nat) (s0 : Int32) (s1 : Int32) (s2 : Option Nat) (A : ab_H) (kc ks : Nat) : Prop := wX kc ks (wp_H_withText s0 s1 s2 u7 A) (fun r1 A kc ks => Q r1 A)
set_option maxRecDepth 100000 in
set_option maxHeartbeats 4000000 in
theorem sq_H_of_167 {l : Launch} {G : mm_G} {p0 : Int32} {p1 : Int32} {p2 : Option Nat} {Q : Option Nat → ab_H → Prop}   : ∀ (u7 : Option Nat) (s0 : Int32) (s1 : Int32) (s2 : Option Nat) (A : ab_H) (kc ks : Nat) (h : mm_H), Vw G h A → wq_H_of_167 p0 p1 p2 Q  u7 s0 s1 s2 A kc ks → mm_V l G M_H_of kc ks 167 [some (.int p0), some (.int p1), some (va_rf p2), none, none, none, none, some (va_rf u7)] [va_rf s2, .int s1, .int s0] h (wQR G Q) := by
  intro u7 s0 s1 s2 A kc ks h hV hw
  unfold wq_H_of_167 at hw
  refine wr_aload u7 (pc' := 169) d_H_of_167 rfl rfl ?_
  refine wr_cSRx (pc' := 172) (as := [.int s0, .int s1, va_rf s2, va_rf u7]) (st := []) d_H_of_169 rfl cs_H_31 (W := fun c s Q' => wp_H_withText s0 s1 s2 u7 A c s Q') hw (fun c s Q' hw => sd_H_withText hV hw) rfl rfl (Nat.le_of_ble_eq_true rfl) (Nat.le_of_ble_eq_true rfl) (fun r1 h A kc ks hV hw => ?_)
  exact wr_aret hV d_H_of_172 rfl (by first | exact Or.inl ⟨_, rfl⟩ | exact Or.inr ⟨_, rfl⟩) hw
def wq_H_of_148 (p0 : Int32) (p1 : Int32) (p2 : Option Nat) (Q : Option Nat → ab_H → Prop)  (u6 : Option Nat) (s0 : Option Nat) (A : ab_H) (kc ks : Nat) : Prop := if p0 = (3 : Int32) then (wX kc ks (wp_X_small u6 A) (fun r2 A kc ks => wq_H_of_167 p0 p1 p2 Q s0 p0 p1 r2 A kc ks)) else (wq_H_of_167 p0 p1 p2 Q s0 p0 p1 u6 A kc ks)
set_option maxRecDepth 100000 in
set_option maxHeartbeats 4000000 in
theorem sq_H_of_148 {l : Launch} {G : mm_G} {p0 : Int32} {p1 : Int32} {p2 : Option Nat} {Q : Option Nat → ab_H → Prop}   : ∀ (u6 : Option Nat) (s0 : Option Nat) (A : ab_H) (kc ks : Nat) (h : mm_H), Vw G h A → wq_H_of_148 p0 p1 p2 Q  u6 s0 A kc ks → mm_V l G M_H_of kc ks 148 [some (.int p0), some (.int p1), some (va_rf p2), none, none, none, some (va_rf u6), none] [va_rf s0] h (wQR G Q) := by
  intro u6 s0 A kc ks h hV hw
  unfold wq_H_of_148 at hw
  refine wr_ast7 (pc' := 150) d_H_of_148 rfl (wr_2 _) (Nat.le_of_ble_eq_true rfl) ?_
  refine mm_iload_n (pc' := 151) d_H_of_150 rfl rfl rfl ?_
  refine mm_iload_n (pc' := 152) d_H_of_151 rfl rfl rfl ?_
  refine mm_iload_n (pc' := 153) d_H_of_152 rfl rfl rfl ?_
  refine mm_iconst (v := 3) (pc' := 154) d_H_of_153 rfl (by decide) ?_
  refine wr_icmp_ne hw (pc' := 157) d_H_of_154 rfl rfl (fun hw => ?_) (fun hw => ?_)
  · refine wr_aload u6 (pc' := 167) d_H_of_165 rfl rfl ?_
    exact mm_drop (mm_le.s (mm_le.s (mm_le.s (mm_le.n (mm_le.n (mm_le.n (mm_le.n (mm_le.s mm_le.e)))))))) (sq_H_of_167  _ _ _ _ _ _ _ _ hV hw)
  · refine wr_aload u6 (pc' := 159) d_H_of_157 rfl rfl ?_
    refine wr_cSRx (pc' := 162) (as := [va_rf u6]) (st := [.int p1, .int p0]) d_H_of_159 rfl cs_H_52 (W := fun c s Q' => wp_X_small u6 A c s Q') hw (fun c s Q' hw => sd_X_small hV hw) rfl rfl (Nat.le_of_ble_eq_true rfl) (Nat.le_of_ble_eq_true rfl) (fun r2 h A kc ks hV hw => ?_)
    refine mm_goto (tgt := 167) d_H_of_162 rfl ?_
    exact mm_drop (mm_le.s (mm_le.s (mm_le.s (mm_le.n (mm_le.n (mm_le.n (mm_le.n (mm_le.s mm_le.e)))))))) (sq_H_of_167  _ _ _ _ _ _ _ _ hV hw)
def wq_H_of_128 (p0 : Int32) (p1 : Int32) (p2 : Option Nat) (Q : Option Nat → ab_H → Prop)  (u4 : Int32) (u5 : Int32) (s0 : Option Nat) (A : ab_H) (kc ks : Nat) : Prop := if u4 = 0 then (wq_H_of_148 p0 p1 p2 Q s0 (some 1) A kc ks) else (wj_ST_substring_I A kc ks p2 (u5 + (1 : Int32)) (fun r3 A kc ks => wq_H_of_148 p0 p1 p2 Q s0 r3 A kc ks))
set_option maxRecDepth 100000 in
set_option maxHeartbeats 4000000 in
theorem sq_H_of_128 {l : Launch} {G : mm_G} {p0 : Int32} {p1 : Int32} {p2 : Option Nat} {Q : Option Nat → ab_H → Prop}   : ∀ (u4 : Int32) (u5 : Int32) (s0 : Option Nat) (A : ab_H) (kc ks : Nat) (h : mm_H), Vw G h A → wq_H_of_128 p0 p1 p2 Q  u4 u5 s0 A kc ks → mm_V l G M_H_of kc ks 128 [some (.int p0), some (.int p1), some (va_rf p2), none, some (.int u4), some (.int u5), none, none] [va_rf s0] h (wQR G Q) := by
  intro u4 u5 s0 A kc ks h hV hw
  unfold wq_H_of_128 at hw
  refine wr_ast6 (pc' := 130) d_H_of_128 rfl rfl (Nat.le_of_ble_eq_true rfl) ?_
  refine mm_iload (pc' := 132) d_H_of_130 rfl rfl ?_
  refine wr_if_eq hw (pc' := 135) d_H_of_132 rfl rfl (fun hw => ?_) (fun hw => ?_)
  · refine wr_ldcS (pc' := 148) d_H_of_146 rfl ld_H_29 ?_
    exact mm_drop (mm_le.s (mm_le.s (mm_le.s (mm_le.n (mm_le.n (mm_le.n (mm_le.s (mm_le.n mm_le.e)))))))) (sq_H_of_148  _ _ _ _ _ _ hV hw)
  · refine wr_aload_n p2 (pc' := 136) d_H_of_135 rfl rfl rfl ?_
    refine mm_iload (pc' := 138) d_H_of_136 rfl rfl ?_
    refine mm_iconst (v := 1) (pc' := 139) d_H_of_138 rfl (by decide) ?_
    refine mm_iadd (pc' := 140) d_H_of_139 rfl ?_
    refine wr_ST_substring_I hV hw (pc' := 143) d_H_of_140 rfl cs_H_49 (Nat.le_of_ble_eq_true rfl) (Nat.le_of_ble_eq_true rfl) (fun r3 h A kc ks hV hw => ?_)
    refine mm_goto (tgt := 148) d_H_of_143 rfl ?_
    exact mm_drop (mm_le.s (mm_le.s (mm_le.s (mm_le.n (mm_le.n (mm_le.n (mm_le.s (mm_le.n mm_le.e)))))))) (sq_H_of_148  _ _ _ _ _ _ hV hw)
def wq_H_of_107 (p0 : Int32) (p1 : Int32) (p2 : Option Nat) (Q : Option Nat → ab_H → Prop)  (u4 : Int32) (u5 : Int32) (s0 : Int32) (s1 : Int32) (A : ab_H) (kc ks : Nat) : Prop := if s0 = s1 then (if u4 = 0 then (wq_H_of_128 p0 p1 p2 Q u4 u5 p2 A kc ks) else (wj_ST_substring_II A kc ks p2 (0 : Int32) u5 (fun r4 A kc ks => wq_H_of_128 p0 p1 p2 Q u4 u5 r4 A kc ks))) else (Q (none : Option Nat) A)
set_option maxRecDepth 100000 in
set_option maxHeartbeats 4000000 in
theorem sq_H_of_107 {l : Launch} {G : mm_G} {p0 : Int32} {p1 : Int32} {p2 : Option Nat} {Q : Option Nat → ab_H → Prop}   : ∀ (u4 : Int32) (u5 : Int32) (s0 : Int32) (s1 : Int32) (A : ab_H) (kc ks : Nat) (h : mm_H), Vw G h A → wq_H_of_107 p0 p1 p2 Q  u4 u5 s0 s1 A kc ks → mm_V l G M_H_of kc ks 107 [some (.int p0), some (.int p1), some (va_rf p2), none, some (.int u4), some (.int u5), none, none] [.int s1, .int s0] h (wQR G Q) := by
  intro u4 u5 s0 s1 A kc ks h hV hw
  unfold wq_H_of_107 at hw
  refine wr_icmp_eq hw (pc' := 110) d_H_of_107 rfl rfl (fun hw => ?_) (fun hw => ?_)
  · refine mm_iload (pc' := 114) d_H_of_112 rfl rfl ?_
    refine wr_if_eq hw (pc' := 117) d_H_of_114 rfl rfl (fun hw => ?_) (fun hw => ?_)
    · refine wr_aload_n p2 (pc' := 128) d_H_of_127 rfl rfl rfl ?_
      exact mm_drop (mm_le.s (mm_le.s (mm_le.s (mm_le.n (mm_le.s (mm_le.s (mm_le.n (mm_le.n mm_le.e)))))))) (sq_H_of_128  _ _ _ _ _ _ _ hV hw)
    · refine wr_aload_n p2 (pc' := 118) d_H_of_117 rfl rfl rfl ?_
      refine mm_iconst (v := 0) (pc' := 119) d_H_of_118 rfl (by decide) ?_
      refine mm_iload (pc' := 121) d_H_of_119 rfl rfl ?_
      refine wr_ST_substring_II hV hw (pc' := 124) d_H_of_121 rfl cs_H_45 (Nat.le_of_ble_eq_true rfl) (Nat.le_of_ble_eq_true rfl) (fun r4 h A kc ks hV hw => ?_)
      refine mm_goto (tgt := 128) d_H_of_124 rfl ?_
      exact mm_drop (mm_le.s (mm_le.s (mm_le.s (mm_le.n (mm_le.s (mm_le.s (mm_le.n (mm_le.n mm_le.e)))))))) (sq_H_of_128  _ _ _ _ _ _ _ hV hw)
  · refine wr_null (pc' := 111) d_H_of_110 rfl ?_
    exact wr_aret hV d_H_of_111 rfl (by first | exact Or.inl ⟨_, rfl⟩ | exact Or.inr ⟨_, rfl⟩) hw
def wq_H_of_51 (p0 : Int32) (p1 : Int32) (p2 : Option Nat) (Q : Option Nat → ab_H → Prop)  (u3 : Int32) (s0 : Int32) (A : ab_H) (kc ks : Nat) : Prop := if u3 = 0 then (if s0 = 0 then (Q (none : Option Nat) A) else (wX kc ks (wp_H_withText p0 p1 (some 1) p2 A) (fun r7 A kc ks => Q r7 A))) else (wj_ST_indexOf_I A p2 (32 : Int32) (fun x5 => wj_ST_isEmpty A p2  (fun x6 => if x6 = 0 then (if x5 = 0 then (Q (none : Option Nat) A) else (if x5 ≤ 0 then (wq_H_of_107 p0 p1 p2 Q s0 x5 s0 (0 : Int32) A kc ks) else (wq_H_of_107 p0 p1 p2 Q s0 x5 s0 (1 : Int32) A kc ks))) else (Q (none : Option Nat) A))))
set_option maxRecDepth 100000 in
set_option maxHeartbeats 4000000 in
theorem sq_H_of_51 {l : Launch} {G : mm_G} {p0 : Int32} {p1 : Int32} {p2 : Option Nat} {Q : Option Nat → ab_H → Prop}   : ∀ (u3 : Int32) (s0 : Int32) (A : ab_H) (kc ks : Nat) (h : mm_H), Vw G h A → wq_H_of_51 p0 p1 p2 Q  u3 s0 A kc ks → mm_V l G M_H_of kc ks 51 [some (.int p0), some (.int p1), some (va_rf p2), some (.int u3), none, none, none, none] [.int s0] h (wQR G Q) := by
  intro u3 s0 A kc ks h hV hw
  unfold wq_H_of_51 at hw
  refine mm_ist4 (pc' := 53) d_H_of_51 rfl rfl (Nat.le_of_ble_eq_true rfl) ?_
  refine mm_iload_n (pc' := 54) d_H_of_53 rfl rfl rfl ?_
  refine wr_if_ne hw (pc' := 57) d_H_of_54 rfl rfl (fun hw => ?_) (fun hw => ?_)
  · refine wr_aload_n p2 (pc' := 76) d_H_of_75 rfl rfl rfl ?_
    refine mm_bipush (v := 32) (pc' := 78) d_H_of_76 rfl (by decide) ?_
    refine wr_ST_indexOf_I hV hw (pc' := 81) d_H_of_78 rfl cs_H_35 (Nat.le_of_ble_eq_true rfl) (Nat.le_of_ble_eq_true rfl) (fun x5 hw => ?_)
    refine mm_ist5 (pc' := 83) d_H_of_81 rfl rfl (Nat.le_of_ble_eq_true rfl) ?_
    refine wr_aload_n p2 (pc' := 84) d_H_of_83 rfl rfl rfl ?_
    refine wr_ST_isEmpty hV hw (pc' := 87) d_H_of_84 rfl cs_H_41 (Nat.le_of_ble_eq_true rfl) (Nat.le_of_ble_eq_true rfl) (fun x6 hw => ?_)
    refine wr_if_ne hw (pc' := 90) d_H_of_87 rfl rfl (fun hw => ?_) (fun hw => ?_)
    · refine wr_null (pc' := 111) d_H_of_110 rfl ?_
      exact wr_aret hV d_H_of_111 rfl (by first | exact Or.inl ⟨_, rfl⟩ | exact Or.inr ⟨_, rfl⟩) hw
    · refine mm_iload (pc' := 92) d_H_of_90 rfl rfl ?_
      refine wr_if_eq hw (pc' := 95) d_H_of_92 rfl rfl (fun hw => ?_) (fun hw => ?_)
      · refine wr_null (pc' := 111) d_H_of_110 rfl ?_
        exact wr_aret hV d_H_of_111 rfl (by first | exact Or.inl ⟨_, rfl⟩ | exact Or.inr ⟨_, rfl⟩) hw
      · refine mm_iload (pc' := 97) d_H_of_95 rfl rfl ?_
        refine mm_iload (pc' := 99) d_H_of_97 rfl rfl ?_
        refine wr_if_le hw (pc' := 102) d_H_of_99 rfl rfl (fun hw => ?_) (fun hw => ?_)
        · refine mm_iconst (v := 0) (pc' := 107) d_H_of_106 rfl (by decide) ?_
          exact mm_drop (mm_le.s (mm_le.s (mm_le.s (mm_le.n (mm_le.s (mm_le.s (mm_le.n (mm_le.n mm_le.e)))))))) (sq_H_of_107  _ _ _ _ _ _ _ _ hV hw)
        · refine mm_iconst (v := 1) (pc' := 103) d_H_of_102 rfl (by decide) ?_
          refine mm_goto (tgt := 107) d_H_of_103 rfl ?_
          exact mm_drop (mm_le.s (mm_le.s (mm_le.s (mm_le.n (mm_le.s (mm_le.s (mm_le.n (mm_le.n mm_le.e)))))))) (sq_H_of_107  _ _ _ _ _ _ _ _ hV hw)
  · refine mm_iload (pc' := 59) d_H_of_57 rfl rfl ?_
    refine wr_if_eq hw (pc' := 62) d_H_of_59 rfl rfl (fun hw => ?_) (fun hw => ?_)
    · refine wr_null (pc' := 74) d_H_of_73 rfl ?_
      exact wr_aret hV d_H_of_74 rfl (by first | exact Or.inl ⟨_, rfl⟩ | exact Or.inr ⟨_, rfl⟩) hw
    · refine mm_iload_n (pc' := 63) d_H_of_62 rfl rfl rfl ?_
      refine mm_iload_n (pc' := 64) d_H_of_63 rfl rfl rfl ?_
      refine wr_ldcS (pc' := 66) d_H_of_64 rfl ld_H_29 ?_
      refine wr_aload_n p2 (pc' := 67) d_H_of_66 rfl rfl rfl ?_
      refine wr_cSRx (pc' := 70) (as := [.int p0, .int p1, va_rf (some 1), va_rf p2]) (st := []) d_H_of_67 rfl cs_H_31 (W := fun c s Q' => wp_H_withText p0 p1 (some 1) p2 A c s Q') hw (fun c s Q' hw => sd_H_withText hV hw) rfl rfl (Nat.le_of_ble_eq_true rfl) (Nat.le_of_ble_eq_true rfl) (fun r7 h A kc ks hV hw => ?_)
      refine mm_goto (tgt := 74) d_H_of_70 rfl ?_
      exact wr_aret hV d_H_of_74 rfl (by first | exact Or.inl ⟨_, rfl⟩ | exact Or.inr ⟨_, rfl⟩) hw
def wq_H_of_50 (p0 : Int32) (p1 : Int32) (p2 : Option Nat) (Q : Option Nat → ab_H → Prop)  (u3 : Int32) (A : ab_H) (kc ks : Nat) : Prop := wq_H_of_51 p0 p1 p2 Q u3 (0 : Int32) A kc ks
set_option maxRecDepth 100000 in
set_option maxHeartbeats 4000000 in
theorem sq_H_of_50 {l : Launch} {G : mm_G} {p0 : Int32} {p1 : Int32} {p2 : Option Nat} {Q : Option Nat → ab_H → Prop}   : ∀ (u3 : Int32) (A : ab_H) (kc ks : Nat) (h : mm_H), Vw G h A → wq_H_of_50 p0 p1 p2 Q  u3 A kc ks → mm_V l G M_H_of kc ks 50 [some (.int p0), some (.int p1), some (va_rf p2), some (.int u3), none, none, none, none] [] h (wQR G Q) := by
  intro u3 A kc ks h hV hw
  unfold wq_H_of_50 at hw
  refine mm_iconst (v := 0) (pc' := 51) d_H_of_50 rfl (by decide) ?_
  exact mm_drop (mm_le.s (mm_le.s (mm_le.s (mm_le.s (mm_le.n (mm_le.n (mm_le.n (mm_le.n mm_le.e)))))))) (sq_H_of_51  _ _ _ _ _ _ hV hw)
def wq_H_of_35 (p0 : Int32) (p1 : Int32) (p2 : Option Nat) (Q : Option Nat → ab_H → Prop)  (s0 : Int32) (A : ab_H) (kc ks : Nat) : Prop := if p1 = (3 : Int32) then (wq_H_of_50 p0 p1 p2 Q s0 A kc ks) else (if p1 = (4 : Int32) then (wq_H_of_50 p0 p1 p2 Q s0 A kc ks) else (wq_H_of_51 p0 p1 p2 Q s0 (1 : Int32) A kc ks))
set_option maxRecDepth 100000 in
set_option maxHeartbeats 4000000 in
theorem sq_H_of_35 {l : Launch} {G : mm_G} {p0 : Int32} {p1 : Int32} {p2 : Option Nat} {Q : Option Nat → ab_H → Prop}   : ∀ (s0 : Int32) (A : ab_H) (kc ks : Nat) (h : mm_H), Vw G h A → wq_H_of_35 p0 p1 p2 Q  s0 A kc ks → mm_V l G M_H_of kc ks 35 [some (.int p0), some (.int p1), some (va_rf p2), none, none, none, none, none] [.int s0] h (wQR G Q) := by
  intro s0 A kc ks h hV hw
  unfold wq_H_of_35 at hw
  refine mm_ist3 (pc' := 36) d_H_of_35 rfl (wr_2 _) (Nat.le_of_ble_eq_true rfl) ?_
  refine mm_iload_n (pc' := 37) d_H_of_36 rfl rfl rfl ?_
  refine mm_iconst (v := 3) (pc' := 38) d_H_of_37 rfl (by decide) ?_
  refine wr_icmp_eq hw (pc' := 41) d_H_of_38 rfl rfl (fun hw => ?_) (fun hw => ?_)
  · exact mm_drop (mm_le.s (mm_le.s (mm_le.s (mm_le.s (mm_le.n (mm_le.n (mm_le.n (mm_le.n mm_le.e)))))))) (sq_H_of_50  _ _ _ _ _ hV hw)
  · refine mm_iload_n (pc' := 42) d_H_of_41 rfl rfl rfl ?_
    refine mm_iconst (v := 4) (pc' := 43) d_H_of_42 rfl (by decide) ?_
    refine wr_icmp_eq hw (pc' := 46) d_H_of_43 rfl rfl (fun hw => ?_) (fun hw => ?_)
    · exact mm_drop (mm_le.s (mm_le.s (mm_le.s (mm_le.s (mm_le.n (mm_le.n (mm_le.n (mm_le.n mm_le.e)))))))) (sq_H_of_50  _ _ _ _ _ hV hw)
    · refine mm_iconst (v := 1) (pc' := 47) d_H_of_46 rfl (by decide) ?_
      refine mm_goto (tgt := 51) d_H_of_47 rfl ?_
      exact mm_drop (mm_le.s (mm_le.s (mm_le.s (mm_le.s (mm_le.n (mm_le.n (mm_le.n (mm_le.n mm_le.e)))))))) (sq_H_of_51  _ _ _ _ _ _ hV hw)
def wq_H_of_30 (p0 : Int32) (p1 : Int32) (p2 : Option Nat) (Q : Option Nat → ab_H → Prop)   (A : ab_H) (kc ks : Nat) : Prop := wq_H_of_35 p0 p1 p2 Q (1 : Int32) A kc ks
set_option maxRecDepth 100000 in
set_option maxHeartbeats 4000000 in
theorem sq_H_of_30 {l : Launch} {G : mm_G} {p0 : Int32} {p1 : Int32} {p2 : Option Nat} {Q : Option Nat → ab_H → Prop}   : ∀ (A : ab_H) (kc ks : Nat) (h : mm_H), Vw G h A → wq_H_of_30 p0 p1 p2 Q  A kc ks → mm_V l G M_H_of kc ks 30 [some (.int p0), some (.int p1), some (va_rf p2), none, none, none, none, none] [] h (wQR G Q) := by
  intro A kc ks h hV hw
  unfold wq_H_of_30 at hw
  refine mm_iconst (v := 1) (pc' := 31) d_H_of_30 rfl (by decide) ?_
  refine mm_goto (tgt := 35) d_H_of_31 rfl ?_
  exact mm_drop (mm_le.s (mm_le.s (mm_le.s (mm_le.n (mm_le.n (mm_le.n (mm_le.n (mm_le.n mm_le.e)))))))) (sq_H_of_35  _ _ _ _ _ hV hw)
def wp_H_of (p0 : Int32) (p1 : Int32) (p2 : Option Nat) (A : ab_H) (kc ks : Nat) (Q : Option Nat → ab_H → Prop) : Prop := if p0 < 0 then (Q (none : Option Nat) A) else (if (4 : Int32) < p0 then (Q (none : Option Nat) A) else (if p1 < 0 then (Q (none : Option Nat) A) else (if p1 ≤ (4 : Int32) then (if p0 = (2 : Int32) then (wq_H_of_30 p0 p1 p2 Q A kc ks) else (if p0 = (3 : Int32) then (wq_H_of_30 p0 p1 p2 Q A kc ks) else (wq_H_of_35 p0 p1 p2 Q (0 : Int32) A kc ks))) else (Q (none : Option Nat) A))))
set_option maxRecDepth 100000 in
set_option maxHeartbeats 4000000 in
theorem sd_H_of {l : Launch} {G : mm_G} {h : mm_H} {A : ab_H} {p0 : Int32} {p1 : Int32} {p2 : Option Nat} {kc ks : Nat} {Q : Option Nat → ab_H → Prop} (hV : Vw G h A) (hw : wp_H_of p0 p1 p2 A kc ks Q) : mm_S l G M_H_of [.int p0, .int p1, va_rf p2] h kc ks (wQR G Q) := by
  unfold wp_H_of at hw
  refine mm_start rfl (by simp [mm_as, wr_cat, wr_catI, wr_catJ, wr_catN]) ?_
  rw [show mm_en [.int p0, .int p1, va_rf p2] M_H_of.2.2.1 = [some (.int p0), some (.int p1), some (va_rf p2), none, none, none, none, none] from by simp [mm_en, mm_as, wr_cat, wr_catI, wr_catJ, wr_catN]]
  show mm_V l G M_H_of kc ks 0 [some (.int p0), some (.int p1), some (va_rf p2), none, none, none, none, none] [] h _
  refine mm_iload_n (pc' := 1) d_H_of_0 rfl rfl rfl ?_
  refine wr_if_lt hw (pc' := 4) d_H_of_1 rfl rfl (fun hw => ?_) (fun hw => ?_)
  · refine wr_null (pc' := 19) d_H_of_18 rfl ?_
    exact wr_aret hV d_H_of_19 rfl (by first | exact Or.inl ⟨_, rfl⟩ | exact Or.inr ⟨_, rfl⟩) hw
  · refine mm_iload_n (pc' := 5) d_H_of_4 rfl rfl rfl ?_
    refine mm_iconst (v := 4) (pc' := 6) d_H_of_5 rfl (by decide) ?_
    refine wr_icmp_gt hw (pc' := 9) d_H_of_6 rfl rfl (fun hw => ?_) (fun hw => ?_)
    · refine wr_null (pc' := 19) d_H_of_18 rfl ?_
      exact wr_aret hV d_H_of_19 rfl (by first | exact Or.inl ⟨_, rfl⟩ | exact Or.inr ⟨_, rfl⟩) hw
    · refine mm_iload_n (pc' := 10) d_H_of_9 rfl rfl rfl ?_
      refine wr_if_lt hw (pc' := 13) d_H_of_10 rfl rfl (fun hw => ?_) (fun hw => ?_)
      · refine wr_null (pc' := 19) d_H_of_18 rfl ?_
        exact wr_aret hV d_H_of_19 rfl (by first | exact Or.inl ⟨_, rfl⟩ | exact Or.inr ⟨_, rfl⟩) hw
      · refine mm_iload_n (pc' := 14) d_H_of_13 rfl rfl rfl ?_
        refine mm_iconst (v := 4) (pc' := 15) d_H_of_14 rfl (by decide) ?_
        refine wr_icmp_le hw (pc' := 18) d_H_of_15 rfl rfl (fun hw => ?_) (fun hw => ?_)
        · refine mm_iload_n (pc' := 21) d_H_of_20 rfl rfl rfl ?_
          refine mm_iconst (v := 2) (pc' := 22) d_H_of_21 rfl (by decide) ?_
          refine wr_icmp_eq hw (pc' := 25) d_H_of_22 rfl rfl (fun hw => ?_) (fun hw => ?_)
          · exact mm_drop (mm_le.s (mm_le.s (mm_le.s (mm_le.n (mm_le.n (mm_le.n (mm_le.n (mm_le.n mm_le.e)))))))) (sq_H_of_30  _ _ _ _ hV hw)
          · refine mm_iload_n (pc' := 26) d_H_of_25 rfl rfl rfl ?_
            refine mm_iconst (v := 3) (pc' := 27) d_H_of_26 rfl (by decide) ?_
            refine wr_icmp_ne hw (pc' := 30) d_H_of_27 rfl rfl (fun hw => ?_) (fun hw => ?_)
            · refine mm_iconst (v := 0) (pc' := 35) d_H_of_34 rfl (by decide) ?_
              exact mm_drop (mm_le.s (mm_le.s (mm_le.s (mm_le.n (mm_le.n (mm_le.n (mm_le.n (mm_le.n mm_le.e)))))))) (sq_H_of_35  _ _ _ _ _ hV hw)
            · exact mm_drop (mm_le.s (mm_le.s (mm_le.s (mm_le.n (mm_le.n (mm_le.n (mm_le.n (mm_le.n mm_le.e)))))))) (sq_H_of_30  _ _ _ _ hV hw)
        · refine wr_null (pc' := 19) d_H_of_18 rfl ?_
          exact wr_aret hV d_H_of_19 rfl (by first | exact Or.inl ⟨_, rfl⟩ | exact Or.inr ⟨_, rfl⟩) hw
theorem d_S_match_0 : decode prog_1_method_8_code 0 = .ok (.aload_n 0, 1) := by decide +kernel
theorem d_S_match_1 : decode prog_1_method_8_code 1 = .ok (.getfield 37, 3) := by decide +kernel
theorem d_S_match_4 : decode prog_1_method_8_code 4 = .ok (.invokevirtual 99, 3) := by decide +kernel
theorem d_S_match_7 : decode prog_1_method_8_code 7 = .ok (.iconst 4, 1) := by decide +kernel
theorem d_S_match_8 : decode prog_1_method_8_code 8 = .ok (.if_icmp .lt 5, 3) := by decide +kernel
theorem d_S_match_11 : decode prog_1_method_8_code 11 = .ok (.iconst 0, 1) := by decide +kernel
theorem d_S_match_12 : decode prog_1_method_8_code 12 = .ok (.ireturn, 1) := by decide +kernel
theorem d_S_match_13 : decode prog_1_method_8_code 13 = .ok (.iload_n 1, 1) := by decide +kernel
theorem d_S_match_14 : decode prog_1_method_8_code 14 = .ok (.iload_n 2, 1) := by decide +kernel
theorem d_S_match_15 : decode prog_1_method_8_code 15 = .ok (.aload_n 0, 1) := by decide +kernel
theorem d_S_match_16 : decode prog_1_method_8_code 16 = .ok (.getfield 23, 3) := by decide +kernel
theorem d_S_match_19 : decode prog_1_method_8_code 19 = .ok (.invokevirtual 101, 3) := by decide +kernel
theorem d_S_match_22 : decode prog_1_method_8_code 22 = .ok (.invokestatic 105, 3) := by decide +kernel
theorem d_S_match_25 : decode prog_1_method_8_code 25 = .ok (.astore_n 3, 1) := by decide +kernel
theorem d_S_match_26 : decode prog_1_method_8_code 26 = .ok (.aload_n 3, 1) := by decide +kernel
theorem d_S_match_27 : decode prog_1_method_8_code 27 = .ok (.ifnonnull 5, 3) := by decide +kernel
theorem d_S_match_30 : decode prog_1_method_8_code 30 = .ok (.iconst 0, 1) := by decide +kernel
theorem d_S_match_31 : decode prog_1_method_8_code 31 = .ok (.ireturn, 1) := by decide +kernel
theorem d_S_match_32 : decode prog_1_method_8_code 32 = .ok (.aload_n 0, 1) := by decide +kernel
theorem d_S_match_33 : decode prog_1_method_8_code 33 = .ok (.getfield 37, 3) := by decide +kernel
theorem d_S_match_36 : decode prog_1_method_8_code 36 = .ok (.aload_n 3, 1) := by decide +kernel
theorem d_S_match_37 : decode prog_1_method_8_code 37 = .ok (.invokevirtual 111, 3) := by decide +kernel
theorem d_S_match_40 : decode prog_1_method_8_code 40 = .ok (.pop, 1) := by decide +kernel
theorem d_S_match_41 : decode prog_1_method_8_code 41 = .ok (.aload_n 0, 1) := by decide +kernel
theorem d_S_match_42 : decode prog_1_method_8_code 42 = .ok (.getfield 23, 3) := by decide +kernel
theorem d_S_match_45 : decode prog_1_method_8_code 45 = .ok (.iconst 0, 1) := by decide +kernel
theorem d_S_match_46 : decode prog_1_method_8_code 46 = .ok (.invokevirtual 115, 3) := by decide +kernel
theorem d_S_match_49 : decode prog_1_method_8_code 49 = .ok (.iconst 1, 1) := by decide +kernel
theorem d_S_match_50 : decode prog_1_method_8_code 50 = .ok (.ireturn, 1) := by decide +kernel
def wp_S_match (a : Nat) (p0 : Int32) (p1 : Int32) (A : ab_H) (kc ks : Nat) (Q : Int32 → ab_H → Prop) : Prop := wgR A (some a) 3 5 (fun r1 => wj_AL_size A r1  (fun x2 => if x2 < (4 : Int32) then (wgR A (some a) 3 2 (fun r3 => wj_SB_toString A kc ks r3  (fun r4 A kc ks => wX kc ks (wp_H_of p0 p1 r4 A) (fun r5 A kc ks => if r5 = none then (Q (0 : Int32) A) else (wgR A (some a) 3 5 (fun r6 => wj_AL_add_O A kc ks r6 r5 (fun x7 A kc ks => wgR A (some a) 3 2 (fun r8 => wj_SB_setLength A kc ks r8 (0 : Int32) (fun A kc ks => Q (1 : Int32) A))))))))) else (Q (0 : Int32) A)))
set_option maxRecDepth 100000 in
set_option maxHeartbeats 4000000 in
theorem sd_S_match {l : Launch} {G : mm_G} {h : mm_H} {A : ab_H} {a : Nat} {p0 : Int32} {p1 : Int32} {kc ks : Nat} {Q : Int32 → ab_H → Prop} (hV : Vw G h A) (hw : wp_S_match a p0 p1 A kc ks Q) : mm_S l G M_S_match [.ref a, .int p0, .int p1] h kc ks (wQI G Q) := by
  unfold wp_S_match at hw
  refine mm_start rfl (Nat.le_of_ble_eq_true rfl) ?_
  show mm_V l G M_S_match kc ks 0 [some (va_rf (some a)), some (.int p0), some (.int p1), none] [] h _
  refine wr_aload_n (some a) (pc' := 1) d_S_match_0 rfl rfl rfl ?_
  refine wr_getR hV hw (pc' := 4) d_S_match_1 rfl fl_S_37 (fun r1 hw => ?_)
  refine wr_AL_size hV hw (pc' := 7) d_S_match_4 rfl cs_S_99 (Nat.le_of_ble_eq_true rfl) (Nat.le_of_ble_eq_true rfl) (fun x2 hw => ?_)
  refine mm_iconst (v := 4) (pc' := 8) d_S_match_7 rfl (by decide) ?_
  refine wr_icmp_lt hw (pc' := 11) d_S_match_8 rfl rfl (fun hw => ?_) (fun hw => ?_)
  · refine mm_iload_n (pc' := 14) d_S_match_13 rfl rfl rfl ?_
    refine mm_iload_n (pc' := 15) d_S_match_14 rfl rfl rfl ?_
    refine wr_aload_n (some a) (pc' := 16) d_S_match_15 rfl rfl rfl ?_
    refine wr_getR hV hw (pc' := 19) d_S_match_16 rfl fl_S_23 (fun r3 hw => ?_)
    refine wr_SB_toString hV hw (pc' := 22) d_S_match_19 rfl cs_S_101 (Nat.le_of_ble_eq_true rfl) (Nat.le_of_ble_eq_true rfl) (fun r4 h A kc ks hV hw => ?_)
    refine wr_cSRx (pc' := 25) (as := [.int p0, .int p1, va_rf r4]) (st := []) d_S_match_22 rfl cs_S_105 (W := fun c s Q' => wp_H_of p0 p1 r4 A c s Q') hw (fun c s Q' hw => sd_H_of hV hw) rfl rfl (Nat.le_of_ble_eq_true rfl) (Nat.le_of_ble_eq_true rfl) (fun r5 h A kc ks hV hw => ?_)
    refine wr_ast3 (pc' := 26) d_S_match_25 rfl rfl (Nat.le_of_ble_eq_true rfl) ?_
    refine wr_aload_n r5 (pc' := 27) d_S_match_26 rfl rfl rfl ?_
    refine wr_ifnonnull hw (pc' := 30) d_S_match_27 rfl rfl (fun hw => ?_) (fun hw => ?_)
    · refine wr_aload_n (some a) (pc' := 33) d_S_match_32 rfl rfl rfl ?_
      refine wr_getR hV hw (pc' := 36) d_S_match_33 rfl fl_S_37 (fun r6 hw => ?_)
      refine wr_aload_n r5 (pc' := 37) d_S_match_36 rfl rfl rfl ?_
      refine wr_AL_add_O hV hw (pc' := 40) d_S_match_37 rfl cs_S_111 (Nat.le_of_ble_eq_true rfl) (Nat.le_of_ble_eq_true rfl) (fun x7 h A kc ks hV hw => ?_)
      refine mm_pop (pc' := 41) d_S_match_40 rfl rfl ?_
      refine wr_aload_n (some a) (pc' := 42) d_S_match_41 rfl rfl rfl ?_
      refine wr_getR hV hw (pc' := 45) d_S_match_42 rfl fl_S_23 (fun r8 hw => ?_)
      refine mm_iconst (v := 0) (pc' := 46) d_S_match_45 rfl (by decide) ?_
      refine wr_SB_setLength hV hw (pc' := 49) d_S_match_46 rfl cs_S_115 (Nat.le_of_ble_eq_true rfl) (Nat.le_of_ble_eq_true rfl) (fun h A kc ks hV hw => ?_)
      refine mm_iconst (v := 1) (pc' := 50) d_S_match_49 rfl (by decide) ?_
      exact wr_iret hV d_S_match_50 rfl rfl hw
    · refine mm_iconst (v := 0) (pc' := 31) d_S_match_30 rfl (by decide) ?_
      exact wr_iret hV d_S_match_31 rfl rfl hw
  · refine mm_iconst (v := 0) (pc' := 12) d_S_match_11 rfl (by decide) ?_
    exact wr_iret hV d_S_match_12 rfl rfl hw
theorem d_T_init_0 : decode prog_11_method_1_code 0 = .ok (.aload_n 0, 1) := by decide +kernel
theorem d_T_init_1 : decode prog_11_method_1_code 1 = .ok (.invokespecial 1, 3) := by decide +kernel
theorem d_T_init_4 : decode prog_11_method_1_code 4 = .ok (.aload_n 0, 1) := by decide +kernel
theorem d_T_init_5 : decode prog_11_method_1_code 5 = .ok (.aload_n 1, 1) := by decide +kernel
theorem d_T_init_6 : decode prog_11_method_1_code 6 = .ok (.putfield 7, 3) := by decide +kernel
theorem d_T_init_9 : decode prog_11_method_1_code 9 = .ok (.return_, 1) := by decide +kernel
def wp_T_init (a : Nat) (p0 : Option Nat) (A : ab_H) (Q : ab_H → Prop) : Prop := (∃ b, (some a) = some b) ∧ (wp A (some a) 11 0 (va_rf p0) (fun A => Q A))
set_option maxRecDepth 100000 in
set_option maxHeartbeats 4000000 in
theorem sd_T_init {l : Launch} {G : mm_G} {h : mm_H} {A : ab_H} {a : Nat} {p0 : Option Nat} {Q : ab_H → Prop} (hV : Vw G h A) (hw : wp_T_init a p0 A Q) : mm_S l G M_T_init [.ref a, va_rf p0] h 0 0 (wQV G Q) := by
  unfold wp_T_init at hw
  refine mm_start rfl (by simp [mm_as, wr_cat, wr_catI, wr_catJ, wr_catN]) ?_
  rw [show mm_en [.ref a, va_rf p0] M_T_init.2.2.1 = [some (.ref a), some (va_rf p0)] from by simp [mm_en, mm_as, wr_cat, wr_catI, wr_catJ, wr_catN]]
  show mm_V l G M_T_init 0 0 0 [some (va_rf (some a)), some (va_rf p0)] [] h _
  refine wr_aload_n (some a) (pc' := 1) d_T_init_0 rfl rfl rfl ?_
  obtain ⟨ho, hw⟩ := hw
  refine wr_objInit ho (pc' := 4) d_T_init_1 rfl oi_T_1 (Nat.le_of_ble_eq_true rfl) (Nat.le_of_ble_eq_true rfl) ?_
  refine wr_aload_n (some a) (pc' := 5) d_T_init_4 rfl rfl rfl ?_
  refine wr_aload_n p0 (pc' := 6) d_T_init_5 rfl rfl rfl ?_
  refine wr_put hV hw (pc' := 9) d_T_init_6 rfl pl_T_init_7 (Nat.le_of_ble_eq_true rfl) (wn_O _ _) (fun h A hV hw => ?_)
  exact wr_vret hV d_T_init_9 rfl hw
theorem d_B_init_0 : decode prog_10_method_1_code 0 = .ok (.aload_n 0, 1) := by decide +kernel
theorem d_B_init_1 : decode prog_10_method_1_code 1 = .ok (.invokespecial 1, 3) := by decide +kernel
theorem d_B_init_4 : decode prog_10_method_1_code 4 = .ok (.aload_n 0, 1) := by decide +kernel
theorem d_B_init_5 : decode prog_10_method_1_code 5 = .ok (.iload_n 1, 1) := by decide +kernel
theorem d_B_init_6 : decode prog_10_method_1_code 6 = .ok (.putfield 7, 3) := by decide +kernel
theorem d_B_init_9 : decode prog_10_method_1_code 9 = .ok (.aload_n 0, 1) := by decide +kernel
theorem d_B_init_10 : decode prog_10_method_1_code 10 = .ok (.iload_n 2, 1) := by decide +kernel
theorem d_B_init_11 : decode prog_10_method_1_code 11 = .ok (.putfield 13, 3) := by decide +kernel
theorem d_B_init_14 : decode prog_10_method_1_code 14 = .ok (.aload_n 0, 1) := by decide +kernel
theorem d_B_init_15 : decode prog_10_method_1_code 15 = .ok (.iload_n 3, 1) := by decide +kernel
theorem d_B_init_16 : decode prog_10_method_1_code 16 = .ok (.putfield 16, 3) := by decide +kernel
theorem d_B_init_19 : decode prog_10_method_1_code 19 = .ok (.aload_n 0, 1) := by decide +kernel
theorem d_B_init_20 : decode prog_10_method_1_code 20 = .ok (.new 19, 3) := by decide +kernel
theorem d_B_init_23 : decode prog_10_method_1_code 23 = .ok (.dup, 1) := by decide +kernel
theorem d_B_init_24 : decode prog_10_method_1_code 24 = .ok (.aload 4, 2) := by decide +kernel
theorem d_B_init_26 : decode prog_10_method_1_code 26 = .ok (.invokespecial 21, 3) := by decide +kernel
theorem d_B_init_29 : decode prog_10_method_1_code 29 = .ok (.putfield 24, 3) := by decide +kernel
theorem d_B_init_32 : decode prog_10_method_1_code 32 = .ok (.aload_n 0, 1) := by decide +kernel
theorem d_B_init_33 : decode prog_10_method_1_code 33 = .ok (.aload 5, 2) := by decide +kernel
theorem d_B_init_35 : decode prog_10_method_1_code 35 = .ok (.putfield 28, 3) := by decide +kernel
theorem d_B_init_38 : decode prog_10_method_1_code 38 = .ok (.return_, 1) := by decide +kernel
def wp_B_init (a : Nat) (p0 : Int32) (p1 : Int32) (p2 : Int32) (p3 : Option Nat) (p4 : Option Nat) (A : ab_H) (kc ks : Nat) (Q : ab_H → Prop) : Prop := (∃ b, (some a) = some b) ∧ (wp A (some a) 12 0 (.int p0) (fun A => wp A (some a) 12 1 (.int p1) (fun A => wp A (some a) 12 2 (.int p2) (fun A => wNew A kc ks 11 1 (fun b1 A kc ks => wD (some b1) (fun b => wp_T_init b p3 A (fun A => wp A (some a) 12 3 (va_rf (some b1)) (fun A => wp A (some a) 12 4 (va_rf p4) (fun A => Q A)))))))))
set_option maxRecDepth 100000 in
set_option maxHeartbeats 4000000 in
theorem sd_B_init {l : Launch} {G : mm_G} {h : mm_H} {A : ab_H} {a : Nat} {p0 : Int32} {p1 : Int32} {p2 : Int32} {p3 : Option Nat} {p4 : Option Nat} {kc ks : Nat} {Q : ab_H → Prop} (hV : Vw G h A) (hw : wp_B_init a p0 p1 p2 p3 p4 A kc ks Q) : mm_S l G M_B_init [.ref a, .int p0, .int p1, .int p2, va_rf p3, va_rf p4] h kc ks (wQV G Q) := by
  unfold wp_B_init at hw
  refine mm_start rfl (by simp [mm_as, wr_cat, wr_catI, wr_catJ, wr_catN]) ?_
  rw [show mm_en [.ref a, .int p0, .int p1, .int p2, va_rf p3, va_rf p4] M_B_init.2.2.1 = [some (.ref a), some (.int p0), some (.int p1), some (.int p2), some (va_rf p3), some (va_rf p4)] from by simp [mm_en, mm_as, wr_cat, wr_catI, wr_catJ, wr_catN]]
  show mm_V l G M_B_init kc ks 0 [some (va_rf (some a)), some (.int p0), some (.int p1), some (.int p2), some (va_rf p3), some (va_rf p4)] [] h _
  refine wr_aload_n (some a) (pc' := 1) d_B_init_0 rfl rfl rfl ?_
  obtain ⟨ho, hw⟩ := hw
  refine wr_objInit ho (pc' := 4) d_B_init_1 rfl oi_B_1 (Nat.le_of_ble_eq_true rfl) (Nat.le_of_ble_eq_true rfl) ?_
  refine wr_aload_n (some a) (pc' := 5) d_B_init_4 rfl rfl rfl ?_
  refine mm_iload_n (pc' := 6) d_B_init_5 rfl rfl rfl ?_
  refine wr_put hV hw (pc' := 9) d_B_init_6 rfl pl_B_init_7 (Nat.le_of_ble_eq_true rfl) (wn_I _) (fun h A hV hw => ?_)
  refine wr_aload_n (some a) (pc' := 10) d_B_init_9 rfl rfl rfl ?_
  refine mm_iload_n (pc' := 11) d_B_init_10 rfl rfl rfl ?_
  refine wr_put hV hw (pc' := 14) d_B_init_11 rfl pl_B_init_13 (Nat.le_of_ble_eq_true rfl) (wn_I _) (fun h A hV hw => ?_)
  refine wr_aload_n (some a) (pc' := 15) d_B_init_14 rfl rfl rfl ?_
  refine mm_iload_n (pc' := 16) d_B_init_15 rfl rfl rfl ?_
  refine wr_put hV hw (pc' := 19) d_B_init_16 rfl pl_B_init_16 (Nat.le_of_ble_eq_true rfl) (wn_I _) (fun h A hV hw => ?_)
  refine wr_aload_n (some a) (pc' := 20) d_B_init_19 rfl rfl rfl ?_
  refine wr_new hV hw (pc' := 23) d_B_init_20 rfl nl_B_19 rfl (fun b1 h A kc ks hV hw => ?_)
  refine mm_dup (pc' := 24) d_B_init_23 rfl (wr_cat _) ?_
  refine wr_aload p3 (pc' := 26) d_B_init_24 rfl rfl ?_
  refine wr_cI (pc' := 29) (as := [va_rf p3]) (st := [va_rf (some b1), va_rf (some a)]) d_B_init_26 rfl cs_B_21 rfl (W := fun b Q' => wp_T_init b p3 A Q') hV hw (fun b Q' hw => sd_T_init hV hw) rfl rfl (Nat.le_of_ble_eq_true rfl) (Nat.le_trans (wr_hR (wr_hR wr_h0)) (Nat.le_of_ble_eq_true rfl)) (fun h A hV hw => ?_)
  refine wr_put hV hw (pc' := 32) d_B_init_29 rfl pl_B_init_24 (Nat.le_of_ble_eq_true rfl) (wn_O _ _) (fun h A hV hw => ?_)
  refine wr_aload_n (some a) (pc' := 33) d_B_init_32 rfl rfl rfl ?_
  refine wr_aload p4 (pc' := 35) d_B_init_33 rfl rfl ?_
  refine wr_put hV hw (pc' := 38) d_B_init_35 rfl pl_B_init_28 (Nat.le_of_ble_eq_true rfl) (wn_O _ _) (fun h A hV hw => ?_)
  exact wr_vret hV d_B_init_38 rfl hw
theorem d_S_stub_0 : decode prog_1_method_9_code 0 = .ok (.iload_n 1, 1) := by decide +kernel
theorem d_S_stub_1 : decode prog_1_method_9_code 1 = .ok (.ifCond .lt 34, 3) := by decide +kernel
theorem d_S_stub_4 : decode prog_1_method_9_code 4 = .ok (.iload_n 1, 1) := by decide +kernel
theorem d_S_stub_5 : decode prog_1_method_9_code 5 = .ok (.bipush 9, 2) := by decide +kernel
theorem d_S_stub_7 : decode prog_1_method_9_code 7 = .ok (.if_icmp .gt 28, 3) := by decide +kernel
theorem d_S_stub_10 : decode prog_1_method_9_code 10 = .ok (.iload_n 2, 1) := by decide +kernel
theorem d_S_stub_11 : decode prog_1_method_9_code 11 = .ok (.bipush 100, 2) := by decide +kernel
theorem d_S_stub_13 : decode prog_1_method_9_code 13 = .ok (.if_icmp .lt 22, 3) := by decide +kernel
theorem d_S_stub_16 : decode prog_1_method_9_code 16 = .ok (.iload_n 2, 1) := by decide +kernel
theorem d_S_stub_17 : decode prog_1_method_9_code 17 = .ok (.sipush 599, 3) := by decide +kernel
theorem d_S_stub_20 : decode prog_1_method_9_code 20 = .ok (.if_icmp .gt 15, 3) := by decide +kernel
theorem d_S_stub_23 : decode prog_1_method_9_code 23 = .ok (.aload_n 0, 1) := by decide +kernel
theorem d_S_stub_24 : decode prog_1_method_9_code 24 = .ok (.getfield 30, 3) := by decide +kernel
theorem d_S_stub_27 : decode prog_1_method_9_code 27 = .ok (.invokevirtual 99, 3) := by decide +kernel
theorem d_S_stub_30 : decode prog_1_method_9_code 30 = .ok (.bipush 8, 2) := by decide +kernel
theorem d_S_stub_32 : decode prog_1_method_9_code 32 = .ok (.if_icmp .lt 5, 3) := by decide +kernel
theorem d_S_stub_35 : decode prog_1_method_9_code 35 = .ok (.iconst (-1), 1) := by decide +kernel
theorem d_S_stub_36 : decode prog_1_method_9_code 36 = .ok (.ireturn, 1) := by decide +kernel
theorem d_S_stub_37 : decode prog_1_method_9_code 37 = .ok (.aload_n 0, 1) := by decide +kernel
theorem d_S_stub_38 : decode prog_1_method_9_code 38 = .ok (.getfield 118, 3) := by decide +kernel
theorem d_S_stub_41 : decode prog_1_method_9_code 41 = .ok (.istore_n 3, 1) := by decide +kernel
theorem d_S_stub_42 : decode prog_1_method_9_code 42 = .ok (.aload_n 0, 1) := by decide +kernel
theorem d_S_stub_43 : decode prog_1_method_9_code 43 = .ok (.dup, 1) := by decide +kernel
theorem d_S_stub_44 : decode prog_1_method_9_code 44 = .ok (.getfield 118, 3) := by decide +kernel
theorem d_S_stub_47 : decode prog_1_method_9_code 47 = .ok (.iconst 1, 1) := by decide +kernel
theorem d_S_stub_48 : decode prog_1_method_9_code 48 = .ok (.iadd, 1) := by decide +kernel
theorem d_S_stub_49 : decode prog_1_method_9_code 49 = .ok (.putfield 118, 3) := by decide +kernel
theorem d_S_stub_52 : decode prog_1_method_9_code 52 = .ok (.aload_n 0, 1) := by decide +kernel
theorem d_S_stub_53 : decode prog_1_method_9_code 53 = .ok (.getfield 30, 3) := by decide +kernel
theorem d_S_stub_56 : decode prog_1_method_9_code 56 = .ok (.new 122, 3) := by decide +kernel
theorem d_S_stub_59 : decode prog_1_method_9_code 59 = .ok (.dup, 1) := by decide +kernel
theorem d_S_stub_60 : decode prog_1_method_9_code 60 = .ok (.iload_n 3, 1) := by decide +kernel
theorem d_S_stub_61 : decode prog_1_method_9_code 61 = .ok (.iload_n 1, 1) := by decide +kernel
theorem d_S_stub_62 : decode prog_1_method_9_code 62 = .ok (.iload_n 2, 1) := by decide +kernel
theorem d_S_stub_63 : decode prog_1_method_9_code 63 = .ok (.aload_n 0, 1) := by decide +kernel
theorem d_S_stub_64 : decode prog_1_method_9_code 64 = .ok (.getfield 23, 3) := by decide +kernel
theorem d_S_stub_67 : decode prog_1_method_9_code 67 = .ok (.invokevirtual 101, 3) := by decide +kernel
theorem d_S_stub_70 : decode prog_1_method_9_code 70 = .ok (.aload_n 0, 1) := by decide +kernel
theorem d_S_stub_71 : decode prog_1_method_9_code 71 = .ok (.getfield 37, 3) := by decide +kernel
theorem d_S_stub_74 : decode prog_1_method_9_code 74 = .ok (.invokespecial 124, 3) := by decide +kernel
theorem d_S_stub_77 : decode prog_1_method_9_code 77 = .ok (.invokevirtual 111, 3) := by decide +kernel
theorem d_S_stub_80 : decode prog_1_method_9_code 80 = .ok (.pop, 1) := by decide +kernel
theorem d_S_stub_81 : decode prog_1_method_9_code 81 = .ok (.aload_n 0, 1) := by decide +kernel
theorem d_S_stub_82 : decode prog_1_method_9_code 82 = .ok (.new 27, 3) := by decide +kernel
theorem d_S_stub_85 : decode prog_1_method_9_code 85 = .ok (.dup, 1) := by decide +kernel
theorem d_S_stub_86 : decode prog_1_method_9_code 86 = .ok (.invokespecial 29, 3) := by decide +kernel
theorem d_S_stub_89 : decode prog_1_method_9_code 89 = .ok (.putfield 37, 3) := by decide +kernel
theorem d_S_stub_92 : decode prog_1_method_9_code 92 = .ok (.aload_n 0, 1) := by decide +kernel
theorem d_S_stub_93 : decode prog_1_method_9_code 93 = .ok (.getfield 23, 3) := by decide +kernel
theorem d_S_stub_96 : decode prog_1_method_9_code 96 = .ok (.iconst 0, 1) := by decide +kernel
theorem d_S_stub_97 : decode prog_1_method_9_code 97 = .ok (.invokevirtual 115, 3) := by decide +kernel
theorem d_S_stub_100 : decode prog_1_method_9_code 100 = .ok (.iload_n 3, 1) := by decide +kernel
theorem d_S_stub_101 : decode prog_1_method_9_code 101 = .ok (.ireturn, 1) := by decide +kernel
def wp_S_stub (a : Nat) (p0 : Int32) (p1 : Int32) (A : ab_H) (kc ks : Nat) (Q : Int32 → ab_H → Prop) : Prop := if p0 < 0 then (Q ((-1) : Int32) A) else (if (9 : Int32) < p0 then (Q ((-1) : Int32) A) else (if p1 < (100 : Int32) then (Q ((-1) : Int32) A) else (if (599 : Int32) < p1 then (Q ((-1) : Int32) A) else (wgR A (some a) 3 3 (fun r1 => wj_AL_size A r1  (fun x2 => if x2 < (8 : Int32) then (wgI A (some a) 3 6 (fun x3 => wgI A (some a) 3 6 (fun x4 => wp A (some a) 3 6 (.int (x4 + (1 : Int32))) (fun A => wgR A (some a) 3 3 (fun r5 => wNew A kc ks 12 6 (fun b6 A kc ks => wgR A (some a) 3 2 (fun r7 => wj_SB_toString A kc ks r7  (fun r8 A kc ks => wgR A (some a) 3 5 (fun r9 => wD (some b6) (fun b => wXV kc ks (wp_B_init b x3 p0 p1 r8 r9 A) (fun A kc ks => wj_AL_add_O A kc ks r5 (some b6) (fun x10 A kc ks => wNew A kc ks 2 3 (fun b11 A kc ks => wj_AL_init A (some b11)  (fun A => wp A (some a) 3 5 (va_rf (some b11)) (fun A => wgR A (some a) 3 2 (fun r12 => wj_SB_setLength A kc ks r12 (0 : Int32) (fun A kc ks => Q x3 A))))))))))))))))) else (Q ((-1) : Int32) A)))))))
set_option maxRecDepth 100000 in
set_option maxHeartbeats 4000000 in
theorem sd_S_stub {l : Launch} {G : mm_G} {h : mm_H} {A : ab_H} {a : Nat} {p0 : Int32} {p1 : Int32} {kc ks : Nat} {Q : Int32 → ab_H → Prop} (hV : Vw G h A) (hw : wp_S_stub a p0 p1 A kc ks Q) : mm_S l G M_S_stub [.ref a, .int p0, .int p1] h kc ks (wQI G Q) := by
  unfold wp_S_stub at hw
  refine mm_start rfl (Nat.le_of_ble_eq_true rfl) ?_
  show mm_V l G M_S_stub kc ks 0 [some (va_rf (some a)), some (.int p0), some (.int p1), none] [] h _
  refine mm_iload_n (pc' := 1) d_S_stub_0 rfl rfl rfl ?_
  refine wr_if_lt hw (pc' := 4) d_S_stub_1 rfl rfl (fun hw => ?_) (fun hw => ?_)
  · refine mm_iconst (v := (-1)) (pc' := 36) d_S_stub_35 rfl (by decide) ?_
    exact wr_iret hV d_S_stub_36 rfl rfl hw
  · refine mm_iload_n (pc' := 5) d_S_stub_4 rfl rfl rfl ?_
    refine mm_bipush (v := 9) (pc' := 7) d_S_stub_5 rfl (by decide) ?_
    refine wr_icmp_gt hw (pc' := 10) d_S_stub_7 rfl rfl (fun hw => ?_) (fun hw => ?_)
    · refine mm_iconst (v := (-1)) (pc' := 36) d_S_stub_35 rfl (by decide) ?_
      exact wr_iret hV d_S_stub_36 rfl rfl hw
    · refine mm_iload_n (pc' := 11) d_S_stub_10 rfl rfl rfl ?_
      refine mm_bipush (v := 100) (pc' := 13) d_S_stub_11 rfl (by decide) ?_
      refine wr_icmp_lt hw (pc' := 16) d_S_stub_13 rfl rfl (fun hw => ?_) (fun hw => ?_)
      · refine mm_iconst (v := (-1)) (pc' := 36) d_S_stub_35 rfl (by decide) ?_
        exact wr_iret hV d_S_stub_36 rfl rfl hw
      · refine mm_iload_n (pc' := 17) d_S_stub_16 rfl rfl rfl ?_
        refine mm_sipush (v := 599) (pc' := 20) d_S_stub_17 rfl (by decide) ?_
        refine wr_icmp_gt hw (pc' := 23) d_S_stub_20 rfl rfl (fun hw => ?_) (fun hw => ?_)
        · refine mm_iconst (v := (-1)) (pc' := 36) d_S_stub_35 rfl (by decide) ?_
          exact wr_iret hV d_S_stub_36 rfl rfl hw
        · refine wr_aload_n (some a) (pc' := 24) d_S_stub_23 rfl rfl rfl ?_
          refine wr_getR hV hw (pc' := 27) d_S_stub_24 rfl fl_S_30 (fun r1 hw => ?_)
          refine wr_AL_size hV hw (pc' := 30) d_S_stub_27 rfl cs_S_99 (Nat.le_of_ble_eq_true rfl) (Nat.le_of_ble_eq_true rfl) (fun x2 hw => ?_)
          refine mm_bipush (v := 8) (pc' := 32) d_S_stub_30 rfl (by decide) ?_
          refine wr_icmp_lt hw (pc' := 35) d_S_stub_32 rfl rfl (fun hw => ?_) (fun hw => ?_)
          · refine wr_aload_n (some a) (pc' := 38) d_S_stub_37 rfl rfl rfl ?_
            refine wr_getI hV hw (pc' := 41) d_S_stub_38 rfl fl_S_118 (fun x3 hw => ?_)
            refine mm_ist3 (pc' := 42) d_S_stub_41 rfl rfl (Nat.le_of_ble_eq_true rfl) ?_
            refine wr_aload_n (some a) (pc' := 43) d_S_stub_42 rfl rfl rfl ?_
            refine mm_dup (pc' := 44) d_S_stub_43 rfl (wr_cat _) ?_
            refine wr_getI hV hw (pc' := 47) d_S_stub_44 rfl fl_S_118 (fun x4 hw => ?_)
            refine mm_iconst (v := 1) (pc' := 48) d_S_stub_47 rfl (by decide) ?_
            refine mm_iadd (pc' := 49) d_S_stub_48 rfl ?_
            refine wr_put hV hw (pc' := 52) d_S_stub_49 rfl pl_S_stub_118 (Nat.le_of_ble_eq_true rfl) (wn_I _) (fun h A hV hw => ?_)
            refine wr_aload_n (some a) (pc' := 53) d_S_stub_52 rfl rfl rfl ?_
            refine wr_getR hV hw (pc' := 56) d_S_stub_53 rfl fl_S_30 (fun r5 hw => ?_)
            refine wr_new hV hw (pc' := 59) d_S_stub_56 rfl nl_S_122 rfl (fun b6 h A kc ks hV hw => ?_)
            refine mm_dup (pc' := 60) d_S_stub_59 rfl (wr_cat _) ?_
            refine mm_iload_n (pc' := 61) d_S_stub_60 rfl rfl rfl ?_
            refine mm_iload_n (pc' := 62) d_S_stub_61 rfl rfl rfl ?_
            refine mm_iload_n (pc' := 63) d_S_stub_62 rfl rfl rfl ?_
            refine wr_aload_n (some a) (pc' := 64) d_S_stub_63 rfl rfl rfl ?_
            refine wr_getR hV hw (pc' := 67) d_S_stub_64 rfl fl_S_23 (fun r7 hw => ?_)
            refine wr_SB_toString hV hw (pc' := 70) d_S_stub_67 rfl cs_S_101 (Nat.le_of_ble_eq_true rfl) (Nat.le_trans (wr_hI (wr_hI (wr_hI (wr_hR (wr_hR (wr_hR wr_h0)))))) (Nat.le_of_ble_eq_true rfl)) (fun r8 h A kc ks hV hw => ?_)
            refine wr_aload_n (some a) (pc' := 71) d_S_stub_70 rfl rfl rfl ?_
            refine wr_getR hV hw (pc' := 74) d_S_stub_71 rfl fl_S_37 (fun r9 hw => ?_)
            refine wr_cIx (pc' := 77) (as := [.int x3, .int p0, .int p1, va_rf r8, va_rf r9]) (st := [va_rf (some b6), va_rf r5]) d_S_stub_74 rfl cs_S_124 rfl (W := fun b c s Q' => wp_B_init b x3 p0 p1 r8 r9 A c s Q') hV hw (fun b c s Q' hw => sd_B_init hV hw) rfl rfl (Nat.le_of_ble_eq_true rfl) (Nat.le_trans (wr_hR (wr_hR wr_h0)) (Nat.le_of_ble_eq_true rfl)) (fun h A kc ks hV hw => ?_)
            refine wr_AL_add_O hV hw (pc' := 80) d_S_stub_77 rfl cs_S_111 (Nat.le_of_ble_eq_true rfl) (Nat.le_of_ble_eq_true rfl) (fun x10 h A kc ks hV hw => ?_)
            refine mm_pop (pc' := 81) d_S_stub_80 rfl rfl ?_
            refine wr_aload_n (some a) (pc' := 82) d_S_stub_81 rfl rfl rfl ?_
            refine wr_new hV hw (pc' := 85) d_S_stub_82 rfl nl_S_27 rfl (fun b11 h A kc ks hV hw => ?_)
            refine mm_dup (pc' := 86) d_S_stub_85 rfl (wr_cat _) ?_
            refine wr_AL_init hV hw (pc' := 89) d_S_stub_86 rfl cs_S_29 (Nat.le_of_ble_eq_true rfl) (Nat.le_trans (wr_hR (wr_hR wr_h0)) (Nat.le_of_ble_eq_true rfl)) (fun h A hV hw => ?_)
            refine wr_put hV hw (pc' := 92) d_S_stub_89 rfl pl_S_stub_37 (Nat.le_of_ble_eq_true rfl) (wn_O _ _) (fun h A hV hw => ?_)
            refine wr_aload_n (some a) (pc' := 93) d_S_stub_92 rfl rfl rfl ?_
            refine wr_getR hV hw (pc' := 96) d_S_stub_93 rfl fl_S_23 (fun r12 hw => ?_)
            refine mm_iconst (v := 0) (pc' := 97) d_S_stub_96 rfl (by decide) ?_
            refine wr_SB_setLength hV hw (pc' := 100) d_S_stub_97 rfl cs_S_115 (Nat.le_of_ble_eq_true rfl) (Nat.le_of_ble_eq_true rfl) (fun h A kc ks hV hw => ?_)
            refine mm_iload_n (pc' := 101) d_S_stub_100 rfl rfl rfl ?_
            exact wr_iret hV d_S_stub_101 rfl rfl hw
          · refine mm_iconst (v := (-1)) (pc' := 36) d_S_stub_35 rfl (by decide) ?_
            exact wr_iret hV d_S_stub_36 rfl rfl hw
theorem d_S_placeOf_0 : decode prog_1_method_24_code 0 = .ok (.iconst 0, 1) := by decide +kernel
theorem d_S_placeOf_1 : decode prog_1_method_24_code 1 = .ok (.istore_n 2, 1) := by decide +kernel
theorem d_S_placeOf_2 : decode prog_1_method_24_code 2 = .ok (.iload_n 2, 1) := by decide +kernel
theorem d_S_placeOf_3 : decode prog_1_method_24_code 3 = .ok (.aload_n 0, 1) := by decide +kernel
theorem d_S_placeOf_4 : decode prog_1_method_24_code 4 = .ok (.getfield 30, 3) := by decide +kernel
theorem d_S_placeOf_7 : decode prog_1_method_24_code 7 = .ok (.invokevirtual 99, 3) := by decide +kernel
theorem d_S_placeOf_10 : decode prog_1_method_24_code 10 = .ok (.if_icmp .ge 29, 3) := by decide +kernel
theorem d_S_placeOf_13 : decode prog_1_method_24_code 13 = .ok (.aload_n 0, 1) := by decide +kernel
theorem d_S_placeOf_14 : decode prog_1_method_24_code 14 = .ok (.getfield 30, 3) := by decide +kernel
theorem d_S_placeOf_17 : decode prog_1_method_24_code 17 = .ok (.iload_n 2, 1) := by decide +kernel
theorem d_S_placeOf_18 : decode prog_1_method_24_code 18 = .ok (.invokevirtual 136, 3) := by decide +kernel
theorem d_S_placeOf_21 : decode prog_1_method_24_code 21 = .ok (.checkcast 122, 3) := by decide +kernel
theorem d_S_placeOf_24 : decode prog_1_method_24_code 24 = .ok (.getfield 171, 3) := by decide +kernel
theorem d_S_placeOf_27 : decode prog_1_method_24_code 27 = .ok (.iload_n 1, 1) := by decide +kernel
theorem d_S_placeOf_28 : decode prog_1_method_24_code 28 = .ok (.if_icmp .ne 5, 3) := by decide +kernel
theorem d_S_placeOf_31 : decode prog_1_method_24_code 31 = .ok (.iload_n 2, 1) := by decide +kernel
theorem d_S_placeOf_32 : decode prog_1_method_24_code 32 = .ok (.ireturn, 1) := by decide +kernel
theorem d_S_placeOf_33 : decode prog_1_method_24_code 33 = .ok (.iinc 2 1, 3) := by decide +kernel
theorem d_S_placeOf_36 : decode prog_1_method_24_code 36 = .ok (.goto (-34), 3) := by decide +kernel
theorem d_S_placeOf_39 : decode prog_1_method_24_code 39 = .ok (.iconst (-1), 1) := by decide +kernel
theorem d_S_placeOf_40 : decode prog_1_method_24_code 40 = .ok (.ireturn, 1) := by decide +kernel
def wb_S_placeOf_2 (a : Nat) (p0 : Int32) (Q : Int32 → ab_H → Prop)  (k2 : Int32 → ab_H → Prop) (u2 : Int32) (A : ab_H) : Prop := wgR A (some a) 3 3 (fun r1 => wj_AL_size A r1  (fun x2 => if x2 ≤ u2 then (Q ((-1) : Int32) A) else (wgR A (some a) 3 3 (fun r3 => wj_AL_get A r3 u2 (fun r4 => wC A r4 12 (fun b5 => wgI A (some b5) 12 0 (fun x6 => if x6 = p0 then (Q u2 A) else (k2 (u2 + 1) A))))))))
def wq_S_placeOf_2 (a : Nat) (p0 : Int32) (Q : Int32 → ab_H → Prop)  : Nat → Int32 → ab_H → Prop
  | 0 => fun _ _ => False
  | n + 1 => wb_S_placeOf_2 a p0 Q  (wq_S_placeOf_2 a p0 Q  n)
set_option maxRecDepth 100000 in
set_option maxHeartbeats 4000000 in
theorem sq_S_placeOf_2 {l : Launch} {G : mm_G} {a : Nat} {p0 : Int32} {Q : Int32 → ab_H → Prop}   : ∀ (n : Nat) (u2 : Int32) (A : ab_H) (h : mm_H), Vw G h A → wq_S_placeOf_2 a p0 Q  n u2 A → mm_V l G M_S_placeOf 0 0 2 [some (va_rf (some a)), some (.int p0), some (.int u2)] [] h (wQI G Q) := by
  intro n
  induction n with
  | zero =>
    intro u2 A h hV hw
    exact absurd hw id
  | succ n hk2 =>
    intro u2 A h hV hw
    have hw : wb_S_placeOf_2 a p0 Q  (wq_S_placeOf_2 a p0 Q  n) u2 A := hw
    unfold wb_S_placeOf_2 at hw
    refine mm_iload_n (pc' := 3) d_S_placeOf_2 rfl rfl rfl ?_
    refine wr_aload_n (some a) (pc' := 4) d_S_placeOf_3 rfl rfl rfl ?_
    refine wr_getR hV hw (pc' := 7) d_S_placeOf_4 rfl fl_S_30 (fun r1 hw => ?_)
    refine wr_AL_size hV hw (pc' := 10) d_S_placeOf_7 rfl cs_S_99 (Nat.le_of_ble_eq_true rfl) (Nat.le_of_ble_eq_true rfl) (fun x2 hw => ?_)
    refine wr_icmp_ge hw (pc' := 13) d_S_placeOf_10 rfl rfl (fun hw => ?_) (fun hw => ?_)
    · refine mm_iconst (v := (-1)) (pc' := 40) d_S_placeOf_39 rfl (by decide) ?_
      exact wr_iret hV d_S_placeOf_40 rfl rfl hw
    · refine wr_aload_n (some a) (pc' := 14) d_S_placeOf_13 rfl rfl rfl ?_
      refine wr_getR hV hw (pc' := 17) d_S_placeOf_14 rfl fl_S_30 (fun r3 hw => ?_)
      refine mm_iload_n (pc' := 18) d_S_placeOf_17 rfl rfl rfl ?_
      refine wr_AL_get hV hw (pc' := 21) d_S_placeOf_18 rfl cs_S_136 (Nat.le_of_ble_eq_true rfl) (Nat.le_of_ble_eq_true rfl) (fun r4 hw => ?_)
      refine wr_cast hV hw (pc' := 24) d_S_placeOf_21 rfl rfl cl_S_122 (fun b5 hw => ?_)
      refine wr_getI hV hw (pc' := 27) d_S_placeOf_24 rfl fl_S_171 (fun x6 hw => ?_)
      refine mm_iload_n (pc' := 28) d_S_placeOf_27 rfl rfl rfl ?_
      refine wr_icmp_ne hw (pc' := 31) d_S_placeOf_28 rfl rfl (fun hw => ?_) (fun hw => ?_)
      · refine mm_iinc2 (v := (u2 + 1)) (pc' := 36) d_S_placeOf_33 rfl rfl rfl (Nat.le_of_ble_eq_true rfl) ?_
        refine mm_goto (tgt := 2) d_S_placeOf_36 rfl ?_
        exact mm_drop (mm_le.s (mm_le.s (mm_le.s mm_le.e))) (hk2 _ _ _ hV hw)
      · refine mm_iload_n (pc' := 32) d_S_placeOf_31 rfl rfl rfl ?_
        exact wr_iret hV d_S_placeOf_32 rfl rfl hw
def wp_S_placeOf (a : Nat) (p0 : Int32) (A : ab_H) (Q : Int32 → ab_H → Prop) : Prop := ∃ n, wq_S_placeOf_2 a p0 Q n (0 : Int32) A
set_option maxRecDepth 100000 in
set_option maxHeartbeats 4000000 in
theorem sd_S_placeOf {l : Launch} {G : mm_G} {h : mm_H} {A : ab_H} {a : Nat} {p0 : Int32} {Q : Int32 → ab_H → Prop} (hV : Vw G h A) (hw : wp_S_placeOf a p0 A Q) : mm_S l G M_S_placeOf [.ref a, .int p0] h 0 0 (wQI G Q) := by
  unfold wp_S_placeOf at hw
  refine mm_start rfl (Nat.le_of_ble_eq_true rfl) ?_
  show mm_V l G M_S_placeOf 0 0 0 [some (va_rf (some a)), some (.int p0), none] [] h _
  refine mm_iconst (v := 0) (pc' := 1) d_S_placeOf_0 rfl (by decide) ?_
  refine mm_ist2 (pc' := 2) d_S_placeOf_1 rfl rfl (Nat.le_of_ble_eq_true rfl) ?_
  obtain ⟨n, hw⟩ := hw
  exact mm_drop (mm_le.s (mm_le.s (mm_le.s mm_le.e))) (sq_S_placeOf_2  n _ _ _ hV hw)
theorem d_S_isScenario_0 : decode prog_1_method_20_code 0 = .ok (.iload_n 0, 1) := by decide +kernel
theorem d_S_isScenario_1 : decode prog_1_method_20_code 1 = .ok (.ifCond .lt 12, 3) := by decide +kernel
theorem d_S_isScenario_4 : decode prog_1_method_20_code 4 = .ok (.iload_n 0, 1) := by decide +kernel
theorem d_S_isScenario_5 : decode prog_1_method_20_code 5 = .ok (.iconst 3, 1) := by decide +kernel
theorem d_S_isScenario_6 : decode prog_1_method_20_code 6 = .ok (.if_icmp .ge 7, 3) := by decide +kernel
theorem d_S_isScenario_9 : decode prog_1_method_20_code 9 = .ok (.iconst 1, 1) := by decide +kernel
theorem d_S_isScenario_10 : decode prog_1_method_20_code 10 = .ok (.goto 4, 3) := by decide +kernel
theorem d_S_isScenario_13 : decode prog_1_method_20_code 13 = .ok (.iconst 0, 1) := by decide +kernel
theorem d_S_isScenario_14 : decode prog_1_method_20_code 14 = .ok (.ireturn, 1) := by decide +kernel
def wp_S_isScenario (p0 : Int32) (A : ab_H) (Q : Int32 → ab_H → Prop) : Prop := if p0 < 0 then (Q (0 : Int32) A) else (if (3 : Int32) ≤ p0 then (Q (0 : Int32) A) else (Q (1 : Int32) A))
set_option maxRecDepth 100000 in
set_option maxHeartbeats 4000000 in
theorem sd_S_isScenario {l : Launch} {G : mm_G} {h : mm_H} {A : ab_H} {p0 : Int32} {Q : Int32 → ab_H → Prop} (hV : Vw G h A) (hw : wp_S_isScenario p0 A Q) : mm_S l G M_S_isScenario [.int p0] h 0 0 (wQI G Q) := by
  unfold wp_S_isScenario at hw
  refine mm_start rfl (Nat.le_of_ble_eq_true rfl) ?_
  show mm_V l G M_S_isScenario 0 0 0 [some (.int p0)] [] h _
  refine mm_iload_n (pc' := 1) d_S_isScenario_0 rfl rfl rfl ?_
  refine wr_if_lt hw (pc' := 4) d_S_isScenario_1 rfl rfl (fun hw => ?_) (fun hw => ?_)
  · refine mm_iconst (v := 0) (pc' := 14) d_S_isScenario_13 rfl (by decide) ?_
    exact wr_iret hV d_S_isScenario_14 rfl rfl hw
  · refine mm_iload_n (pc' := 5) d_S_isScenario_4 rfl rfl rfl ?_
    refine mm_iconst (v := 3) (pc' := 6) d_S_isScenario_5 rfl (by decide) ?_
    refine wr_icmp_ge hw (pc' := 9) d_S_isScenario_6 rfl rfl (fun hw => ?_) (fun hw => ?_)
    · refine mm_iconst (v := 0) (pc' := 14) d_S_isScenario_13 rfl (by decide) ?_
      exact wr_iret hV d_S_isScenario_14 rfl rfl hw
    · refine mm_iconst (v := 1) (pc' := 10) d_S_isScenario_9 rfl (by decide) ?_
      refine mm_goto (tgt := 14) d_S_isScenario_10 rfl ?_
      exact wr_iret hV d_S_isScenario_14 rfl rfl hw
theorem d_S_isState_0 : decode prog_1_method_21_code 0 = .ok (.iload_n 0, 1) := by decide +kernel
theorem d_S_isState_1 : decode prog_1_method_21_code 1 = .ok (.ifCond .lt 12, 3) := by decide +kernel
theorem d_S_isState_4 : decode prog_1_method_21_code 4 = .ok (.iload_n 0, 1) := by decide +kernel
theorem d_S_isState_5 : decode prog_1_method_21_code 5 = .ok (.iconst 3, 1) := by decide +kernel
theorem d_S_isState_6 : decode prog_1_method_21_code 6 = .ok (.if_icmp .gt 7, 3) := by decide +kernel
theorem d_S_isState_9 : decode prog_1_method_21_code 9 = .ok (.iconst 1, 1) := by decide +kernel
theorem d_S_isState_10 : decode prog_1_method_21_code 10 = .ok (.goto 4, 3) := by decide +kernel
theorem d_S_isState_13 : decode prog_1_method_21_code 13 = .ok (.iconst 0, 1) := by decide +kernel
theorem d_S_isState_14 : decode prog_1_method_21_code 14 = .ok (.ireturn, 1) := by decide +kernel
def wp_S_isState (p0 : Int32) (A : ab_H) (Q : Int32 → ab_H → Prop) : Prop := if p0 < 0 then (Q (0 : Int32) A) else (if (3 : Int32) < p0 then (Q (0 : Int32) A) else (Q (1 : Int32) A))
set_option maxRecDepth 100000 in
set_option maxHeartbeats 4000000 in
theorem sd_S_isState {l : Launch} {G : mm_G} {h : mm_H} {A : ab_H} {p0 : Int32} {Q : Int32 → ab_H → Prop} (hV : Vw G h A) (hw : wp_S_isState p0 A Q) : mm_S l G M_S_isState [.int p0] h 0 0 (wQI G Q) := by
  unfold wp_S_isState at hw
  refine mm_start rfl (Nat.le_of_ble_eq_true rfl) ?_
  show mm_V l G M_S_isState 0 0 0 [some (.int p0)] [] h _
  refine mm_iload_n (pc' := 1) d_S_isState_0 rfl rfl rfl ?_
  refine wr_if_lt hw (pc' := 4) d_S_isState_1 rfl rfl (fun hw => ?_) (fun hw => ?_)
  · refine mm_iconst (v := 0) (pc' := 14) d_S_isState_13 rfl (by decide) ?_
    exact wr_iret hV d_S_isState_14 rfl rfl hw
  · refine mm_iload_n (pc' := 5) d_S_isState_4 rfl rfl rfl ?_
    refine mm_iconst (v := 3) (pc' := 6) d_S_isState_5 rfl (by decide) ?_
    refine wr_icmp_gt hw (pc' := 9) d_S_isState_6 rfl rfl (fun hw => ?_) (fun hw => ?_)
    · refine mm_iconst (v := 0) (pc' := 14) d_S_isState_13 rfl (by decide) ?_
      exact wr_iret hV d_S_isState_14 rfl rfl hw
    · refine mm_iconst (v := 1) (pc' := 10) d_S_isState_9 rfl (by decide) ?_
      refine mm_goto (tgt := 14) d_S_isState_10 rfl ?_
      exact wr_iret hV d_S_isState_14 rfl rfl hw
theorem d_Z_init_0 : decode prog_9_method_1_code 0 = .ok (.aload_n 0, 1) := by decide +kernel
theorem d_Z_init_1 : decode prog_9_method_1_code 1 = .ok (.invokespecial 1, 3) := by decide +kernel
theorem d_Z_init_4 : decode prog_9_method_1_code 4 = .ok (.aload_n 0, 1) := by decide +kernel
theorem d_Z_init_5 : decode prog_9_method_1_code 5 = .ok (.iload_n 1, 1) := by decide +kernel
theorem d_Z_init_6 : decode prog_9_method_1_code 6 = .ok (.putfield 7, 3) := by decide +kernel
theorem d_Z_init_9 : decode prog_9_method_1_code 9 = .ok (.aload_n 0, 1) := by decide +kernel
theorem d_Z_init_10 : decode prog_9_method_1_code 10 = .ok (.iload_n 2, 1) := by decide +kernel
theorem d_Z_init_11 : decode prog_9_method_1_code 11 = .ok (.putfield 13, 3) := by decide +kernel
theorem d_Z_init_14 : decode prog_9_method_1_code 14 = .ok (.aload_n 0, 1) := by decide +kernel
theorem d_Z_init_15 : decode prog_9_method_1_code 15 = .ok (.iload_n 3, 1) := by decide +kernel
theorem d_Z_init_16 : decode prog_9_method_1_code 16 = .ok (.putfield 16, 3) := by decide +kernel
theorem d_Z_init_19 : decode prog_9_method_1_code 19 = .ok (.return_, 1) := by decide +kernel
def wp_Z_init (a : Nat) (p0 : Int32) (p1 : Int32) (p2 : Int32) (A : ab_H) (Q : ab_H → Prop) : Prop := (∃ b, (some a) = some b) ∧ (wp A (some a) 13 0 (.int p0) (fun A => wp A (some a) 13 1 (.int p1) (fun A => wp A (some a) 13 2 (.int p2) (fun A => Q A))))
set_option maxRecDepth 100000 in
set_option maxHeartbeats 4000000 in
theorem sd_Z_init {l : Launch} {G : mm_G} {h : mm_H} {A : ab_H} {a : Nat} {p0 : Int32} {p1 : Int32} {p2 : Int32} {Q : ab_H → Prop} (hV : Vw G h A) (hw : wp_Z_init a p0 p1 p2 A Q) : mm_S l G M_Z_init [.ref a, .int p0, .int p1, .int p2] h 0 0 (wQV G Q) := by
  unfold wp_Z_init at hw
  refine mm_start rfl (Nat.le_of_ble_eq_true rfl) ?_
  show mm_V l G M_Z_init 0 0 0 [some (va_rf (some a)), some (.int p0), some (.int p1), some (.int p2)] [] h _
  refine wr_aload_n (some a) (pc' := 1) d_Z_init_0 rfl rfl rfl ?_
  obtain ⟨ho, hw⟩ := hw
  refine wr_objInit ho (pc' := 4) d_Z_init_1 rfl oi_Z_1 (Nat.le_of_ble_eq_true rfl) (Nat.le_of_ble_eq_true rfl) ?_
  refine wr_aload_n (some a) (pc' := 5) d_Z_init_4 rfl rfl rfl ?_
  refine mm_iload_n (pc' := 6) d_Z_init_5 rfl rfl rfl ?_
  refine wr_put hV hw (pc' := 9) d_Z_init_6 rfl pl_Z_init_7 (Nat.le_of_ble_eq_true rfl) (wn_I _) (fun h A hV hw => ?_)
  refine wr_aload_n (some a) (pc' := 10) d_Z_init_9 rfl rfl rfl ?_
  refine mm_iload_n (pc' := 11) d_Z_init_10 rfl rfl rfl ?_
  refine wr_put hV hw (pc' := 14) d_Z_init_11 rfl pl_Z_init_13 (Nat.le_of_ble_eq_true rfl) (wn_I _) (fun h A hV hw => ?_)
  refine wr_aload_n (some a) (pc' := 15) d_Z_init_14 rfl rfl rfl ?_
  refine mm_iload_n (pc' := 16) d_Z_init_15 rfl rfl rfl ?_
  refine wr_put hV hw (pc' := 19) d_Z_init_16 rfl pl_Z_init_16 (Nat.le_of_ble_eq_true rfl) (wn_I _) (fun h A hV hw => ?_)
  exact wr_vret hV d_Z_init_19 rfl hw
theorem d_S_scene_0 : decode prog_1_method_10_code 0 = .ok (.aload_n 0, 1) := by decide +kernel
theorem d_S_scene_1 : decode prog_1_method_10_code 1 = .ok (.iload_n 1, 1) := by decide +kernel
theorem d_S_scene_2 : decode prog_1_method_10_code 2 = .ok (.invokevirtual 127, 3) := by decide +kernel
theorem d_S_scene_5 : decode prog_1_method_10_code 5 = .ok (.istore 5, 2) := by decide +kernel
theorem d_S_scene_7 : decode prog_1_method_10_code 7 = .ok (.iload 5, 2) := by decide +kernel
theorem d_S_scene_9 : decode prog_1_method_10_code 9 = .ok (.ifCond .lt 25, 3) := by decide +kernel
theorem d_S_scene_12 : decode prog_1_method_10_code 12 = .ok (.iload_n 2, 1) := by decide +kernel
theorem d_S_scene_13 : decode prog_1_method_10_code 13 = .ok (.invokestatic 130, 3) := by decide +kernel
theorem d_S_scene_16 : decode prog_1_method_10_code 16 = .ok (.ifCond .eq 18, 3) := by decide +kernel
theorem d_S_scene_19 : decode prog_1_method_10_code 19 = .ok (.iload_n 3, 1) := by decide +kernel
theorem d_S_scene_20 : decode prog_1_method_10_code 20 = .ok (.invokestatic 133, 3) := by decide +kernel
theorem d_S_scene_23 : decode prog_1_method_10_code 23 = .ok (.ifCond .eq 11, 3) := by decide +kernel
theorem d_S_scene_26 : decode prog_1_method_10_code 26 = .ok (.iload 4, 2) := by decide +kernel
theorem d_S_scene_28 : decode prog_1_method_10_code 28 = .ok (.invokestatic 133, 3) := by decide +kernel
theorem d_S_scene_31 : decode prog_1_method_10_code 31 = .ok (.ifCond .ne 5, 3) := by decide +kernel
theorem d_S_scene_34 : decode prog_1_method_10_code 34 = .ok (.iconst 0, 1) := by decide +kernel
theorem d_S_scene_35 : decode prog_1_method_10_code 35 = .ok (.ireturn, 1) := by decide +kernel
theorem d_S_scene_36 : decode prog_1_method_10_code 36 = .ok (.aload_n 0, 1) := by decide +kernel
theorem d_S_scene_37 : decode prog_1_method_10_code 37 = .ok (.getfield 30, 3) := by decide +kernel
theorem d_S_scene_40 : decode prog_1_method_10_code 40 = .ok (.iload 5, 2) := by decide +kernel
theorem d_S_scene_42 : decode prog_1_method_10_code 42 = .ok (.invokevirtual 136, 3) := by decide +kernel
theorem d_S_scene_45 : decode prog_1_method_10_code 45 = .ok (.checkcast 122, 3) := by decide +kernel
theorem d_S_scene_48 : decode prog_1_method_10_code 48 = .ok (.new 140, 3) := by decide +kernel
theorem d_S_scene_51 : decode prog_1_method_10_code 51 = .ok (.dup, 1) := by decide +kernel
theorem d_S_scene_52 : decode prog_1_method_10_code 52 = .ok (.iload_n 2, 1) := by decide +kernel
theorem d_S_scene_53 : decode prog_1_method_10_code 53 = .ok (.iload_n 3, 1) := by decide +kernel
theorem d_S_scene_54 : decode prog_1_method_10_code 54 = .ok (.iload 4, 2) := by decide +kernel
theorem d_S_scene_56 : decode prog_1_method_10_code 56 = .ok (.invokespecial 142, 3) := by decide +kernel
theorem d_S_scene_59 : decode prog_1_method_10_code 59 = .ok (.putfield 145, 3) := by decide +kernel
theorem d_S_scene_62 : decode prog_1_method_10_code 62 = .ok (.iconst 1, 1) := by decide +kernel
theorem d_S_scene_63 : decode prog_1_method_10_code 63 = .ok (.ireturn, 1) := by decide +kernel
def wp_S_scene (a : Nat) (p0 : Int32) (p1 : Int32) (p2 : Int32) (p3 : Int32) (A : ab_H) (kc ks : Nat) (Q : Int32 → ab_H → Prop) : Prop := wC A (some a) 3 (fun b => wp_S_placeOf b p0 A (fun x1 A => if x1 < 0 then (Q (0 : Int32) A) else (wp_S_isScenario p1 A (fun x2 A => if x2 = 0 then (Q (0 : Int32) A) else (wp_S_isState p2 A (fun x3 A => if x3 = 0 then (Q (0 : Int32) A) else (wp_S_isState p3 A (fun x4 A => if x4 = 0 then (Q (0 : Int32) A) else (wgR A (some a) 3 3 (fun r5 => wj_AL_get A r5 x1 (fun r6 => wC A r6 12 (fun b7 => wNew A kc ks 13 3 (fun b8 A kc ks => wD (some b8) (fun b => wp_Z_init b p1 p2 p3 A (fun A => wp A (some b7) 12 5 (va_rf (some b8)) (fun A => Q (1 : Int32) A))))))))))))))))
set_option maxRecDepth 100000 in
set_option maxHeartbeats 4000000 in
theorem sd_S_scene {l : Launch} {G : mm_G} {h : mm_H} {A : ab_H} {a : Nat} {p0 : Int32} {p1 : Int32} {p2 : Int32} {p3 : Int32} {kc ks : Nat} {Q : Int32 → ab_H → Prop} (hV : Vw G h A) (hw : wp_S_scene a p0 p1 p2 p3 A kc ks Q) : mm_S l G M_S_scene [.ref a, .int p0, .int p1, .int p2, .int p3] h kc ks (wQI G Q) := by
  unfold wp_S_scene at hw
  refine mm_start rfl (Nat.le_of_ble_eq_true rfl) ?_
  show mm_V l G M_S_scene kc ks 0 [some (va_rf (some a)), some (.int p0), some (.int p1), some (.int p2), some (.int p3), none] [] h _
  refine wr_aload_n (some a) (pc' := 1) d_S_scene_0 rfl rfl rfl ?_
  refine mm_iload_n (pc' := 2) d_S_scene_1 rfl rfl rfl ?_
  refine wr_cVI (pc' := 5) (as := [.int p0]) (st := []) d_S_scene_2 rfl cs_S_127 rfl (W := fun b Q' => wp_S_placeOf b p0 A Q') hV hw (fun b Q' hw => sd_S_placeOf hV hw) rfl rfl (Nat.le_of_ble_eq_true rfl) (Nat.le_of_ble_eq_true rfl) (fun x1 h A hV hw => ?_)
  refine mm_ist5 (pc' := 7) d_S_scene_5 rfl rfl (Nat.le_of_ble_eq_true rfl) ?_
  refine mm_iload (pc' := 9) d_S_scene_7 rfl rfl ?_
  refine wr_if_lt hw (pc' := 12) d_S_scene_9 rfl rfl (fun hw => ?_) (fun hw => ?_)
  · refine mm_iconst (v := 0) (pc' := 35) d_S_scene_34 rfl (by decide) ?_
    exact wr_iret hV d_S_scene_35 rfl rfl hw
  · refine mm_iload_n (pc' := 13) d_S_scene_12 rfl rfl rfl ?_
    refine wr_cSI (pc' := 16) (as := [.int p1]) (st := []) d_S_scene_13 rfl cs_S_130 (sd_S_isScenario hV hw) rfl rfl (Nat.le_of_ble_eq_true rfl) (Nat.le_of_ble_eq_true rfl) (fun x2 h A hV hw => ?_)
    refine wr_if_eq hw (pc' := 19) d_S_scene_16 rfl rfl (fun hw => ?_) (fun hw => ?_)
    · refine mm_iconst (v := 0) (pc' := 35) d_S_scene_34 rfl (by decide) ?_
      exact wr_iret hV d_S_scene_35 rfl rfl hw
    · refine mm_iload_n (pc' := 20) d_S_scene_19 rfl rfl rfl ?_
      refine wr_cSI (pc' := 23) (as := [.int p2]) (st := []) d_S_scene_20 rfl cs_S_133 (sd_S_isState hV hw) rfl rfl (Nat.le_of_ble_eq_true rfl) (Nat.le_of_ble_eq_true rfl) (fun x3 h A hV hw => ?_)
      refine wr_if_eq hw (pc' := 26) d_S_scene_23 rfl rfl (fun hw => ?_) (fun hw => ?_)
      · refine mm_iconst (v := 0) (pc' := 35) d_S_scene_34 rfl (by decide) ?_
        exact wr_iret hV d_S_scene_35 rfl rfl hw
      · refine mm_iload (pc' := 28) d_S_scene_26 rfl rfl ?_
        refine wr_cSI (pc' := 31) (as := [.int p3]) (st := []) d_S_scene_28 rfl cs_S_133 (sd_S_isState hV hw) rfl rfl (Nat.le_of_ble_eq_true rfl) (Nat.le_of_ble_eq_true rfl) (fun x4 h A hV hw => ?_)
        refine wr_if_ne hw (pc' := 34) d_S_scene_31 rfl rfl (fun hw => ?_) (fun hw => ?_)
        · refine wr_aload_n (some a) (pc' := 37) d_S_scene_36 rfl rfl rfl ?_
          refine wr_getR hV hw (pc' := 40) d_S_scene_37 rfl fl_S_30 (fun r5 hw => ?_)
          refine mm_iload (pc' := 42) d_S_scene_40 rfl rfl ?_
          refine wr_AL_get hV hw (pc' := 45) d_S_scene_42 rfl cs_S_136 (Nat.le_of_ble_eq_true rfl) (Nat.le_of_ble_eq_true rfl) (fun r6 hw => ?_)
          refine wr_cast hV hw (pc' := 48) d_S_scene_45 rfl rfl cl_S_122 (fun b7 hw => ?_)
          refine wr_new hV hw (pc' := 51) d_S_scene_48 rfl nl_S_140 rfl (fun b8 h A kc ks hV hw => ?_)
          refine mm_dup (pc' := 52) d_S_scene_51 rfl (wr_cat _) ?_
          refine mm_iload_n (pc' := 53) d_S_scene_52 rfl rfl rfl ?_
          refine mm_iload_n (pc' := 54) d_S_scene_53 rfl rfl rfl ?_
          refine mm_iload (pc' := 56) d_S_scene_54 rfl rfl ?_
          refine wr_cI (pc' := 59) (as := [.int p1, .int p2, .int p3]) (st := [va_rf (some b8), va_rf (some b7)]) d_S_scene_56 rfl cs_S_142 rfl (W := fun b Q' => wp_Z_init b p1 p2 p3 A Q') hV hw (fun b Q' hw => sd_Z_init hV hw) rfl rfl (Nat.le_of_ble_eq_true rfl) (Nat.le_trans (wr_hR (wr_hR wr_h0)) (Nat.le_of_ble_eq_true rfl)) (fun h A hV hw => ?_)
          refine wr_put hV hw (pc' := 62) d_S_scene_59 rfl pl_S_scene_145 (Nat.le_of_ble_eq_true rfl) (wn_O _ _) (fun h A hV hw => ?_)
          refine mm_iconst (v := 1) (pc' := 63) d_S_scene_62 rfl (by decide) ?_
          exact wr_iret hV d_S_scene_63 rfl rfl hw
        · refine mm_iconst (v := 0) (pc' := 35) d_S_scene_34 rfl (by decide) ?_
          exact wr_iret hV d_S_scene_35 rfl rfl hw
theorem d_S_remove_0 : decode prog_1_method_11_code 0 = .ok (.aload_n 0, 1) := by decide +kernel
theorem d_S_remove_1 : decode prog_1_method_11_code 1 = .ok (.iload_n 1, 1) := by decide +kernel
theorem d_S_remove_2 : decode prog_1_method_11_code 2 = .ok (.invokevirtual 127, 3) := by decide +kernel
theorem d_S_remove_5 : decode prog_1_method_11_code 5 = .ok (.istore_n 2, 1) := by decide +kernel
theorem d_S_remove_6 : decode prog_1_method_11_code 6 = .ok (.iload_n 2, 1) := by decide +kernel
theorem d_S_remove_7 : decode prog_1_method_11_code 7 = .ok (.ifCond .ge 5, 3) := by decide +kernel
theorem d_S_remove_10 : decode prog_1_method_11_code 10 = .ok (.iconst 0, 1) := by decide +kernel
theorem d_S_remove_11 : decode prog_1_method_11_code 11 = .ok (.ireturn, 1) := by decide +kernel
theorem d_S_remove_12 : decode prog_1_method_11_code 12 = .ok (.aload_n 0, 1) := by decide +kernel
theorem d_S_remove_13 : decode prog_1_method_11_code 13 = .ok (.getfield 30, 3) := by decide +kernel
theorem d_S_remove_16 : decode prog_1_method_11_code 16 = .ok (.iload_n 2, 1) := by decide +kernel
theorem d_S_remove_17 : decode prog_1_method_11_code 17 = .ok (.invokevirtual 149, 3) := by decide +kernel
theorem d_S_remove_20 : decode prog_1_method_11_code 20 = .ok (.pop, 1) := by decide +kernel
theorem d_S_remove_21 : decode prog_1_method_11_code 21 = .ok (.iconst 1, 1) := by decide +kernel
theorem d_S_remove_22 : decode prog_1_method_11_code 22 = .ok (.ireturn, 1) := by decide +kernel
def wp_S_remove (a : Nat) (p0 : Int32) (A : ab_H) (Q : Int32 → ab_H → Prop) : Prop := wC A (some a) 3 (fun b => wp_S_placeOf b p0 A (fun x1 A => if 0 ≤ x1 then (wgR A (some a) 3 3 (fun r2 => wj_AL_remove A r2 x1 (fun r3 A => Q (1 : Int32) A))) else (Q (0 : Int32) A)))
set_option maxRecDepth 100000 in
set_option maxHeartbeats 4000000 in
theorem sd_S_remove {l : Launch} {G : mm_G} {h : mm_H} {A : ab_H} {a : Nat} {p0 : Int32} {Q : Int32 → ab_H → Prop} (hV : Vw G h A) (hw : wp_S_remove a p0 A Q) : mm_S l G M_S_remove [.ref a, .int p0] h 0 0 (wQI G Q) := by
  unfold wp_S_remove at hw
  refine mm_start rfl (Nat.le_of_ble_eq_true rfl) ?_
  show mm_V l G M_S_remove 0 0 0 [some (va_rf (some a)), some (.int p0), none] [] h _
  refine wr_aload_n (some a) (pc' := 1) d_S_remove_0 rfl rfl rfl ?_
  refine mm_iload_n (pc' := 2) d_S_remove_1 rfl rfl rfl ?_
  refine wr_cVI (pc' := 5) (as := [.int p0]) (st := []) d_S_remove_2 rfl cs_S_127 rfl (W := fun b Q' => wp_S_placeOf b p0 A Q') hV hw (fun b Q' hw => sd_S_placeOf hV hw) rfl rfl (Nat.le_of_ble_eq_true rfl) (Nat.le_of_ble_eq_true rfl) (fun x1 h A hV hw => ?_)
  refine mm_ist2 (pc' := 6) d_S_remove_5 rfl rfl (Nat.le_of_ble_eq_true rfl) ?_
  refine mm_iload_n (pc' := 7) d_S_remove_6 rfl rfl rfl ?_
  refine wr_if_ge hw (pc' := 10) d_S_remove_7 rfl rfl (fun hw => ?_) (fun hw => ?_)
  · refine wr_aload_n (some a) (pc' := 13) d_S_remove_12 rfl rfl rfl ?_
    refine wr_getR hV hw (pc' := 16) d_S_remove_13 rfl fl_S_30 (fun r2 hw => ?_)
    refine mm_iload_n (pc' := 17) d_S_remove_16 rfl rfl rfl ?_
    refine wr_AL_remove hV hw (pc' := 20) d_S_remove_17 rfl cs_S_149 (Nat.le_of_ble_eq_true rfl) (Nat.le_of_ble_eq_true rfl) (fun r3 h A hV hw => ?_)
    refine mm_pop (pc' := 21) d_S_remove_20 rfl (wr_cat _) ?_
    refine mm_iconst (v := 1) (pc' := 22) d_S_remove_21 rfl (by decide) ?_
    exact wr_iret hV d_S_remove_22 rfl rfl hw
  · refine mm_iconst (v := 0) (pc' := 11) d_S_remove_10 rfl (by decide) ?_
    exact wr_iret hV d_S_remove_11 rfl rfl hw
theorem d_S_reset_0 : decode prog_1_method_12_code 0 = .ok (.aload_n 0, 1) := by decide +kernel
theorem d_S_reset_1 : decode prog_1_method_12_code 1 = .ok (.getfield 34, 3) := by decide +kernel
theorem d_S_reset_4 : decode prog_1_method_12_code 4 = .ok (.invokevirtual 99, 3) := by decide +kernel
theorem d_S_reset_7 : decode prog_1_method_12_code 7 = .ok (.istore_n 1, 1) := by decide +kernel
theorem d_S_reset_8 : decode prog_1_method_12_code 8 = .ok (.aload_n 0, 1) := by decide +kernel
theorem d_S_reset_9 : decode prog_1_method_12_code 9 = .ok (.getfield 34, 3) := by decide +kernel
theorem d_S_reset_12 : decode prog_1_method_12_code 12 = .ok (.invokevirtual 152, 3) := by decide +kernel
theorem d_S_reset_15 : decode prog_1_method_12_code 15 = .ok (.iconst 0, 1) := by decide +kernel
theorem d_S_reset_16 : decode prog_1_method_12_code 16 = .ok (.istore_n 2, 1) := by decide +kernel
theorem d_S_reset_17 : decode prog_1_method_12_code 17 = .ok (.iload_n 2, 1) := by decide +kernel
theorem d_S_reset_18 : decode prog_1_method_12_code 18 = .ok (.iconst 3, 1) := by decide +kernel
theorem d_S_reset_19 : decode prog_1_method_12_code 19 = .ok (.if_icmp .ge 16, 3) := by decide +kernel
theorem d_S_reset_22 : decode prog_1_method_12_code 22 = .ok (.aload_n 0, 1) := by decide +kernel
theorem d_S_reset_23 : decode prog_1_method_12_code 23 = .ok (.getfield 16, 3) := by decide +kernel
theorem d_S_reset_26 : decode prog_1_method_12_code 26 = .ok (.iload_n 2, 1) := by decide +kernel
theorem d_S_reset_27 : decode prog_1_method_12_code 27 = .ok (.iconst 0, 1) := by decide +kernel
theorem d_S_reset_28 : decode prog_1_method_12_code 28 = .ok (.iastore, 1) := by decide +kernel
theorem d_S_reset_29 : decode prog_1_method_12_code 29 = .ok (.iinc 2 1, 3) := by decide +kernel
theorem d_S_reset_32 : decode prog_1_method_12_code 32 = .ok (.goto (-15), 3) := by decide +kernel
theorem d_S_reset_35 : decode prog_1_method_12_code 35 = .ok (.iload_n 1, 1) := by decide +kernel
theorem d_S_reset_36 : decode prog_1_method_12_code 36 = .ok (.ireturn, 1) := by decide +kernel
def wb_S_reset_17 (a : Nat) (Q : Int32 → ab_H → Prop)  (k17 : Int32 → Int32 → ab_H → Prop) (u1 : Int32) (u2 : Int32) (A : ab_H) : Prop := if (3 : Int32) ≤ u2 then (Q u1 A) else (wgR A (some a) 3 1 (fun r1 => wSI A r1 u2 (0 : Int32) (fun A => k17 u1 (u2 + 1) A)))
def wq_S_reset_17 (a : Nat) (Q : Int32 → ab_H → Prop)  : Nat → Int32 → Int32 → ab_H → Prop
  | 0 => fun _ _ _ => False
  | n + 1 => wb_S_reset_17 a Q  (wq_S_reset_17 a Q  n)
set_option maxRecDepth 100000 in
set_option maxHeartbeats 4000000 in
theorem sq_S_reset_17 {l : Launch} {G : mm_G} {a : Nat} {Q : Int32 → ab_H → Prop}   : ∀ (n : Nat) (u1 : Int32) (u2 : Int32) (A : ab_H) (h : mm_H), Vw G h A → wq_S_reset_17 a Q  n u1 u2 A → mm_V l G M_S_reset 0 0 17 [some (va_rf (some a)), some (.int u1), some (.int u2)] [] h (wQI G Q) := by
  intro n
  induction n with
  | zero =>
    intro u1 u2 A h hV hw
    exact absurd hw id
  | succ n hk17 =>
    intro u1 u2 A h hV hw
    have hw : wb_S_reset_17 a Q  (wq_S_reset_17 a Q  n) u1 u2 A := hw
    unfold wb_S_reset_17 at hw
    refine mm_iload_n (pc' := 18) d_S_reset_17 rfl rfl rfl ?_
    refine mm_iconst (v := 3) (pc' := 19) d_S_reset_18 rfl (by decide) ?_
    refine wr_icmp_ge hw (pc' := 22) d_S_reset_19 rfl rfl (fun hw => ?_) (fun hw => ?_)
    · refine mm_iload_n (pc' := 36) d_S_reset_35 rfl rfl rfl ?_
      exact wr_iret hV d_S_reset_36 rfl rfl hw
    · refine wr_aload_n (some a) (pc' := 23) d_S_reset_22 rfl rfl rfl ?_
      refine wr_getR hV hw (pc' := 26) d_S_reset_23 rfl fl_S_16 (fun r1 hw => ?_)
      refine mm_iload_n (pc' := 27) d_S_reset_26 rfl rfl rfl ?_
      refine mm_iconst (v := 0) (pc' := 28) d_S_reset_27 rfl (by decide) ?_
      refine wr_astI hV hw (pc' := 29) d_S_reset_28 rfl (fun h A hV hw => ?_)
      refine mm_iinc2 (v := (u2 + 1)) (pc' := 32) d_S_reset_29 rfl rfl rfl (Nat.le_of_ble_eq_true rfl) ?_
      refine mm_goto (tgt := 17) d_S_reset_32 rfl ?_
      exact mm_drop (mm_le.s (mm_le.s (mm_le.s mm_le.e))) (hk17 _ _ _ _ hV hw)
def wp_S_reset (a : Nat) (A : ab_H) (Q : Int32 → ab_H → Prop) : Prop := wgR A (some a) 3 4 (fun r2 => wj_AL_size A r2  (fun x3 => wgR A (some a) 3 4 (fun r4 => wj_AL_clear A r4  (fun A => ∃ n, wq_S_reset_17 a Q n x3 (0 : Int32) A))))
set_option maxRecDepth 100000 in
set_option maxHeartbeats 4000000 in
theorem sd_S_reset {l : Launch} {G : mm_G} {h : mm_H} {A : ab_H} {a : Nat} {Q : Int32 → ab_H → Prop} (hV : Vw G h A) (hw : wp_S_reset a A Q) : mm_S l G M_S_reset [.ref a] h 0 0 (wQI G Q) := by
  unfold wp_S_reset at hw
  refine mm_start rfl (Nat.le_of_ble_eq_true rfl) ?_
  show mm_V l G M_S_reset 0 0 0 [some (va_rf (some a)), none, none] [] h _
  refine wr_aload_n (some a) (pc' := 1) d_S_reset_0 rfl rfl rfl ?_
  refine wr_getR hV hw (pc' := 4) d_S_reset_1 rfl fl_S_34 (fun r2 hw => ?_)
  refine wr_AL_size hV hw (pc' := 7) d_S_reset_4 rfl cs_S_99 (Nat.le_of_ble_eq_true rfl) (Nat.le_of_ble_eq_true rfl) (fun x3 hw => ?_)
  refine mm_ist1 (pc' := 8) d_S_reset_7 rfl (wr_2 _) (Nat.le_of_ble_eq_true rfl) ?_
  refine wr_aload_n (some a) (pc' := 9) d_S_reset_8 rfl rfl rfl ?_
  refine wr_getR hV hw (pc' := 12) d_S_reset_9 rfl fl_S_34 (fun r4 hw => ?_)
  refine wr_AL_clear hV hw (pc' := 15) d_S_reset_12 rfl cs_S_152 (Nat.le_of_ble_eq_true rfl) (Nat.le_of_ble_eq_true rfl) (fun h A hV hw => ?_)
  refine mm_iconst (v := 0) (pc' := 16) d_S_reset_15 rfl (by decide) ?_
  refine mm_ist2 (pc' := 17) d_S_reset_16 rfl rfl (Nat.le_of_ble_eq_true rfl) ?_
  obtain ⟨n, hw⟩ := hw
  exact mm_drop (mm_le.s (mm_le.s (mm_le.s mm_le.e))) (sq_S_reset_17  n _ _ _ _ hV hw)
theorem d_S_count_0 : decode prog_1_method_13_code 0 = .ok (.iconst 0, 1) := by decide +kernel
theorem d_S_count_1 : decode prog_1_method_13_code 1 = .ok (.istore_n 1, 1) := by decide +kernel
theorem d_S_count_2 : decode prog_1_method_13_code 2 = .ok (.iconst 0, 1) := by decide +kernel
theorem d_S_count_3 : decode prog_1_method_13_code 3 = .ok (.istore_n 2, 1) := by decide +kernel
theorem d_S_count_4 : decode prog_1_method_13_code 4 = .ok (.iload_n 2, 1) := by decide +kernel
theorem d_S_count_5 : decode prog_1_method_13_code 5 = .ok (.aload_n 0, 1) := by decide +kernel
theorem d_S_count_6 : decode prog_1_method_13_code 6 = .ok (.getfield 34, 3) := by decide +kernel
theorem d_S_count_9 : decode prog_1_method_13_code 9 = .ok (.invokevirtual 99, 3) := by decide +kernel
theorem d_S_count_12 : decode prog_1_method_13_code 12 = .ok (.if_icmp .ge 35, 3) := by decide +kernel
theorem d_S_count_15 : decode prog_1_method_13_code 15 = .ok (.aload_n 0, 1) := by decide +kernel
theorem d_S_count_16 : decode prog_1_method_13_code 16 = .ok (.aload_n 0, 1) := by decide +kernel
theorem d_S_count_17 : decode prog_1_method_13_code 17 = .ok (.getfield 37, 3) := by decide +kernel
theorem d_S_count_20 : decode prog_1_method_13_code 20 = .ok (.aconst_null, 1) := by decide +kernel
theorem d_S_count_21 : decode prog_1_method_13_code 21 = .ok (.aload_n 0, 1) := by decide +kernel
theorem d_S_count_22 : decode prog_1_method_13_code 22 = .ok (.getfield 34, 3) := by decide +kernel
theorem d_S_count_25 : decode prog_1_method_13_code 25 = .ok (.iload_n 2, 1) := by decide +kernel
theorem d_S_count_26 : decode prog_1_method_13_code 26 = .ok (.invokevirtual 136, 3) := by decide +kernel
theorem d_S_count_29 : decode prog_1_method_13_code 29 = .ok (.checkcast 155, 3) := by decide +kernel
theorem d_S_count_32 : decode prog_1_method_13_code 32 = .ok (.invokevirtual 157, 3) := by decide +kernel
theorem d_S_count_35 : decode prog_1_method_13_code 35 = .ok (.ifCond .ne 6, 3) := by decide +kernel
theorem d_S_count_38 : decode prog_1_method_13_code 38 = .ok (.iinc 1 1, 3) := by decide +kernel
theorem d_S_count_41 : decode prog_1_method_13_code 41 = .ok (.iinc 2 1, 3) := by decide +kernel
theorem d_S_count_44 : decode prog_1_method_13_code 44 = .ok (.goto (-40), 3) := by decide +kernel
theorem d_S_count_47 : decode prog_1_method_13_code 47 = .ok (.aload_n 0, 1) := by decide +kernel
theorem d_S_count_48 : decode prog_1_method_13_code 48 = .ok (.getfield 37, 3) := by decide +kernel
theorem d_S_count_51 : decode prog_1_method_13_code 51 = .ok (.invokevirtual 152, 3) := by decide +kernel
theorem d_S_count_54 : decode prog_1_method_13_code 54 = .ok (.iload_n 1, 1) := by decide +kernel
theorem d_S_count_55 : decode prog_1_method_13_code 55 = .ok (.ireturn, 1) := by decide +kernel
def wq_S_count_47 (a : Nat) (Q : Int32 → ab_H → Prop)  (u1 : Int32) (A : ab_H) : Prop := wgR A (some a) 3 5 (fun r1 => wj_AL_clear A r1  (fun A => Q u1 A))
set_option maxRecDepth 100000 in
set_option maxHeartbeats 4000000 in
theorem sq_S_count_47 {l : Launch} {G : mm_G} {a : Nat} {Q : Int32 → ab_H → Prop}   : ∀ (u1 : Int32) (A : ab_H) (h : mm_H), Vw G h A → wq_S_count_47 a Q  u1 A → mm_V l G M_S_count 0 0 47 [some (va_rf (some a)), some (.int u1), none] [] h (wQI G Q) := by
  intro u1 A h hV hw
  unfold wq_S_count_47 at hw
  refine wr_aload_n (some a) (pc' := 48) d_S_count_47 rfl rfl rfl ?_
  refine wr_getR hV hw (pc' := 51) d_S_count_48 rfl fl_S_37 (fun r1 hw => ?_)
  refine wr_AL_clear hV hw (pc' := 54) d_S_count_51 rfl cs_S_152 (Nat.le_of_ble_eq_true rfl) (Nat.le_of_ble_eq_true rfl) (fun h A hV hw => ?_)
  refine mm_iload_n (pc' := 55) d_S_count_54 rfl rfl rfl ?_
  exact wr_iret hV d_S_count_55 rfl rfl hw
def wb_S_count_4 (a : Nat) (Q : Int32 → ab_H → Prop)  (k4 : Int32 → Int32 → ab_H → Prop) (u1 : Int32) (u2 : Int32) (A : ab_H) : Prop := wgR A (some a) 3 4 (fun r2 => wj_AL_size A r2  (fun x3 => if x3 ≤ u2 then (wq_S_count_47 a Q u1 A) else (wgR A (some a) 3 5 (fun r4 => wgR A (some a) 3 4 (fun r5 => wj_AL_get A r5 u2 (fun r6 => wC A r6 7 (fun b7 => wC A (some a) 3 (fun b => wp_S_conditionsMissed b r4 (none : Option Nat) (some b7) A (fun x8 A => if x8 = 0 then (k4 (u1 + 1) (u2 + 1) A) else (k4 u1 (u2 + 1) A))))))))))
def wq_S_count_4 (a : Nat) (Q : Int32 → ab_H → Prop)  : Nat → Int32 → Int32 → ab_H → Prop
  | 0 => fun _ _ _ => False
  | n + 1 => wb_S_count_4 a Q  (wq_S_count_4 a Q  n)
set_option maxRecDepth 100000 in
set_option maxHeartbeats 4000000 in
theorem sq_S_count_4 {l : Launch} {G : mm_G} {a : Nat} {Q : Int32 → ab_H → Prop}   : ∀ (n : Nat) (u1 : Int32) (u2 : Int32) (A : ab_H) (h : mm_H), Vw G h A → wq_S_count_4 a Q  n u1 u2 A → mm_V l G M_S_count 0 0 4 [some (va_rf (some a)), some (.int u1), some (.int u2)] [] h (wQI G Q) := by
  intro n
  induction n with
  | zero =>
    intro u1 u2 A h hV hw
    exact absurd hw id
  | succ n hk4 =>
    intro u1 u2 A h hV hw
    have hw : wb_S_count_4 a Q  (wq_S_count_4 a Q  n) u1 u2 A := hw
    unfold wb_S_count_4 at hw
    refine mm_iload_n (pc' := 5) d_S_count_4 rfl rfl rfl ?_
    refine wr_aload_n (some a) (pc' := 6) d_S_count_5 rfl rfl rfl ?_
    refine wr_getR hV hw (pc' := 9) d_S_count_6 rfl fl_S_34 (fun r2 hw => ?_)
    refine wr_AL_size hV hw (pc' := 12) d_S_count_9 rfl cs_S_99 (Nat.le_of_ble_eq_true rfl) (Nat.le_of_ble_eq_true rfl) (fun x3 hw => ?_)
    refine wr_icmp_ge hw (pc' := 15) d_S_count_12 rfl rfl (fun hw => ?_) (fun hw => ?_)
    · exact mm_drop (mm_le.s (mm_le.s (mm_le.n mm_le.e))) (sq_S_count_47  _ _ _ hV hw)
    · refine wr_aload_n (some a) (pc' := 16) d_S_count_15 rfl rfl rfl ?_
      refine wr_aload_n (some a) (pc' := 17) d_S_count_16 rfl rfl rfl ?_
      refine wr_getR hV hw (pc' := 20) d_S_count_17 rfl fl_S_37 (fun r4 hw => ?_)
      refine wr_null (pc' := 21) d_S_count_20 rfl ?_
      refine wr_aload_n (some a) (pc' := 22) d_S_count_21 rfl rfl rfl ?_
      refine wr_getR hV hw (pc' := 25) d_S_count_22 rfl fl_S_34 (fun r5 hw => ?_)
      refine mm_iload_n (pc' := 26) d_S_count_25 rfl rfl rfl ?_
      refine wr_AL_get hV hw (pc' := 29) d_S_count_26 rfl cs_S_136 (Nat.le_of_ble_eq_true rfl) (Nat.le_trans (wr_hR (wr_hR (wr_hR wr_h0))) (Nat.le_of_ble_eq_true rfl)) (fun r6 hw => ?_)
      refine wr_cast hV hw (pc' := 32) d_S_count_29 rfl rfl cl_S_155 (fun b7 hw => ?_)
      refine wr_cVI (pc' := 35) (as := [va_rf r4, va_rf (none : Option Nat), va_rf (some b7)]) (st := []) d_S_count_32 rfl cs_S_157 rfl (W := fun b Q' => wp_S_conditionsMissed b r4 (none : Option Nat) (some b7) A Q') hV hw (fun b Q' hw => sd_S_conditionsMissed hV hw) rfl rfl (Nat.le_of_ble_eq_true rfl) (Nat.le_of_ble_eq_true rfl) (fun x8 h A hV hw => ?_)
      refine wr_if_ne hw (pc' := 38) d_S_count_35 rfl rfl (fun hw => ?_) (fun hw => ?_)
      · refine mm_iinc2 (v := (u2 + 1)) (pc' := 44) d_S_count_41 rfl rfl rfl (Nat.le_of_ble_eq_true rfl) ?_
        refine mm_goto (tgt := 4) d_S_count_44 rfl ?_
        exact mm_drop (mm_le.s (mm_le.s (mm_le.s mm_le.e))) (hk4 _ _ _ _ hV hw)
      · refine mm_iinc1 (v := (u1 + 1)) (pc' := 41) d_S_count_38 rfl (wr_2 _) rfl (Nat.le_of_ble_eq_true rfl) ?_
        refine mm_iinc2 (v := (u2 + 1)) (pc' := 44) d_S_count_41 rfl rfl rfl (Nat.le_of_ble_eq_true rfl) ?_
        refine mm_goto (tgt := 4) d_S_count_44 rfl ?_
        exact mm_drop (mm_le.s (mm_le.s (mm_le.s mm_le.e))) (hk4 _ _ _ _ hV hw)
def wp_S_count (a : Nat) (A : ab_H) (Q : Int32 → ab_H → Prop) : Prop := ∃ n, wq_S_count_4 a Q n (0 : Int32) (0 : Int32) A
set_option maxRecDepth 100000 in
set_option maxHeartbeats 4000000 in
theorem sd_S_count {l : Launch} {G : mm_G} {h : mm_H} {A : ab_H} {a : Nat} {Q : Int32 → ab_H → Prop} (hV : Vw G h A) (hw : wp_S_count a A Q) : mm_S l G M_S_count [.ref a] h 0 0 (wQI G Q) := by
  unfold wp_S_count at hw
  refine mm_start rfl (Nat.le_of_ble_eq_true rfl) ?_
  show mm_V l G M_S_count 0 0 0 [some (va_rf (some a)), none, none] [] h _
  refine mm_iconst (v := 0) (pc' := 1) d_S_count_0 rfl (by decide) ?_
  refine mm_ist1 (pc' := 2) d_S_count_1 rfl (wr_2 _) (Nat.le_of_ble_eq_true rfl) ?_
  refine mm_iconst (v := 0) (pc' := 3) d_S_count_2 rfl (by decide) ?_
  refine mm_ist2 (pc' := 4) d_S_count_3 rfl rfl (Nat.le_of_ble_eq_true rfl) ?_
  obtain ⟨n, hw⟩ := hw
  exact mm_drop (mm_le.s (mm_le.s (mm_le.s mm_le.e))) (sq_S_count_4  n _ _ _ _ hV hw)
theorem d_S_journal_0 : decode prog_1_method_14_code 0 = .ok (.aload_n 0, 1) := by decide +kernel
theorem d_S_journal_1 : decode prog_1_method_14_code 1 = .ok (.getfield 34, 3) := by decide +kernel
theorem d_S_journal_4 : decode prog_1_method_14_code 4 = .ok (.invokevirtual 99, 3) := by decide +kernel
theorem d_S_journal_7 : decode prog_1_method_14_code 7 = .ok (.ireturn, 1) := by decide +kernel
def wp_S_journal (a : Nat) (A : ab_H) (Q : Int32 → ab_H → Prop) : Prop := wgR A (some a) 3 4 (fun r1 => wj_AL_size A r1  (fun x2 => Q x2 A))
set_option maxRecDepth 100000 in
set_option maxHeartbeats 4000000 in
theorem sd_S_journal {l : Launch} {G : mm_G} {h : mm_H} {A : ab_H} {a : Nat} {Q : Int32 → ab_H → Prop} (hV : Vw G h A) (hw : wp_S_journal a A Q) : mm_S l G M_S_journal [.ref a] h 0 0 (wQI G Q) := by
  unfold wp_S_journal at hw
  refine mm_start rfl (Nat.le_of_ble_eq_true rfl) ?_
  show mm_V l G M_S_journal 0 0 0 [some (va_rf (some a))] [] h _
  refine wr_aload_n (some a) (pc' := 1) d_S_journal_0 rfl rfl rfl ?_
  refine wr_getR hV hw (pc' := 4) d_S_journal_1 rfl fl_S_34 (fun r1 hw => ?_)
  refine wr_AL_size hV hw (pc' := 7) d_S_journal_4 rfl cs_S_99 (Nat.le_of_ble_eq_true rfl) (Nat.le_of_ble_eq_true rfl) (fun x2 hw => ?_)
  exact wr_iret hV d_S_journal_7 rfl rfl hw
theorem d_S_isKept_0 : decode prog_1_method_22_code 0 = .ok (.iload_n 1, 1) := by decide +kernel
theorem d_S_isKept_1 : decode prog_1_method_22_code 1 = .ok (.ifCond .lt 18, 3) := by decide +kernel
theorem d_S_isKept_4 : decode prog_1_method_22_code 4 = .ok (.iload_n 1, 1) := by decide +kernel
theorem d_S_isKept_5 : decode prog_1_method_22_code 5 = .ok (.aload_n 0, 1) := by decide +kernel
theorem d_S_isKept_6 : decode prog_1_method_22_code 6 = .ok (.getfield 34, 3) := by decide +kernel
theorem d_S_isKept_9 : decode prog_1_method_22_code 9 = .ok (.invokevirtual 99, 3) := by decide +kernel
theorem d_S_isKept_12 : decode prog_1_method_22_code 12 = .ok (.if_icmp .ge 7, 3) := by decide +kernel
theorem d_S_isKept_15 : decode prog_1_method_22_code 15 = .ok (.iconst 1, 1) := by decide +kernel
theorem d_S_isKept_16 : decode prog_1_method_22_code 16 = .ok (.goto 4, 3) := by decide +kernel
theorem d_S_isKept_19 : decode prog_1_method_22_code 19 = .ok (.iconst 0, 1) := by decide +kernel
theorem d_S_isKept_20 : decode prog_1_method_22_code 20 = .ok (.ireturn, 1) := by decide +kernel
def wp_S_isKept (a : Nat) (p0 : Int32) (A : ab_H) (Q : Int32 → ab_H → Prop) : Prop := if p0 < 0 then (Q (0 : Int32) A) else (wgR A (some a) 3 4 (fun r1 => wj_AL_size A r1  (fun x2 => if x2 ≤ p0 then (Q (0 : Int32) A) else (Q (1 : Int32) A))))
set_option maxRecDepth 100000 in
set_option maxHeartbeats 4000000 in
theorem sd_S_isKept {l : Launch} {G : mm_G} {h : mm_H} {A : ab_H} {a : Nat} {p0 : Int32} {Q : Int32 → ab_H → Prop} (hV : Vw G h A) (hw : wp_S_isKept a p0 A Q) : mm_S l G M_S_isKept [.ref a, .int p0] h 0 0 (wQI G Q) := by
  unfold wp_S_isKept at hw
  refine mm_start rfl (Nat.le_of_ble_eq_true rfl) ?_
  show mm_V l G M_S_isKept 0 0 0 [some (va_rf (some a)), some (.int p0)] [] h _
  refine mm_iload_n (pc' := 1) d_S_isKept_0 rfl rfl rfl ?_
  refine wr_if_lt hw (pc' := 4) d_S_isKept_1 rfl rfl (fun hw => ?_) (fun hw => ?_)
  · refine mm_iconst (v := 0) (pc' := 20) d_S_isKept_19 rfl (by decide) ?_
    exact wr_iret hV d_S_isKept_20 rfl rfl hw
  · refine mm_iload_n (pc' := 5) d_S_isKept_4 rfl rfl rfl ?_
    refine wr_aload_n (some a) (pc' := 6) d_S_isKept_5 rfl rfl rfl ?_
    refine wr_getR hV hw (pc' := 9) d_S_isKept_6 rfl fl_S_34 (fun r1 hw => ?_)
    refine wr_AL_size hV hw (pc' := 12) d_S_isKept_9 rfl cs_S_99 (Nat.le_of_ble_eq_true rfl) (Nat.le_of_ble_eq_true rfl) (fun x2 hw => ?_)
    refine wr_icmp_ge hw (pc' := 15) d_S_isKept_12 rfl rfl (fun hw => ?_) (fun hw => ?_)
    · refine mm_iconst (v := 0) (pc' := 20) d_S_isKept_19 rfl (by decide) ?_
      exact wr_iret hV d_S_isKept_20 rfl rfl hw
    · refine mm_iconst (v := 1) (pc' := 16) d_S_isKept_15 rfl (by decide) ?_
      refine mm_goto (tgt := 20) d_S_isKept_16 rfl ?_
      exact wr_iret hV d_S_isKept_20 rfl rfl hw
theorem d_S_chosen_0 : decode prog_1_method_15_code 0 = .ok (.aload_n 0, 1) := by decide +kernel
theorem d_S_chosen_1 : decode prog_1_method_15_code 1 = .ok (.iload_n 1, 1) := by decide +kernel
theorem d_S_chosen_2 : decode prog_1_method_15_code 2 = .ok (.invokevirtual 161, 3) := by decide +kernel
theorem d_S_chosen_5 : decode prog_1_method_15_code 5 = .ok (.ifCond .eq 20, 3) := by decide +kernel
theorem d_S_chosen_8 : decode prog_1_method_15_code 8 = .ok (.aload_n 0, 1) := by decide +kernel
theorem d_S_chosen_9 : decode prog_1_method_15_code 9 = .ok (.getfield 34, 3) := by decide +kernel
theorem d_S_chosen_12 : decode prog_1_method_15_code 12 = .ok (.iload_n 1, 1) := by decide +kernel
theorem d_S_chosen_13 : decode prog_1_method_15_code 13 = .ok (.invokevirtual 136, 3) := by decide +kernel
theorem d_S_chosen_16 : decode prog_1_method_15_code 16 = .ok (.checkcast 155, 3) := by decide +kernel
theorem d_S_chosen_19 : decode prog_1_method_15_code 19 = .ok (.getfield 164, 3) := by decide +kernel
theorem d_S_chosen_22 : decode prog_1_method_15_code 22 = .ok (.goto 5, 3) := by decide +kernel
theorem d_S_chosen_25 : decode prog_1_method_15_code 25 = .ok (.bipush (-2), 2) := by decide +kernel
theorem d_S_chosen_27 : decode prog_1_method_15_code 27 = .ok (.ireturn, 1) := by decide +kernel
def wp_S_chosen (a : Nat) (p0 : Int32) (A : ab_H) (Q : Int32 → ab_H → Prop) : Prop := wC A (some a) 3 (fun b => wp_S_isKept b p0 A (fun x1 A => if x1 = 0 then (Q ((-2) : Int32) A) else (wgR A (some a) 3 4 (fun r2 => wj_AL_get A r2 p0 (fun r3 => wC A r3 7 (fun b4 => wgI A (some b4) 7 5 (fun x5 => Q x5 A)))))))
set_option maxRecDepth 100000 in
set_option maxHeartbeats 4000000 in
theorem sd_S_chosen {l : Launch} {G : mm_G} {h : mm_H} {A : ab_H} {a : Nat} {p0 : Int32} {Q : Int32 → ab_H → Prop} (hV : Vw G h A) (hw : wp_S_chosen a p0 A Q) : mm_S l G M_S_chosen [.ref a, .int p0] h 0 0 (wQI G Q) := by
  unfold wp_S_chosen at hw
  refine mm_start rfl (Nat.le_of_ble_eq_true rfl) ?_
  show mm_V l G M_S_chosen 0 0 0 [some (va_rf (some a)), some (.int p0)] [] h _
  refine wr_aload_n (some a) (pc' := 1) d_S_chosen_0 rfl rfl rfl ?_
  refine mm_iload_n (pc' := 2) d_S_chosen_1 rfl rfl rfl ?_
  refine wr_cVI (pc' := 5) (as := [.int p0]) (st := []) d_S_chosen_2 rfl cs_S_161 rfl (W := fun b Q' => wp_S_isKept b p0 A Q') hV hw (fun b Q' hw => sd_S_isKept hV hw) rfl rfl (Nat.le_of_ble_eq_true rfl) (Nat.le_of_ble_eq_true rfl) (fun x1 h A hV hw => ?_)
  refine wr_if_eq hw (pc' := 8) d_S_chosen_5 rfl rfl (fun hw => ?_) (fun hw => ?_)
  · refine mm_bipush (v := (-2)) (pc' := 27) d_S_chosen_25 rfl (by decide) ?_
    exact wr_iret hV d_S_chosen_27 rfl rfl hw
  · refine wr_aload_n (some a) (pc' := 9) d_S_chosen_8 rfl rfl rfl ?_
    refine wr_getR hV hw (pc' := 12) d_S_chosen_9 rfl fl_S_34 (fun r2 hw => ?_)
    refine mm_iload_n (pc' := 13) d_S_chosen_12 rfl rfl rfl ?_
    refine wr_AL_get hV hw (pc' := 16) d_S_chosen_13 rfl cs_S_136 (Nat.le_of_ble_eq_true rfl) (Nat.le_of_ble_eq_true rfl) (fun r3 hw => ?_)
    refine wr_cast hV hw (pc' := 19) d_S_chosen_16 rfl rfl cl_S_155 (fun b4 hw => ?_)
    refine wr_getI hV hw (pc' := 22) d_S_chosen_19 rfl fl_S_164 (fun x5 hw => ?_)
    refine mm_goto (tgt := 27) d_S_chosen_22 rfl ?_
    exact wr_iret hV d_S_chosen_27 rfl rfl hw
theorem d_S_near_0 : decode prog_1_method_16_code 0 = .ok (.aload_n 0, 1) := by decide +kernel
theorem d_S_near_1 : decode prog_1_method_16_code 1 = .ok (.iload_n 1, 1) := by decide +kernel
theorem d_S_near_2 : decode prog_1_method_16_code 2 = .ok (.invokevirtual 161, 3) := by decide +kernel
theorem d_S_near_5 : decode prog_1_method_16_code 5 = .ok (.ifCond .ne 5, 3) := by decide +kernel
theorem d_S_near_8 : decode prog_1_method_16_code 8 = .ok (.iconst (-1), 1) := by decide +kernel
theorem d_S_near_9 : decode prog_1_method_16_code 9 = .ok (.ireturn, 1) := by decide +kernel
theorem d_S_near_10 : decode prog_1_method_16_code 10 = .ok (.aload_n 0, 1) := by decide +kernel
theorem d_S_near_11 : decode prog_1_method_16_code 11 = .ok (.getfield 34, 3) := by decide +kernel
theorem d_S_near_14 : decode prog_1_method_16_code 14 = .ok (.iload_n 1, 1) := by decide +kernel
theorem d_S_near_15 : decode prog_1_method_16_code 15 = .ok (.invokevirtual 136, 3) := by decide +kernel
theorem d_S_near_18 : decode prog_1_method_16_code 18 = .ok (.checkcast 155, 3) := by decide +kernel
theorem d_S_near_21 : decode prog_1_method_16_code 21 = .ok (.astore_n 2, 1) := by decide +kernel
theorem d_S_near_22 : decode prog_1_method_16_code 22 = .ok (.aload_n 0, 1) := by decide +kernel
theorem d_S_near_23 : decode prog_1_method_16_code 23 = .ok (.aload_n 2, 1) := by decide +kernel
theorem d_S_near_24 : decode prog_1_method_16_code 24 = .ok (.invokevirtual 167, 3) := by decide +kernel
theorem d_S_near_27 : decode prog_1_method_16_code 27 = .ok (.astore_n 3, 1) := by decide +kernel
theorem d_S_near_28 : decode prog_1_method_16_code 28 = .ok (.aload_n 3, 1) := by decide +kernel
theorem d_S_near_29 : decode prog_1_method_16_code 29 = .ok (.ifnonnull 7, 3) := by decide +kernel
theorem d_S_near_32 : decode prog_1_method_16_code 32 = .ok (.iconst (-1), 1) := by decide +kernel
theorem d_S_near_33 : decode prog_1_method_16_code 33 = .ok (.goto 24, 3) := by decide +kernel
theorem d_S_near_36 : decode prog_1_method_16_code 36 = .ok (.bipush 100, 2) := by decide +kernel
theorem d_S_near_38 : decode prog_1_method_16_code 38 = .ok (.aload_n 3, 1) := by decide +kernel
theorem d_S_near_39 : decode prog_1_method_16_code 39 = .ok (.getfield 171, 3) := by decide +kernel
theorem d_S_near_42 : decode prog_1_method_16_code 42 = .ok (.imul, 1) := by decide +kernel
theorem d_S_near_43 : decode prog_1_method_16_code 43 = .ok (.aload_n 0, 1) := by decide +kernel
theorem d_S_near_44 : decode prog_1_method_16_code 44 = .ok (.aload_n 3, 1) := by decide +kernel
theorem d_S_near_45 : decode prog_1_method_16_code 45 = .ok (.getfield 174, 3) := by decide +kernel
theorem d_S_near_48 : decode prog_1_method_16_code 48 = .ok (.aload_n 3, 1) := by decide +kernel
theorem d_S_near_49 : decode prog_1_method_16_code 49 = .ok (.getfield 145, 3) := by decide +kernel
theorem d_S_near_52 : decode prog_1_method_16_code 52 = .ok (.aload_n 2, 1) := by decide +kernel
theorem d_S_near_53 : decode prog_1_method_16_code 53 = .ok (.invokevirtual 157, 3) := by decide +kernel
theorem d_S_near_56 : decode prog_1_method_16_code 56 = .ok (.iadd, 1) := by decide +kernel
theorem d_S_near_57 : decode prog_1_method_16_code 57 = .ok (.ireturn, 1) := by decide +kernel
def wp_S_near (a : Nat) (p0 : Int32) (A : ab_H) (Q : Int32 → ab_H → Prop) : Prop := wC A (some a) 3 (fun b => wp_S_isKept b p0 A (fun x1 A => if x1 = 0 then (Q ((-1) : Int32) A) else (wgR A (some a) 3 4 (fun r2 => wj_AL_get A r2 p0 (fun r3 => wC A r3 7 (fun b4 => wC A (some a) 3 (fun b => wp_S_nearest b (some b4) A (fun r5 A => if r5 = none then (Q ((-1) : Int32) A) else (wgI A r5 12 0 (fun x6 => wgR A r5 12 4 (fun r7 => wgR A r5 12 5 (fun r8 => wC A (some a) 3 (fun b => wp_S_conditionsMissed b r7 r8 (some b4) A (fun x9 A => Q (((100 : Int32) * x6) + x9) A))))))))))))))
set_option maxRecDepth 100000 in
set_option maxHeartbeats 4000000 in
theorem sd_S_near {l : Launch} {G : mm_G} {h : mm_H} {A : ab_H} {a : Nat} {p0 : Int32} {Q : Int32 → ab_H → Prop} (hV : Vw G h A) (hw : wp_S_near a p0 A Q) : mm_S l G M_S_near [.ref a, .int p0] h 0 0 (wQI G Q) := by
  unfold wp_S_near at hw
  refine mm_start rfl (Nat.le_of_ble_eq_true rfl) ?_
  show mm_V l G M_S_near 0 0 0 [some (va_rf (some a)), some (.int p0), none, none] [] h _
  refine wr_aload_n (some a) (pc' := 1) d_S_near_0 rfl rfl rfl ?_
  refine mm_iload_n (pc' := 2) d_S_near_1 rfl rfl rfl ?_
  refine wr_cVI (pc' := 5) (as := [.int p0]) (st := []) d_S_near_2 rfl cs_S_161 rfl (W := fun b Q' => wp_S_isKept b p0 A Q') hV hw (fun b Q' hw => sd_S_isKept hV hw) rfl rfl (Nat.le_of_ble_eq_true rfl) (Nat.le_of_ble_eq_true rfl) (fun x1 h A hV hw => ?_)
  refine wr_if_ne hw (pc' := 8) d_S_near_5 rfl rfl (fun hw => ?_) (fun hw => ?_)
  · refine wr_aload_n (some a) (pc' := 11) d_S_near_10 rfl rfl rfl ?_
    refine wr_getR hV hw (pc' := 14) d_S_near_11 rfl fl_S_34 (fun r2 hw => ?_)
    refine mm_iload_n (pc' := 15) d_S_near_14 rfl rfl rfl ?_
    refine wr_AL_get hV hw (pc' := 18) d_S_near_15 rfl cs_S_136 (Nat.le_of_ble_eq_true rfl) (Nat.le_of_ble_eq_true rfl) (fun r3 hw => ?_)
    refine wr_cast hV hw (pc' := 21) d_S_near_18 rfl rfl cl_S_155 (fun b4 hw => ?_)
    refine wr_ast2 (pc' := 22) d_S_near_21 rfl rfl (Nat.le_of_ble_eq_true rfl) ?_
    refine wr_aload_n (some a) (pc' := 23) d_S_near_22 rfl rfl rfl ?_
    refine wr_aload_n (some b4) (pc' := 24) d_S_near_23 rfl rfl rfl ?_
    refine wr_cVR (pc' := 27) (as := [va_rf (some b4)]) (st := []) d_S_near_24 rfl cs_S_167 rfl (W := fun b Q' => wp_S_nearest b (some b4) A Q') hV hw (fun b Q' hw => sd_S_nearest hV hw) rfl rfl (Nat.le_of_ble_eq_true rfl) (Nat.le_of_ble_eq_true rfl) (fun r5 h A hV hw => ?_)
    refine wr_ast3 (pc' := 28) d_S_near_27 rfl (wr_2 _) (Nat.le_of_ble_eq_true rfl) ?_
    refine wr_aload_n r5 (pc' := 29) d_S_near_28 rfl rfl rfl ?_
    refine wr_ifnonnull hw (pc' := 32) d_S_near_29 rfl rfl (fun hw => ?_) (fun hw => ?_)
    · refine mm_bipush (v := 100) (pc' := 38) d_S_near_36 rfl (by decide) ?_
      refine wr_aload_n r5 (pc' := 39) d_S_near_38 rfl rfl rfl ?_
      refine wr_getI hV hw (pc' := 42) d_S_near_39 rfl fl_S_171 (fun x6 hw => ?_)
      refine mm_imul (pc' := 43) d_S_near_42 rfl ?_
      refine wr_aload_n (some a) (pc' := 44) d_S_near_43 rfl rfl rfl ?_
      refine wr_aload_n r5 (pc' := 45) d_S_near_44 rfl rfl rfl ?_
      refine wr_getR hV hw (pc' := 48) d_S_near_45 rfl fl_S_174 (fun r7 hw => ?_)
      refine wr_aload_n r5 (pc' := 49) d_S_near_48 rfl rfl rfl ?_
      refine wr_getR hV hw (pc' := 52) d_S_near_49 rfl fl_S_145 (fun r8 hw => ?_)
      refine wr_aload_n (some b4) (pc' := 53) d_S_near_52 rfl rfl rfl ?_
      refine wr_cVI (pc' := 56) (as := [va_rf r7, va_rf r8, va_rf (some b4)]) (st := [.int ((100 : Int32) * x6)]) d_S_near_53 rfl cs_S_157 rfl (W := fun b Q' => wp_S_conditionsMissed b r7 r8 (some b4) A Q') hV hw (fun b Q' hw => sd_S_conditionsMissed hV hw) rfl rfl (Nat.le_of_ble_eq_true rfl) (Nat.le_of_ble_eq_true rfl) (fun x9 h A hV hw => ?_)
      refine mm_iadd (pc' := 57) d_S_near_56 rfl ?_
      exact wr_iret hV d_S_near_57 rfl rfl hw
    · refine mm_iconst (v := (-1)) (pc' := 33) d_S_near_32 rfl (by decide) ?_
      refine mm_goto (tgt := 57) d_S_near_33 rfl ?_
      exact wr_iret hV d_S_near_57 rfl rfl hw
  · refine mm_iconst (v := (-1)) (pc' := 9) d_S_near_8 rfl (by decide) ?_
    exact wr_iret hV d_S_near_9 rfl rfl hw
theorem d_S_state_0 : decode prog_1_method_17_code 0 = .ok (.iload_n 1, 1) := by decide +kernel
theorem d_S_state_1 : decode prog_1_method_17_code 1 = .ok (.invokestatic 130, 3) := by decide +kernel
theorem d_S_state_4 : decode prog_1_method_17_code 4 = .ok (.ifCond .eq 12, 3) := by decide +kernel
theorem d_S_state_7 : decode prog_1_method_17_code 7 = .ok (.aload_n 0, 1) := by decide +kernel
theorem d_S_state_8 : decode prog_1_method_17_code 8 = .ok (.getfield 16, 3) := by decide +kernel
theorem d_S_state_11 : decode prog_1_method_17_code 11 = .ok (.iload_n 1, 1) := by decide +kernel
theorem d_S_state_12 : decode prog_1_method_17_code 12 = .ok (.iaload, 1) := by decide +kernel
theorem d_S_state_13 : decode prog_1_method_17_code 13 = .ok (.goto 4, 3) := by decide +kernel
theorem d_S_state_16 : decode prog_1_method_17_code 16 = .ok (.iconst (-1), 1) := by decide +kernel
theorem d_S_state_17 : decode prog_1_method_17_code 17 = .ok (.ireturn, 1) := by decide +kernel
def wp_S_state (a : Nat) (p0 : Int32) (A : ab_H) (Q : Int32 → ab_H → Prop) : Prop := wp_S_isScenario p0 A (fun x1 A => if x1 = 0 then (Q ((-1) : Int32) A) else (wgR A (some a) 3 1 (fun r2 => wAI A r2 p0 (fun x3 => Q x3 A))))
set_option maxRecDepth 100000 in
set_option maxHeartbeats 4000000 in
theorem sd_S_state {l : Launch} {G : mm_G} {h : mm_H} {A : ab_H} {a : Nat} {p0 : Int32} {Q : Int32 → ab_H → Prop} (hV : Vw G h A) (hw : wp_S_state a p0 A Q) : mm_S l G M_S_state [.ref a, .int p0] h 0 0 (wQI G Q) := by
  unfold wp_S_state at hw
  refine mm_start rfl (Nat.le_of_ble_eq_true rfl) ?_
  show mm_V l G M_S_state 0 0 0 [some (va_rf (some a)), some (.int p0)] [] h _
  refine mm_iload_n (pc' := 1) d_S_state_0 rfl rfl rfl ?_
  refine wr_cSI (pc' := 4) (as := [.int p0]) (st := []) d_S_state_1 rfl cs_S_130 (sd_S_isScenario hV hw) rfl rfl (Nat.le_of_ble_eq_true rfl) (Nat.le_of_ble_eq_true rfl) (fun x1 h A hV hw => ?_)
  refine wr_if_eq hw (pc' := 7) d_S_state_4 rfl rfl (fun hw => ?_) (fun hw => ?_)
  · refine mm_iconst (v := (-1)) (pc' := 17) d_S_state_16 rfl (by decide) ?_
    exact wr_iret hV d_S_state_17 rfl rfl hw
  · refine wr_aload_n (some a) (pc' := 8) d_S_state_7 rfl rfl rfl ?_
    refine wr_getR hV hw (pc' := 11) d_S_state_8 rfl fl_S_16 (fun r2 hw => ?_)
    refine mm_iload_n (pc' := 12) d_S_state_11 rfl rfl rfl ?_
    refine wr_aldI hV hw (pc' := 13) d_S_state_12 rfl (fun x3 hw => ?_)
    refine mm_goto (tgt := 17) d_S_state_13 rfl ?_
    exact wr_iret hV d_S_state_17 rfl rfl hw
theorem d_S_served_0 : decode prog_1_method_18_code 0 = .ok (.aload_n 0, 1) := by decide +kernel
theorem d_S_served_1 : decode prog_1_method_18_code 1 = .ok (.getfield 177, 3) := by decide +kernel
theorem d_S_served_4 : decode prog_1_method_18_code 4 = .ok (.ireturn, 1) := by decide +kernel
def wp_S_served (a : Nat) (A : ab_H) (Q : Int32 → ab_H → Prop) : Prop := wgI A (some a) 3 7 (fun x1 => Q x1 A)
set_option maxRecDepth 100000 in
set_option maxHeartbeats 4000000 in
theorem sd_S_served {l : Launch} {G : mm_G} {h : mm_H} {A : ab_H} {a : Nat} {Q : Int32 → ab_H → Prop} (hV : Vw G h A) (hw : wp_S_served a A Q) : mm_S l G M_S_served [.ref a] h 0 0 (wQI G Q) := by
  unfold wp_S_served at hw
  refine mm_start rfl (Nat.le_of_ble_eq_true rfl) ?_
  show mm_V l G M_S_served 0 0 0 [some (va_rf (some a))] [] h _
  refine wr_aload_n (some a) (pc' := 1) d_S_served_0 rfl rfl rfl ?_
  refine wr_getI hV hw (pc' := 4) d_S_served_1 rfl fl_S_177 (fun x1 hw => ?_)
  exact wr_iret hV d_S_served_4 rfl rfl hw
