theorem d_M_makePart_0 : decode prog_14_method_40_code 0 = .ok (.aload_n 0, 1) := by decide +kernel
theorem d_M_makePart_1 : decode prog_14_method_40_code 1 = .ok (.iload_n 1, 1) := by decide +kernel
theorem d_M_makePart_2 : decode prog_14_method_40_code 2 = .ok (.invokevirtual 227, 3) := by decide +kernel
theorem d_M_makePart_5 : decode prog_14_method_40_code 5 = .ok (.istore_n 2, 1) := by decide +kernel
theorem d_M_makePart_6 : decode prog_14_method_40_code 6 = .ok (.iconst 0, 1) := by decide +kernel
theorem d_M_makePart_7 : decode prog_14_method_40_code 7 = .ok (.istore_n 3, 1) := by decide +kernel
theorem d_M_makePart_8 : decode prog_14_method_40_code 8 = .ok (.iload_n 3, 1) := by decide +kernel
theorem d_M_makePart_9 : decode prog_14_method_40_code 9 = .ok (.aload_n 0, 1) := by decide +kernel
theorem d_M_makePart_10 : decode prog_14_method_40_code 10 = .ok (.getfield 185, 3) := by decide +kernel
theorem d_M_makePart_13 : decode prog_14_method_40_code 13 = .ok (.if_icmp .ge 23, 3) := by decide +kernel
theorem d_M_makePart_16 : decode prog_14_method_40_code 16 = .ok (.iload_n 2, 1) := by decide +kernel
theorem d_M_makePart_17 : decode prog_14_method_40_code 17 = .ok (.ifCond .eq 19, 3) := by decide +kernel
theorem d_M_makePart_20 : decode prog_14_method_40_code 20 = .ok (.aload_n 0, 1) := by decide +kernel
theorem d_M_makePart_21 : decode prog_14_method_40_code 21 = .ok (.aload_n 0, 1) := by decide +kernel
theorem d_M_makePart_22 : decode prog_14_method_40_code 22 = .ok (.getfield 89, 3) := by decide +kernel
theorem d_M_makePart_25 : decode prog_14_method_40_code 25 = .ok (.iload_n 3, 1) := by decide +kernel
theorem d_M_makePart_26 : decode prog_14_method_40_code 26 = .ok (.iaload, 1) := by decide +kernel
theorem d_M_makePart_27 : decode prog_14_method_40_code 27 = .ok (.invokevirtual 239, 3) := by decide +kernel
theorem d_M_makePart_30 : decode prog_14_method_40_code 30 = .ok (.iinc 3 1, 3) := by decide +kernel
theorem d_M_makePart_33 : decode prog_14_method_40_code 33 = .ok (.goto (-25), 3) := by decide +kernel
theorem d_M_makePart_36 : decode prog_14_method_40_code 36 = .ok (.return_, 1) := by decide +kernel
def wb_M_makePart_8 (a : Nat) (p0 : Int32) (Q : ab_H → Prop)  (k8 : Int32 → Int32 → ab_H → Prop) (u2 : Int32) (u3 : Int32) (A : ab_H) : Prop := wgI A (some a) 14 40 (fun x1 => if x1 ≤ u3 then (Q A) else (if u2 = 0 then (Q A) else (wgR A (some a) 14 39 (fun r2 => wAI A r2 u3 (fun x3 => wC A (some a) 14 (fun b => wp_M_make b x3 A (fun A => k8 u2 (u3 + 1) A)))))))
def wq_M_makePart_8 (a : Nat) (p0 : Int32) (Q : ab_H → Prop)  : Nat → Int32 → Int32 → ab_H → Prop
  | 0 => fun _ _ _ => False
  | n + 1 => wb_M_makePart_8 a p0 Q  (wq_M_makePart_8 a p0 Q  n)
set_option maxRecDepth 100000 in
set_option maxHeartbeats 4000000 in
theorem sq_M_makePart_8 {l : Launch} {G : mm_G} {a : Nat} {p0 : Int32} {Q : ab_H → Prop}   : ∀ (n : Nat) (u2 : Int32) (u3 : Int32) (A : ab_H) (h : mm_H), Vw G h A → wq_M_makePart_8 a p0 Q  n u2 u3 A → mm_V l G M_M_makePart 0 0 8 [some (va_rf (some a)), some (.int p0), some (.int u2), some (.int u3)] [] h (wQV G Q) := by
  intro n
  induction n with
  | zero =>
    intro u2 u3 A h hV hw
    exact absurd hw id
  | succ n hk8 =>
    intro u2 u3 A h hV hw
    have hw : wb_M_makePart_8 a p0 Q  (wq_M_makePart_8 a p0 Q  n) u2 u3 A := hw
    unfold wb_M_makePart_8 at hw
    refine mm_iload_n (pc' := 9) d_M_makePart_8 rfl rfl rfl ?_
    refine wr_aload_n (some a) (pc' := 10) d_M_makePart_9 rfl rfl rfl ?_
    refine wr_getI hV hw (pc' := 13) d_M_makePart_10 rfl fl_M_185 (fun x1 hw => ?_)
    refine wr_icmp_ge hw (pc' := 16) d_M_makePart_13 rfl rfl (fun hw => ?_) (fun hw => ?_)
    · exact wr_vret hV d_M_makePart_36 rfl hw
    · refine mm_iload_n (pc' := 17) d_M_makePart_16 rfl rfl rfl ?_
      refine wr_if_eq hw (pc' := 20) d_M_makePart_17 rfl rfl (fun hw => ?_) (fun hw => ?_)
      · exact wr_vret hV d_M_makePart_36 rfl hw
      · refine wr_aload_n (some a) (pc' := 21) d_M_makePart_20 rfl rfl rfl ?_
        refine wr_aload_n (some a) (pc' := 22) d_M_makePart_21 rfl rfl rfl ?_
        refine wr_getR hV hw (pc' := 25) d_M_makePart_22 rfl fl_M_89 (fun r2 hw => ?_)
        refine mm_iload_n (pc' := 26) d_M_makePart_25 rfl rfl rfl ?_
        refine wr_aldI hV hw (pc' := 27) d_M_makePart_26 rfl (fun x3 hw => ?_)
        refine wr_cVV (pc' := 30) (as := [.int x3]) (st := []) d_M_makePart_27 rfl cs_M_239 rfl (W := fun b Q' => wp_M_make b x3 A Q') hV hw (fun b Q' hw => sd_M_make hV hw) rfl rfl (Nat.le_of_ble_eq_true rfl) (Nat.le_of_ble_eq_true rfl) (fun h A hV hw => ?_)
        refine mm_iinc3 (v := (u3 + 1)) (pc' := 33) d_M_makePart_30 rfl rfl rfl (Nat.le_of_ble_eq_true rfl) ?_
        refine mm_goto (tgt := 8) d_M_makePart_33 rfl ?_
        exact mm_drop (mm_le.s (mm_le.s (mm_le.s (mm_le.s mm_le.e)))) (hk8 _ _ _ _ hV hw)
def wp_M_makePart (a : Nat) (p0 : Int32) (A : ab_H) (Q : ab_H → Prop) : Prop := wC A (some a) 14 (fun b => wp_M_seekPart b p0 A (fun x4 A => ∃ n, wq_M_makePart_8 a p0 Q n x4 (0 : Int32) A))
set_option maxRecDepth 100000 in
set_option maxHeartbeats 4000000 in
theorem sd_M_makePart {l : Launch} {G : mm_G} {h : mm_H} {A : ab_H} {a : Nat} {p0 : Int32} {Q : ab_H → Prop} (hV : Vw G h A) (hw : wp_M_makePart a p0 A Q) : mm_S l G M_M_makePart [.ref a, .int p0] h 0 0 (wQV G Q) := by
  unfold wp_M_makePart at hw
  refine mm_start rfl (Nat.le_of_ble_eq_true rfl) ?_
  show mm_V l G M_M_makePart 0 0 0 [some (va_rf (some a)), some (.int p0), none, none] [] h _
  refine wr_aload_n (some a) (pc' := 1) d_M_makePart_0 rfl rfl rfl ?_
  refine mm_iload_n (pc' := 2) d_M_makePart_1 rfl rfl rfl ?_
  refine wr_cVI (pc' := 5) (as := [.int p0]) (st := []) d_M_makePart_2 rfl cs_M_227 rfl (W := fun b Q' => wp_M_seekPart b p0 A Q') hV hw (fun b Q' hw => sd_M_seekPart hV hw) rfl rfl (Nat.le_of_ble_eq_true rfl) (Nat.le_of_ble_eq_true rfl) (fun x4 h A hV hw => ?_)
  refine mm_ist2 (pc' := 6) d_M_makePart_5 rfl rfl (Nat.le_of_ble_eq_true rfl) ?_
  refine mm_iconst (v := 0) (pc' := 7) d_M_makePart_6 rfl (by decide) ?_
  refine mm_ist3 (pc' := 8) d_M_makePart_7 rfl rfl (Nat.le_of_ble_eq_true rfl) ?_
  obtain ⟨n, hw⟩ := hw
  exact mm_drop (mm_le.s (mm_le.s (mm_le.s (mm_le.s mm_le.e)))) (sq_M_makePart_8  n _ _ _ _ hV hw)
theorem d_M_expand_0 : decode prog_14_method_41_code 0 = .ok (.bipush 40, 2) := by decide +kernel
theorem d_M_expand_2 : decode prog_14_method_41_code 2 = .ok (.iload_n 1, 1) := by decide +kernel
theorem d_M_expand_3 : decode prog_14_method_41_code 3 = .ok (.imul, 1) := by decide +kernel
theorem d_M_expand_4 : decode prog_14_method_41_code 4 = .ok (.istore_n 3, 1) := by decide +kernel
theorem d_M_expand_5 : decode prog_14_method_41_code 5 = .ok (.aload_n 0, 1) := by decide +kernel
theorem d_M_expand_6 : decode prog_14_method_41_code 6 = .ok (.getfield 65, 3) := by decide +kernel
theorem d_M_expand_9 : decode prog_14_method_41_code 9 = .ok (.iload_n 1, 1) := by decide +kernel
theorem d_M_expand_10 : decode prog_14_method_41_code 10 = .ok (.iaload, 1) := by decide +kernel
theorem d_M_expand_11 : decode prog_14_method_41_code 11 = .ok (.istore 4, 2) := by decide +kernel
theorem d_M_expand_13 : decode prog_14_method_41_code 13 = .ok (.aload_n 0, 1) := by decide +kernel
theorem d_M_expand_14 : decode prog_14_method_41_code 14 = .ok (.getfield 62, 3) := by decide +kernel
theorem d_M_expand_17 : decode prog_14_method_41_code 17 = .ok (.iload_n 3, 1) := by decide +kernel
theorem d_M_expand_18 : decode prog_14_method_41_code 18 = .ok (.iload_n 2, 1) := by decide +kernel
theorem d_M_expand_19 : decode prog_14_method_41_code 19 = .ok (.iadd, 1) := by decide +kernel
theorem d_M_expand_20 : decode prog_14_method_41_code 20 = .ok (.iaload, 1) := by decide +kernel
theorem d_M_expand_21 : decode prog_14_method_41_code 21 = .ok (.istore 5, 2) := by decide +kernel
theorem d_M_expand_23 : decode prog_14_method_41_code 23 = .ok (.iload 5, 2) := by decide +kernel
theorem d_M_expand_25 : decode prog_14_method_41_code 25 = .ok (.bipush 123, 2) := by decide +kernel
theorem d_M_expand_27 : decode prog_14_method_41_code 27 = .ok (.if_icmp .ne 24, 3) := by decide +kernel
theorem d_M_expand_30 : decode prog_14_method_41_code 30 = .ok (.iload_n 2, 1) := by decide +kernel
theorem d_M_expand_31 : decode prog_14_method_41_code 31 = .ok (.iconst 2, 1) := by decide +kernel
theorem d_M_expand_32 : decode prog_14_method_41_code 32 = .ok (.iadd, 1) := by decide +kernel
theorem d_M_expand_33 : decode prog_14_method_41_code 33 = .ok (.iload 4, 2) := by decide +kernel
theorem d_M_expand_35 : decode prog_14_method_41_code 35 = .ok (.if_icmp .ge 16, 3) := by decide +kernel
theorem d_M_expand_38 : decode prog_14_method_41_code 38 = .ok (.aload_n 0, 1) := by decide +kernel
theorem d_M_expand_39 : decode prog_14_method_41_code 39 = .ok (.getfield 62, 3) := by decide +kernel
theorem d_M_expand_42 : decode prog_14_method_41_code 42 = .ok (.iload_n 3, 1) := by decide +kernel
theorem d_M_expand_43 : decode prog_14_method_41_code 43 = .ok (.iload_n 2, 1) := by decide +kernel
theorem d_M_expand_44 : decode prog_14_method_41_code 44 = .ok (.iadd, 1) := by decide +kernel
theorem d_M_expand_45 : decode prog_14_method_41_code 45 = .ok (.iconst 1, 1) := by decide +kernel
theorem d_M_expand_46 : decode prog_14_method_41_code 46 = .ok (.iadd, 1) := by decide +kernel
theorem d_M_expand_47 : decode prog_14_method_41_code 47 = .ok (.iaload, 1) := by decide +kernel
theorem d_M_expand_48 : decode prog_14_method_41_code 48 = .ok (.goto 4, 3) := by decide +kernel
theorem d_M_expand_51 : decode prog_14_method_41_code 51 = .ok (.iconst 0, 1) := by decide +kernel
theorem d_M_expand_52 : decode prog_14_method_41_code 52 = .ok (.istore 6, 2) := by decide +kernel
theorem d_M_expand_54 : decode prog_14_method_41_code 54 = .ok (.iload_n 2, 1) := by decide +kernel
theorem d_M_expand_55 : decode prog_14_method_41_code 55 = .ok (.iconst 2, 1) := by decide +kernel
theorem d_M_expand_56 : decode prog_14_method_41_code 56 = .ok (.iadd, 1) := by decide +kernel
theorem d_M_expand_57 : decode prog_14_method_41_code 57 = .ok (.istore 7, 2) := by decide +kernel
theorem d_M_expand_59 : decode prog_14_method_41_code 59 = .ok (.iload 6, 2) := by decide +kernel
theorem d_M_expand_61 : decode prog_14_method_41_code 61 = .ok (.ifCond .le 30, 3) := by decide +kernel
theorem d_M_expand_64 : decode prog_14_method_41_code 64 = .ok (.iload 7, 2) := by decide +kernel
theorem d_M_expand_66 : decode prog_14_method_41_code 66 = .ok (.iload 4, 2) := by decide +kernel
theorem d_M_expand_68 : decode prog_14_method_41_code 68 = .ok (.if_icmp .ge 23, 3) := by decide +kernel
theorem d_M_expand_71 : decode prog_14_method_41_code 71 = .ok (.aload_n 0, 1) := by decide +kernel
theorem d_M_expand_72 : decode prog_14_method_41_code 72 = .ok (.getfield 62, 3) := by decide +kernel
theorem d_M_expand_75 : decode prog_14_method_41_code 75 = .ok (.iload_n 3, 1) := by decide +kernel
theorem d_M_expand_76 : decode prog_14_method_41_code 76 = .ok (.iload 7, 2) := by decide +kernel
theorem d_M_expand_78 : decode prog_14_method_41_code 78 = .ok (.iadd, 1) := by decide +kernel
theorem d_M_expand_79 : decode prog_14_method_41_code 79 = .ok (.iaload, 1) := by decide +kernel
theorem d_M_expand_80 : decode prog_14_method_41_code 80 = .ok (.bipush 125, 2) := by decide +kernel
theorem d_M_expand_82 : decode prog_14_method_41_code 82 = .ok (.if_icmp .eq 9, 3) := by decide +kernel
theorem d_M_expand_85 : decode prog_14_method_41_code 85 = .ok (.iinc 7 1, 3) := by decide +kernel
theorem d_M_expand_88 : decode prog_14_method_41_code 88 = .ok (.goto (-29), 3) := by decide +kernel
theorem d_M_expand_91 : decode prog_14_method_41_code 91 = .ok (.iload 6, 2) := by decide +kernel
theorem d_M_expand_93 : decode prog_14_method_41_code 93 = .ok (.ifCond .le 50, 3) := by decide +kernel
theorem d_M_expand_96 : decode prog_14_method_41_code 96 = .ok (.aload_n 0, 1) := by decide +kernel
theorem d_M_expand_97 : decode prog_14_method_41_code 97 = .ok (.getfield 62, 3) := by decide +kernel
theorem d_M_expand_100 : decode prog_14_method_41_code 100 = .ok (.iload_n 3, 1) := by decide +kernel
theorem d_M_expand_101 : decode prog_14_method_41_code 101 = .ok (.iload_n 2, 1) := by decide +kernel
theorem d_M_expand_102 : decode prog_14_method_41_code 102 = .ok (.iadd, 1) := by decide +kernel
theorem d_M_expand_103 : decode prog_14_method_41_code 103 = .ok (.iconst 2, 1) := by decide +kernel
theorem d_M_expand_104 : decode prog_14_method_41_code 104 = .ok (.iadd, 1) := by decide +kernel
theorem d_M_expand_105 : decode prog_14_method_41_code 105 = .ok (.iaload, 1) := by decide +kernel
theorem d_M_expand_106 : decode prog_14_method_41_code 106 = .ok (.bipush 125, 2) := by decide +kernel
theorem d_M_expand_108 : decode prog_14_method_41_code 108 = .ok (.if_icmp .ne 35, 3) := by decide +kernel
theorem d_M_expand_111 : decode prog_14_method_41_code 111 = .ok (.iload 6, 2) := by decide +kernel
theorem d_M_expand_113 : decode prog_14_method_41_code 113 = .ok (.bipush 109, 2) := by decide +kernel
theorem d_M_expand_115 : decode prog_14_method_41_code 115 = .ok (.if_icmp .eq 24, 3) := by decide +kernel
theorem d_M_expand_118 : decode prog_14_method_41_code 118 = .ok (.iload 6, 2) := by decide +kernel
theorem d_M_expand_120 : decode prog_14_method_41_code 120 = .ok (.bipush 112, 2) := by decide +kernel
theorem d_M_expand_122 : decode prog_14_method_41_code 122 = .ok (.if_icmp .eq 17, 3) := by decide +kernel
theorem d_M_expand_125 : decode prog_14_method_41_code 125 = .ok (.iload 6, 2) := by decide +kernel
theorem d_M_expand_127 : decode prog_14_method_41_code 127 = .ok (.bipush 98, 2) := by decide +kernel
theorem d_M_expand_129 : decode prog_14_method_41_code 129 = .ok (.if_icmp .eq 10, 3) := by decide +kernel
theorem d_M_expand_132 : decode prog_14_method_41_code 132 = .ok (.iload 6, 2) := by decide +kernel
theorem d_M_expand_134 : decode prog_14_method_41_code 134 = .ok (.bipush 110, 2) := by decide +kernel
theorem d_M_expand_136 : decode prog_14_method_41_code 136 = .ok (.if_icmp .ne 7, 3) := by decide +kernel
theorem d_M_expand_139 : decode prog_14_method_41_code 139 = .ok (.iconst 1, 1) := by decide +kernel
theorem d_M_expand_140 : decode prog_14_method_41_code 140 = .ok (.goto 4, 3) := by decide +kernel
theorem d_M_expand_143 : decode prog_14_method_41_code 143 = .ok (.iconst 0, 1) := by decide +kernel
theorem d_M_expand_144 : decode prog_14_method_41_code 144 = .ok (.istore 8, 2) := by decide +kernel
theorem d_M_expand_146 : decode prog_14_method_41_code 146 = .ok (.iload 6, 2) := by decide +kernel
theorem d_M_expand_148 : decode prog_14_method_41_code 148 = .ok (.bipush 113, 2) := by decide +kernel
theorem d_M_expand_150 : decode prog_14_method_41_code 150 = .ok (.if_icmp .eq 10, 3) := by decide +kernel
theorem d_M_expand_153 : decode prog_14_method_41_code 153 = .ok (.iload 6, 2) := by decide +kernel
theorem d_M_expand_155 : decode prog_14_method_41_code 155 = .ok (.bipush 104, 2) := by decide +kernel
theorem d_M_expand_157 : decode prog_14_method_41_code 157 = .ok (.if_icmp .ne 22, 3) := by decide +kernel
theorem d_M_expand_160 : decode prog_14_method_41_code 160 = .ok (.iload 7, 2) := by decide +kernel
theorem d_M_expand_162 : decode prog_14_method_41_code 162 = .ok (.iload 4, 2) := by decide +kernel
theorem d_M_expand_164 : decode prog_14_method_41_code 164 = .ok (.if_icmp .ge 15, 3) := by decide +kernel
theorem d_M_expand_167 : decode prog_14_method_41_code 167 = .ok (.iload 7, 2) := by decide +kernel
theorem d_M_expand_169 : decode prog_14_method_41_code 169 = .ok (.iload_n 2, 1) := by decide +kernel
theorem d_M_expand_170 : decode prog_14_method_41_code 170 = .ok (.iconst 2, 1) := by decide +kernel
theorem d_M_expand_171 : decode prog_14_method_41_code 171 = .ok (.iadd, 1) := by decide +kernel
theorem d_M_expand_172 : decode prog_14_method_41_code 172 = .ok (.if_icmp .le 7, 3) := by decide +kernel
theorem d_M_expand_175 : decode prog_14_method_41_code 175 = .ok (.iconst 1, 1) := by decide +kernel
theorem d_M_expand_176 : decode prog_14_method_41_code 176 = .ok (.goto 4, 3) := by decide +kernel
theorem d_M_expand_179 : decode prog_14_method_41_code 179 = .ok (.iconst 0, 1) := by decide +kernel
theorem d_M_expand_180 : decode prog_14_method_41_code 180 = .ok (.istore 9, 2) := by decide +kernel
theorem d_M_expand_182 : decode prog_14_method_41_code 182 = .ok (.iload 8, 2) := by decide +kernel
theorem d_M_expand_184 : decode prog_14_method_41_code 184 = .ok (.ifCond .eq 18, 3) := by decide +kernel
theorem d_M_expand_187 : decode prog_14_method_41_code 187 = .ok (.iload 6, 2) := by decide +kernel
theorem d_M_expand_189 : decode prog_14_method_41_code 189 = .ok (.bipush 110, 2) := by decide +kernel
theorem d_M_expand_191 : decode prog_14_method_41_code 191 = .ok (.if_icmp .ne 11, 3) := by decide +kernel
theorem d_M_expand_194 : decode prog_14_method_41_code 194 = .ok (.aload_n 0, 1) := by decide +kernel
theorem d_M_expand_195 : decode prog_14_method_41_code 195 = .ok (.aload_n 0, 1) := by decide +kernel
theorem d_M_expand_196 : decode prog_14_method_41_code 196 = .ok (.getfield 242, 3) := by decide +kernel
theorem d_M_expand_199 : decode prog_14_method_41_code 199 = .ok (.invokevirtual 245, 3) := by decide +kernel
theorem d_M_expand_202 : decode prog_14_method_41_code 202 = .ok (.iload 8, 2) := by decide +kernel
theorem d_M_expand_204 : decode prog_14_method_41_code 204 = .ok (.ifCond .eq 37, 3) := by decide +kernel
theorem d_M_expand_207 : decode prog_14_method_41_code 207 = .ok (.iload 6, 2) := by decide +kernel
theorem d_M_expand_209 : decode prog_14_method_41_code 209 = .ok (.bipush 110, 2) := by decide +kernel
theorem d_M_expand_211 : decode prog_14_method_41_code 211 = .ok (.if_icmp .eq 30, 3) := by decide +kernel
theorem d_M_expand_214 : decode prog_14_method_41_code 214 = .ok (.aload_n 0, 1) := by decide +kernel
theorem d_M_expand_215 : decode prog_14_method_41_code 215 = .ok (.iload 6, 2) := by decide +kernel
theorem d_M_expand_217 : decode prog_14_method_41_code 217 = .ok (.bipush 109, 2) := by decide +kernel
theorem d_M_expand_219 : decode prog_14_method_41_code 219 = .ok (.if_icmp .ne 7, 3) := by decide +kernel
theorem d_M_expand_222 : decode prog_14_method_41_code 222 = .ok (.iconst 0, 1) := by decide +kernel
theorem d_M_expand_223 : decode prog_14_method_41_code 223 = .ok (.goto 15, 3) := by decide +kernel
theorem d_M_expand_226 : decode prog_14_method_41_code 226 = .ok (.iload 6, 2) := by decide +kernel
theorem d_M_expand_228 : decode prog_14_method_41_code 228 = .ok (.bipush 112, 2) := by decide +kernel
theorem d_M_expand_230 : decode prog_14_method_41_code 230 = .ok (.if_icmp .ne 7, 3) := by decide +kernel
theorem d_M_expand_233 : decode prog_14_method_41_code 233 = .ok (.iconst 1, 1) := by decide +kernel
theorem d_M_expand_234 : decode prog_14_method_41_code 234 = .ok (.goto 4, 3) := by decide +kernel
theorem d_M_expand_237 : decode prog_14_method_41_code 237 = .ok (.iconst 4, 1) := by decide +kernel
theorem d_M_expand_238 : decode prog_14_method_41_code 238 = .ok (.invokevirtual 248, 3) := by decide +kernel
theorem d_M_expand_241 : decode prog_14_method_41_code 241 = .ok (.iload 9, 2) := by decide +kernel
theorem d_M_expand_243 : decode prog_14_method_41_code 243 = .ok (.ifCond .eq 67, 3) := by decide +kernel
theorem d_M_expand_246 : decode prog_14_method_41_code 246 = .ok (.aload_n 0, 1) := by decide +kernel
theorem d_M_expand_247 : decode prog_14_method_41_code 247 = .ok (.iload 7, 2) := by decide +kernel
theorem d_M_expand_249 : decode prog_14_method_41_code 249 = .ok (.iload_n 2, 1) := by decide +kernel
theorem d_M_expand_250 : decode prog_14_method_41_code 250 = .ok (.isub, 1) := by decide +kernel
theorem d_M_expand_251 : decode prog_14_method_41_code 251 = .ok (.iconst 2, 1) := by decide +kernel
theorem d_M_expand_252 : decode prog_14_method_41_code 252 = .ok (.isub, 1) := by decide +kernel
theorem d_M_expand_253 : decode prog_14_method_41_code 253 = .ok (.putfield 192, 3) := by decide +kernel
theorem d_M_expand_256 : decode prog_14_method_41_code 256 = .ok (.iconst 0, 1) := by decide +kernel
theorem d_M_expand_257 : decode prog_14_method_41_code 257 = .ok (.istore 10, 2) := by decide +kernel
theorem d_M_expand_259 : decode prog_14_method_41_code 259 = .ok (.iload 10, 2) := by decide +kernel
theorem d_M_expand_261 : decode prog_14_method_41_code 261 = .ok (.aload_n 0, 1) := by decide +kernel
theorem d_M_expand_262 : decode prog_14_method_41_code 262 = .ok (.getfield 192, 3) := by decide +kernel
theorem d_M_expand_265 : decode prog_14_method_41_code 265 = .ok (.if_icmp .ge 29, 3) := by decide +kernel
theorem d_M_expand_268 : decode prog_14_method_41_code 268 = .ok (.aload_n 0, 1) := by decide +kernel
theorem d_M_expand_269 : decode prog_14_method_41_code 269 = .ok (.getfield 86, 3) := by decide +kernel
theorem d_M_expand_272 : decode prog_14_method_41_code 272 = .ok (.iload 10, 2) := by decide +kernel
theorem d_M_expand_274 : decode prog_14_method_41_code 274 = .ok (.aload_n 0, 1) := by decide +kernel
theorem d_M_expand_275 : decode prog_14_method_41_code 275 = .ok (.getfield 62, 3) := by decide +kernel
theorem d_M_expand_278 : decode prog_14_method_41_code 278 = .ok (.iload_n 3, 1) := by decide +kernel
theorem d_M_expand_279 : decode prog_14_method_41_code 279 = .ok (.iload_n 2, 1) := by decide +kernel
theorem d_M_expand_280 : decode prog_14_method_41_code 280 = .ok (.iadd, 1) := by decide +kernel
theorem d_M_expand_281 : decode prog_14_method_41_code 281 = .ok (.iconst 2, 1) := by decide +kernel
theorem d_M_expand_282 : decode prog_14_method_41_code 282 = .ok (.iadd, 1) := by decide +kernel
theorem d_M_expand_283 : decode prog_14_method_41_code 283 = .ok (.iload 10, 2) := by decide +kernel
theorem d_M_expand_285 : decode prog_14_method_41_code 285 = .ok (.iadd, 1) := by decide +kernel
theorem d_M_expand_286 : decode prog_14_method_41_code 286 = .ok (.iaload, 1) := by decide +kernel
theorem d_M_expand_287 : decode prog_14_method_41_code 287 = .ok (.iastore, 1) := by decide +kernel
theorem d_M_expand_288 : decode prog_14_method_41_code 288 = .ok (.iinc 10 1, 3) := by decide +kernel
theorem d_M_expand_291 : decode prog_14_method_41_code 291 = .ok (.goto (-32), 3) := by decide +kernel
theorem d_M_expand_294 : decode prog_14_method_41_code 294 = .ok (.aload_n 0, 1) := by decide +kernel
theorem d_M_expand_295 : decode prog_14_method_41_code 295 = .ok (.iload 6, 2) := by decide +kernel
theorem d_M_expand_297 : decode prog_14_method_41_code 297 = .ok (.bipush 113, 2) := by decide +kernel
theorem d_M_expand_299 : decode prog_14_method_41_code 299 = .ok (.if_icmp .ne 7, 3) := by decide +kernel
theorem d_M_expand_302 : decode prog_14_method_41_code 302 = .ok (.iconst 2, 1) := by decide +kernel
theorem d_M_expand_303 : decode prog_14_method_41_code 303 = .ok (.goto 4, 3) := by decide +kernel
theorem d_M_expand_306 : decode prog_14_method_41_code 306 = .ok (.iconst 3, 1) := by decide +kernel
theorem d_M_expand_307 : decode prog_14_method_41_code 307 = .ok (.invokevirtual 248, 3) := by decide +kernel
theorem d_M_expand_310 : decode prog_14_method_41_code 310 = .ok (.iload 8, 2) := by decide +kernel
theorem d_M_expand_312 : decode prog_14_method_41_code 312 = .ok (.ifCond .ne 14, 3) := by decide +kernel
theorem d_M_expand_315 : decode prog_14_method_41_code 315 = .ok (.iload 9, 2) := by decide +kernel
theorem d_M_expand_317 : decode prog_14_method_41_code 317 = .ok (.ifCond .ne 9, 3) := by decide +kernel
theorem d_M_expand_320 : decode prog_14_method_41_code 320 = .ok (.aload_n 0, 1) := by decide +kernel
theorem d_M_expand_321 : decode prog_14_method_41_code 321 = .ok (.iload 5, 2) := by decide +kernel
theorem d_M_expand_323 : decode prog_14_method_41_code 323 = .ok (.invokevirtual 239, 3) := by decide +kernel
theorem d_M_expand_326 : decode prog_14_method_41_code 326 = .ok (.iload 8, 2) := by decide +kernel
theorem d_M_expand_328 : decode prog_14_method_41_code 328 = .ok (.ifCond .eq 9, 3) := by decide +kernel
theorem d_M_expand_331 : decode prog_14_method_41_code 331 = .ok (.iload_n 2, 1) := by decide +kernel
theorem d_M_expand_332 : decode prog_14_method_41_code 332 = .ok (.iconst 3, 1) := by decide +kernel
theorem d_M_expand_333 : decode prog_14_method_41_code 333 = .ok (.iadd, 1) := by decide +kernel
theorem d_M_expand_334 : decode prog_14_method_41_code 334 = .ok (.goto 18, 3) := by decide +kernel
theorem d_M_expand_337 : decode prog_14_method_41_code 337 = .ok (.iload 9, 2) := by decide +kernel
theorem d_M_expand_339 : decode prog_14_method_41_code 339 = .ok (.ifCond .eq 10, 3) := by decide +kernel
theorem d_M_expand_342 : decode prog_14_method_41_code 342 = .ok (.iload 7, 2) := by decide +kernel
theorem d_M_expand_344 : decode prog_14_method_41_code 344 = .ok (.iconst 1, 1) := by decide +kernel
theorem d_M_expand_345 : decode prog_14_method_41_code 345 = .ok (.iadd, 1) := by decide +kernel
theorem d_M_expand_346 : decode prog_14_method_41_code 346 = .ok (.goto 6, 3) := by decide +kernel
theorem d_M_expand_349 : decode prog_14_method_41_code 349 = .ok (.iload_n 2, 1) := by decide +kernel
theorem d_M_expand_350 : decode prog_14_method_41_code 350 = .ok (.iconst 1, 1) := by decide +kernel
theorem d_M_expand_351 : decode prog_14_method_41_code 351 = .ok (.iadd, 1) := by decide +kernel
theorem d_M_expand_352 : decode prog_14_method_41_code 352 = .ok (.ireturn, 1) := by decide +kernel
def wq_M_expand_326 (a : Nat) (p0 : Int32) (p1 : Int32) (Q : Int32 → ab_H → Prop)  (u7 : Int32) (u8 : Int32) (u9 : Int32) (A : ab_H) : Prop := if u8 = 0 then (if u9 = 0 then (Q (p1 + (1 : Int32)) A) else (Q (u7 + (1 : Int32)) A)) else (Q (p1 + (3 : Int32)) A)
set_option maxRecDepth 100000 in
set_option maxHeartbeats 4000000 in
theorem sq_M_expand_326 {l : Launch} {G : mm_G} {a : Nat} {p0 : Int32} {p1 : Int32} {Q : Int32 → ab_H → Prop}   : ∀ (u7 : Int32) (u8 : Int32) (u9 : Int32) (A : ab_H) (h : mm_H), Vw G h A → wq_M_expand_326 a p0 p1 Q  u7 u8 u9 A → mm_V l G M_M_expand 0 0 326 [some (va_rf (some a)), some (.int p0), some (.int p1), none, none, none, none, some (.int u7), some (.int u8), some (.int u9), none] [] h (wQI G Q) := by
  intro u7 u8 u9 A h hV hw
  unfold wq_M_expand_326 at hw
  refine mm_iload (pc' := 328) d_M_expand_326 rfl rfl ?_
  refine wr_if_eq hw (pc' := 331) d_M_expand_328 rfl rfl (fun hw => ?_) (fun hw => ?_)
  · refine mm_iload (pc' := 339) d_M_expand_337 rfl rfl ?_
    refine wr_if_eq hw (pc' := 342) d_M_expand_339 rfl rfl (fun hw => ?_) (fun hw => ?_)
    · refine mm_iload_n (pc' := 350) d_M_expand_349 rfl rfl rfl ?_
      refine mm_iconst (v := 1) (pc' := 351) d_M_expand_350 rfl (by decide) ?_
      refine mm_iadd (pc' := 352) d_M_expand_351 rfl ?_
      exact wr_iret hV d_M_expand_352 rfl rfl hw
    · refine mm_iload (pc' := 344) d_M_expand_342 rfl rfl ?_
      refine mm_iconst (v := 1) (pc' := 345) d_M_expand_344 rfl (by decide) ?_
      refine mm_iadd (pc' := 346) d_M_expand_345 rfl ?_
      refine mm_goto (tgt := 352) d_M_expand_346 rfl ?_
      exact wr_iret hV d_M_expand_352 rfl rfl hw
  · refine mm_iload_n (pc' := 332) d_M_expand_331 rfl rfl rfl ?_
    refine mm_iconst (v := 3) (pc' := 333) d_M_expand_332 rfl (by decide) ?_
    refine mm_iadd (pc' := 334) d_M_expand_333 rfl ?_
    refine mm_goto (tgt := 352) d_M_expand_334 rfl ?_
    exact wr_iret hV d_M_expand_352 rfl rfl hw
def wq_M_expand_310 (a : Nat) (p0 : Int32) (p1 : Int32) (Q : Int32 → ab_H → Prop)  (u5 : Int32) (u7 : Int32) (u8 : Int32) (u9 : Int32) (A : ab_H) : Prop := if u8 = 0 then (if u9 = 0 then (wC A (some a) 14 (fun b => wp_M_make b u5 A (fun A => wq_M_expand_326 a p0 p1 Q u7 u8 u9 A))) else (wq_M_expand_326 a p0 p1 Q u7 u8 u9 A)) else (wq_M_expand_326 a p0 p1 Q u7 u8 u9 A)
set_option maxRecDepth 100000 in
set_option maxHeartbeats 4000000 in
theorem sq_M_expand_310 {l : Launch} {G : mm_G} {a : Nat} {p0 : Int32} {p1 : Int32} {Q : Int32 → ab_H → Prop}   : ∀ (u5 : Int32) (u7 : Int32) (u8 : Int32) (u9 : Int32) (A : ab_H) (h : mm_H), Vw G h A → wq_M_expand_310 a p0 p1 Q  u5 u7 u8 u9 A → mm_V l G M_M_expand 0 0 310 [some (va_rf (some a)), some (.int p0), some (.int p1), none, none, some (.int u5), none, some (.int u7), some (.int u8), some (.int u9), none] [] h (wQI G Q) := by
  intro u5 u7 u8 u9 A h hV hw
  unfold wq_M_expand_310 at hw
  refine mm_iload (pc' := 312) d_M_expand_310 rfl rfl ?_
  refine wr_if_ne hw (pc' := 315) d_M_expand_312 rfl rfl (fun hw => ?_) (fun hw => ?_)
  · exact mm_drop (mm_le.s (mm_le.s (mm_le.s (mm_le.n (mm_le.n (mm_le.n (mm_le.n (mm_le.s (mm_le.s (mm_le.s (mm_le.n mm_le.e))))))))))) (sq_M_expand_326  _ _ _ _ _ hV hw)
  · refine mm_iload (pc' := 317) d_M_expand_315 rfl rfl ?_
    refine wr_if_ne hw (pc' := 320) d_M_expand_317 rfl rfl (fun hw => ?_) (fun hw => ?_)
    · exact mm_drop (mm_le.s (mm_le.s (mm_le.s (mm_le.n (mm_le.n (mm_le.n (mm_le.n (mm_le.s (mm_le.s (mm_le.s (mm_le.n mm_le.e))))))))))) (sq_M_expand_326  _ _ _ _ _ hV hw)
    · refine wr_aload_n (some a) (pc' := 321) d_M_expand_320 rfl rfl rfl ?_
      refine mm_iload (pc' := 323) d_M_expand_321 rfl rfl ?_
      refine wr_cVV (pc' := 326) (as := [.int u5]) (st := []) d_M_expand_323 rfl cs_M_239 rfl (W := fun b Q' => wp_M_make b u5 A Q') hV hw (fun b Q' hw => sd_M_make hV hw) rfl rfl (Nat.le_of_ble_eq_true rfl) (Nat.le_of_ble_eq_true rfl) (fun h A hV hw => ?_)
      exact mm_drop (mm_le.s (mm_le.s (mm_le.s (mm_le.n (mm_le.n (mm_le.n (mm_le.n (mm_le.s (mm_le.s (mm_le.s (mm_le.n mm_le.e))))))))))) (sq_M_expand_326  _ _ _ _ _ hV hw)
def wq_M_expand_307 (a : Nat) (p0 : Int32) (p1 : Int32) (Q : Int32 → ab_H → Prop)  (u5 : Int32) (u7 : Int32) (u8 : Int32) (u9 : Int32) (s0 : Option Nat) (s1 : Int32) (A : ab_H) : Prop := wC A s0 14 (fun b => wp_M_makePart b s1 A (fun A => wq_M_expand_310 a p0 p1 Q u5 u7 u8 u9 A))
set_option maxRecDepth 100000 in
set_option maxHeartbeats 4000000 in
theorem sq_M_expand_307 {l : Launch} {G : mm_G} {a : Nat} {p0 : Int32} {p1 : Int32} {Q : Int32 → ab_H → Prop}   : ∀ (u5 : Int32) (u7 : Int32) (u8 : Int32) (u9 : Int32) (s0 : Option Nat) (s1 : Int32) (A : ab_H) (h : mm_H), Vw G h A → wq_M_expand_307 a p0 p1 Q  u5 u7 u8 u9 s0 s1 A → mm_V l G M_M_expand 0 0 307 [some (va_rf (some a)), some (.int p0), some (.int p1), none, none, some (.int u5), none, some (.int u7), some (.int u8), some (.int u9), none] [.int s1, va_rf s0] h (wQI G Q) := by
  intro u5 u7 u8 u9 s0 s1 A h hV hw
  unfold wq_M_expand_307 at hw
  refine wr_cVV (pc' := 310) (as := [.int s1]) (st := []) d_M_expand_307 rfl cs_M_248 rfl (W := fun b Q' => wp_M_makePart b s1 A Q') hV hw (fun b Q' hw => sd_M_makePart hV hw) rfl rfl (Nat.le_of_ble_eq_true rfl) (Nat.le_of_ble_eq_true rfl) (fun h A hV hw => ?_)
  exact mm_drop (mm_le.s (mm_le.s (mm_le.s (mm_le.n (mm_le.n (mm_le.s (mm_le.n (mm_le.s (mm_le.s (mm_le.s (mm_le.n mm_le.e))))))))))) (sq_M_expand_310  _ _ _ _ _ _ hV hw)
def wq_M_expand_294 (a : Nat) (p0 : Int32) (p1 : Int32) (Q : Int32 → ab_H → Prop)  (u5 : Int32) (u6 : Int32) (u7 : Int32) (u8 : Int32) (u9 : Int32) (A : ab_H) : Prop := if u6 = (113 : Int32) then (wq_M_expand_307 a p0 p1 Q u5 u7 u8 u9 (some a) (2 : Int32) A) else (wq_M_expand_307 a p0 p1 Q u5 u7 u8 u9 (some a) (3 : Int32) A)
set_option maxRecDepth 100000 in
set_option maxHeartbeats 4000000 in
theorem sq_M_expand_294 {l : Launch} {G : mm_G} {a : Nat} {p0 : Int32} {p1 : Int32} {Q : Int32 → ab_H → Prop}   : ∀ (u5 : Int32) (u6 : Int32) (u7 : Int32) (u8 : Int32) (u9 : Int32) (A : ab_H) (h : mm_H), Vw G h A → wq_M_expand_294 a p0 p1 Q  u5 u6 u7 u8 u9 A → mm_V l G M_M_expand 0 0 294 [some (va_rf (some a)), some (.int p0), some (.int p1), none, none, some (.int u5), some (.int u6), some (.int u7), some (.int u8), some (.int u9), none] [] h (wQI G Q) := by
  intro u5 u6 u7 u8 u9 A h hV hw
  unfold wq_M_expand_294 at hw
  refine wr_aload_n (some a) (pc' := 295) d_M_expand_294 rfl rfl rfl ?_
  refine mm_iload (pc' := 297) d_M_expand_295 rfl rfl ?_
  refine mm_bipush (v := 113) (pc' := 299) d_M_expand_297 rfl (by decide) ?_
  refine wr_icmp_ne hw (pc' := 302) d_M_expand_299 rfl rfl (fun hw => ?_) (fun hw => ?_)
  · refine mm_iconst (v := 3) (pc' := 307) d_M_expand_306 rfl (by decide) ?_
    exact mm_drop (mm_le.s (mm_le.s (mm_le.s (mm_le.n (mm_le.n (mm_le.s (mm_le.n (mm_le.s (mm_le.s (mm_le.s (mm_le.n mm_le.e))))))))))) (sq_M_expand_307  _ _ _ _ _ _ _ _ hV hw)
  · refine mm_iconst (v := 2) (pc' := 303) d_M_expand_302 rfl (by decide) ?_
    refine mm_goto (tgt := 307) d_M_expand_303 rfl ?_
    exact mm_drop (mm_le.s (mm_le.s (mm_le.s (mm_le.n (mm_le.n (mm_le.s (mm_le.n (mm_le.s (mm_le.s (mm_le.s (mm_le.n mm_le.e))))))))))) (sq_M_expand_307  _ _ _ _ _ _ _ _ hV hw)
def wb_M_expand_259 (a : Nat) (p0 : Int32) (p1 : Int32) (Q : Int32 → ab_H → Prop)  (k259 : Int32 → Int32 → Int32 → Int32 → Int32 → Int32 → Int32 → ab_H → Prop) (u3 : Int32) (u5 : Int32) (u6 : Int32) (u7 : Int32) (u8 : Int32) (u9 : Int32) (u10 : Int32) (A : ab_H) : Prop := wgI A (some a) 14 38 (fun x1 => if x1 ≤ u10 then (wq_M_expand_294 a p0 p1 Q u5 u6 u7 u8 u9 A) else (wgR A (some a) 14 37 (fun r2 => wgR A (some a) 14 22 (fun r3 => wAI A r3 (((u3 + p1) + (2 : Int32)) + u10) (fun x4 => wSI A r2 u10 x4 (fun A => k259 u3 u5 u6 u7 u8 u9 (u10 + 1) A))))))
def wq_M_expand_259 (a : Nat) (p0 : Int32) (p1 : Int32) (Q : Int32 → ab_H → Prop)  : Nat → Int32 → Int32 → Int32 → Int32 → Int32 → Int32 → Int32 → ab_H → Prop
  | 0 => fun _ _ _ _ _ _ _ _ => False
  | n + 1 => wb_M_expand_259 a p0 p1 Q  (wq_M_expand_259 a p0 p1 Q  n)
set_option maxRecDepth 100000 in
set_option maxHeartbeats 4000000 in
theorem sq_M_expand_259 {l : Launch} {G : mm_G} {a : Nat} {p0 : Int32} {p1 : Int32} {Q : Int32 → ab_H → Prop}   : ∀ (n : Nat) (u3 : Int32) (u5 : Int32) (u6 : Int32) (u7 : Int32) (u8 : Int32) (u9 : Int32) (u10 : Int32) (A : ab_H) (h : mm_H), Vw G h A → wq_M_expand_259 a p0 p1 Q  n u3 u5 u6 u7 u8 u9 u10 A → mm_V l G M_M_expand 0 0 259 [some (va_rf (some a)), some (.int p0), some (.int p1), some (.int u3), none, some (.int u5), some (.int u6), some (.int u7), some (.int u8), some (.int u9), some (.int u10)] [] h (wQI G Q) := by
  intro n
  induction n with
  | zero =>
    intro u3 u5 u6 u7 u8 u9 u10 A h hV hw
    exact absurd hw id
  | succ n hk259 =>
    intro u3 u5 u6 u7 u8 u9 u10 A h hV hw
    have hw : wb_M_expand_259 a p0 p1 Q  (wq_M_expand_259 a p0 p1 Q  n) u3 u5 u6 u7 u8 u9 u10 A := hw
    unfold wb_M_expand_259 at hw
    refine mm_iload (pc' := 261) d_M_expand_259 rfl rfl ?_
    refine wr_aload_n (some a) (pc' := 262) d_M_expand_261 rfl rfl rfl ?_
    refine wr_getI hV hw (pc' := 265) d_M_expand_262 rfl fl_M_192 (fun x1 hw => ?_)
    refine wr_icmp_ge hw (pc' := 268) d_M_expand_265 rfl rfl (fun hw => ?_) (fun hw => ?_)
    · exact mm_drop (mm_le.s (mm_le.s (mm_le.s (mm_le.n (mm_le.n (mm_le.s (mm_le.s (mm_le.s (mm_le.s (mm_le.s (mm_le.n mm_le.e))))))))))) (sq_M_expand_294  _ _ _ _ _ _ _ hV hw)
    · refine wr_aload_n (some a) (pc' := 269) d_M_expand_268 rfl rfl rfl ?_
      refine wr_getR hV hw (pc' := 272) d_M_expand_269 rfl fl_M_86 (fun r2 hw => ?_)
      refine mm_iload (pc' := 274) d_M_expand_272 rfl rfl ?_
      refine wr_aload_n (some a) (pc' := 275) d_M_expand_274 rfl rfl rfl ?_
      refine wr_getR hV hw (pc' := 278) d_M_expand_275 rfl fl_M_62 (fun r3 hw => ?_)
      refine mm_iload_n (pc' := 279) d_M_expand_278 rfl rfl rfl ?_
      refine mm_iload_n (pc' := 280) d_M_expand_279 rfl rfl rfl ?_
      refine mm_iadd (pc' := 281) d_M_expand_280 rfl ?_
      refine mm_iconst (v := 2) (pc' := 282) d_M_expand_281 rfl (by decide) ?_
      refine mm_iadd (pc' := 283) d_M_expand_282 rfl ?_
      refine mm_iload (pc' := 285) d_M_expand_283 rfl rfl ?_
      refine mm_iadd (pc' := 286) d_M_expand_285 rfl ?_
      refine wr_aldI hV hw (pc' := 287) d_M_expand_286 rfl (fun x4 hw => ?_)
      refine wr_astI hV hw (pc' := 288) d_M_expand_287 rfl (fun h A hV hw => ?_)
      refine mm_iinc10 (v := (u10 + 1)) (pc' := 291) d_M_expand_288 rfl rfl rfl (Nat.le_of_ble_eq_true rfl) ?_
      refine mm_goto (tgt := 259) d_M_expand_291 rfl ?_
      exact mm_drop (mm_le.s (mm_le.s (mm_le.s (mm_le.s (mm_le.n (mm_le.s (mm_le.s (mm_le.s (mm_le.s (mm_le.s (mm_le.s mm_le.e))))))))))) (hk259 _ _ _ _ _ _ _ _ _ hV hw)
def wq_M_expand_241 (a : Nat) (p0 : Int32) (p1 : Int32) (Q : Int32 → ab_H → Prop)  (u3 : Int32) (u5 : Int32) (u6 : Int32) (u7 : Int32) (u8 : Int32) (u9 : Int32) (A : ab_H) : Prop := if u9 = 0 then (wq_M_expand_310 a p0 p1 Q u5 u7 u8 u9 A) else (wp A (some a) 14 38 (.int ((u7 - p1) - (2 : Int32))) (fun A => ∃ n, wq_M_expand_259 a p0 p1 Q n u3 u5 u6 u7 u8 u9 (0 : Int32) A))
set_option maxRecDepth 100000 in
set_option maxHeartbeats 4000000 in
theorem sq_M_expand_241 {l : Launch} {G : mm_G} {a : Nat} {p0 : Int32} {p1 : Int32} {Q : Int32 → ab_H → Prop}   : ∀ (u3 : Int32) (u5 : Int32) (u6 : Int32) (u7 : Int32) (u8 : Int32) (u9 : Int32) (A : ab_H) (h : mm_H), Vw G h A → wq_M_expand_241 a p0 p1 Q  u3 u5 u6 u7 u8 u9 A → mm_V l G M_M_expand 0 0 241 [some (va_rf (some a)), some (.int p0), some (.int p1), some (.int u3), none, some (.int u5), some (.int u6), some (.int u7), some (.int u8), some (.int u9), none] [] h (wQI G Q) := by
  intro u3 u5 u6 u7 u8 u9 A h hV hw
  unfold wq_M_expand_241 at hw
  refine mm_iload (pc' := 243) d_M_expand_241 rfl rfl ?_
  refine wr_if_eq hw (pc' := 246) d_M_expand_243 rfl rfl (fun hw => ?_) (fun hw => ?_)
  · exact mm_drop (mm_le.s (mm_le.s (mm_le.s (mm_le.n (mm_le.n (mm_le.s (mm_le.n (mm_le.s (mm_le.s (mm_le.s (mm_le.n mm_le.e))))))))))) (sq_M_expand_310  _ _ _ _ _ _ hV hw)
  · refine wr_aload_n (some a) (pc' := 247) d_M_expand_246 rfl rfl rfl ?_
    refine mm_iload (pc' := 249) d_M_expand_247 rfl rfl ?_
    refine mm_iload_n (pc' := 250) d_M_expand_249 rfl rfl rfl ?_
    refine mm_isub (pc' := 251) d_M_expand_250 rfl ?_
    refine mm_iconst (v := 2) (pc' := 252) d_M_expand_251 rfl (by decide) ?_
    refine mm_isub (pc' := 253) d_M_expand_252 rfl ?_
    refine wr_put hV hw (pc' := 256) d_M_expand_253 rfl pl_M_expand_192 (Nat.le_of_ble_eq_true rfl) (wn_I _) (fun h A hV hw => ?_)
    refine mm_iconst (v := 0) (pc' := 257) d_M_expand_256 rfl (by decide) ?_
    refine mm_ist10 (pc' := 259) d_M_expand_257 rfl rfl (Nat.le_of_ble_eq_true rfl) ?_
    obtain ⟨n, hw⟩ := hw
    exact mm_drop (mm_le.s (mm_le.s (mm_le.s (mm_le.s (mm_le.n (mm_le.s (mm_le.s (mm_le.s (mm_le.s (mm_le.s (mm_le.s mm_le.e))))))))))) (sq_M_expand_259  n _ _ _ _ _ _ _ _ _ hV hw)
def wq_M_expand_238 (a : Nat) (p0 : Int32) (p1 : Int32) (Q : Int32 → ab_H → Prop)  (u3 : Int32) (u5 : Int32) (u6 : Int32) (u7 : Int32) (u8 : Int32) (u9 : Int32) (s0 : Option Nat) (s1 : Int32) (A : ab_H) : Prop := wC A s0 14 (fun b => wp_M_makePart b s1 A (fun A => wq_M_expand_241 a p0 p1 Q u3 u5 u6 u7 u8 u9 A))
set_option maxRecDepth 100000 in
set_option maxHeartbeats 4000000 in
theorem sq_M_expand_238 {l : Launch} {G : mm_G} {a : Nat} {p0 : Int32} {p1 : Int32} {Q : Int32 → ab_H → Prop}   : ∀ (u3 : Int32) (u5 : Int32) (u6 : Int32) (u7 : Int32) (u8 : Int32) (u9 : Int32) (s0 : Option Nat) (s1 : Int32) (A : ab_H) (h : mm_H), Vw G h A → wq_M_expand_238 a p0 p1 Q  u3 u5 u6 u7 u8 u9 s0 s1 A → mm_V l G M_M_expand 0 0 238 [some (va_rf (some a)), some (.int p0), some (.int p1), some (.int u3), none, some (.int u5), some (.int u6), some (.int u7), some (.int u8), some (.int u9), none] [.int s1, va_rf s0] h (wQI G Q) := by
  intro u3 u5 u6 u7 u8 u9 s0 s1 A h hV hw
  unfold wq_M_expand_238 at hw
  refine wr_cVV (pc' := 241) (as := [.int s1]) (st := []) d_M_expand_238 rfl cs_M_248 rfl (W := fun b Q' => wp_M_makePart b s1 A Q') hV hw (fun b Q' hw => sd_M_makePart hV hw) rfl rfl (Nat.le_of_ble_eq_true rfl) (Nat.le_of_ble_eq_true rfl) (fun h A hV hw => ?_)
  exact mm_drop (mm_le.s (mm_le.s (mm_le.s (mm_le.s (mm_le.n (mm_le.s (mm_le.s (mm_le.s (mm_le.s (mm_le.s (mm_le.n mm_le.e))))))))))) (sq_M_expand_241  _ _ _ _ _ _ _ _ hV hw)
def wq_M_expand_202 (a : Nat) (p0 : Int32) (p1 : Int32) (Q : Int32 → ab_H → Prop)  (u3 : Int32) (u5 : Int32) (u6 : Int32) (u7 : Int32) (u8 : Int32) (u9 : Int32) (A : ab_H) : Prop := if u8 = 0 then (wq_M_expand_241 a p0 p1 Q u3 u5 u6 u7 u8 u9 A) else (if u6 = (110 : Int32) then (wq_M_expand_241 a p0 p1 Q u3 u5 u6 u7 u8 u9 A) else (if u6 = (109 : Int32) then (wq_M_expand_238 a p0 p1 Q u3 u5 u6 u7 u8 u9 (some a) (0 : Int32) A) else (if u6 = (112 : Int32) then (wq_M_expand_238 a p0 p1 Q u3 u5 u6 u7 u8 u9 (some a) (1 : Int32) A) else (wq_M_expand_238 a p0 p1 Q u3 u5 u6 u7 u8 u9 (some a) (4 : Int32) A))))
set_option maxRecDepth 100000 in
set_option maxHeartbeats 4000000 in
theorem sq_M_expand_202 {l : Launch} {G : mm_G} {a : Nat} {p0 : Int32} {p1 : Int32} {Q : Int32 → ab_H → Prop}   : ∀ (u3 : Int32) (u5 : Int32) (u6 : Int32) (u7 : Int32) (u8 : Int32) (u9 : Int32) (A : ab_H) (h : mm_H), Vw G h A → wq_M_expand_202 a p0 p1 Q  u3 u5 u6 u7 u8 u9 A → mm_V l G M_M_expand 0 0 202 [some (va_rf (some a)), some (.int p0), some (.int p1), some (.int u3), none, some (.int u5), some (.int u6), some (.int u7), some (.int u8), some (.int u9), none] [] h (wQI G Q) := by
  intro u3 u5 u6 u7 u8 u9 A h hV hw
  unfold wq_M_expand_202 at hw
  refine mm_iload (pc' := 204) d_M_expand_202 rfl rfl ?_
  refine wr_if_eq hw (pc' := 207) d_M_expand_204 rfl rfl (fun hw => ?_) (fun hw => ?_)
  · exact mm_drop (mm_le.s (mm_le.s (mm_le.s (mm_le.s (mm_le.n (mm_le.s (mm_le.s (mm_le.s (mm_le.s (mm_le.s (mm_le.n mm_le.e))))))))))) (sq_M_expand_241  _ _ _ _ _ _ _ _ hV hw)
  · refine mm_iload (pc' := 209) d_M_expand_207 rfl rfl ?_
    refine mm_bipush (v := 110) (pc' := 211) d_M_expand_209 rfl (by decide) ?_
    refine wr_icmp_eq hw (pc' := 214) d_M_expand_211 rfl rfl (fun hw => ?_) (fun hw => ?_)
    · exact mm_drop (mm_le.s (mm_le.s (mm_le.s (mm_le.s (mm_le.n (mm_le.s (mm_le.s (mm_le.s (mm_le.s (mm_le.s (mm_le.n mm_le.e))))))))))) (sq_M_expand_241  _ _ _ _ _ _ _ _ hV hw)
    · refine wr_aload_n (some a) (pc' := 215) d_M_expand_214 rfl rfl rfl ?_
      refine mm_iload (pc' := 217) d_M_expand_215 rfl rfl ?_
      refine mm_bipush (v := 109) (pc' := 219) d_M_expand_217 rfl (by decide) ?_
      refine wr_icmp_ne hw (pc' := 222) d_M_expand_219 rfl rfl (fun hw => ?_) (fun hw => ?_)
      · refine mm_iload (pc' := 228) d_M_expand_226 rfl rfl ?_
        refine mm_bipush (v := 112) (pc' := 230) d_M_expand_228 rfl (by decide) ?_
        refine wr_icmp_ne hw (pc' := 233) d_M_expand_230 rfl rfl (fun hw => ?_) (fun hw => ?_)
        · refine mm_iconst (v := 4) (pc' := 238) d_M_expand_237 rfl (by decide) ?_
          exact mm_drop (mm_le.s (mm_le.s (mm_le.s (mm_le.s (mm_le.n (mm_le.s (mm_le.s (mm_le.s (mm_le.s (mm_le.s (mm_le.n mm_le.e))))))))))) (sq_M_expand_238  _ _ _ _ _ _ _ _ _ _ hV hw)
        · refine mm_iconst (v := 1) (pc' := 234) d_M_expand_233 rfl (by decide) ?_
          refine mm_goto (tgt := 238) d_M_expand_234 rfl ?_
          exact mm_drop (mm_le.s (mm_le.s (mm_le.s (mm_le.s (mm_le.n (mm_le.s (mm_le.s (mm_le.s (mm_le.s (mm_le.s (mm_le.n mm_le.e))))))))))) (sq_M_expand_238  _ _ _ _ _ _ _ _ _ _ hV hw)
      · refine mm_iconst (v := 0) (pc' := 223) d_M_expand_222 rfl (by decide) ?_
        refine mm_goto (tgt := 238) d_M_expand_223 rfl ?_
        exact mm_drop (mm_le.s (mm_le.s (mm_le.s (mm_le.s (mm_le.n (mm_le.s (mm_le.s (mm_le.s (mm_le.s (mm_le.s (mm_le.n mm_le.e))))))))))) (sq_M_expand_238  _ _ _ _ _ _ _ _ _ _ hV hw)
def wq_M_expand_180 (a : Nat) (p0 : Int32) (p1 : Int32) (Q : Int32 → ab_H → Prop)  (u3 : Int32) (u5 : Int32) (u6 : Int32) (u7 : Int32) (u8 : Int32) (s0 : Int32) (A : ab_H) : Prop := if u8 = 0 then (wq_M_expand_202 a p0 p1 Q u3 u5 u6 u7 u8 s0 A) else (if u6 = (110 : Int32) then (wgI A (some a) 14 7 (fun x5 => wC A (some a) 14 (fun b => wp_M_makeNumber b x5 A (fun A => wq_M_expand_202 a p0 p1 Q u3 u5 u6 u7 u8 s0 A)))) else (wq_M_expand_202 a p0 p1 Q u3 u5 u6 u7 u8 s0 A))
set_option maxRecDepth 100000 in
set_option maxHeartbeats 4000000 in
theorem sq_M_expand_180 {l : Launch} {G : mm_G} {a : Nat} {p0 : Int32} {p1 : Int32} {Q : Int32 → ab_H → Prop}   : ∀ (u3 : Int32) (u5 : Int32) (u6 : Int32) (u7 : Int32) (u8 : Int32) (s0 : Int32) (A : ab_H) (h : mm_H), Vw G h A → wq_M_expand_180 a p0 p1 Q  u3 u5 u6 u7 u8 s0 A → mm_V l G M_M_expand 0 0 180 [some (va_rf (some a)), some (.int p0), some (.int p1), some (.int u3), none, some (.int u5), some (.int u6), some (.int u7), some (.int u8), none, none] [.int s0] h (wQI G Q) := by
  intro u3 u5 u6 u7 u8 s0 A h hV hw
  unfold wq_M_expand_180 at hw
  refine mm_ist9 (pc' := 182) d_M_expand_180 rfl rfl (Nat.le_of_ble_eq_true rfl) ?_
  refine mm_iload (pc' := 184) d_M_expand_182 rfl rfl ?_
  refine wr_if_eq hw (pc' := 187) d_M_expand_184 rfl rfl (fun hw => ?_) (fun hw => ?_)
  · exact mm_drop (mm_le.s (mm_le.s (mm_le.s (mm_le.s (mm_le.n (mm_le.s (mm_le.s (mm_le.s (mm_le.s (mm_le.s (mm_le.n mm_le.e))))))))))) (sq_M_expand_202  _ _ _ _ _ _ _ _ hV hw)
  · refine mm_iload (pc' := 189) d_M_expand_187 rfl rfl ?_
    refine mm_bipush (v := 110) (pc' := 191) d_M_expand_189 rfl (by decide) ?_
    refine wr_icmp_ne hw (pc' := 194) d_M_expand_191 rfl rfl (fun hw => ?_) (fun hw => ?_)
    · exact mm_drop (mm_le.s (mm_le.s (mm_le.s (mm_le.s (mm_le.n (mm_le.s (mm_le.s (mm_le.s (mm_le.s (mm_le.s (mm_le.n mm_le.e))))))))))) (sq_M_expand_202  _ _ _ _ _ _ _ _ hV hw)
    · refine wr_aload_n (some a) (pc' := 195) d_M_expand_194 rfl rfl rfl ?_
      refine wr_aload_n (some a) (pc' := 196) d_M_expand_195 rfl rfl rfl ?_
      refine wr_getI hV hw (pc' := 199) d_M_expand_196 rfl fl_M_242 (fun x5 hw => ?_)
      refine wr_cVV (pc' := 202) (as := [.int x5]) (st := []) d_M_expand_199 rfl cs_M_245 rfl (W := fun b Q' => wp_M_makeNumber b x5 A Q') hV hw (fun b Q' hw => sd_M_makeNumber hV hw) rfl rfl (Nat.le_of_ble_eq_true rfl) (Nat.le_of_ble_eq_true rfl) (fun h A hV hw => ?_)
      exact mm_drop (mm_le.s (mm_le.s (mm_le.s (mm_le.s (mm_le.n (mm_le.s (mm_le.s (mm_le.s (mm_le.s (mm_le.s (mm_le.n mm_le.e))))))))))) (sq_M_expand_202  _ _ _ _ _ _ _ _ hV hw)
def wq_M_expand_179 (a : Nat) (p0 : Int32) (p1 : Int32) (Q : Int32 → ab_H → Prop)  (u3 : Int32) (u5 : Int32) (u6 : Int32) (u7 : Int32) (u8 : Int32) (A : ab_H) : Prop := wq_M_expand_180 a p0 p1 Q u3 u5 u6 u7 u8 (0 : Int32) A
set_option maxRecDepth 100000 in
set_option maxHeartbeats 4000000 in
theorem sq_M_expand_179 {l : Launch} {G : mm_G} {a : Nat} {p0 : Int32} {p1 : Int32} {Q : Int32 → ab_H → Prop}   : ∀ (u3 : Int32) (u5 : Int32) (u6 : Int32) (u7 : Int32) (u8 : Int32) (A : ab_H) (h : mm_H), Vw G h A → wq_M_expand_179 a p0 p1 Q  u3 u5 u6 u7 u8 A → mm_V l G M_M_expand 0 0 179 [some (va_rf (some a)), some (.int p0), some (.int p1), some (.int u3), none, some (.int u5), some (.int u6), some (.int u7), some (.int u8), none, none] [] h (wQI G Q) := by
  intro u3 u5 u6 u7 u8 A h hV hw
  unfold wq_M_expand_179 at hw
  refine mm_iconst (v := 0) (pc' := 180) d_M_expand_179 rfl (by decide) ?_
  exact mm_drop (mm_le.s (mm_le.s (mm_le.s (mm_le.s (mm_le.n (mm_le.s (mm_le.s (mm_le.s (mm_le.s (mm_le.n (mm_le.n mm_le.e))))))))))) (sq_M_expand_180  _ _ _ _ _ _ _ _ hV hw)
def wq_M_expand_160 (a : Nat) (p0 : Int32) (p1 : Int32) (Q : Int32 → ab_H → Prop)  (u3 : Int32) (u4 : Int32) (u5 : Int32) (u6 : Int32) (u7 : Int32) (u8 : Int32) (A : ab_H) : Prop := if u4 ≤ u7 then (wq_M_expand_179 a p0 p1 Q u3 u5 u6 u7 u8 A) else (if u7 ≤ (p1 + (2 : Int32)) then (wq_M_expand_179 a p0 p1 Q u3 u5 u6 u7 u8 A) else (wq_M_expand_180 a p0 p1 Q u3 u5 u6 u7 u8 (1 : Int32) A))
set_option maxRecDepth 100000 in
set_option maxHeartbeats 4000000 in
theorem sq_M_expand_160 {l : Launch} {G : mm_G} {a : Nat} {p0 : Int32} {p1 : Int32} {Q : Int32 → ab_H → Prop}   : ∀ (u3 : Int32) (u4 : Int32) (u5 : Int32) (u6 : Int32) (u7 : Int32) (u8 : Int32) (A : ab_H) (h : mm_H), Vw G h A → wq_M_expand_160 a p0 p1 Q  u3 u4 u5 u6 u7 u8 A → mm_V l G M_M_expand 0 0 160 [some (va_rf (some a)), some (.int p0), some (.int p1), some (.int u3), some (.int u4), some (.int u5), some (.int u6), some (.int u7), some (.int u8), none, none] [] h (wQI G Q) := by
  intro u3 u4 u5 u6 u7 u8 A h hV hw
  unfold wq_M_expand_160 at hw
  refine mm_iload (pc' := 162) d_M_expand_160 rfl rfl ?_
  refine mm_iload (pc' := 164) d_M_expand_162 rfl rfl ?_
  refine wr_icmp_ge hw (pc' := 167) d_M_expand_164 rfl rfl (fun hw => ?_) (fun hw => ?_)
  · exact mm_drop (mm_le.s (mm_le.s (mm_le.s (mm_le.s (mm_le.n (mm_le.s (mm_le.s (mm_le.s (mm_le.s (mm_le.n (mm_le.n mm_le.e))))))))))) (sq_M_expand_179  _ _ _ _ _ _ _ hV hw)
  · refine mm_iload (pc' := 169) d_M_expand_167 rfl rfl ?_
    refine mm_iload_n (pc' := 170) d_M_expand_169 rfl rfl rfl ?_
    refine mm_iconst (v := 2) (pc' := 171) d_M_expand_170 rfl (by decide) ?_
    refine mm_iadd (pc' := 172) d_M_expand_171 rfl ?_
    refine wr_icmp_le hw (pc' := 175) d_M_expand_172 rfl rfl (fun hw => ?_) (fun hw => ?_)
    · exact mm_drop (mm_le.s (mm_le.s (mm_le.s (mm_le.s (mm_le.n (mm_le.s (mm_le.s (mm_le.s (mm_le.s (mm_le.n (mm_le.n mm_le.e))))))))))) (sq_M_expand_179  _ _ _ _ _ _ _ hV hw)
    · refine mm_iconst (v := 1) (pc' := 176) d_M_expand_175 rfl (by decide) ?_
      refine mm_goto (tgt := 180) d_M_expand_176 rfl ?_
      exact mm_drop (mm_le.s (mm_le.s (mm_le.s (mm_le.s (mm_le.n (mm_le.s (mm_le.s (mm_le.s (mm_le.s (mm_le.n (mm_le.n mm_le.e))))))))))) (sq_M_expand_180  _ _ _ _ _ _ _ _ hV hw)
def wq_M_expand_144 (a : Nat) (p0 : Int32) (p1 : Int32) (Q : Int32 → ab_H → Prop)  (u3 : Int32) (u4 : Int32) (u5 : Int32) (u6 : Int32) (u7 : Int32) (s0 : Int32) (A : ab_H) : Prop := if u6 = (113 : Int32) then (wq_M_expand_160 a p0 p1 Q u3 u4 u5 u6 u7 s0 A) else (if u6 = (104 : Int32) then (wq_M_expand_160 a p0 p1 Q u3 u4 u5 u6 u7 s0 A) else (wq_M_expand_179 a p0 p1 Q u3 u5 u6 u7 s0 A))
set_option maxRecDepth 100000 in
set_option maxHeartbeats 4000000 in
theorem sq_M_expand_144 {l : Launch} {G : mm_G} {a : Nat} {p0 : Int32} {p1 : Int32} {Q : Int32 → ab_H → Prop}   : ∀ (u3 : Int32) (u4 : Int32) (u5 : Int32) (u6 : Int32) (u7 : Int32) (s0 : Int32) (A : ab_H) (h : mm_H), Vw G h A → wq_M_expand_144 a p0 p1 Q  u3 u4 u5 u6 u7 s0 A → mm_V l G M_M_expand 0 0 144 [some (va_rf (some a)), some (.int p0), some (.int p1), some (.int u3), some (.int u4), some (.int u5), some (.int u6), some (.int u7), none, none, none] [.int s0] h (wQI G Q) := by
  intro u3 u4 u5 u6 u7 s0 A h hV hw
  unfold wq_M_expand_144 at hw
  refine mm_ist8 (pc' := 146) d_M_expand_144 rfl rfl (Nat.le_of_ble_eq_true rfl) ?_
  refine mm_iload (pc' := 148) d_M_expand_146 rfl rfl ?_
  refine mm_bipush (v := 113) (pc' := 150) d_M_expand_148 rfl (by decide) ?_
  refine wr_icmp_eq hw (pc' := 153) d_M_expand_150 rfl rfl (fun hw => ?_) (fun hw => ?_)
  · exact mm_drop (mm_le.s (mm_le.s (mm_le.s (mm_le.s (mm_le.s (mm_le.s (mm_le.s (mm_le.s (mm_le.s (mm_le.n (mm_le.n mm_le.e))))))))))) (sq_M_expand_160  _ _ _ _ _ _ _ _ hV hw)
  · refine mm_iload (pc' := 155) d_M_expand_153 rfl rfl ?_
    refine mm_bipush (v := 104) (pc' := 157) d_M_expand_155 rfl (by decide) ?_
    refine wr_icmp_ne hw (pc' := 160) d_M_expand_157 rfl rfl (fun hw => ?_) (fun hw => ?_)
    · exact mm_drop (mm_le.s (mm_le.s (mm_le.s (mm_le.s (mm_le.n (mm_le.s (mm_le.s (mm_le.s (mm_le.s (mm_le.n (mm_le.n mm_le.e))))))))))) (sq_M_expand_179  _ _ _ _ _ _ _ hV hw)
    · exact mm_drop (mm_le.s (mm_le.s (mm_le.s (mm_le.s (mm_le.s (mm_le.s (mm_le.s (mm_le.s (mm_le.s (mm_le.n (mm_le.n mm_le.e))))))))))) (sq_M_expand_160  _ _ _ _ _ _ _ _ hV hw)
def wq_M_expand_143 (a : Nat) (p0 : Int32) (p1 : Int32) (Q : Int32 → ab_H → Prop)  (u3 : Int32) (u4 : Int32) (u5 : Int32) (u6 : Int32) (u7 : Int32) (A : ab_H) : Prop := wq_M_expand_144 a p0 p1 Q u3 u4 u5 u6 u7 (0 : Int32) A
set_option maxRecDepth 100000 in
set_option maxHeartbeats 4000000 in
theorem sq_M_expand_143 {l : Launch} {G : mm_G} {a : Nat} {p0 : Int32} {p1 : Int32} {Q : Int32 → ab_H → Prop}   : ∀ (u3 : Int32) (u4 : Int32) (u5 : Int32) (u6 : Int32) (u7 : Int32) (A : ab_H) (h : mm_H), Vw G h A → wq_M_expand_143 a p0 p1 Q  u3 u4 u5 u6 u7 A → mm_V l G M_M_expand 0 0 143 [some (va_rf (some a)), some (.int p0), some (.int p1), some (.int u3), some (.int u4), some (.int u5), some (.int u6), some (.int u7), none, none, none] [] h (wQI G Q) := by
  intro u3 u4 u5 u6 u7 A h hV hw
  unfold wq_M_expand_143 at hw
  refine mm_iconst (v := 0) (pc' := 144) d_M_expand_143 rfl (by decide) ?_
  exact mm_drop (mm_le.s (mm_le.s (mm_le.s (mm_le.s (mm_le.s (mm_le.s (mm_le.s (mm_le.s (mm_le.n (mm_le.n (mm_le.n mm_le.e))))))))))) (sq_M_expand_144  _ _ _ _ _ _ _ _ hV hw)
def wq_M_expand_139 (a : Nat) (p0 : Int32) (p1 : Int32) (Q : Int32 → ab_H → Prop)  (u3 : Int32) (u4 : Int32) (u5 : Int32) (u6 : Int32) (u7 : Int32) (A : ab_H) : Prop := wq_M_expand_144 a p0 p1 Q u3 u4 u5 u6 u7 (1 : Int32) A
set_option maxRecDepth 100000 in
set_option maxHeartbeats 4000000 in
theorem sq_M_expand_139 {l : Launch} {G : mm_G} {a : Nat} {p0 : Int32} {p1 : Int32} {Q : Int32 → ab_H → Prop}   : ∀ (u3 : Int32) (u4 : Int32) (u5 : Int32) (u6 : Int32) (u7 : Int32) (A : ab_H) (h : mm_H), Vw G h A → wq_M_expand_139 a p0 p1 Q  u3 u4 u5 u6 u7 A → mm_V l G M_M_expand 0 0 139 [some (va_rf (some a)), some (.int p0), some (.int p1), some (.int u3), some (.int u4), some (.int u5), some (.int u6), some (.int u7), none, none, none] [] h (wQI G Q) := by
  intro u3 u4 u5 u6 u7 A h hV hw
  unfold wq_M_expand_139 at hw
  refine mm_iconst (v := 1) (pc' := 140) d_M_expand_139 rfl (by decide) ?_
  refine mm_goto (tgt := 144) d_M_expand_140 rfl ?_
  exact mm_drop (mm_le.s (mm_le.s (mm_le.s (mm_le.s (mm_le.s (mm_le.s (mm_le.s (mm_le.s (mm_le.n (mm_le.n (mm_le.n mm_le.e))))))))))) (sq_M_expand_144  _ _ _ _ _ _ _ _ hV hw)
def wq_M_expand_91 (a : Nat) (p0 : Int32) (p1 : Int32) (Q : Int32 → ab_H → Prop)  (u3 : Int32) (u4 : Int32) (u5 : Int32) (u6 : Int32) (u7 : Int32) (A : ab_H) : Prop := if u6 ≤ 0 then (wq_M_expand_143 a p0 p1 Q u3 u4 u5 u6 u7 A) else (wgR A (some a) 14 22 (fun r6 => wAI A r6 ((u3 + p1) + (2 : Int32)) (fun x7 => if x7 = (125 : Int32) then (if u6 = (109 : Int32) then (wq_M_expand_139 a p0 p1 Q u3 u4 u5 u6 u7 A) else (if u6 = (112 : Int32) then (wq_M_expand_139 a p0 p1 Q u3 u4 u5 u6 u7 A) else (if u6 = (98 : Int32) then (wq_M_expand_139 a p0 p1 Q u3 u4 u5 u6 u7 A) else (if u6 = (110 : Int32) then (wq_M_expand_139 a p0 p1 Q u3 u4 u5 u6 u7 A) else (wq_M_expand_143 a p0 p1 Q u3 u4 u5 u6 u7 A))))) else (wq_M_expand_143 a p0 p1 Q u3 u4 u5 u6 u7 A))))
set_option maxRecDepth 100000 in
set_option maxHeartbeats 4000000 in
theorem sq_M_expand_91 {l : Launch} {G : mm_G} {a : Nat} {p0 : Int32} {p1 : Int32} {Q : Int32 → ab_H → Prop}   : ∀ (u3 : Int32) (u4 : Int32) (u5 : Int32) (u6 : Int32) (u7 : Int32) (A : ab_H) (h : mm_H), Vw G h A → wq_M_expand_91 a p0 p1 Q  u3 u4 u5 u6 u7 A → mm_V l G M_M_expand 0 0 91 [some (va_rf (some a)), some (.int p0), some (.int p1), some (.int u3), some (.int u4), some (.int u5), some (.int u6), some (.int u7), none, none, none] [] h (wQI G Q) := by
  intro u3 u4 u5 u6 u7 A h hV hw
  unfold wq_M_expand_91 at hw
  refine mm_iload (pc' := 93) d_M_expand_91 rfl rfl ?_
  refine wr_if_le hw (pc' := 96) d_M_expand_93 rfl rfl (fun hw => ?_) (fun hw => ?_)
  · exact mm_drop (mm_le.s (mm_le.s (mm_le.s (mm_le.s (mm_le.s (mm_le.s (mm_le.s (mm_le.s (mm_le.n (mm_le.n (mm_le.n mm_le.e))))))))))) (sq_M_expand_143  _ _ _ _ _ _ _ hV hw)
  · refine wr_aload_n (some a) (pc' := 97) d_M_expand_96 rfl rfl rfl ?_
    refine wr_getR hV hw (pc' := 100) d_M_expand_97 rfl fl_M_62 (fun r6 hw => ?_)
    refine mm_iload_n (pc' := 101) d_M_expand_100 rfl rfl rfl ?_
    refine mm_iload_n (pc' := 102) d_M_expand_101 rfl rfl rfl ?_
    refine mm_iadd (pc' := 103) d_M_expand_102 rfl ?_
    refine mm_iconst (v := 2) (pc' := 104) d_M_expand_103 rfl (by decide) ?_
    refine mm_iadd (pc' := 105) d_M_expand_104 rfl ?_
    refine wr_aldI hV hw (pc' := 106) d_M_expand_105 rfl (fun x7 hw => ?_)
    refine mm_bipush (v := 125) (pc' := 108) d_M_expand_106 rfl (by decide) ?_
    refine wr_icmp_ne hw (pc' := 111) d_M_expand_108 rfl rfl (fun hw => ?_) (fun hw => ?_)
    · exact mm_drop (mm_le.s (mm_le.s (mm_le.s (mm_le.s (mm_le.s (mm_le.s (mm_le.s (mm_le.s (mm_le.n (mm_le.n (mm_le.n mm_le.e))))))))))) (sq_M_expand_143  _ _ _ _ _ _ _ hV hw)
    · refine mm_iload (pc' := 113) d_M_expand_111 rfl rfl ?_
      refine mm_bipush (v := 109) (pc' := 115) d_M_expand_113 rfl (by decide) ?_
      refine wr_icmp_eq hw (pc' := 118) d_M_expand_115 rfl rfl (fun hw => ?_) (fun hw => ?_)
      · exact mm_drop (mm_le.s (mm_le.s (mm_le.s (mm_le.s (mm_le.s (mm_le.s (mm_le.s (mm_le.s (mm_le.n (mm_le.n (mm_le.n mm_le.e))))))))))) (sq_M_expand_139  _ _ _ _ _ _ _ hV hw)
      · refine mm_iload (pc' := 120) d_M_expand_118 rfl rfl ?_
        refine mm_bipush (v := 112) (pc' := 122) d_M_expand_120 rfl (by decide) ?_
        refine wr_icmp_eq hw (pc' := 125) d_M_expand_122 rfl rfl (fun hw => ?_) (fun hw => ?_)
        · exact mm_drop (mm_le.s (mm_le.s (mm_le.s (mm_le.s (mm_le.s (mm_le.s (mm_le.s (mm_le.s (mm_le.n (mm_le.n (mm_le.n mm_le.e))))))))))) (sq_M_expand_139  _ _ _ _ _ _ _ hV hw)
        · refine mm_iload (pc' := 127) d_M_expand_125 rfl rfl ?_
          refine mm_bipush (v := 98) (pc' := 129) d_M_expand_127 rfl (by decide) ?_
          refine wr_icmp_eq hw (pc' := 132) d_M_expand_129 rfl rfl (fun hw => ?_) (fun hw => ?_)
          · exact mm_drop (mm_le.s (mm_le.s (mm_le.s (mm_le.s (mm_le.s (mm_le.s (mm_le.s (mm_le.s (mm_le.n (mm_le.n (mm_le.n mm_le.e))))))))))) (sq_M_expand_139  _ _ _ _ _ _ _ hV hw)
          · refine mm_iload (pc' := 134) d_M_expand_132 rfl rfl ?_
            refine mm_bipush (v := 110) (pc' := 136) d_M_expand_134 rfl (by decide) ?_
            refine wr_icmp_ne hw (pc' := 139) d_M_expand_136 rfl rfl (fun hw => ?_) (fun hw => ?_)
            · exact mm_drop (mm_le.s (mm_le.s (mm_le.s (mm_le.s (mm_le.s (mm_le.s (mm_le.s (mm_le.s (mm_le.n (mm_le.n (mm_le.n mm_le.e))))))))))) (sq_M_expand_143  _ _ _ _ _ _ _ hV hw)
            · exact mm_drop (mm_le.s (mm_le.s (mm_le.s (mm_le.s (mm_le.s (mm_le.s (mm_le.s (mm_le.s (mm_le.n (mm_le.n (mm_le.n mm_le.e))))))))))) (sq_M_expand_139  _ _ _ _ _ _ _ hV hw)
def wb_M_expand_59 (a : Nat) (p0 : Int32) (p1 : Int32) (Q : Int32 → ab_H → Prop)  (k59 : Int32 → Int32 → Int32 → Int32 → Int32 → ab_H → Prop) (u3 : Int32) (u4 : Int32) (u5 : Int32) (u6 : Int32) (u7 : Int32) (A : ab_H) : Prop := if u6 ≤ 0 then (wq_M_expand_91 a p0 p1 Q u3 u4 u5 u6 u7 A) else (if u4 ≤ u7 then (wq_M_expand_91 a p0 p1 Q u3 u4 u5 u6 u7 A) else (wgR A (some a) 14 22 (fun r8 => wAI A r8 (u3 + u7) (fun x9 => if x9 = (125 : Int32) then (wq_M_expand_91 a p0 p1 Q u3 u4 u5 u6 u7 A) else (k59 u3 u4 u5 u6 (u7 + 1) A)))))
def wq_M_expand_59 (a : Nat) (p0 : Int32) (p1 : Int32) (Q : Int32 → ab_H → Prop)  : Nat → Int32 → Int32 → Int32 → Int32 → Int32 → ab_H → Prop
  | 0 => fun _ _ _ _ _ _ => False
  | n + 1 => wb_M_expand_59 a p0 p1 Q  (wq_M_expand_59 a p0 p1 Q  n)
set_option maxRecDepth 100000 in
set_option maxHeartbeats 4000000 in
theorem sq_M_expand_59 {l : Launch} {G : mm_G} {a : Nat} {p0 : Int32} {p1 : Int32} {Q : Int32 → ab_H → Prop}   : ∀ (n : Nat) (u3 : Int32) (u4 : Int32) (u5 : Int32) (u6 : Int32) (u7 : Int32) (A : ab_H) (h : mm_H), Vw G h A → wq_M_expand_59 a p0 p1 Q  n u3 u4 u5 u6 u7 A → mm_V l G M_M_expand 0 0 59 [some (va_rf (some a)), some (.int p0), some (.int p1), some (.int u3), some (.int u4), some (.int u5), some (.int u6), some (.int u7), none, none, none] [] h (wQI G Q) := by
  intro n
  induction n with
  | zero =>
    intro u3 u4 u5 u6 u7 A h hV hw
    exact absurd hw id
  | succ n hk59 =>
    intro u3 u4 u5 u6 u7 A h hV hw
    have hw : wb_M_expand_59 a p0 p1 Q  (wq_M_expand_59 a p0 p1 Q  n) u3 u4 u5 u6 u7 A := hw
    unfold wb_M_expand_59 at hw
    refine mm_iload (pc' := 61) d_M_expand_59 rfl rfl ?_
    refine wr_if_le hw (pc' := 64) d_M_expand_61 rfl rfl (fun hw => ?_) (fun hw => ?_)
    · exact mm_drop (mm_le.s (mm_le.s (mm_le.s (mm_le.s (mm_le.s (mm_le.s (mm_le.s (mm_le.s (mm_le.n (mm_le.n (mm_le.n mm_le.e))))))))))) (sq_M_expand_91  _ _ _ _ _ _ _ hV hw)
    · refine mm_iload (pc' := 66) d_M_expand_64 rfl rfl ?_
      refine mm_iload (pc' := 68) d_M_expand_66 rfl rfl ?_
      refine wr_icmp_ge hw (pc' := 71) d_M_expand_68 rfl rfl (fun hw => ?_) (fun hw => ?_)
      · exact mm_drop (mm_le.s (mm_le.s (mm_le.s (mm_le.s (mm_le.s (mm_le.s (mm_le.s (mm_le.s (mm_le.n (mm_le.n (mm_le.n mm_le.e))))))))))) (sq_M_expand_91  _ _ _ _ _ _ _ hV hw)
      · refine wr_aload_n (some a) (pc' := 72) d_M_expand_71 rfl rfl rfl ?_
        refine wr_getR hV hw (pc' := 75) d_M_expand_72 rfl fl_M_62 (fun r8 hw => ?_)
        refine mm_iload_n (pc' := 76) d_M_expand_75 rfl rfl rfl ?_
        refine mm_iload (pc' := 78) d_M_expand_76 rfl rfl ?_
        refine mm_iadd (pc' := 79) d_M_expand_78 rfl ?_
        refine wr_aldI hV hw (pc' := 80) d_M_expand_79 rfl (fun x9 hw => ?_)
        refine mm_bipush (v := 125) (pc' := 82) d_M_expand_80 rfl (by decide) ?_
        refine wr_icmp_eq hw (pc' := 85) d_M_expand_82 rfl rfl (fun hw => ?_) (fun hw => ?_)
        · exact mm_drop (mm_le.s (mm_le.s (mm_le.s (mm_le.s (mm_le.s (mm_le.s (mm_le.s (mm_le.s (mm_le.n (mm_le.n (mm_le.n mm_le.e))))))))))) (sq_M_expand_91  _ _ _ _ _ _ _ hV hw)
        · refine mm_iinc7 (v := (u7 + 1)) (pc' := 88) d_M_expand_85 rfl rfl rfl (Nat.le_of_ble_eq_true rfl) ?_
          refine mm_goto (tgt := 59) d_M_expand_88 rfl ?_
          exact mm_drop (mm_le.s (mm_le.s (mm_le.s (mm_le.s (mm_le.s (mm_le.s (mm_le.s (mm_le.s (mm_le.n (mm_le.n (mm_le.n mm_le.e))))))))))) (hk59 _ _ _ _ _ _ _ hV hw)
def wq_M_expand_52 (a : Nat) (p0 : Int32) (p1 : Int32) (Q : Int32 → ab_H → Prop)  (u3 : Int32) (u4 : Int32) (u5 : Int32) (s0 : Int32) (A : ab_H) : Prop := wL ((p1 + (2 : Int32))) (fun x10 => ∃ n, wq_M_expand_59 a p0 p1 Q n u3 u4 u5 s0 x10 A)
set_option maxRecDepth 100000 in
set_option maxHeartbeats 4000000 in
theorem sq_M_expand_52 {l : Launch} {G : mm_G} {a : Nat} {p0 : Int32} {p1 : Int32} {Q : Int32 → ab_H → Prop}   : ∀ (u3 : Int32) (u4 : Int32) (u5 : Int32) (s0 : Int32) (A : ab_H) (h : mm_H), Vw G h A → wq_M_expand_52 a p0 p1 Q  u3 u4 u5 s0 A → mm_V l G M_M_expand 0 0 52 [some (va_rf (some a)), some (.int p0), some (.int p1), some (.int u3), some (.int u4), some (.int u5), none, none, none, none, none] [.int s0] h (wQI G Q) := by
  intro u3 u4 u5 s0 A h hV hw
  unfold wq_M_expand_52 at hw
  refine mm_ist6 (pc' := 54) d_M_expand_52 rfl rfl (Nat.le_of_ble_eq_true rfl) ?_
  refine mm_iload_n (pc' := 55) d_M_expand_54 rfl rfl rfl ?_
  refine mm_iconst (v := 2) (pc' := 56) d_M_expand_55 rfl (by decide) ?_
  refine mm_iadd (pc' := 57) d_M_expand_56 rfl ?_
  refine wr_let (P := fun z => mm_V l G M_M_expand 0 0 57 [some (va_rf (some a)), some (.int p0), some (.int p1), some (.int u3), some (.int u4), some (.int u5), some (.int s0), none, none, none, none] (.int z :: []) h _) hw (fun x10 hw => ?_)
  refine mm_ist7 (pc' := 59) d_M_expand_57 rfl rfl (Nat.le_of_ble_eq_true rfl) ?_
  obtain ⟨n, hw⟩ := hw
  exact mm_drop (mm_le.s (mm_le.s (mm_le.s (mm_le.s (mm_le.s (mm_le.s (mm_le.s (mm_le.s (mm_le.n (mm_le.n (mm_le.n mm_le.e))))))))))) (sq_M_expand_59  n _ _ _ _ _ _ _ hV hw)
def wq_M_expand_51 (a : Nat) (p0 : Int32) (p1 : Int32) (Q : Int32 → ab_H → Prop)  (u3 : Int32) (u4 : Int32) (u5 : Int32) (A : ab_H) : Prop := wq_M_expand_52 a p0 p1 Q u3 u4 u5 (0 : Int32) A
set_option maxRecDepth 100000 in
set_option maxHeartbeats 4000000 in
theorem sq_M_expand_51 {l : Launch} {G : mm_G} {a : Nat} {p0 : Int32} {p1 : Int32} {Q : Int32 → ab_H → Prop}   : ∀ (u3 : Int32) (u4 : Int32) (u5 : Int32) (A : ab_H) (h : mm_H), Vw G h A → wq_M_expand_51 a p0 p1 Q  u3 u4 u5 A → mm_V l G M_M_expand 0 0 51 [some (va_rf (some a)), some (.int p0), some (.int p1), some (.int u3), some (.int u4), some (.int u5), none, none, none, none, none] [] h (wQI G Q) := by
  intro u3 u4 u5 A h hV hw
  unfold wq_M_expand_51 at hw
  refine mm_iconst (v := 0) (pc' := 52) d_M_expand_51 rfl (by decide) ?_
  exact mm_drop (mm_le.s (mm_le.s (mm_le.s (mm_le.s (mm_le.s (mm_le.s (mm_le.n (mm_le.n (mm_le.n (mm_le.n (mm_le.n mm_le.e))))))))))) (sq_M_expand_52  _ _ _ _ _ _ hV hw)
def wp_M_expand (a : Nat) (p0 : Int32) (p1 : Int32) (A : ab_H) (Q : Int32 → ab_H → Prop) : Prop := wL (((40 : Int32) * p0)) (fun x11 => wgR A (some a) 14 23 (fun r12 => wAI A r12 p0 (fun x13 => wgR A (some a) 14 22 (fun r14 => wAI A r14 (x11 + p1) (fun x15 => if x15 = (123 : Int32) then (if x13 ≤ (p1 + (2 : Int32)) then (wq_M_expand_51 a p0 p1 Q x11 x13 x15 A) else (wgR A (some a) 14 22 (fun r16 => wAI A r16 ((x11 + p1) + (1 : Int32)) (fun x17 => wq_M_expand_52 a p0 p1 Q x11 x13 x15 x17 A)))) else (wq_M_expand_51 a p0 p1 Q x11 x13 x15 A))))))
set_option maxRecDepth 100000 in
set_option maxHeartbeats 4000000 in
theorem sd_M_expand {l : Launch} {G : mm_G} {h : mm_H} {A : ab_H} {a : Nat} {p0 : Int32} {p1 : Int32} {Q : Int32 → ab_H → Prop} (hV : Vw G h A) (hw : wp_M_expand a p0 p1 A Q) : mm_S l G M_M_expand [.ref a, .int p0, .int p1] h 0 0 (wQI G Q) := by
  unfold wp_M_expand at hw
  refine mm_start rfl (Nat.le_of_ble_eq_true rfl) ?_
  show mm_V l G M_M_expand 0 0 0 [some (va_rf (some a)), some (.int p0), some (.int p1), none, none, none, none, none, none, none, none] [] h _
  refine mm_bipush (v := 40) (pc' := 2) d_M_expand_0 rfl (by decide) ?_
  refine mm_iload_n (pc' := 3) d_M_expand_2 rfl rfl rfl ?_
  refine mm_imul (pc' := 4) d_M_expand_3 rfl ?_
  refine wr_let (P := fun z => mm_V l G M_M_expand 0 0 4 [some (va_rf (some a)), some (.int p0), some (.int p1), none, none, none, none, none, none, none, none] (.int z :: []) h _) hw (fun x11 hw => ?_)
  refine mm_ist3 (pc' := 5) d_M_expand_4 rfl rfl (Nat.le_of_ble_eq_true rfl) ?_
  refine wr_aload_n (some a) (pc' := 6) d_M_expand_5 rfl rfl rfl ?_
  refine wr_getR hV hw (pc' := 9) d_M_expand_6 rfl fl_M_65 (fun r12 hw => ?_)
  refine mm_iload_n (pc' := 10) d_M_expand_9 rfl rfl rfl ?_
  refine wr_aldI hV hw (pc' := 11) d_M_expand_10 rfl (fun x13 hw => ?_)
  refine mm_ist4 (pc' := 13) d_M_expand_11 rfl rfl (Nat.le_of_ble_eq_true rfl) ?_
  refine wr_aload_n (some a) (pc' := 14) d_M_expand_13 rfl rfl rfl ?_
  refine wr_getR hV hw (pc' := 17) d_M_expand_14 rfl fl_M_62 (fun r14 hw => ?_)
  refine mm_iload_n (pc' := 18) d_M_expand_17 rfl rfl rfl ?_
  refine mm_iload_n (pc' := 19) d_M_expand_18 rfl rfl rfl ?_
  refine mm_iadd (pc' := 20) d_M_expand_19 rfl ?_
  refine wr_aldI hV hw (pc' := 21) d_M_expand_20 rfl (fun x15 hw => ?_)
  refine mm_ist5 (pc' := 23) d_M_expand_21 rfl rfl (Nat.le_of_ble_eq_true rfl) ?_
  refine mm_iload (pc' := 25) d_M_expand_23 rfl rfl ?_
  refine mm_bipush (v := 123) (pc' := 27) d_M_expand_25 rfl (by decide) ?_
  refine wr_icmp_ne hw (pc' := 30) d_M_expand_27 rfl rfl (fun hw => ?_) (fun hw => ?_)
  · exact mm_drop (mm_le.s (mm_le.s (mm_le.s (mm_le.s (mm_le.s (mm_le.s (mm_le.n (mm_le.n (mm_le.n (mm_le.n (mm_le.n mm_le.e))))))))))) (sq_M_expand_51  _ _ _ _ _ hV hw)
  · refine mm_iload_n (pc' := 31) d_M_expand_30 rfl rfl rfl ?_
    refine mm_iconst (v := 2) (pc' := 32) d_M_expand_31 rfl (by decide) ?_
    refine mm_iadd (pc' := 33) d_M_expand_32 rfl ?_
    refine mm_iload (pc' := 35) d_M_expand_33 rfl rfl ?_
    refine wr_icmp_ge hw (pc' := 38) d_M_expand_35 rfl rfl (fun hw => ?_) (fun hw => ?_)
    · exact mm_drop (mm_le.s (mm_le.s (mm_le.s (mm_le.s (mm_le.s (mm_le.s (mm_le.n (mm_le.n (mm_le.n (mm_le.n (mm_le.n mm_le.e))))))))))) (sq_M_expand_51  _ _ _ _ _ hV hw)
    · refine wr_aload_n (some a) (pc' := 39) d_M_expand_38 rfl rfl rfl ?_
      refine wr_getR hV hw (pc' := 42) d_M_expand_39 rfl fl_M_62 (fun r16 hw => ?_)
      refine mm_iload_n (pc' := 43) d_M_expand_42 rfl rfl rfl ?_
      refine mm_iload_n (pc' := 44) d_M_expand_43 rfl rfl rfl ?_
      refine mm_iadd (pc' := 45) d_M_expand_44 rfl ?_
      refine mm_iconst (v := 1) (pc' := 46) d_M_expand_45 rfl (by decide) ?_
      refine mm_iadd (pc' := 47) d_M_expand_46 rfl ?_
      refine wr_aldI hV hw (pc' := 48) d_M_expand_47 rfl (fun x17 hw => ?_)
      refine mm_goto (tgt := 52) d_M_expand_48 rfl ?_
      exact mm_drop (mm_le.s (mm_le.s (mm_le.s (mm_le.s (mm_le.s (mm_le.s (mm_le.n (mm_le.n (mm_le.n (mm_le.n (mm_le.n mm_le.e))))))))))) (sq_M_expand_52  _ _ _ _ _ _ hV hw)
theorem d_M_respond_0 : decode prog_14_method_45_code 0 = .ok (.aload_n 0, 1) := by decide +kernel
theorem d_M_respond_1 : decode prog_14_method_45_code 1 = .ok (.getfield 236, 3) := by decide +kernel
theorem d_M_respond_4 : decode prog_14_method_45_code 4 = .ok (.istore_n 3, 1) := by decide +kernel
theorem d_M_respond_5 : decode prog_14_method_45_code 5 = .ok (.aload_n 0, 1) := by decide +kernel
theorem d_M_respond_6 : decode prog_14_method_45_code 6 = .ok (.iconst 0, 1) := by decide +kernel
theorem d_M_respond_7 : decode prog_14_method_45_code 7 = .ok (.putfield 236, 3) := by decide +kernel
theorem d_M_respond_10 : decode prog_14_method_45_code 10 = .ok (.bipush 80, 2) := by decide +kernel
theorem d_M_respond_12 : decode prog_14_method_45_code 12 = .ok (.iload_n 1, 1) := by decide +kernel
theorem d_M_respond_13 : decode prog_14_method_45_code 13 = .ok (.imul, 1) := by decide +kernel
theorem d_M_respond_14 : decode prog_14_method_45_code 14 = .ok (.istore 4, 2) := by decide +kernel
theorem d_M_respond_16 : decode prog_14_method_45_code 16 = .ok (.aload_n 0, 1) := by decide +kernel
theorem d_M_respond_17 : decode prog_14_method_45_code 17 = .ok (.getfield 20, 3) := by decide +kernel
theorem d_M_respond_20 : decode prog_14_method_45_code 20 = .ok (.iload 4, 2) := by decide +kernel
theorem d_M_respond_22 : decode prog_14_method_45_code 22 = .ok (.bipush 48, 2) := by decide +kernel
theorem d_M_respond_24 : decode prog_14_method_45_code 24 = .ok (.iload_n 2, 1) := by decide +kernel
theorem d_M_respond_25 : decode prog_14_method_45_code 25 = .ok (.bipush 100, 2) := by decide +kernel
theorem d_M_respond_27 : decode prog_14_method_45_code 27 = .ok (.idiv, 1) := by decide +kernel
theorem d_M_respond_28 : decode prog_14_method_45_code 28 = .ok (.iadd, 1) := by decide +kernel
theorem d_M_respond_29 : decode prog_14_method_45_code 29 = .ok (.iastore, 1) := by decide +kernel
theorem d_M_respond_30 : decode prog_14_method_45_code 30 = .ok (.aload_n 0, 1) := by decide +kernel
theorem d_M_respond_31 : decode prog_14_method_45_code 31 = .ok (.getfield 20, 3) := by decide +kernel
theorem d_M_respond_34 : decode prog_14_method_45_code 34 = .ok (.iload 4, 2) := by decide +kernel
theorem d_M_respond_36 : decode prog_14_method_45_code 36 = .ok (.iconst 1, 1) := by decide +kernel
theorem d_M_respond_37 : decode prog_14_method_45_code 37 = .ok (.iadd, 1) := by decide +kernel
theorem d_M_respond_38 : decode prog_14_method_45_code 38 = .ok (.bipush 48, 2) := by decide +kernel
theorem d_M_respond_40 : decode prog_14_method_45_code 40 = .ok (.iload_n 2, 1) := by decide +kernel
theorem d_M_respond_41 : decode prog_14_method_45_code 41 = .ok (.bipush 10, 2) := by decide +kernel
theorem d_M_respond_43 : decode prog_14_method_45_code 43 = .ok (.idiv, 1) := by decide +kernel
theorem d_M_respond_44 : decode prog_14_method_45_code 44 = .ok (.bipush 10, 2) := by decide +kernel
theorem d_M_respond_46 : decode prog_14_method_45_code 46 = .ok (.irem, 1) := by decide +kernel
theorem d_M_respond_47 : decode prog_14_method_45_code 47 = .ok (.iadd, 1) := by decide +kernel
theorem d_M_respond_48 : decode prog_14_method_45_code 48 = .ok (.iastore, 1) := by decide +kernel
theorem d_M_respond_49 : decode prog_14_method_45_code 49 = .ok (.aload_n 0, 1) := by decide +kernel
theorem d_M_respond_50 : decode prog_14_method_45_code 50 = .ok (.getfield 20, 3) := by decide +kernel
theorem d_M_respond_53 : decode prog_14_method_45_code 53 = .ok (.iload 4, 2) := by decide +kernel
theorem d_M_respond_55 : decode prog_14_method_45_code 55 = .ok (.iconst 2, 1) := by decide +kernel
theorem d_M_respond_56 : decode prog_14_method_45_code 56 = .ok (.iadd, 1) := by decide +kernel
theorem d_M_respond_57 : decode prog_14_method_45_code 57 = .ok (.bipush 48, 2) := by decide +kernel
theorem d_M_respond_59 : decode prog_14_method_45_code 59 = .ok (.iload_n 2, 1) := by decide +kernel
theorem d_M_respond_60 : decode prog_14_method_45_code 60 = .ok (.bipush 10, 2) := by decide +kernel
theorem d_M_respond_62 : decode prog_14_method_45_code 62 = .ok (.irem, 1) := by decide +kernel
theorem d_M_respond_63 : decode prog_14_method_45_code 63 = .ok (.iadd, 1) := by decide +kernel
theorem d_M_respond_64 : decode prog_14_method_45_code 64 = .ok (.iastore, 1) := by decide +kernel
theorem d_M_respond_65 : decode prog_14_method_45_code 65 = .ok (.aload_n 0, 1) := by decide +kernel
theorem d_M_respond_66 : decode prog_14_method_45_code 66 = .ok (.getfield 20, 3) := by decide +kernel
theorem d_M_respond_69 : decode prog_14_method_45_code 69 = .ok (.iload 4, 2) := by decide +kernel
theorem d_M_respond_71 : decode prog_14_method_45_code 71 = .ok (.iconst 3, 1) := by decide +kernel
theorem d_M_respond_72 : decode prog_14_method_45_code 72 = .ok (.iadd, 1) := by decide +kernel
theorem d_M_respond_73 : decode prog_14_method_45_code 73 = .ok (.bipush 32, 2) := by decide +kernel
theorem d_M_respond_75 : decode prog_14_method_45_code 75 = .ok (.iastore, 1) := by decide +kernel
theorem d_M_respond_76 : decode prog_14_method_45_code 76 = .ok (.iload 4, 2) := by decide +kernel
theorem d_M_respond_78 : decode prog_14_method_45_code 78 = .ok (.iconst 4, 1) := by decide +kernel
theorem d_M_respond_79 : decode prog_14_method_45_code 79 = .ok (.iadd, 1) := by decide +kernel
theorem d_M_respond_80 : decode prog_14_method_45_code 80 = .ok (.istore 5, 2) := by decide +kernel
theorem d_M_respond_82 : decode prog_14_method_45_code 82 = .ok (.iload_n 3, 1) := by decide +kernel
theorem d_M_respond_83 : decode prog_14_method_45_code 83 = .ok (.bipush 10, 2) := by decide +kernel
theorem d_M_respond_85 : decode prog_14_method_45_code 85 = .ok (.if_icmp .lt 20, 3) := by decide +kernel
theorem d_M_respond_88 : decode prog_14_method_45_code 88 = .ok (.aload_n 0, 1) := by decide +kernel
theorem d_M_respond_89 : decode prog_14_method_45_code 89 = .ok (.getfield 20, 3) := by decide +kernel
theorem d_M_respond_92 : decode prog_14_method_45_code 92 = .ok (.iload 5, 2) := by decide +kernel
theorem d_M_respond_94 : decode prog_14_method_45_code 94 = .ok (.bipush 48, 2) := by decide +kernel
theorem d_M_respond_96 : decode prog_14_method_45_code 96 = .ok (.iload_n 3, 1) := by decide +kernel
theorem d_M_respond_97 : decode prog_14_method_45_code 97 = .ok (.bipush 10, 2) := by decide +kernel
theorem d_M_respond_99 : decode prog_14_method_45_code 99 = .ok (.idiv, 1) := by decide +kernel
theorem d_M_respond_100 : decode prog_14_method_45_code 100 = .ok (.iadd, 1) := by decide +kernel
theorem d_M_respond_101 : decode prog_14_method_45_code 101 = .ok (.iastore, 1) := by decide +kernel
theorem d_M_respond_102 : decode prog_14_method_45_code 102 = .ok (.iinc 5 1, 3) := by decide +kernel
theorem d_M_respond_105 : decode prog_14_method_45_code 105 = .ok (.aload_n 0, 1) := by decide +kernel
theorem d_M_respond_106 : decode prog_14_method_45_code 106 = .ok (.getfield 20, 3) := by decide +kernel
theorem d_M_respond_109 : decode prog_14_method_45_code 109 = .ok (.iload 5, 2) := by decide +kernel
theorem d_M_respond_111 : decode prog_14_method_45_code 111 = .ok (.bipush 48, 2) := by decide +kernel
theorem d_M_respond_113 : decode prog_14_method_45_code 113 = .ok (.iload_n 3, 1) := by decide +kernel
theorem d_M_respond_114 : decode prog_14_method_45_code 114 = .ok (.bipush 10, 2) := by decide +kernel
theorem d_M_respond_116 : decode prog_14_method_45_code 116 = .ok (.irem, 1) := by decide +kernel
theorem d_M_respond_117 : decode prog_14_method_45_code 117 = .ok (.iadd, 1) := by decide +kernel
theorem d_M_respond_118 : decode prog_14_method_45_code 118 = .ok (.iastore, 1) := by decide +kernel
theorem d_M_respond_119 : decode prog_14_method_45_code 119 = .ok (.aload_n 0, 1) := by decide +kernel
theorem d_M_respond_120 : decode prog_14_method_45_code 120 = .ok (.getfield 20, 3) := by decide +kernel
theorem d_M_respond_123 : decode prog_14_method_45_code 123 = .ok (.iload 5, 2) := by decide +kernel
theorem d_M_respond_125 : decode prog_14_method_45_code 125 = .ok (.iconst 1, 1) := by decide +kernel
theorem d_M_respond_126 : decode prog_14_method_45_code 126 = .ok (.iadd, 1) := by decide +kernel
theorem d_M_respond_127 : decode prog_14_method_45_code 127 = .ok (.bipush 10, 2) := by decide +kernel
theorem d_M_respond_129 : decode prog_14_method_45_code 129 = .ok (.iastore, 1) := by decide +kernel
theorem d_M_respond_130 : decode prog_14_method_45_code 130 = .ok (.iconst 0, 1) := by decide +kernel
theorem d_M_respond_131 : decode prog_14_method_45_code 131 = .ok (.istore 6, 2) := by decide +kernel
theorem d_M_respond_133 : decode prog_14_method_45_code 133 = .ok (.iload 6, 2) := by decide +kernel
theorem d_M_respond_135 : decode prog_14_method_45_code 135 = .ok (.iload_n 3, 1) := by decide +kernel
theorem d_M_respond_136 : decode prog_14_method_45_code 136 = .ok (.if_icmp .ge 28, 3) := by decide +kernel
theorem d_M_respond_139 : decode prog_14_method_45_code 139 = .ok (.aload_n 0, 1) := by decide +kernel
theorem d_M_respond_140 : decode prog_14_method_45_code 140 = .ok (.getfield 20, 3) := by decide +kernel
theorem d_M_respond_143 : decode prog_14_method_45_code 143 = .ok (.iload 5, 2) := by decide +kernel
theorem d_M_respond_145 : decode prog_14_method_45_code 145 = .ok (.iconst 2, 1) := by decide +kernel
theorem d_M_respond_146 : decode prog_14_method_45_code 146 = .ok (.iadd, 1) := by decide +kernel
theorem d_M_respond_147 : decode prog_14_method_45_code 147 = .ok (.iload 6, 2) := by decide +kernel
theorem d_M_respond_149 : decode prog_14_method_45_code 149 = .ok (.iadd, 1) := by decide +kernel
theorem d_M_respond_150 : decode prog_14_method_45_code 150 = .ok (.aload_n 0, 1) := by decide +kernel
theorem d_M_respond_151 : decode prog_14_method_45_code 151 = .ok (.getfield 92, 3) := by decide +kernel
theorem d_M_respond_154 : decode prog_14_method_45_code 154 = .ok (.iload 6, 2) := by decide +kernel
theorem d_M_respond_156 : decode prog_14_method_45_code 156 = .ok (.iaload, 1) := by decide +kernel
theorem d_M_respond_157 : decode prog_14_method_45_code 157 = .ok (.iastore, 1) := by decide +kernel
theorem d_M_respond_158 : decode prog_14_method_45_code 158 = .ok (.iinc 6 1, 3) := by decide +kernel
theorem d_M_respond_161 : decode prog_14_method_45_code 161 = .ok (.goto (-28), 3) := by decide +kernel
theorem d_M_respond_164 : decode prog_14_method_45_code 164 = .ok (.aload_n 0, 1) := by decide +kernel
theorem d_M_respond_165 : decode prog_14_method_45_code 165 = .ok (.getfield 23, 3) := by decide +kernel
theorem d_M_respond_168 : decode prog_14_method_45_code 168 = .ok (.iload_n 1, 1) := by decide +kernel
theorem d_M_respond_169 : decode prog_14_method_45_code 169 = .ok (.iload 5, 2) := by decide +kernel
theorem d_M_respond_171 : decode prog_14_method_45_code 171 = .ok (.iconst 2, 1) := by decide +kernel
theorem d_M_respond_172 : decode prog_14_method_45_code 172 = .ok (.iadd, 1) := by decide +kernel
theorem d_M_respond_173 : decode prog_14_method_45_code 173 = .ok (.iload_n 3, 1) := by decide +kernel
theorem d_M_respond_174 : decode prog_14_method_45_code 174 = .ok (.iadd, 1) := by decide +kernel
theorem d_M_respond_175 : decode prog_14_method_45_code 175 = .ok (.iload 4, 2) := by decide +kernel
theorem d_M_respond_177 : decode prog_14_method_45_code 177 = .ok (.isub, 1) := by decide +kernel
theorem d_M_respond_178 : decode prog_14_method_45_code 178 = .ok (.iastore, 1) := by decide +kernel
theorem d_M_respond_179 : decode prog_14_method_45_code 179 = .ok (.return_, 1) := by decide +kernel
def wq_M_respond_164 (a : Nat) (p0 : Int32) (p1 : Int32) (Q : ab_H → Prop)  (u3 : Int32) (u4 : Int32) (u5 : Int32) (A : ab_H) : Prop := wgR A (some a) 14 4 (fun r1 => wSI A r1 p0 (((u5 + (2 : Int32)) + u3) - u4) (fun A => Q A))
set_option maxRecDepth 100000 in
set_option maxHeartbeats 4000000 in
theorem sq_M_respond_164 {l : Launch} {G : mm_G} {a : Nat} {p0 : Int32} {p1 : Int32} {Q : ab_H → Prop}   : ∀ (u3 : Int32) (u4 : Int32) (u5 : Int32) (A : ab_H) (h : mm_H), Vw G h A → wq_M_respond_164 a p0 p1 Q  u3 u4 u5 A → mm_V l G M_M_respond 0 0 164 [some (va_rf (some a)), some (.int p0), some (.int p1), some (.int u3), some (.int u4), some (.int u5), none] [] h (wQV G Q) := by
  intro u3 u4 u5 A h hV hw
  unfold wq_M_respond_164 at hw
  refine wr_aload_n (some a) (pc' := 165) d_M_respond_164 rfl rfl rfl ?_
  refine wr_getR hV hw (pc' := 168) d_M_respond_165 rfl fl_M_23 (fun r1 hw => ?_)
  refine mm_iload_n (pc' := 169) d_M_respond_168 rfl rfl rfl ?_
  refine mm_iload (pc' := 171) d_M_respond_169 rfl rfl ?_
  refine mm_iconst (v := 2) (pc' := 172) d_M_respond_171 rfl (by decide) ?_
  refine mm_iadd (pc' := 173) d_M_respond_172 rfl ?_
  refine mm_iload_n (pc' := 174) d_M_respond_173 rfl rfl rfl ?_
  refine mm_iadd (pc' := 175) d_M_respond_174 rfl ?_
  refine mm_iload (pc' := 177) d_M_respond_175 rfl rfl ?_
  refine mm_isub (pc' := 178) d_M_respond_177 rfl ?_
  refine wr_astI hV hw (pc' := 179) d_M_respond_178 rfl (fun h A hV hw => ?_)
  exact wr_vret hV d_M_respond_179 rfl hw
def wb_M_respond_133 (a : Nat) (p0 : Int32) (p1 : Int32) (Q : ab_H → Prop)  (k133 : Int32 → Int32 → Int32 → Int32 → ab_H → Prop) (u3 : Int32) (u4 : Int32) (u5 : Int32) (u6 : Int32) (A : ab_H) : Prop := if u3 ≤ u6 then (wq_M_respond_164 a p0 p1 Q u3 u4 u5 A) else (wgR A (some a) 14 3 (fun r2 => wgR A (some a) 14 41 (fun r3 => wAI A r3 u6 (fun x4 => wSI A r2 ((u5 + (2 : Int32)) + u6) x4 (fun A => k133 u3 u4 u5 (u6 + 1) A)))))
def wq_M_respond_133 (a : Nat) (p0 : Int32) (p1 : Int32) (Q : ab_H → Prop)  : Nat → Int32 → Int32 → Int32 → Int32 → ab_H → Prop
  | 0 => fun _ _ _ _ _ => False
  | n + 1 => wb_M_respond_133 a p0 p1 Q  (wq_M_respond_133 a p0 p1 Q  n)
set_option maxRecDepth 100000 in
set_option maxHeartbeats 4000000 in
theorem sq_M_respond_133 {l : Launch} {G : mm_G} {a : Nat} {p0 : Int32} {p1 : Int32} {Q : ab_H → Prop}   : ∀ (n : Nat) (u3 : Int32) (u4 : Int32) (u5 : Int32) (u6 : Int32) (A : ab_H) (h : mm_H), Vw G h A → wq_M_respond_133 a p0 p1 Q  n u3 u4 u5 u6 A → mm_V l G M_M_respond 0 0 133 [some (va_rf (some a)), some (.int p0), some (.int p1), some (.int u3), some (.int u4), some (.int u5), some (.int u6)] [] h (wQV G Q) := by
  intro n
  induction n with
  | zero =>
    intro u3 u4 u5 u6 A h hV hw
    exact absurd hw id
  | succ n hk133 =>
    intro u3 u4 u5 u6 A h hV hw
    have hw : wb_M_respond_133 a p0 p1 Q  (wq_M_respond_133 a p0 p1 Q  n) u3 u4 u5 u6 A := hw
    unfold wb_M_respond_133 at hw
    refine mm_iload (pc' := 135) d_M_respond_133 rfl rfl ?_
    refine mm_iload_n (pc' := 136) d_M_respond_135 rfl rfl rfl ?_
    refine wr_icmp_ge hw (pc' := 139) d_M_respond_136 rfl rfl (fun hw => ?_) (fun hw => ?_)
    · exact mm_drop (mm_le.s (mm_le.s (mm_le.s (mm_le.s (mm_le.s (mm_le.s (mm_le.n mm_le.e))))))) (sq_M_respond_164  _ _ _ _ _ hV hw)
    · refine wr_aload_n (some a) (pc' := 140) d_M_respond_139 rfl rfl rfl ?_
      refine wr_getR hV hw (pc' := 143) d_M_respond_140 rfl fl_M_20 (fun r2 hw => ?_)
      refine mm_iload (pc' := 145) d_M_respond_143 rfl rfl ?_
      refine mm_iconst (v := 2) (pc' := 146) d_M_respond_145 rfl (by decide) ?_
      refine mm_iadd (pc' := 147) d_M_respond_146 rfl ?_
      refine mm_iload (pc' := 149) d_M_respond_147 rfl rfl ?_
      refine mm_iadd (pc' := 150) d_M_respond_149 rfl ?_
      refine wr_aload_n (some a) (pc' := 151) d_M_respond_150 rfl rfl rfl ?_
      refine wr_getR hV hw (pc' := 154) d_M_respond_151 rfl fl_M_92 (fun r3 hw => ?_)
      refine mm_iload (pc' := 156) d_M_respond_154 rfl rfl ?_
      refine wr_aldI hV hw (pc' := 157) d_M_respond_156 rfl (fun x4 hw => ?_)
      refine wr_astI hV hw (pc' := 158) d_M_respond_157 rfl (fun h A hV hw => ?_)
      refine mm_iinc6 (v := (u6 + 1)) (pc' := 161) d_M_respond_158 rfl rfl rfl (Nat.le_of_ble_eq_true rfl) ?_
      refine mm_goto (tgt := 133) d_M_respond_161 rfl ?_
      exact mm_drop (mm_le.s (mm_le.s (mm_le.s (mm_le.s (mm_le.s (mm_le.s (mm_le.s mm_le.e))))))) (hk133 _ _ _ _ _ _ hV hw)
def wq_M_respond_105 (a : Nat) (p0 : Int32) (p1 : Int32) (Q : ab_H → Prop)  (u3 : Int32) (u4 : Int32) (u5 : Int32) (A : ab_H) : Prop := wgR A (some a) 14 3 (fun r5 => wSI A r5 u5 ((48 : Int32) + (u3 - u3 / (10 : Int32) * (10 : Int32))) (fun A => wgR A (some a) 14 3 (fun r6 => wSI A r6 (u5 + (1 : Int32)) (10 : Int32) (fun A => ∃ n, wq_M_respond_133 a p0 p1 Q n u3 u4 u5 (0 : Int32) A))))
set_option maxRecDepth 100000 in
set_option maxHeartbeats 4000000 in
theorem sq_M_respond_105 {l : Launch} {G : mm_G} {a : Nat} {p0 : Int32} {p1 : Int32} {Q : ab_H → Prop}   : ∀ (u3 : Int32) (u4 : Int32) (u5 : Int32) (A : ab_H) (h : mm_H), Vw G h A → wq_M_respond_105 a p0 p1 Q  u3 u4 u5 A → mm_V l G M_M_respond 0 0 105 [some (va_rf (some a)), some (.int p0), some (.int p1), some (.int u3), some (.int u4), some (.int u5), none] [] h (wQV G Q) := by
  intro u3 u4 u5 A h hV hw
  unfold wq_M_respond_105 at hw
  refine wr_aload_n (some a) (pc' := 106) d_M_respond_105 rfl rfl rfl ?_
  refine wr_getR hV hw (pc' := 109) d_M_respond_106 rfl fl_M_20 (fun r5 hw => ?_)
  refine mm_iload (pc' := 111) d_M_respond_109 rfl rfl ?_
  refine mm_bipush (v := 48) (pc' := 113) d_M_respond_111 rfl (by decide) ?_
  refine mm_iload_n (pc' := 114) d_M_respond_113 rfl rfl rfl ?_
  refine mm_bipush (v := 10) (pc' := 116) d_M_respond_114 rfl (by decide) ?_
  refine mm_irem (pc' := 117) d_M_respond_116 rfl (by decide) ?_
  refine mm_iadd (pc' := 118) d_M_respond_117 rfl ?_
  refine wr_astI hV hw (pc' := 119) d_M_respond_118 rfl (fun h A hV hw => ?_)
  refine wr_aload_n (some a) (pc' := 120) d_M_respond_119 rfl rfl rfl ?_
  refine wr_getR hV hw (pc' := 123) d_M_respond_120 rfl fl_M_20 (fun r6 hw => ?_)
  refine mm_iload (pc' := 125) d_M_respond_123 rfl rfl ?_
  refine mm_iconst (v := 1) (pc' := 126) d_M_respond_125 rfl (by decide) ?_
  refine mm_iadd (pc' := 127) d_M_respond_126 rfl ?_
  refine mm_bipush (v := 10) (pc' := 129) d_M_respond_127 rfl (by decide) ?_
  refine wr_astI hV hw (pc' := 130) d_M_respond_129 rfl (fun h A hV hw => ?_)
  refine mm_iconst (v := 0) (pc' := 131) d_M_respond_130 rfl (by decide) ?_
  refine mm_ist6 (pc' := 133) d_M_respond_131 rfl rfl (Nat.le_of_ble_eq_true rfl) ?_
  obtain ⟨n, hw⟩ := hw
  exact mm_drop (mm_le.s (mm_le.s (mm_le.s (mm_le.s (mm_le.s (mm_le.s (mm_le.s mm_le.e))))))) (sq_M_respond_133  n _ _ _ _ _ _ hV hw)
def wp_M_respond (a : Nat) (p0 : Int32) (p1 : Int32) (A : ab_H) (Q : ab_H → Prop) : Prop := wgI A (some a) 14 42 (fun x7 => wp A (some a) 14 42 (.int (0 : Int32)) (fun A => wL (((80 : Int32) * p0)) (fun x8 => wgR A (some a) 14 3 (fun r9 => wSI A r9 x8 ((48 : Int32) + (p1 / (100 : Int32))) (fun A => wgR A (some a) 14 3 (fun r10 => wSI A r10 (x8 + (1 : Int32)) ((48 : Int32) + ((p1 / (10 : Int32)) - (p1 / (10 : Int32)) / (10 : Int32) * (10 : Int32))) (fun A => wgR A (some a) 14 3 (fun r11 => wSI A r11 (x8 + (2 : Int32)) ((48 : Int32) + (p1 - p1 / (10 : Int32) * (10 : Int32))) (fun A => wgR A (some a) 14 3 (fun r12 => wSI A r12 (x8 + (3 : Int32)) (32 : Int32) (fun A => wL ((x8 + (4 : Int32))) (fun x13 => if x7 < (10 : Int32) then (wq_M_respond_105 a p0 p1 Q x7 x8 x13 A) else (wgR A (some a) 14 3 (fun r14 => wSI A r14 x13 ((48 : Int32) + (x7 / (10 : Int32))) (fun A => wq_M_respond_105 a p0 p1 Q x7 x8 (x13 + 1) A)))))))))))))))
set_option maxRecDepth 100000 in
set_option maxHeartbeats 4000000 in
theorem sd_M_respond {l : Launch} {G : mm_G} {h : mm_H} {A : ab_H} {a : Nat} {p0 : Int32} {p1 : Int32} {Q : ab_H → Prop} (hV : Vw G h A) (hw : wp_M_respond a p0 p1 A Q) : mm_S l G M_M_respond [.ref a, .int p0, .int p1] h 0 0 (wQV G Q) := by
  unfold wp_M_respond at hw
  refine mm_start rfl (Nat.le_of_ble_eq_true rfl) ?_
  show mm_V l G M_M_respond 0 0 0 [some (va_rf (some a)), some (.int p0), some (.int p1), none, none, none, none] [] h _
  refine wr_aload_n (some a) (pc' := 1) d_M_respond_0 rfl rfl rfl ?_
  refine wr_getI hV hw (pc' := 4) d_M_respond_1 rfl fl_M_236 (fun x7 hw => ?_)
  refine mm_ist3 (pc' := 5) d_M_respond_4 rfl rfl (Nat.le_of_ble_eq_true rfl) ?_
  refine wr_aload_n (some a) (pc' := 6) d_M_respond_5 rfl rfl rfl ?_
  refine mm_iconst (v := 0) (pc' := 7) d_M_respond_6 rfl (by decide) ?_
  refine wr_put hV hw (pc' := 10) d_M_respond_7 rfl pl_M_respond_236 (Nat.le_of_ble_eq_true rfl) (wn_I _) (fun h A hV hw => ?_)
  refine mm_bipush (v := 80) (pc' := 12) d_M_respond_10 rfl (by decide) ?_
  refine mm_iload_n (pc' := 13) d_M_respond_12 rfl rfl rfl ?_
  refine mm_imul (pc' := 14) d_M_respond_13 rfl ?_
  refine wr_let (P := fun z => mm_V l G M_M_respond 0 0 14 [some (va_rf (some a)), some (.int p0), some (.int p1), some (.int x7), none, none, none] (.int z :: []) h _) hw (fun x8 hw => ?_)
  refine mm_ist4 (pc' := 16) d_M_respond_14 rfl rfl (Nat.le_of_ble_eq_true rfl) ?_
  refine wr_aload_n (some a) (pc' := 17) d_M_respond_16 rfl rfl rfl ?_
  refine wr_getR hV hw (pc' := 20) d_M_respond_17 rfl fl_M_20 (fun r9 hw => ?_)
  refine mm_iload (pc' := 22) d_M_respond_20 rfl rfl ?_
  refine mm_bipush (v := 48) (pc' := 24) d_M_respond_22 rfl (by decide) ?_
  refine mm_iload_n (pc' := 25) d_M_respond_24 rfl rfl rfl ?_
  refine mm_bipush (v := 100) (pc' := 27) d_M_respond_25 rfl (by decide) ?_
  refine mm_idiv (pc' := 28) d_M_respond_27 rfl (by decide) ?_
  refine mm_iadd (pc' := 29) d_M_respond_28 rfl ?_
  refine wr_astI hV hw (pc' := 30) d_M_respond_29 rfl (fun h A hV hw => ?_)
  refine wr_aload_n (some a) (pc' := 31) d_M_respond_30 rfl rfl rfl ?_
  refine wr_getR hV hw (pc' := 34) d_M_respond_31 rfl fl_M_20 (fun r10 hw => ?_)
  refine mm_iload (pc' := 36) d_M_respond_34 rfl rfl ?_
  refine mm_iconst (v := 1) (pc' := 37) d_M_respond_36 rfl (by decide) ?_
  refine mm_iadd (pc' := 38) d_M_respond_37 rfl ?_
  refine mm_bipush (v := 48) (pc' := 40) d_M_respond_38 rfl (by decide) ?_
  refine mm_iload_n (pc' := 41) d_M_respond_40 rfl rfl rfl ?_
  refine mm_bipush (v := 10) (pc' := 43) d_M_respond_41 rfl (by decide) ?_
  refine mm_idiv (pc' := 44) d_M_respond_43 rfl (by decide) ?_
  refine mm_bipush (v := 10) (pc' := 46) d_M_respond_44 rfl (by decide) ?_
  refine mm_irem (pc' := 47) d_M_respond_46 rfl (by decide) ?_
  refine mm_iadd (pc' := 48) d_M_respond_47 rfl ?_
  refine wr_astI hV hw (pc' := 49) d_M_respond_48 rfl (fun h A hV hw => ?_)
  refine wr_aload_n (some a) (pc' := 50) d_M_respond_49 rfl rfl rfl ?_
  refine wr_getR hV hw (pc' := 53) d_M_respond_50 rfl fl_M_20 (fun r11 hw => ?_)
  refine mm_iload (pc' := 55) d_M_respond_53 rfl rfl ?_
  refine mm_iconst (v := 2) (pc' := 56) d_M_respond_55 rfl (by decide) ?_
  refine mm_iadd (pc' := 57) d_M_respond_56 rfl ?_
  refine mm_bipush (v := 48) (pc' := 59) d_M_respond_57 rfl (by decide) ?_
  refine mm_iload_n (pc' := 60) d_M_respond_59 rfl rfl rfl ?_
  refine mm_bipush (v := 10) (pc' := 62) d_M_respond_60 rfl (by decide) ?_
  refine mm_irem (pc' := 63) d_M_respond_62 rfl (by decide) ?_
  refine mm_iadd (pc' := 64) d_M_respond_63 rfl ?_
  refine wr_astI hV hw (pc' := 65) d_M_respond_64 rfl (fun h A hV hw => ?_)
  refine wr_aload_n (some a) (pc' := 66) d_M_respond_65 rfl rfl rfl ?_
  refine wr_getR hV hw (pc' := 69) d_M_respond_66 rfl fl_M_20 (fun r12 hw => ?_)
  refine mm_iload (pc' := 71) d_M_respond_69 rfl rfl ?_
  refine mm_iconst (v := 3) (pc' := 72) d_M_respond_71 rfl (by decide) ?_
  refine mm_iadd (pc' := 73) d_M_respond_72 rfl ?_
  refine mm_bipush (v := 32) (pc' := 75) d_M_respond_73 rfl (by decide) ?_
  refine wr_astI hV hw (pc' := 76) d_M_respond_75 rfl (fun h A hV hw => ?_)
  refine mm_iload (pc' := 78) d_M_respond_76 rfl rfl ?_
  refine mm_iconst (v := 4) (pc' := 79) d_M_respond_78 rfl (by decide) ?_
  refine mm_iadd (pc' := 80) d_M_respond_79 rfl ?_
  refine wr_let (P := fun z => mm_V l G M_M_respond 0 0 80 [some (va_rf (some a)), some (.int p0), some (.int p1), some (.int x7), some (.int x8), none, none] (.int z :: []) h _) hw (fun x13 hw => ?_)
  refine mm_ist5 (pc' := 82) d_M_respond_80 rfl rfl (Nat.le_of_ble_eq_true rfl) ?_
  refine mm_iload_n (pc' := 83) d_M_respond_82 rfl rfl rfl ?_
  refine mm_bipush (v := 10) (pc' := 85) d_M_respond_83 rfl (by decide) ?_
  refine wr_icmp_lt hw (pc' := 88) d_M_respond_85 rfl rfl (fun hw => ?_) (fun hw => ?_)
  · exact mm_drop (mm_le.s (mm_le.s (mm_le.s (mm_le.s (mm_le.s (mm_le.s (mm_le.n mm_le.e))))))) (sq_M_respond_105  _ _ _ _ _ hV hw)
  · refine wr_aload_n (some a) (pc' := 89) d_M_respond_88 rfl rfl rfl ?_
    refine wr_getR hV hw (pc' := 92) d_M_respond_89 rfl fl_M_20 (fun r14 hw => ?_)
    refine mm_iload (pc' := 94) d_M_respond_92 rfl rfl ?_
    refine mm_bipush (v := 48) (pc' := 96) d_M_respond_94 rfl (by decide) ?_
    refine mm_iload_n (pc' := 97) d_M_respond_96 rfl rfl rfl ?_
    refine mm_bipush (v := 10) (pc' := 99) d_M_respond_97 rfl (by decide) ?_
    refine mm_idiv (pc' := 100) d_M_respond_99 rfl (by decide) ?_
    refine mm_iadd (pc' := 101) d_M_respond_100 rfl ?_
    refine wr_astI hV hw (pc' := 102) d_M_respond_101 rfl (fun h A hV hw => ?_)
    refine mm_iinc5 (v := (x13 + 1)) (pc' := 105) d_M_respond_102 rfl rfl rfl (Nat.le_of_ble_eq_true rfl) ?_
    exact mm_drop (mm_le.s (mm_le.s (mm_le.s (mm_le.s (mm_le.s (mm_le.s (mm_le.n mm_le.e))))))) (sq_M_respond_105  _ _ _ _ _ hV hw)
theorem d_M_copy_0 : decode prog_14_method_47_code 0 = .ok (.iconst 0, 1) := by decide +kernel
theorem d_M_copy_1 : decode prog_14_method_47_code 1 = .ok (.istore_n 3, 1) := by decide +kernel
theorem d_M_copy_2 : decode prog_14_method_47_code 2 = .ok (.iload_n 3, 1) := by decide +kernel
theorem d_M_copy_3 : decode prog_14_method_47_code 3 = .ok (.aload_n 0, 1) := by decide +kernel
theorem d_M_copy_4 : decode prog_14_method_47_code 4 = .ok (.getfield 13, 3) := by decide +kernel
theorem d_M_copy_7 : decode prog_14_method_47_code 7 = .ok (.iload_n 1, 1) := by decide +kernel
theorem d_M_copy_8 : decode prog_14_method_47_code 8 = .ok (.iaload, 1) := by decide +kernel
theorem d_M_copy_9 : decode prog_14_method_47_code 9 = .ok (.if_icmp .ge 33, 3) := by decide +kernel
theorem d_M_copy_12 : decode prog_14_method_47_code 12 = .ok (.aload_n 0, 1) := by decide +kernel
theorem d_M_copy_13 : decode prog_14_method_47_code 13 = .ok (.getfield 7, 3) := by decide +kernel
theorem d_M_copy_16 : decode prog_14_method_47_code 16 = .ok (.sipush 520, 3) := by decide +kernel
theorem d_M_copy_19 : decode prog_14_method_47_code 19 = .ok (.iload_n 2, 1) := by decide +kernel
theorem d_M_copy_20 : decode prog_14_method_47_code 20 = .ok (.imul, 1) := by decide +kernel
theorem d_M_copy_21 : decode prog_14_method_47_code 21 = .ok (.iload_n 3, 1) := by decide +kernel
theorem d_M_copy_22 : decode prog_14_method_47_code 22 = .ok (.iadd, 1) := by decide +kernel
theorem d_M_copy_23 : decode prog_14_method_47_code 23 = .ok (.aload_n 0, 1) := by decide +kernel
theorem d_M_copy_24 : decode prog_14_method_47_code 24 = .ok (.getfield 7, 3) := by decide +kernel
theorem d_M_copy_27 : decode prog_14_method_47_code 27 = .ok (.sipush 520, 3) := by decide +kernel
theorem d_M_copy_30 : decode prog_14_method_47_code 30 = .ok (.iload_n 1, 1) := by decide +kernel
theorem d_M_copy_31 : decode prog_14_method_47_code 31 = .ok (.imul, 1) := by decide +kernel
theorem d_M_copy_32 : decode prog_14_method_47_code 32 = .ok (.iload_n 3, 1) := by decide +kernel
theorem d_M_copy_33 : decode prog_14_method_47_code 33 = .ok (.iadd, 1) := by decide +kernel
theorem d_M_copy_34 : decode prog_14_method_47_code 34 = .ok (.iaload, 1) := by decide +kernel
theorem d_M_copy_35 : decode prog_14_method_47_code 35 = .ok (.iastore, 1) := by decide +kernel
theorem d_M_copy_36 : decode prog_14_method_47_code 36 = .ok (.iinc 3 1, 3) := by decide +kernel
theorem d_M_copy_39 : decode prog_14_method_47_code 39 = .ok (.goto (-37), 3) := by decide +kernel
theorem d_M_copy_42 : decode prog_14_method_47_code 42 = .ok (.aload_n 0, 1) := by decide +kernel
theorem d_M_copy_43 : decode prog_14_method_47_code 43 = .ok (.getfield 13, 3) := by decide +kernel
theorem d_M_copy_46 : decode prog_14_method_47_code 46 = .ok (.iload_n 2, 1) := by decide +kernel
theorem d_M_copy_47 : decode prog_14_method_47_code 47 = .ok (.aload_n 0, 1) := by decide +kernel
theorem d_M_copy_48 : decode prog_14_method_47_code 48 = .ok (.getfield 13, 3) := by decide +kernel
theorem d_M_copy_51 : decode prog_14_method_47_code 51 = .ok (.iload_n 1, 1) := by decide +kernel
theorem d_M_copy_52 : decode prog_14_method_47_code 52 = .ok (.iaload, 1) := by decide +kernel
theorem d_M_copy_53 : decode prog_14_method_47_code 53 = .ok (.iastore, 1) := by decide +kernel
theorem d_M_copy_54 : decode prog_14_method_47_code 54 = .ok (.aload_n 0, 1) := by decide +kernel
theorem d_M_copy_55 : decode prog_14_method_47_code 55 = .ok (.getfield 26, 3) := by decide +kernel
theorem d_M_copy_58 : decode prog_14_method_47_code 58 = .ok (.iload_n 2, 1) := by decide +kernel
theorem d_M_copy_59 : decode prog_14_method_47_code 59 = .ok (.aload_n 0, 1) := by decide +kernel
theorem d_M_copy_60 : decode prog_14_method_47_code 60 = .ok (.getfield 26, 3) := by decide +kernel
theorem d_M_copy_63 : decode prog_14_method_47_code 63 = .ok (.iload_n 1, 1) := by decide +kernel
theorem d_M_copy_64 : decode prog_14_method_47_code 64 = .ok (.iaload, 1) := by decide +kernel
theorem d_M_copy_65 : decode prog_14_method_47_code 65 = .ok (.iastore, 1) := by decide +kernel
theorem d_M_copy_66 : decode prog_14_method_47_code 66 = .ok (.return_, 1) := by decide +kernel
def wq_M_copy_42 (a : Nat) (p0 : Int32) (p1 : Int32) (Q : ab_H → Prop)   (A : ab_H) : Prop := wgR A (some a) 14 1 (fun r1 => wgR A (some a) 14 1 (fun r2 => wAI A r2 p0 (fun x3 => wSI A r1 p1 x3 (fun A => wgR A (some a) 14 6 (fun r4 => wgR A (some a) 14 6 (fun r5 => wAI A r5 p0 (fun x6 => wSI A r4 p1 x6 (fun A => Q A))))))))
set_option maxRecDepth 100000 in
set_option maxHeartbeats 4000000 in
theorem sq_M_copy_42 {l : Launch} {G : mm_G} {a : Nat} {p0 : Int32} {p1 : Int32} {Q : ab_H → Prop}   : ∀ (A : ab_H) (h : mm_H), Vw G h A → wq_M_copy_42 a p0 p1 Q  A → mm_V l G M_M_copy 0 0 42 [some (va_rf (some a)), some (.int p0), some (.int p1), none] [] h (wQV G Q) := by
  intro A h hV hw
  unfold wq_M_copy_42 at hw
  refine wr_aload_n (some a) (pc' := 43) d_M_copy_42 rfl rfl rfl ?_
  refine wr_getR hV hw (pc' := 46) d_M_copy_43 rfl fl_M_13 (fun r1 hw => ?_)
  refine mm_iload_n (pc' := 47) d_M_copy_46 rfl rfl rfl ?_
  refine wr_aload_n (some a) (pc' := 48) d_M_copy_47 rfl rfl rfl ?_
  refine wr_getR hV hw (pc' := 51) d_M_copy_48 rfl fl_M_13 (fun r2 hw => ?_)
  refine mm_iload_n (pc' := 52) d_M_copy_51 rfl rfl rfl ?_
  refine wr_aldI hV hw (pc' := 53) d_M_copy_52 rfl (fun x3 hw => ?_)
  refine wr_astI hV hw (pc' := 54) d_M_copy_53 rfl (fun h A hV hw => ?_)
  refine wr_aload_n (some a) (pc' := 55) d_M_copy_54 rfl rfl rfl ?_
  refine wr_getR hV hw (pc' := 58) d_M_copy_55 rfl fl_M_26 (fun r4 hw => ?_)
  refine mm_iload_n (pc' := 59) d_M_copy_58 rfl rfl rfl ?_
  refine wr_aload_n (some a) (pc' := 60) d_M_copy_59 rfl rfl rfl ?_
  refine wr_getR hV hw (pc' := 63) d_M_copy_60 rfl fl_M_26 (fun r5 hw => ?_)
  refine mm_iload_n (pc' := 64) d_M_copy_63 rfl rfl rfl ?_
  refine wr_aldI hV hw (pc' := 65) d_M_copy_64 rfl (fun x6 hw => ?_)
  refine wr_astI hV hw (pc' := 66) d_M_copy_65 rfl (fun h A hV hw => ?_)
  exact wr_vret hV d_M_copy_66 rfl hw
def wb_M_copy_2 (a : Nat) (p0 : Int32) (p1 : Int32) (Q : ab_H → Prop)  (k2 : Int32 → ab_H → Prop) (u3 : Int32) (A : ab_H) : Prop := wgR A (some a) 14 1 (fun r7 => wAI A r7 p0 (fun x8 => if x8 ≤ u3 then (wq_M_copy_42 a p0 p1 Q A) else (wgR A (some a) 14 0 (fun r9 => wgR A (some a) 14 0 (fun r10 => wAI A r10 (((520 : Int32) * p0) + u3) (fun x11 => wSI A r9 (((520 : Int32) * p1) + u3) x11 (fun A => k2 (u3 + 1) A)))))))
def wq_M_copy_2 (a : Nat) (p0 : Int32) (p1 : Int32) (Q : ab_H → Prop)  : Nat → Int32 → ab_H → Prop
  | 0 => fun _ _ => False
  | n + 1 => wb_M_copy_2 a p0 p1 Q  (wq_M_copy_2 a p0 p1 Q  n)
set_option maxRecDepth 100000 in
set_option maxHeartbeats 4000000 in
theorem sq_M_copy_2 {l : Launch} {G : mm_G} {a : Nat} {p0 : Int32} {p1 : Int32} {Q : ab_H → Prop}   : ∀ (n : Nat) (u3 : Int32) (A : ab_H) (h : mm_H), Vw G h A → wq_M_copy_2 a p0 p1 Q  n u3 A → mm_V l G M_M_copy 0 0 2 [some (va_rf (some a)), some (.int p0), some (.int p1), some (.int u3)] [] h (wQV G Q) := by
  intro n
  induction n with
  | zero =>
    intro u3 A h hV hw
    exact absurd hw id
  | succ n hk2 =>
    intro u3 A h hV hw
    have hw : wb_M_copy_2 a p0 p1 Q  (wq_M_copy_2 a p0 p1 Q  n) u3 A := hw
    unfold wb_M_copy_2 at hw
    refine mm_iload_n (pc' := 3) d_M_copy_2 rfl rfl rfl ?_
    refine wr_aload_n (some a) (pc' := 4) d_M_copy_3 rfl rfl rfl ?_
    refine wr_getR hV hw (pc' := 7) d_M_copy_4 rfl fl_M_13 (fun r7 hw => ?_)
    refine mm_iload_n (pc' := 8) d_M_copy_7 rfl rfl rfl ?_
    refine wr_aldI hV hw (pc' := 9) d_M_copy_8 rfl (fun x8 hw => ?_)
    refine wr_icmp_ge hw (pc' := 12) d_M_copy_9 rfl rfl (fun hw => ?_) (fun hw => ?_)
    · exact mm_drop (mm_le.s (mm_le.s (mm_le.s (mm_le.n mm_le.e)))) (sq_M_copy_42  _ _ hV hw)
    · refine wr_aload_n (some a) (pc' := 13) d_M_copy_12 rfl rfl rfl ?_
      refine wr_getR hV hw (pc' := 16) d_M_copy_13 rfl fl_M_7 (fun r9 hw => ?_)
      refine mm_sipush (v := 520) (pc' := 19) d_M_copy_16 rfl (by decide) ?_
      refine mm_iload_n (pc' := 20) d_M_copy_19 rfl rfl rfl ?_
      refine mm_imul (pc' := 21) d_M_copy_20 rfl ?_
      refine mm_iload_n (pc' := 22) d_M_copy_21 rfl rfl rfl ?_
      refine mm_iadd (pc' := 23) d_M_copy_22 rfl ?_
      refine wr_aload_n (some a) (pc' := 24) d_M_copy_23 rfl rfl rfl ?_
      refine wr_getR hV hw (pc' := 27) d_M_copy_24 rfl fl_M_7 (fun r10 hw => ?_)
      refine mm_sipush (v := 520) (pc' := 30) d_M_copy_27 rfl (by decide) ?_
      refine mm_iload_n (pc' := 31) d_M_copy_30 rfl rfl rfl ?_
      refine mm_imul (pc' := 32) d_M_copy_31 rfl ?_
      refine mm_iload_n (pc' := 33) d_M_copy_32 rfl rfl rfl ?_
      refine mm_iadd (pc' := 34) d_M_copy_33 rfl ?_
      refine wr_aldI hV hw (pc' := 35) d_M_copy_34 rfl (fun x11 hw => ?_)
      refine wr_astI hV hw (pc' := 36) d_M_copy_35 rfl (fun h A hV hw => ?_)
      refine mm_iinc3 (v := (u3 + 1)) (pc' := 39) d_M_copy_36 rfl rfl rfl (Nat.le_of_ble_eq_true rfl) ?_
      refine mm_goto (tgt := 2) d_M_copy_39 rfl ?_
      exact mm_drop (mm_le.s (mm_le.s (mm_le.s (mm_le.s mm_le.e)))) (hk2 _ _ _ hV hw)
def wp_M_copy (a : Nat) (p0 : Int32) (p1 : Int32) (A : ab_H) (Q : ab_H → Prop) : Prop := ∃ n, wq_M_copy_2 a p0 p1 Q n (0 : Int32) A
set_option maxRecDepth 100000 in
set_option maxHeartbeats 4000000 in
theorem sd_M_copy {l : Launch} {G : mm_G} {h : mm_H} {A : ab_H} {a : Nat} {p0 : Int32} {p1 : Int32} {Q : ab_H → Prop} (hV : Vw G h A) (hw : wp_M_copy a p0 p1 A Q) : mm_S l G M_M_copy [.ref a, .int p0, .int p1] h 0 0 (wQV G Q) := by
  unfold wp_M_copy at hw
  refine mm_start rfl (Nat.le_of_ble_eq_true rfl) ?_
  show mm_V l G M_M_copy 0 0 0 [some (va_rf (some a)), some (.int p0), some (.int p1), none] [] h _
  refine mm_iconst (v := 0) (pc' := 1) d_M_copy_0 rfl (by decide) ?_
  refine mm_ist3 (pc' := 2) d_M_copy_1 rfl rfl (Nat.le_of_ble_eq_true rfl) ?_
  obtain ⟨n, hw⟩ := hw
  exact mm_drop (mm_le.s (mm_le.s (mm_le.s (mm_le.s mm_le.e)))) (sq_M_copy_2  n _ _ _ hV hw)
theorem d_M_serve_0 : decode prog_14_method_46_code 0 = .ok (.iconst (-1), 1) := by decide +kernel
theorem d_M_serve_1 : decode prog_14_method_46_code 1 = .ok (.istore_n 2, 1) := by decide +kernel
theorem d_M_serve_2 : decode prog_14_method_46_code 2 = .ok (.iconst 0, 1) := by decide +kernel
theorem d_M_serve_3 : decode prog_14_method_46_code 3 = .ok (.istore_n 3, 1) := by decide +kernel
theorem d_M_serve_4 : decode prog_14_method_46_code 4 = .ok (.iload_n 3, 1) := by decide +kernel
theorem d_M_serve_5 : decode prog_14_method_46_code 5 = .ok (.bipush 8, 2) := by decide +kernel
theorem d_M_serve_7 : decode prog_14_method_46_code 7 = .ok (.if_icmp .ge 41, 3) := by decide +kernel
theorem d_M_serve_10 : decode prog_14_method_46_code 10 = .ok (.aload_n 0, 1) := by decide +kernel
theorem d_M_serve_11 : decode prog_14_method_46_code 11 = .ok (.getfield 50, 3) := by decide +kernel
theorem d_M_serve_14 : decode prog_14_method_46_code 14 = .ok (.iload_n 3, 1) := by decide +kernel
theorem d_M_serve_15 : decode prog_14_method_46_code 15 = .ok (.iaload, 1) := by decide +kernel
theorem d_M_serve_16 : decode prog_14_method_46_code 16 = .ok (.ifCond .lt 24, 3) := by decide +kernel
theorem d_M_serve_19 : decode prog_14_method_46_code 19 = .ok (.aload_n 0, 1) := by decide +kernel
theorem d_M_serve_20 : decode prog_14_method_46_code 20 = .ok (.iload_n 3, 1) := by decide +kernel
theorem d_M_serve_21 : decode prog_14_method_46_code 21 = .ok (.invokevirtual 257, 3) := by decide +kernel
theorem d_M_serve_24 : decode prog_14_method_46_code 24 = .ok (.ifCond .ne 16, 3) := by decide +kernel
theorem d_M_serve_27 : decode prog_14_method_46_code 27 = .ok (.aload_n 0, 1) := by decide +kernel
theorem d_M_serve_28 : decode prog_14_method_46_code 28 = .ok (.iload_n 3, 1) := by decide +kernel
theorem d_M_serve_29 : decode prog_14_method_46_code 29 = .ok (.iload_n 2, 1) := by decide +kernel
theorem d_M_serve_30 : decode prog_14_method_46_code 30 = .ok (.invokevirtual 260, 3) := by decide +kernel
theorem d_M_serve_33 : decode prog_14_method_46_code 33 = .ok (.ifCond .eq 7, 3) := by decide +kernel
theorem d_M_serve_36 : decode prog_14_method_46_code 36 = .ok (.iload_n 3, 1) := by decide +kernel
theorem d_M_serve_37 : decode prog_14_method_46_code 37 = .ok (.goto 4, 3) := by decide +kernel
theorem d_M_serve_40 : decode prog_14_method_46_code 40 = .ok (.iload_n 2, 1) := by decide +kernel
theorem d_M_serve_41 : decode prog_14_method_46_code 41 = .ok (.istore_n 2, 1) := by decide +kernel
theorem d_M_serve_42 : decode prog_14_method_46_code 42 = .ok (.iinc 3 1, 3) := by decide +kernel
theorem d_M_serve_45 : decode prog_14_method_46_code 45 = .ok (.goto (-41), 3) := by decide +kernel
theorem d_M_serve_48 : decode prog_14_method_46_code 48 = .ok (.aload_n 0, 1) := by decide +kernel
theorem d_M_serve_49 : decode prog_14_method_46_code 49 = .ok (.dup, 1) := by decide +kernel
theorem d_M_serve_50 : decode prog_14_method_46_code 50 = .ok (.getfield 242, 3) := by decide +kernel
theorem d_M_serve_53 : decode prog_14_method_46_code 53 = .ok (.iconst 1, 1) := by decide +kernel
theorem d_M_serve_54 : decode prog_14_method_46_code 54 = .ok (.iadd, 1) := by decide +kernel
theorem d_M_serve_55 : decode prog_14_method_46_code 55 = .ok (.putfield 242, 3) := by decide +kernel
theorem d_M_serve_58 : decode prog_14_method_46_code 58 = .ok (.aload_n 0, 1) := by decide +kernel
theorem d_M_serve_59 : decode prog_14_method_46_code 59 = .ok (.iconst 0, 1) := by decide +kernel
theorem d_M_serve_60 : decode prog_14_method_46_code 60 = .ok (.putfield 236, 3) := by decide +kernel
theorem d_M_serve_63 : decode prog_14_method_46_code 63 = .ok (.iconst 0, 1) := by decide +kernel
theorem d_M_serve_64 : decode prog_14_method_46_code 64 = .ok (.istore_n 3, 1) := by decide +kernel
theorem d_M_serve_65 : decode prog_14_method_46_code 65 = .ok (.iload_n 2, 1) := by decide +kernel
theorem d_M_serve_66 : decode prog_14_method_46_code 66 = .ok (.ifCond .lt 23, 3) := by decide +kernel
theorem d_M_serve_69 : decode prog_14_method_46_code 69 = .ok (.iload_n 3, 1) := by decide +kernel
theorem d_M_serve_70 : decode prog_14_method_46_code 70 = .ok (.aload_n 0, 1) := by decide +kernel
theorem d_M_serve_71 : decode prog_14_method_46_code 71 = .ok (.getfield 65, 3) := by decide +kernel
theorem d_M_serve_74 : decode prog_14_method_46_code 74 = .ok (.iload_n 2, 1) := by decide +kernel
theorem d_M_serve_75 : decode prog_14_method_46_code 75 = .ok (.iaload, 1) := by decide +kernel
theorem d_M_serve_76 : decode prog_14_method_46_code 76 = .ok (.if_icmp .ge 13, 3) := by decide +kernel
theorem d_M_serve_79 : decode prog_14_method_46_code 79 = .ok (.aload_n 0, 1) := by decide +kernel
theorem d_M_serve_80 : decode prog_14_method_46_code 80 = .ok (.iload_n 2, 1) := by decide +kernel
theorem d_M_serve_81 : decode prog_14_method_46_code 81 = .ok (.iload_n 3, 1) := by decide +kernel
theorem d_M_serve_82 : decode prog_14_method_46_code 82 = .ok (.invokevirtual 263, 3) := by decide +kernel
theorem d_M_serve_85 : decode prog_14_method_46_code 85 = .ok (.istore_n 3, 1) := by decide +kernel
theorem d_M_serve_86 : decode prog_14_method_46_code 86 = .ok (.goto (-21), 3) := by decide +kernel
theorem d_M_serve_89 : decode prog_14_method_46_code 89 = .ok (.aload_n 0, 1) := by decide +kernel
theorem d_M_serve_90 : decode prog_14_method_46_code 90 = .ok (.iload_n 1, 1) := by decide +kernel
theorem d_M_serve_91 : decode prog_14_method_46_code 91 = .ok (.iload_n 2, 1) := by decide +kernel
theorem d_M_serve_92 : decode prog_14_method_46_code 92 = .ok (.ifCond .ge 9, 3) := by decide +kernel
theorem d_M_serve_95 : decode prog_14_method_46_code 95 = .ok (.sipush 404, 3) := by decide +kernel
theorem d_M_serve_98 : decode prog_14_method_46_code 98 = .ok (.goto 9, 3) := by decide +kernel
theorem d_M_serve_101 : decode prog_14_method_46_code 101 = .ok (.aload_n 0, 1) := by decide +kernel
theorem d_M_serve_102 : decode prog_14_method_46_code 102 = .ok (.getfield 56, 3) := by decide +kernel
theorem d_M_serve_105 : decode prog_14_method_46_code 105 = .ok (.iload_n 2, 1) := by decide +kernel
theorem d_M_serve_106 : decode prog_14_method_46_code 106 = .ok (.iaload, 1) := by decide +kernel
theorem d_M_serve_107 : decode prog_14_method_46_code 107 = .ok (.invokevirtual 266, 3) := by decide +kernel
theorem d_M_serve_110 : decode prog_14_method_46_code 110 = .ok (.iload_n 2, 1) := by decide +kernel
theorem d_M_serve_111 : decode prog_14_method_46_code 111 = .ok (.ifCond .lt 29, 3) := by decide +kernel
theorem d_M_serve_114 : decode prog_14_method_46_code 114 = .ok (.aload_n 0, 1) := by decide +kernel
theorem d_M_serve_115 : decode prog_14_method_46_code 115 = .ok (.getfield 68, 3) := by decide +kernel
theorem d_M_serve_118 : decode prog_14_method_46_code 118 = .ok (.iload_n 2, 1) := by decide +kernel
theorem d_M_serve_119 : decode prog_14_method_46_code 119 = .ok (.iaload, 1) := by decide +kernel
theorem d_M_serve_120 : decode prog_14_method_46_code 120 = .ok (.ifCond .lt 20, 3) := by decide +kernel
theorem d_M_serve_123 : decode prog_14_method_46_code 123 = .ok (.aload_n 0, 1) := by decide +kernel
theorem d_M_serve_124 : decode prog_14_method_46_code 124 = .ok (.getfield 29, 3) := by decide +kernel
theorem d_M_serve_127 : decode prog_14_method_46_code 127 = .ok (.aload_n 0, 1) := by decide +kernel
theorem d_M_serve_128 : decode prog_14_method_46_code 128 = .ok (.getfield 68, 3) := by decide +kernel
theorem d_M_serve_131 : decode prog_14_method_46_code 131 = .ok (.iload_n 2, 1) := by decide +kernel
theorem d_M_serve_132 : decode prog_14_method_46_code 132 = .ok (.iaload, 1) := by decide +kernel
theorem d_M_serve_133 : decode prog_14_method_46_code 133 = .ok (.aload_n 0, 1) := by decide +kernel
theorem d_M_serve_134 : decode prog_14_method_46_code 134 = .ok (.getfield 74, 3) := by decide +kernel
theorem d_M_serve_137 : decode prog_14_method_46_code 137 = .ok (.iload_n 2, 1) := by decide +kernel
theorem d_M_serve_138 : decode prog_14_method_46_code 138 = .ok (.iaload, 1) := by decide +kernel
theorem d_M_serve_139 : decode prog_14_method_46_code 139 = .ok (.iastore, 1) := by decide +kernel
theorem d_M_serve_140 : decode prog_14_method_46_code 140 = .ok (.aload_n 0, 1) := by decide +kernel
theorem d_M_serve_141 : decode prog_14_method_46_code 141 = .ok (.getfield 269, 3) := by decide +kernel
theorem d_M_serve_144 : decode prog_14_method_46_code 144 = .ok (.iconst 5, 1) := by decide +kernel
theorem d_M_serve_145 : decode prog_14_method_46_code 145 = .ok (.if_icmp .ne 34, 3) := by decide +kernel
theorem d_M_serve_148 : decode prog_14_method_46_code 148 = .ok (.iconst 3, 1) := by decide +kernel
theorem d_M_serve_149 : decode prog_14_method_46_code 149 = .ok (.istore 4, 2) := by decide +kernel
theorem d_M_serve_151 : decode prog_14_method_46_code 151 = .ok (.iload 4, 2) := by decide +kernel
theorem d_M_serve_153 : decode prog_14_method_46_code 153 = .ok (.bipush 7, 2) := by decide +kernel
theorem d_M_serve_155 : decode prog_14_method_46_code 155 = .ok (.if_icmp .ge 19, 3) := by decide +kernel
theorem d_M_serve_158 : decode prog_14_method_46_code 158 = .ok (.aload_n 0, 1) := by decide +kernel
theorem d_M_serve_159 : decode prog_14_method_46_code 159 = .ok (.iload 4, 2) := by decide +kernel
theorem d_M_serve_161 : decode prog_14_method_46_code 161 = .ok (.iconst 1, 1) := by decide +kernel
theorem d_M_serve_162 : decode prog_14_method_46_code 162 = .ok (.iadd, 1) := by decide +kernel
theorem d_M_serve_163 : decode prog_14_method_46_code 163 = .ok (.iload 4, 2) := by decide +kernel
theorem d_M_serve_165 : decode prog_14_method_46_code 165 = .ok (.invokevirtual 272, 3) := by decide +kernel
theorem d_M_serve_168 : decode prog_14_method_46_code 168 = .ok (.iinc 4 1, 3) := by decide +kernel
theorem d_M_serve_171 : decode prog_14_method_46_code 171 = .ok (.goto (-20), 3) := by decide +kernel
theorem d_M_serve_174 : decode prog_14_method_46_code 174 = .ok (.aload_n 0, 1) := by decide +kernel
theorem d_M_serve_175 : decode prog_14_method_46_code 175 = .ok (.iconst 4, 1) := by decide +kernel
theorem d_M_serve_176 : decode prog_14_method_46_code 176 = .ok (.putfield 269, 3) := by decide +kernel
theorem d_M_serve_179 : decode prog_14_method_46_code 179 = .ok (.aload_n 0, 1) := by decide +kernel
theorem d_M_serve_180 : decode prog_14_method_46_code 180 = .ok (.iload_n 1, 1) := by decide +kernel
theorem d_M_serve_181 : decode prog_14_method_46_code 181 = .ok (.iconst 3, 1) := by decide +kernel
theorem d_M_serve_182 : decode prog_14_method_46_code 182 = .ok (.aload_n 0, 1) := by decide +kernel
theorem d_M_serve_183 : decode prog_14_method_46_code 183 = .ok (.getfield 269, 3) := by decide +kernel
theorem d_M_serve_186 : decode prog_14_method_46_code 186 = .ok (.iadd, 1) := by decide +kernel
theorem d_M_serve_187 : decode prog_14_method_46_code 187 = .ok (.invokevirtual 272, 3) := by decide +kernel
theorem d_M_serve_190 : decode prog_14_method_46_code 190 = .ok (.aload_n 0, 1) := by decide +kernel
theorem d_M_serve_191 : decode prog_14_method_46_code 191 = .ok (.getfield 26, 3) := by decide +kernel
theorem d_M_serve_194 : decode prog_14_method_46_code 194 = .ok (.iconst 3, 1) := by decide +kernel
theorem d_M_serve_195 : decode prog_14_method_46_code 195 = .ok (.aload_n 0, 1) := by decide +kernel
theorem d_M_serve_196 : decode prog_14_method_46_code 196 = .ok (.getfield 269, 3) := by decide +kernel
theorem d_M_serve_199 : decode prog_14_method_46_code 199 = .ok (.iadd, 1) := by decide +kernel
theorem d_M_serve_200 : decode prog_14_method_46_code 200 = .ok (.iload_n 2, 1) := by decide +kernel
theorem d_M_serve_201 : decode prog_14_method_46_code 201 = .ok (.ifCond .ge 7, 3) := by decide +kernel
theorem d_M_serve_204 : decode prog_14_method_46_code 204 = .ok (.iconst (-1), 1) := by decide +kernel
theorem d_M_serve_205 : decode prog_14_method_46_code 205 = .ok (.goto 9, 3) := by decide +kernel
theorem d_M_serve_208 : decode prog_14_method_46_code 208 = .ok (.aload_n 0, 1) := by decide +kernel
theorem d_M_serve_209 : decode prog_14_method_46_code 209 = .ok (.getfield 50, 3) := by decide +kernel
theorem d_M_serve_212 : decode prog_14_method_46_code 212 = .ok (.iload_n 2, 1) := by decide +kernel
theorem d_M_serve_213 : decode prog_14_method_46_code 213 = .ok (.iaload, 1) := by decide +kernel
theorem d_M_serve_214 : decode prog_14_method_46_code 214 = .ok (.iastore, 1) := by decide +kernel
theorem d_M_serve_215 : decode prog_14_method_46_code 215 = .ok (.aload_n 0, 1) := by decide +kernel
theorem d_M_serve_216 : decode prog_14_method_46_code 216 = .ok (.dup, 1) := by decide +kernel
theorem d_M_serve_217 : decode prog_14_method_46_code 217 = .ok (.getfield 269, 3) := by decide +kernel
theorem d_M_serve_220 : decode prog_14_method_46_code 220 = .ok (.iconst 1, 1) := by decide +kernel
theorem d_M_serve_221 : decode prog_14_method_46_code 221 = .ok (.iadd, 1) := by decide +kernel
theorem d_M_serve_222 : decode prog_14_method_46_code 222 = .ok (.putfield 269, 3) := by decide +kernel
theorem d_M_serve_225 : decode prog_14_method_46_code 225 = .ok (.return_, 1) := by decide +kernel
def wq_M_serve_214 (a : Nat) (p0 : Int32) (Q : ab_H → Prop)  (s0 : Option Nat) (s1 : Int32) (s2 : Int32) (A : ab_H) : Prop := wSI A s0 s1 s2 (fun A => wgI A (some a) 14 5 (fun x1 => wp A (some a) 14 5 (.int (x1 + (1 : Int32))) (fun A => Q A)))
set_option maxRecDepth 100000 in
set_option maxHeartbeats 4000000 in
theorem sq_M_serve_214 {l : Launch} {G : mm_G} {a : Nat} {p0 : Int32} {Q : ab_H → Prop}   : ∀ (s0 : Option Nat) (s1 : Int32) (s2 : Int32) (A : ab_H) (h : mm_H), Vw G h A → wq_M_serve_214 a p0 Q  s0 s1 s2 A → mm_V l G M_M_serve 0 0 214 [some (va_rf (some a)), some (.int p0), none, none, none] [.int s2, .int s1, va_rf s0] h (wQV G Q) := by
  intro s0 s1 s2 A h hV hw
  unfold wq_M_serve_214 at hw
  refine wr_astI hV hw (pc' := 215) d_M_serve_214 rfl (fun h A hV hw => ?_)
  refine wr_aload_n (some a) (pc' := 216) d_M_serve_215 rfl rfl rfl ?_
  refine mm_dup (pc' := 217) d_M_serve_216 rfl (wr_cat _) ?_
  refine wr_getI hV hw (pc' := 220) d_M_serve_217 rfl fl_M_269 (fun x1 hw => ?_)
  refine mm_iconst (v := 1) (pc' := 221) d_M_serve_220 rfl (by decide) ?_
  refine mm_iadd (pc' := 222) d_M_serve_221 rfl ?_
  refine wr_put hV hw (pc' := 225) d_M_serve_222 rfl pl_M_serve_269 (Nat.le_of_ble_eq_true rfl) (wn_I _) (fun h A hV hw => ?_)
  exact wr_vret hV d_M_serve_225 rfl hw
def wq_M_serve_179 (a : Nat) (p0 : Int32) (Q : ab_H → Prop)  (u2 : Int32) (A : ab_H) : Prop := wgI A (some a) 14 5 (fun x2 => wC A (some a) 14 (fun b => wp_M_copy b p0 ((3 : Int32) + x2) A (fun A => wgR A (some a) 14 6 (fun r3 => wgI A (some a) 14 5 (fun x4 => if 0 ≤ u2 then (wgR A (some a) 14 18 (fun r5 => wAI A r5 u2 (fun x6 => wq_M_serve_214 a p0 Q r3 ((3 : Int32) + x4) x6 A))) else (wq_M_serve_214 a p0 Q r3 ((3 : Int32) + x4) ((-1) : Int32) A))))))
set_option maxRecDepth 100000 in
set_option maxHeartbeats 4000000 in
theorem sq_M_serve_179 {l : Launch} {G : mm_G} {a : Nat} {p0 : Int32} {Q : ab_H → Prop}   : ∀ (u2 : Int32) (A : ab_H) (h : mm_H), Vw G h A → wq_M_serve_179 a p0 Q  u2 A → mm_V l G M_M_serve 0 0 179 [some (va_rf (some a)), some (.int p0), some (.int u2), none, none] [] h (wQV G Q) := by
  intro u2 A h hV hw
  unfold wq_M_serve_179 at hw
  refine wr_aload_n (some a) (pc' := 180) d_M_serve_179 rfl rfl rfl ?_
  refine mm_iload_n (pc' := 181) d_M_serve_180 rfl rfl rfl ?_
  refine mm_iconst (v := 3) (pc' := 182) d_M_serve_181 rfl (by decide) ?_
  refine wr_aload_n (some a) (pc' := 183) d_M_serve_182 rfl rfl rfl ?_
  refine wr_getI hV hw (pc' := 186) d_M_serve_183 rfl fl_M_269 (fun x2 hw => ?_)
  refine mm_iadd (pc' := 187) d_M_serve_186 rfl ?_
  refine wr_cVV (pc' := 190) (as := [.int p0, .int ((3 : Int32) + x2)]) (st := []) d_M_serve_187 rfl cs_M_272 rfl (W := fun b Q' => wp_M_copy b p0 ((3 : Int32) + x2) A Q') hV hw (fun b Q' hw => sd_M_copy hV hw) rfl rfl (Nat.le_of_ble_eq_true rfl) (Nat.le_of_ble_eq_true rfl) (fun h A hV hw => ?_)
  refine wr_aload_n (some a) (pc' := 191) d_M_serve_190 rfl rfl rfl ?_
  refine wr_getR hV hw (pc' := 194) d_M_serve_191 rfl fl_M_26 (fun r3 hw => ?_)
  refine mm_iconst (v := 3) (pc' := 195) d_M_serve_194 rfl (by decide) ?_
  refine wr_aload_n (some a) (pc' := 196) d_M_serve_195 rfl rfl rfl ?_
  refine wr_getI hV hw (pc' := 199) d_M_serve_196 rfl fl_M_269 (fun x4 hw => ?_)
  refine mm_iadd (pc' := 200) d_M_serve_199 rfl ?_
  refine mm_iload_n (pc' := 201) d_M_serve_200 rfl rfl rfl ?_
  refine wr_if_ge hw (pc' := 204) d_M_serve_201 rfl rfl (fun hw => ?_) (fun hw => ?_)
  · refine wr_aload_n (some a) (pc' := 209) d_M_serve_208 rfl rfl rfl ?_
    refine wr_getR hV hw (pc' := 212) d_M_serve_209 rfl fl_M_50 (fun r5 hw => ?_)
    refine mm_iload_n (pc' := 213) d_M_serve_212 rfl rfl rfl ?_
    refine wr_aldI hV hw (pc' := 214) d_M_serve_213 rfl (fun x6 hw => ?_)
    exact mm_drop (mm_le.s (mm_le.s (mm_le.n (mm_le.n (mm_le.n mm_le.e))))) (sq_M_serve_214  _ _ _ _ _ hV hw)
  · refine mm_iconst (v := (-1)) (pc' := 205) d_M_serve_204 rfl (by decide) ?_
    refine mm_goto (tgt := 214) d_M_serve_205 rfl ?_
    exact mm_drop (mm_le.s (mm_le.s (mm_le.n (mm_le.n (mm_le.n mm_le.e))))) (sq_M_serve_214  _ _ _ _ _ hV hw)
def wq_M_serve_174 (a : Nat) (p0 : Int32) (Q : ab_H → Prop)  (u2 : Int32) (A : ab_H) : Prop := wp A (some a) 14 5 (.int (4 : Int32)) (fun A => wq_M_serve_179 a p0 Q u2 A)
set_option maxRecDepth 100000 in
set_option maxHeartbeats 4000000 in
theorem sq_M_serve_174 {l : Launch} {G : mm_G} {a : Nat} {p0 : Int32} {Q : ab_H → Prop}   : ∀ (u2 : Int32) (A : ab_H) (h : mm_H), Vw G h A → wq_M_serve_174 a p0 Q  u2 A → mm_V l G M_M_serve 0 0 174 [some (va_rf (some a)), some (.int p0), some (.int u2), none, none] [] h (wQV G Q) := by
  intro u2 A h hV hw
  unfold wq_M_serve_174 at hw
  refine wr_aload_n (some a) (pc' := 175) d_M_serve_174 rfl rfl rfl ?_
  refine mm_iconst (v := 4) (pc' := 176) d_M_serve_175 rfl (by decide) ?_
  refine wr_put hV hw (pc' := 179) d_M_serve_176 rfl pl_M_serve_269 (Nat.le_of_ble_eq_true rfl) (wn_I _) (fun h A hV hw => ?_)
  exact mm_drop (mm_le.s (mm_le.s (mm_le.s (mm_le.n (mm_le.n mm_le.e))))) (sq_M_serve_179  _ _ _ hV hw)
def wb_M_serve_151 (a : Nat) (p0 : Int32) (Q : ab_H → Prop)  (k151 : Int32 → Int32 → ab_H → Prop) (u2 : Int32) (u4 : Int32) (A : ab_H) : Prop := if (7 : Int32) ≤ u4 then (wq_M_serve_174 a p0 Q u2 A) else (wC A (some a) 14 (fun b => wp_M_copy b (u4 + (1 : Int32)) u4 A (fun A => k151 u2 (u4 + 1) A)))
def wq_M_serve_151 (a : Nat) (p0 : Int32) (Q : ab_H → Prop)  : Nat → Int32 → Int32 → ab_H → Prop
  | 0 => fun _ _ _ => False
  | n + 1 => wb_M_serve_151 a p0 Q  (wq_M_serve_151 a p0 Q  n)
set_option maxRecDepth 100000 in
set_option maxHeartbeats 4000000 in
theorem sq_M_serve_151 {l : Launch} {G : mm_G} {a : Nat} {p0 : Int32} {Q : ab_H → Prop}   : ∀ (n : Nat) (u2 : Int32) (u4 : Int32) (A : ab_H) (h : mm_H), Vw G h A → wq_M_serve_151 a p0 Q  n u2 u4 A → mm_V l G M_M_serve 0 0 151 [some (va_rf (some a)), some (.int p0), some (.int u2), none, some (.int u4)] [] h (wQV G Q) := by
  intro n
  induction n with
  | zero =>
    intro u2 u4 A h hV hw
    exact absurd hw id
  | succ n hk151 =>
    intro u2 u4 A h hV hw
    have hw : wb_M_serve_151 a p0 Q  (wq_M_serve_151 a p0 Q  n) u2 u4 A := hw
    unfold wb_M_serve_151 at hw
    refine mm_iload (pc' := 153) d_M_serve_151 rfl rfl ?_
    refine mm_bipush (v := 7) (pc' := 155) d_M_serve_153 rfl (by decide) ?_
    refine wr_icmp_ge hw (pc' := 158) d_M_serve_155 rfl rfl (fun hw => ?_) (fun hw => ?_)
    · exact mm_drop (mm_le.s (mm_le.s (mm_le.s (mm_le.n (mm_le.n mm_le.e))))) (sq_M_serve_174  _ _ _ hV hw)
    · refine wr_aload_n (some a) (pc' := 159) d_M_serve_158 rfl rfl rfl ?_
      refine mm_iload (pc' := 161) d_M_serve_159 rfl rfl ?_
      refine mm_iconst (v := 1) (pc' := 162) d_M_serve_161 rfl (by decide) ?_
      refine mm_iadd (pc' := 163) d_M_serve_162 rfl ?_
      refine mm_iload (pc' := 165) d_M_serve_163 rfl rfl ?_
      refine wr_cVV (pc' := 168) (as := [.int (u4 + (1 : Int32)), .int u4]) (st := []) d_M_serve_165 rfl cs_M_272 rfl (W := fun b Q' => wp_M_copy b (u4 + (1 : Int32)) u4 A Q') hV hw (fun b Q' hw => sd_M_copy hV hw) rfl rfl (Nat.le_of_ble_eq_true rfl) (Nat.le_of_ble_eq_true rfl) (fun h A hV hw => ?_)
      refine mm_iinc4 (v := (u4 + 1)) (pc' := 171) d_M_serve_168 rfl rfl rfl (Nat.le_of_ble_eq_true rfl) ?_
      refine mm_goto (tgt := 151) d_M_serve_171 rfl ?_
      exact mm_drop (mm_le.s (mm_le.s (mm_le.s (mm_le.n (mm_le.s mm_le.e))))) (hk151 _ _ _ _ hV hw)
def wq_M_serve_140 (a : Nat) (p0 : Int32) (Q : ab_H → Prop)  (u2 : Int32) (A : ab_H) : Prop := wgI A (some a) 14 5 (fun x7 => if x7 = (5 : Int32) then (∃ n, wq_M_serve_151 a p0 Q n u2 (3 : Int32) A) else (wq_M_serve_179 a p0 Q u2 A))
set_option maxRecDepth 100000 in
set_option maxHeartbeats 4000000 in
theorem sq_M_serve_140 {l : Launch} {G : mm_G} {a : Nat} {p0 : Int32} {Q : ab_H → Prop}   : ∀ (u2 : Int32) (A : ab_H) (h : mm_H), Vw G h A → wq_M_serve_140 a p0 Q  u2 A → mm_V l G M_M_serve 0 0 140 [some (va_rf (some a)), some (.int p0), some (.int u2), none, none] [] h (wQV G Q) := by
  intro u2 A h hV hw
  unfold wq_M_serve_140 at hw
  refine wr_aload_n (some a) (pc' := 141) d_M_serve_140 rfl rfl rfl ?_
  refine wr_getI hV hw (pc' := 144) d_M_serve_141 rfl fl_M_269 (fun x7 hw => ?_)
  refine mm_iconst (v := 5) (pc' := 145) d_M_serve_144 rfl (by decide) ?_
  refine wr_icmp_ne hw (pc' := 148) d_M_serve_145 rfl rfl (fun hw => ?_) (fun hw => ?_)
  · exact mm_drop (mm_le.s (mm_le.s (mm_le.s (mm_le.n (mm_le.n mm_le.e))))) (sq_M_serve_179  _ _ _ hV hw)
  · refine mm_iconst (v := 3) (pc' := 149) d_M_serve_148 rfl (by decide) ?_
    refine mm_ist4 (pc' := 151) d_M_serve_149 rfl rfl (Nat.le_of_ble_eq_true rfl) ?_
    obtain ⟨n, hw⟩ := hw
    exact mm_drop (mm_le.s (mm_le.s (mm_le.s (mm_le.n (mm_le.s mm_le.e))))) (sq_M_serve_151  n _ _ _ _ hV hw)
def wq_M_serve_107 (a : Nat) (p0 : Int32) (Q : ab_H → Prop)  (u2 : Int32) (s0 : Option Nat) (s1 : Int32) (s2 : Int32) (A : ab_H) : Prop := wC A s0 14 (fun b => wp_M_respond b s1 s2 A (fun A => if u2 < 0 then (wq_M_serve_140 a p0 Q u2 A) else (wgR A (some a) 14 24 (fun r8 => wAI A r8 u2 (fun x9 => if x9 < 0 then (wq_M_serve_140 a p0 Q u2 A) else (wgR A (some a) 14 8 (fun r10 => wgR A (some a) 14 24 (fun r11 => wAI A r11 u2 (fun x12 => wgR A (some a) 14 26 (fun r13 => wAI A r13 u2 (fun x14 => wSI A r10 x12 x14 (fun A => wq_M_serve_140 a p0 Q u2 A))))))))))))
set_option maxRecDepth 100000 in
set_option maxHeartbeats 4000000 in
theorem sq_M_serve_107 {l : Launch} {G : mm_G} {a : Nat} {p0 : Int32} {Q : ab_H → Prop}   : ∀ (u2 : Int32) (s0 : Option Nat) (s1 : Int32) (s2 : Int32) (A : ab_H) (h : mm_H), Vw G h A → wq_M_serve_107 a p0 Q  u2 s0 s1 s2 A → mm_V l G M_M_serve 0 0 107 [some (va_rf (some a)), some (.int p0), some (.int u2), none, none] [.int s2, .int s1, va_rf s0] h (wQV G Q) := by
  intro u2 s0 s1 s2 A h hV hw
  unfold wq_M_serve_107 at hw
  refine wr_cVV (pc' := 110) (as := [.int s1, .int s2]) (st := []) d_M_serve_107 rfl cs_M_266 rfl (W := fun b Q' => wp_M_respond b s1 s2 A Q') hV hw (fun b Q' hw => sd_M_respond hV hw) rfl rfl (Nat.le_of_ble_eq_true rfl) (Nat.le_of_ble_eq_true rfl) (fun h A hV hw => ?_)
  refine mm_iload_n (pc' := 111) d_M_serve_110 rfl rfl rfl ?_
  refine wr_if_lt hw (pc' := 114) d_M_serve_111 rfl rfl (fun hw => ?_) (fun hw => ?_)
  · exact mm_drop (mm_le.s (mm_le.s (mm_le.s (mm_le.n (mm_le.n mm_le.e))))) (sq_M_serve_140  _ _ _ hV hw)
  · refine wr_aload_n (some a) (pc' := 115) d_M_serve_114 rfl rfl rfl ?_
    refine wr_getR hV hw (pc' := 118) d_M_serve_115 rfl fl_M_68 (fun r8 hw => ?_)
    refine mm_iload_n (pc' := 119) d_M_serve_118 rfl rfl rfl ?_
    refine wr_aldI hV hw (pc' := 120) d_M_serve_119 rfl (fun x9 hw => ?_)
    refine wr_if_lt hw (pc' := 123) d_M_serve_120 rfl rfl (fun hw => ?_) (fun hw => ?_)
    · exact mm_drop (mm_le.s (mm_le.s (mm_le.s (mm_le.n (mm_le.n mm_le.e))))) (sq_M_serve_140  _ _ _ hV hw)
    · refine wr_aload_n (some a) (pc' := 124) d_M_serve_123 rfl rfl rfl ?_
      refine wr_getR hV hw (pc' := 127) d_M_serve_124 rfl fl_M_29 (fun r10 hw => ?_)
      refine wr_aload_n (some a) (pc' := 128) d_M_serve_127 rfl rfl rfl ?_
      refine wr_getR hV hw (pc' := 131) d_M_serve_128 rfl fl_M_68 (fun r11 hw => ?_)
      refine mm_iload_n (pc' := 132) d_M_serve_131 rfl rfl rfl ?_
      refine wr_aldI hV hw (pc' := 133) d_M_serve_132 rfl (fun x12 hw => ?_)
      refine wr_aload_n (some a) (pc' := 134) d_M_serve_133 rfl rfl rfl ?_
      refine wr_getR hV hw (pc' := 137) d_M_serve_134 rfl fl_M_74 (fun r13 hw => ?_)
      refine mm_iload_n (pc' := 138) d_M_serve_137 rfl rfl rfl ?_
      refine wr_aldI hV hw (pc' := 139) d_M_serve_138 rfl (fun x14 hw => ?_)
      refine wr_astI hV hw (pc' := 140) d_M_serve_139 rfl (fun h A hV hw => ?_)
      exact mm_drop (mm_le.s (mm_le.s (mm_le.s (mm_le.n (mm_le.n mm_le.e))))) (sq_M_serve_140  _ _ _ hV hw)
def wq_M_serve_89 (a : Nat) (p0 : Int32) (Q : ab_H → Prop)  (u2 : Int32) (A : ab_H) : Prop := if 0 ≤ u2 then (wgR A (some a) 14 20 (fun r15 => wAI A r15 u2 (fun x16 => wq_M_serve_107 a p0 Q u2 (some a) p0 x16 A))) else (wq_M_serve_107 a p0 Q u2 (some a) p0 (404 : Int32) A)
set_option maxRecDepth 100000 in
set_option maxHeartbeats 4000000 in
theorem sq_M_serve_89 {l : Launch} {G : mm_G} {a : Nat} {p0 : Int32} {Q : ab_H → Prop}   : ∀ (u2 : Int32) (A : ab_H) (h : mm_H), Vw G h A → wq_M_serve_89 a p0 Q  u2 A → mm_V l G M_M_serve 0 0 89 [some (va_rf (some a)), some (.int p0), some (.int u2), none, none] [] h (wQV G Q) := by
  intro u2 A h hV hw
  unfold wq_M_serve_89 at hw
  refine wr_aload_n (some a) (pc' := 90) d_M_serve_89 rfl rfl rfl ?_
  refine mm_iload_n (pc' := 91) d_M_serve_90 rfl rfl rfl ?_
  refine mm_iload_n (pc' := 92) d_M_serve_91 rfl rfl rfl ?_
  refine wr_if_ge hw (pc' := 95) d_M_serve_92 rfl rfl (fun hw => ?_) (fun hw => ?_)
  · refine wr_aload_n (some a) (pc' := 102) d_M_serve_101 rfl rfl rfl ?_
    refine wr_getR hV hw (pc' := 105) d_M_serve_102 rfl fl_M_56 (fun r15 hw => ?_)
    refine mm_iload_n (pc' := 106) d_M_serve_105 rfl rfl rfl ?_
    refine wr_aldI hV hw (pc' := 107) d_M_serve_106 rfl (fun x16 hw => ?_)
    exact mm_drop (mm_le.s (mm_le.s (mm_le.s (mm_le.n (mm_le.n mm_le.e))))) (sq_M_serve_107  _ _ _ _ _ _ hV hw)
  · refine mm_sipush (v := 404) (pc' := 98) d_M_serve_95 rfl (by decide) ?_
    refine mm_goto (tgt := 107) d_M_serve_98 rfl ?_
    exact mm_drop (mm_le.s (mm_le.s (mm_le.s (mm_le.n (mm_le.n mm_le.e))))) (sq_M_serve_107  _ _ _ _ _ _ hV hw)
def wb_M_serve_65 (a : Nat) (p0 : Int32) (Q : ab_H → Prop)  (k65 : Int32 → Int32 → ab_H → Prop) (u2 : Int32) (u3 : Int32) (A : ab_H) : Prop := if u2 < 0 then (wq_M_serve_89 a p0 Q u2 A) else (wgR A (some a) 14 23 (fun r17 => wAI A r17 u2 (fun x18 => if x18 ≤ u3 then (wq_M_serve_89 a p0 Q u2 A) else (wC A (some a) 14 (fun b => wp_M_expand b u2 u3 A (fun x19 A => k65 u2 x19 A))))))
def wq_M_serve_65 (a : Nat) (p0 : Int32) (Q : ab_H → Prop)  : Nat → Int32 → Int32 → ab_H → Prop
  | 0 => fun _ _ _ => False
  | n + 1 => wb_M_serve_65 a p0 Q  (wq_M_serve_65 a p0 Q  n)
set_option maxRecDepth 100000 in
set_option maxHeartbeats 4000000 in
theorem sq_M_serve_65 {l : Launch} {G : mm_G} {a : Nat} {p0 : Int32} {Q : ab_H → Prop}   : ∀ (n : Nat) (u2 : Int32) (u3 : Int32) (A : ab_H) (h : mm_H), Vw G h A → wq_M_serve_65 a p0 Q  n u2 u3 A → mm_V l G M_M_serve 0 0 65 [some (va_rf (some a)), some (.int p0), some (.int u2), some (.int u3), none] [] h (wQV G Q) := by
  intro n
  induction n with
  | zero =>
    intro u2 u3 A h hV hw
    exact absurd hw id
  | succ n hk65 =>
    intro u2 u3 A h hV hw
    have hw : wb_M_serve_65 a p0 Q  (wq_M_serve_65 a p0 Q  n) u2 u3 A := hw
    unfold wb_M_serve_65 at hw
    refine mm_iload_n (pc' := 66) d_M_serve_65 rfl rfl rfl ?_
    refine wr_if_lt hw (pc' := 69) d_M_serve_66 rfl rfl (fun hw => ?_) (fun hw => ?_)
    · exact mm_drop (mm_le.s (mm_le.s (mm_le.s (mm_le.n (mm_le.n mm_le.e))))) (sq_M_serve_89  _ _ _ hV hw)
    · refine mm_iload_n (pc' := 70) d_M_serve_69 rfl rfl rfl ?_
      refine wr_aload_n (some a) (pc' := 71) d_M_serve_70 rfl rfl rfl ?_
      refine wr_getR hV hw (pc' := 74) d_M_serve_71 rfl fl_M_65 (fun r17 hw => ?_)
      refine mm_iload_n (pc' := 75) d_M_serve_74 rfl rfl rfl ?_
      refine wr_aldI hV hw (pc' := 76) d_M_serve_75 rfl (fun x18 hw => ?_)
      refine wr_icmp_ge hw (pc' := 79) d_M_serve_76 rfl rfl (fun hw => ?_) (fun hw => ?_)
      · exact mm_drop (mm_le.s (mm_le.s (mm_le.s (mm_le.n (mm_le.n mm_le.e))))) (sq_M_serve_89  _ _ _ hV hw)
      · refine wr_aload_n (some a) (pc' := 80) d_M_serve_79 rfl rfl rfl ?_
        refine mm_iload_n (pc' := 81) d_M_serve_80 rfl rfl rfl ?_
        refine mm_iload_n (pc' := 82) d_M_serve_81 rfl rfl rfl ?_
        refine wr_cVI (pc' := 85) (as := [.int u2, .int u3]) (st := []) d_M_serve_82 rfl cs_M_263 rfl (W := fun b Q' => wp_M_expand b u2 u3 A Q') hV hw (fun b Q' hw => sd_M_expand hV hw) rfl rfl (Nat.le_of_ble_eq_true rfl) (Nat.le_of_ble_eq_true rfl) (fun x19 h A hV hw => ?_)
        refine mm_ist3 (pc' := 86) d_M_serve_85 rfl rfl (Nat.le_of_ble_eq_true rfl) ?_
        refine mm_goto (tgt := 65) d_M_serve_86 rfl ?_
        exact mm_drop (mm_le.s (mm_le.s (mm_le.s (mm_le.s (mm_le.n mm_le.e))))) (hk65 _ _ _ _ hV hw)
def wq_M_serve_48 (a : Nat) (p0 : Int32) (Q : ab_H → Prop)  (u2 : Int32) (A : ab_H) : Prop := wgI A (some a) 14 7 (fun x20 => wp A (some a) 14 7 (.int (x20 + (1 : Int32))) (fun A => wp A (some a) 14 42 (.int (0 : Int32)) (fun A => ∃ n, wq_M_serve_65 a p0 Q n u2 (0 : Int32) A)))
set_option maxRecDepth 100000 in
set_option maxHeartbeats 4000000 in
theorem sq_M_serve_48 {l : Launch} {G : mm_G} {a : Nat} {p0 : Int32} {Q : ab_H → Prop}   : ∀ (u2 : Int32) (A : ab_H) (h : mm_H), Vw G h A → wq_M_serve_48 a p0 Q  u2 A → mm_V l G M_M_serve 0 0 48 [some (va_rf (some a)), some (.int p0), some (.int u2), none, none] [] h (wQV G Q) := by
  intro u2 A h hV hw
  unfold wq_M_serve_48 at hw
  refine wr_aload_n (some a) (pc' := 49) d_M_serve_48 rfl rfl rfl ?_
  refine mm_dup (pc' := 50) d_M_serve_49 rfl (wr_cat _) ?_
  refine wr_getI hV hw (pc' := 53) d_M_serve_50 rfl fl_M_242 (fun x20 hw => ?_)
  refine mm_iconst (v := 1) (pc' := 54) d_M_serve_53 rfl (by decide) ?_
  refine mm_iadd (pc' := 55) d_M_serve_54 rfl ?_
  refine wr_put hV hw (pc' := 58) d_M_serve_55 rfl pl_M_serve_242 (Nat.le_of_ble_eq_true rfl) (wn_I _) (fun h A hV hw => ?_)
  refine wr_aload_n (some a) (pc' := 59) d_M_serve_58 rfl rfl rfl ?_
  refine mm_iconst (v := 0) (pc' := 60) d_M_serve_59 rfl (by decide) ?_
  refine wr_put hV hw (pc' := 63) d_M_serve_60 rfl pl_M_serve_236 (Nat.le_of_ble_eq_true rfl) (wn_I _) (fun h A hV hw => ?_)
  refine mm_iconst (v := 0) (pc' := 64) d_M_serve_63 rfl (by decide) ?_
  refine mm_ist3 (pc' := 65) d_M_serve_64 rfl rfl (Nat.le_of_ble_eq_true rfl) ?_
  obtain ⟨n, hw⟩ := hw
  exact mm_drop (mm_le.s (mm_le.s (mm_le.s (mm_le.s (mm_le.n mm_le.e))))) (sq_M_serve_65  n _ _ _ _ hV hw)
def wb_M_serve_4 (a : Nat) (p0 : Int32) (Q : ab_H → Prop)  (k4 : Int32 → Int32 → ab_H → Prop) (u2 : Int32) (u3 : Int32) (A : ab_H) : Prop := if (8 : Int32) ≤ u3 then (wq_M_serve_48 a p0 Q u2 A) else (wgR A (some a) 14 18 (fun r21 => wAI A r21 u3 (fun x22 => if x22 < 0 then (k4 u2 (u3 + 1) A) else (wC A (some a) 14 (fun b => wp_M_failing b u3 A (fun x23 A => if x23 = 0 then (wC A (some a) 14 (fun b => wp_M_before b u3 u2 A (fun x24 A => if x24 = 0 then (k4 u2 (u3 + 1) A) else (k4 u3 (u3 + 1) A)))) else (k4 u2 (u3 + 1) A)))))))
def wq_M_serve_4 (a : Nat) (p0 : Int32) (Q : ab_H → Prop)  : Nat → Int32 → Int32 → ab_H → Prop
  | 0 => fun _ _ _ => False
  | n + 1 => wb_M_serve_4 a p0 Q  (wq_M_serve_4 a p0 Q  n)
set_option maxRecDepth 100000 in
set_option maxHeartbeats 4000000 in
theorem sq_M_serve_4 {l : Launch} {G : mm_G} {a : Nat} {p0 : Int32} {Q : ab_H → Prop}   : ∀ (n : Nat) (u2 : Int32) (u3 : Int32) (A : ab_H) (h : mm_H), Vw G h A → wq_M_serve_4 a p0 Q  n u2 u3 A → mm_V l G M_M_serve 0 0 4 [some (va_rf (some a)), some (.int p0), some (.int u2), some (.int u3), none] [] h (wQV G Q) := by
  intro n
  induction n with
  | zero =>
    intro u2 u3 A h hV hw
    exact absurd hw id
  | succ n hk4 =>
    intro u2 u3 A h hV hw
    have hw : wb_M_serve_4 a p0 Q  (wq_M_serve_4 a p0 Q  n) u2 u3 A := hw
    unfold wb_M_serve_4 at hw
    refine mm_iload_n (pc' := 5) d_M_serve_4 rfl rfl rfl ?_
    refine mm_bipush (v := 8) (pc' := 7) d_M_serve_5 rfl (by decide) ?_
    refine wr_icmp_ge hw (pc' := 10) d_M_serve_7 rfl rfl (fun hw => ?_) (fun hw => ?_)
    · exact mm_drop (mm_le.s (mm_le.s (mm_le.s (mm_le.n (mm_le.n mm_le.e))))) (sq_M_serve_48  _ _ _ hV hw)
    · refine wr_aload_n (some a) (pc' := 11) d_M_serve_10 rfl rfl rfl ?_
      refine wr_getR hV hw (pc' := 14) d_M_serve_11 rfl fl_M_50 (fun r21 hw => ?_)
      refine mm_iload_n (pc' := 15) d_M_serve_14 rfl rfl rfl ?_
      refine wr_aldI hV hw (pc' := 16) d_M_serve_15 rfl (fun x22 hw => ?_)
      refine wr_if_lt hw (pc' := 19) d_M_serve_16 rfl rfl (fun hw => ?_) (fun hw => ?_)
      · refine mm_iload_n (pc' := 41) d_M_serve_40 rfl rfl rfl ?_
        refine mm_ist2 (pc' := 42) d_M_serve_41 rfl rfl (Nat.le_of_ble_eq_true rfl) ?_
        refine mm_iinc3 (v := (u3 + 1)) (pc' := 45) d_M_serve_42 rfl rfl rfl (Nat.le_of_ble_eq_true rfl) ?_
        refine mm_goto (tgt := 4) d_M_serve_45 rfl ?_
        exact mm_drop (mm_le.s (mm_le.s (mm_le.s (mm_le.s (mm_le.n mm_le.e))))) (hk4 _ _ _ _ hV hw)
      · refine wr_aload_n (some a) (pc' := 20) d_M_serve_19 rfl rfl rfl ?_
        refine mm_iload_n (pc' := 21) d_M_serve_20 rfl rfl rfl ?_
        refine wr_cVI (pc' := 24) (as := [.int u3]) (st := []) d_M_serve_21 rfl cs_M_257 rfl (W := fun b Q' => wp_M_failing b u3 A Q') hV hw (fun b Q' hw => sd_M_failing hV hw) rfl rfl (Nat.le_of_ble_eq_true rfl) (Nat.le_of_ble_eq_true rfl) (fun x23 h A hV hw => ?_)
        refine wr_if_ne hw (pc' := 27) d_M_serve_24 rfl rfl (fun hw => ?_) (fun hw => ?_)
        · refine mm_iload_n (pc' := 41) d_M_serve_40 rfl rfl rfl ?_
          refine mm_ist2 (pc' := 42) d_M_serve_41 rfl rfl (Nat.le_of_ble_eq_true rfl) ?_
          refine mm_iinc3 (v := (u3 + 1)) (pc' := 45) d_M_serve_42 rfl rfl rfl (Nat.le_of_ble_eq_true rfl) ?_
          refine mm_goto (tgt := 4) d_M_serve_45 rfl ?_
          exact mm_drop (mm_le.s (mm_le.s (mm_le.s (mm_le.s (mm_le.n mm_le.e))))) (hk4 _ _ _ _ hV hw)
        · refine wr_aload_n (some a) (pc' := 28) d_M_serve_27 rfl rfl rfl ?_
          refine mm_iload_n (pc' := 29) d_M_serve_28 rfl rfl rfl ?_
          refine mm_iload_n (pc' := 30) d_M_serve_29 rfl rfl rfl ?_
          refine wr_cVI (pc' := 33) (as := [.int u3, .int u2]) (st := []) d_M_serve_30 rfl cs_M_260 rfl (W := fun b Q' => wp_M_before b u3 u2 A Q') hV hw (fun b Q' hw => sd_M_before hV hw) rfl rfl (Nat.le_of_ble_eq_true rfl) (Nat.le_of_ble_eq_true rfl) (fun x24 h A hV hw => ?_)
          refine wr_if_eq hw (pc' := 36) d_M_serve_33 rfl rfl (fun hw => ?_) (fun hw => ?_)
          · refine mm_iload_n (pc' := 41) d_M_serve_40 rfl rfl rfl ?_
            refine mm_ist2 (pc' := 42) d_M_serve_41 rfl rfl (Nat.le_of_ble_eq_true rfl) ?_
            refine mm_iinc3 (v := (u3 + 1)) (pc' := 45) d_M_serve_42 rfl rfl rfl (Nat.le_of_ble_eq_true rfl) ?_
            refine mm_goto (tgt := 4) d_M_serve_45 rfl ?_
            exact mm_drop (mm_le.s (mm_le.s (mm_le.s (mm_le.s (mm_le.n mm_le.e))))) (hk4 _ _ _ _ hV hw)
          · refine mm_iload_n (pc' := 37) d_M_serve_36 rfl rfl rfl ?_
            refine mm_goto (tgt := 41) d_M_serve_37 rfl ?_
            refine mm_ist2 (pc' := 42) d_M_serve_41 rfl rfl (Nat.le_of_ble_eq_true rfl) ?_
            refine mm_iinc3 (v := (u3 + 1)) (pc' := 45) d_M_serve_42 rfl rfl rfl (Nat.le_of_ble_eq_true rfl) ?_
            refine mm_goto (tgt := 4) d_M_serve_45 rfl ?_
            exact mm_drop (mm_le.s (mm_le.s (mm_le.s (mm_le.s (mm_le.n mm_le.e))))) (hk4 _ _ _ _ hV hw)
def wp_M_serve (a : Nat) (p0 : Int32) (A : ab_H) (Q : ab_H → Prop) : Prop := ∃ n, wq_M_serve_4 a p0 Q n ((-1) : Int32) (0 : Int32) A
set_option maxRecDepth 100000 in
set_option maxHeartbeats 4000000 in
theorem sd_M_serve {l : Launch} {G : mm_G} {h : mm_H} {A : ab_H} {a : Nat} {p0 : Int32} {Q : ab_H → Prop} (hV : Vw G h A) (hw : wp_M_serve a p0 A Q) : mm_S l G M_M_serve [.ref a, .int p0] h 0 0 (wQV G Q) := by
  unfold wp_M_serve at hw
  refine mm_start rfl (Nat.le_of_ble_eq_true rfl) ?_
  show mm_V l G M_M_serve 0 0 0 [some (va_rf (some a)), some (.int p0), none, none, none] [] h _
  refine mm_iconst (v := (-1)) (pc' := 1) d_M_serve_0 rfl (by decide) ?_
  refine mm_ist2 (pc' := 2) d_M_serve_1 rfl rfl (Nat.le_of_ble_eq_true rfl) ?_
  refine mm_iconst (v := 0) (pc' := 3) d_M_serve_2 rfl (by decide) ?_
  refine mm_ist3 (pc' := 4) d_M_serve_3 rfl rfl (Nat.le_of_ble_eq_true rfl) ?_
  obtain ⟨n, hw⟩ := hw
  exact mm_drop (mm_le.s (mm_le.s (mm_le.s (mm_le.s (mm_le.n mm_le.e))))) (sq_M_serve_4  n _ _ _ _ hV hw)
theorem d_M_arrive_0 : decode prog_14_method_48_code 0 = .ok (.aload_n 0, 1) := by decide +kernel
theorem d_M_arrive_1 : decode prog_14_method_48_code 1 = .ok (.getfield 7, 3) := by decide +kernel
theorem d_M_arrive_4 : decode prog_14_method_48_code 4 = .ok (.sipush 520, 3) := by decide +kernel
theorem d_M_arrive_7 : decode prog_14_method_48_code 7 = .ok (.iload_n 1, 1) := by decide +kernel
theorem d_M_arrive_8 : decode prog_14_method_48_code 8 = .ok (.imul, 1) := by decide +kernel
theorem d_M_arrive_9 : decode prog_14_method_48_code 9 = .ok (.aload_n 0, 1) := by decide +kernel
theorem d_M_arrive_10 : decode prog_14_method_48_code 10 = .ok (.getfield 13, 3) := by decide +kernel
theorem d_M_arrive_13 : decode prog_14_method_48_code 13 = .ok (.iload_n 1, 1) := by decide +kernel
theorem d_M_arrive_14 : decode prog_14_method_48_code 14 = .ok (.iaload, 1) := by decide +kernel
theorem d_M_arrive_15 : decode prog_14_method_48_code 15 = .ok (.iadd, 1) := by decide +kernel
theorem d_M_arrive_16 : decode prog_14_method_48_code 16 = .ok (.iload_n 2, 1) := by decide +kernel
theorem d_M_arrive_17 : decode prog_14_method_48_code 17 = .ok (.iastore, 1) := by decide +kernel
theorem d_M_arrive_18 : decode prog_14_method_48_code 18 = .ok (.aload_n 0, 1) := by decide +kernel
theorem d_M_arrive_19 : decode prog_14_method_48_code 19 = .ok (.getfield 13, 3) := by decide +kernel
theorem d_M_arrive_22 : decode prog_14_method_48_code 22 = .ok (.iload_n 1, 1) := by decide +kernel
theorem d_M_arrive_23 : decode prog_14_method_48_code 23 = .ok (.dup2, 1) := by decide +kernel
theorem d_M_arrive_24 : decode prog_14_method_48_code 24 = .ok (.iaload, 1) := by decide +kernel
theorem d_M_arrive_25 : decode prog_14_method_48_code 25 = .ok (.iconst 1, 1) := by decide +kernel
theorem d_M_arrive_26 : decode prog_14_method_48_code 26 = .ok (.iadd, 1) := by decide +kernel
theorem d_M_arrive_27 : decode prog_14_method_48_code 27 = .ok (.iastore, 1) := by decide +kernel
theorem d_M_arrive_28 : decode prog_14_method_48_code 28 = .ok (.aload_n 0, 1) := by decide +kernel
theorem d_M_arrive_29 : decode prog_14_method_48_code 29 = .ok (.iload_n 1, 1) := by decide +kernel
theorem d_M_arrive_30 : decode prog_14_method_48_code 30 = .ok (.invokevirtual 275, 3) := by decide +kernel
theorem d_M_arrive_33 : decode prog_14_method_48_code 33 = .ok (.istore_n 3, 1) := by decide +kernel
theorem d_M_arrive_34 : decode prog_14_method_48_code 34 = .ok (.iload_n 3, 1) := by decide +kernel
theorem d_M_arrive_35 : decode prog_14_method_48_code 35 = .ok (.ifCond .ne 4, 3) := by decide +kernel
theorem d_M_arrive_38 : decode prog_14_method_48_code 38 = .ok (.return_, 1) := by decide +kernel
theorem d_M_arrive_39 : decode prog_14_method_48_code 39 = .ok (.iload_n 3, 1) := by decide +kernel
theorem d_M_arrive_40 : decode prog_14_method_48_code 40 = .ok (.iconst 1, 1) := by decide +kernel
theorem d_M_arrive_41 : decode prog_14_method_48_code 41 = .ok (.if_icmp .ne 27, 3) := by decide +kernel
theorem d_M_arrive_44 : decode prog_14_method_48_code 44 = .ok (.aload_n 0, 1) := by decide +kernel
theorem d_M_arrive_45 : decode prog_14_method_48_code 45 = .ok (.iload_n 1, 1) := by decide +kernel
theorem d_M_arrive_46 : decode prog_14_method_48_code 46 = .ok (.invokevirtual 278, 3) := by decide +kernel
theorem d_M_arrive_49 : decode prog_14_method_48_code 49 = .ok (.aload_n 0, 1) := by decide +kernel
theorem d_M_arrive_50 : decode prog_14_method_48_code 50 = .ok (.iload_n 1, 1) := by decide +kernel
theorem d_M_arrive_51 : decode prog_14_method_48_code 51 = .ok (.invokevirtual 275, 3) := by decide +kernel
theorem d_M_arrive_54 : decode prog_14_method_48_code 54 = .ok (.pop, 1) := by decide +kernel
theorem d_M_arrive_55 : decode prog_14_method_48_code 55 = .ok (.aload_n 0, 1) := by decide +kernel
theorem d_M_arrive_56 : decode prog_14_method_48_code 56 = .ok (.getfield 16, 3) := by decide +kernel
theorem d_M_arrive_59 : decode prog_14_method_48_code 59 = .ok (.iload_n 1, 1) := by decide +kernel
theorem d_M_arrive_60 : decode prog_14_method_48_code 60 = .ok (.aload_n 0, 1) := by decide +kernel
theorem d_M_arrive_61 : decode prog_14_method_48_code 61 = .ok (.getfield 158, 3) := by decide +kernel
theorem d_M_arrive_64 : decode prog_14_method_48_code 64 = .ok (.bastore, 1) := by decide +kernel
theorem d_M_arrive_65 : decode prog_14_method_48_code 65 = .ok (.goto 21, 3) := by decide +kernel
theorem d_M_arrive_68 : decode prog_14_method_48_code 68 = .ok (.aload_n 0, 1) := by decide +kernel
theorem d_M_arrive_69 : decode prog_14_method_48_code 69 = .ok (.iconst 0, 1) := by decide +kernel
theorem d_M_arrive_70 : decode prog_14_method_48_code 70 = .ok (.putfield 236, 3) := by decide +kernel
theorem d_M_arrive_73 : decode prog_14_method_48_code 73 = .ok (.aload_n 0, 1) := by decide +kernel
theorem d_M_arrive_74 : decode prog_14_method_48_code 74 = .ok (.iload_n 1, 1) := by decide +kernel
theorem d_M_arrive_75 : decode prog_14_method_48_code 75 = .ok (.iload_n 3, 1) := by decide +kernel
theorem d_M_arrive_76 : decode prog_14_method_48_code 76 = .ok (.invokevirtual 266, 3) := by decide +kernel
theorem d_M_arrive_79 : decode prog_14_method_48_code 79 = .ok (.aload_n 0, 1) := by decide +kernel
theorem d_M_arrive_80 : decode prog_14_method_48_code 80 = .ok (.getfield 16, 3) := by decide +kernel
theorem d_M_arrive_83 : decode prog_14_method_48_code 83 = .ok (.iload_n 1, 1) := by decide +kernel
theorem d_M_arrive_84 : decode prog_14_method_48_code 84 = .ok (.iconst 1, 1) := by decide +kernel
theorem d_M_arrive_85 : decode prog_14_method_48_code 85 = .ok (.bastore, 1) := by decide +kernel
theorem d_M_arrive_86 : decode prog_14_method_48_code 86 = .ok (.aload_n 0, 1) := by decide +kernel
theorem d_M_arrive_87 : decode prog_14_method_48_code 87 = .ok (.getfield 13, 3) := by decide +kernel
theorem d_M_arrive_90 : decode prog_14_method_48_code 90 = .ok (.iload_n 1, 1) := by decide +kernel
theorem d_M_arrive_91 : decode prog_14_method_48_code 91 = .ok (.iconst 0, 1) := by decide +kernel
theorem d_M_arrive_92 : decode prog_14_method_48_code 92 = .ok (.iastore, 1) := by decide +kernel
theorem d_M_arrive_93 : decode prog_14_method_48_code 93 = .ok (.return_, 1) := by decide +kernel
def wq_M_arrive_86 (a : Nat) (p0 : Int32) (p1 : Int32) (Q : ab_H → Prop)   (A : ab_H) : Prop := wgR A (some a) 14 1 (fun r1 => wSI A r1 p0 (0 : Int32) (fun A => Q A))
set_option maxRecDepth 100000 in
set_option maxHeartbeats 4000000 in
theorem sq_M_arrive_86 {l : Launch} {G : mm_G} {a : Nat} {p0 : Int32} {p1 : Int32} {Q : ab_H → Prop}   : ∀ (A : ab_H) (h : mm_H), Vw G h A → wq_M_arrive_86 a p0 p1 Q  A → mm_V l G M_M_arrive 0 0 86 [some (va_rf (some a)), some (.int p0), some (.int p1), none] [] h (wQV G Q) := by
  intro A h hV hw
  unfold wq_M_arrive_86 at hw
  refine wr_aload_n (some a) (pc' := 87) d_M_arrive_86 rfl rfl rfl ?_
  refine wr_getR hV hw (pc' := 90) d_M_arrive_87 rfl fl_M_13 (fun r1 hw => ?_)
  refine mm_iload_n (pc' := 91) d_M_arrive_90 rfl rfl rfl ?_
  refine mm_iconst (v := 0) (pc' := 92) d_M_arrive_91 rfl (by decide) ?_
  refine wr_astI hV hw (pc' := 93) d_M_arrive_92 rfl (fun h A hV hw => ?_)
  exact wr_vret hV d_M_arrive_93 rfl hw
def wp_M_arrive (a : Nat) (p0 : Int32) (p1 : Int32) (A : ab_H) (Q : ab_H → Prop) : Prop := wgR A (some a) 14 0 (fun r2 => wgR A (some a) 14 1 (fun r3 => wAI A r3 p0 (fun x4 => wSI A r2 (((520 : Int32) * p0) + x4) p1 (fun A => wgR A (some a) 14 1 (fun r5 => wAI A r5 p0 (fun x6 => wSI A r5 p0 (x6 + (1 : Int32)) (fun A => wC A (some a) 14 (fun b => wp_M_judge b p0 A (fun x7 A => if x7 = 0 then (Q A) else (if x7 = (1 : Int32) then (wC A (some a) 14 (fun b => wp_M_serve b p0 A (fun A => wC A (some a) 14 (fun b => wp_M_judge b p0 A (fun x9 A => wgR A (some a) 14 2 (fun r10 => wgI A (some a) 14 34 (fun x11 => wSZ A r10 p0 x11 (fun A => wq_M_arrive_86 a p0 p1 Q A)))))))) else (wp A (some a) 14 42 (.int (0 : Int32)) (fun A => wC A (some a) 14 (fun b => wp_M_respond b p0 x7 A (fun A => wgR A (some a) 14 2 (fun r8 => wSZ A r8 p0 (1 : Int32) (fun A => wq_M_arrive_86 a p0 p1 Q A))))))))))))))))
set_option maxRecDepth 100000 in
set_option maxHeartbeats 4000000 in
theorem sd_M_arrive {l : Launch} {G : mm_G} {h : mm_H} {A : ab_H} {a : Nat} {p0 : Int32} {p1 : Int32} {Q : ab_H → Prop} (hV : Vw G h A) (hw : wp_M_arrive a p0 p1 A Q) : mm_S l G M_M_arrive [.ref a, .int p0, .int p1] h 0 0 (wQV G Q) := by
  unfold wp_M_arrive at hw
  refine mm_start rfl (Nat.le_of_ble_eq_true rfl) ?_
  show mm_V l G M_M_arrive 0 0 0 [some (va_rf (some a)), some (.int p0), some (.int p1), none] [] h _
  refine wr_aload_n (some a) (pc' := 1) d_M_arrive_0 rfl rfl rfl ?_
  refine wr_getR hV hw (pc' := 4) d_M_arrive_1 rfl fl_M_7 (fun r2 hw => ?_)
  refine mm_sipush (v := 520) (pc' := 7) d_M_arrive_4 rfl (by decide) ?_
  refine mm_iload_n (pc' := 8) d_M_arrive_7 rfl rfl rfl ?_
  refine mm_imul (pc' := 9) d_M_arrive_8 rfl ?_
  refine wr_aload_n (some a) (pc' := 10) d_M_arrive_9 rfl rfl rfl ?_
  refine wr_getR hV hw (pc' := 13) d_M_arrive_10 rfl fl_M_13 (fun r3 hw => ?_)
  refine mm_iload_n (pc' := 14) d_M_arrive_13 rfl rfl rfl ?_
  refine wr_aldI hV hw (pc' := 15) d_M_arrive_14 rfl (fun x4 hw => ?_)
  refine mm_iadd (pc' := 16) d_M_arrive_15 rfl ?_
  refine mm_iload_n (pc' := 17) d_M_arrive_16 rfl rfl rfl ?_
  refine wr_astI hV hw (pc' := 18) d_M_arrive_17 rfl (fun h A hV hw => ?_)
  refine wr_aload_n (some a) (pc' := 19) d_M_arrive_18 rfl rfl rfl ?_
  refine wr_getR hV hw (pc' := 22) d_M_arrive_19 rfl fl_M_13 (fun r5 hw => ?_)
  refine mm_iload_n (pc' := 23) d_M_arrive_22 rfl rfl rfl ?_
  refine mm_dup2 (pc' := 24) d_M_arrive_23 rfl rfl (wr_cat _) ?_
  refine wr_aldI hV hw (pc' := 25) d_M_arrive_24 rfl (fun x6 hw => ?_)
  refine mm_iconst (v := 1) (pc' := 26) d_M_arrive_25 rfl (by decide) ?_
  refine mm_iadd (pc' := 27) d_M_arrive_26 rfl ?_
  refine wr_astI hV hw (pc' := 28) d_M_arrive_27 rfl (fun h A hV hw => ?_)
  refine wr_aload_n (some a) (pc' := 29) d_M_arrive_28 rfl rfl rfl ?_
  refine mm_iload_n (pc' := 30) d_M_arrive_29 rfl rfl rfl ?_
  refine wr_cVI (pc' := 33) (as := [.int p0]) (st := []) d_M_arrive_30 rfl cs_M_275 rfl (W := fun b Q' => wp_M_judge b p0 A Q') hV hw (fun b Q' hw => sd_M_judge hV hw) rfl rfl (Nat.le_of_ble_eq_true rfl) (Nat.le_of_ble_eq_true rfl) (fun x7 h A hV hw => ?_)
  refine mm_ist3 (pc' := 34) d_M_arrive_33 rfl rfl (Nat.le_of_ble_eq_true rfl) ?_
  refine mm_iload_n (pc' := 35) d_M_arrive_34 rfl rfl rfl ?_
  refine wr_if_ne hw (pc' := 38) d_M_arrive_35 rfl rfl (fun hw => ?_) (fun hw => ?_)
  · refine mm_iload_n (pc' := 40) d_M_arrive_39 rfl rfl rfl ?_
    refine mm_iconst (v := 1) (pc' := 41) d_M_arrive_40 rfl (by decide) ?_
    refine wr_icmp_ne hw (pc' := 44) d_M_arrive_41 rfl rfl (fun hw => ?_) (fun hw => ?_)
    · refine wr_aload_n (some a) (pc' := 69) d_M_arrive_68 rfl rfl rfl ?_
      refine mm_iconst (v := 0) (pc' := 70) d_M_arrive_69 rfl (by decide) ?_
      refine wr_put hV hw (pc' := 73) d_M_arrive_70 rfl pl_M_arrive_236 (Nat.le_of_ble_eq_true rfl) (wn_I _) (fun h A hV hw => ?_)
      refine wr_aload_n (some a) (pc' := 74) d_M_arrive_73 rfl rfl rfl ?_
      refine mm_iload_n (pc' := 75) d_M_arrive_74 rfl rfl rfl ?_
      refine mm_iload_n (pc' := 76) d_M_arrive_75 rfl rfl rfl ?_
      refine wr_cVV (pc' := 79) (as := [.int p0, .int x7]) (st := []) d_M_arrive_76 rfl cs_M_266 rfl (W := fun b Q' => wp_M_respond b p0 x7 A Q') hV hw (fun b Q' hw => sd_M_respond hV hw) rfl rfl (Nat.le_of_ble_eq_true rfl) (Nat.le_of_ble_eq_true rfl) (fun h A hV hw => ?_)
      refine wr_aload_n (some a) (pc' := 80) d_M_arrive_79 rfl rfl rfl ?_
      refine wr_getR hV hw (pc' := 83) d_M_arrive_80 rfl fl_M_16 (fun r8 hw => ?_)
      refine mm_iload_n (pc' := 84) d_M_arrive_83 rfl rfl rfl ?_
      refine mm_iconst (v := 1) (pc' := 85) d_M_arrive_84 rfl (by decide) ?_
      refine wr_astZ hV hw (pc' := 86) d_M_arrive_85 rfl (fun h A hV hw => ?_)
      exact mm_drop (mm_le.s (mm_le.s (mm_le.s (mm_le.n mm_le.e)))) (sq_M_arrive_86  _ _ hV hw)
    · refine wr_aload_n (some a) (pc' := 45) d_M_arrive_44 rfl rfl rfl ?_
      refine mm_iload_n (pc' := 46) d_M_arrive_45 rfl rfl rfl ?_
      refine wr_cVV (pc' := 49) (as := [.int p0]) (st := []) d_M_arrive_46 rfl cs_M_278 rfl (W := fun b Q' => wp_M_serve b p0 A Q') hV hw (fun b Q' hw => sd_M_serve hV hw) rfl rfl (Nat.le_of_ble_eq_true rfl) (Nat.le_of_ble_eq_true rfl) (fun h A hV hw => ?_)
      refine wr_aload_n (some a) (pc' := 50) d_M_arrive_49 rfl rfl rfl ?_
      refine mm_iload_n (pc' := 51) d_M_arrive_50 rfl rfl rfl ?_
      refine wr_cVI (pc' := 54) (as := [.int p0]) (st := []) d_M_arrive_51 rfl cs_M_275 rfl (W := fun b Q' => wp_M_judge b p0 A Q') hV hw (fun b Q' hw => sd_M_judge hV hw) rfl rfl (Nat.le_of_ble_eq_true rfl) (Nat.le_of_ble_eq_true rfl) (fun x9 h A hV hw => ?_)
      refine mm_pop (pc' := 55) d_M_arrive_54 rfl rfl ?_
      refine wr_aload_n (some a) (pc' := 56) d_M_arrive_55 rfl rfl rfl ?_
      refine wr_getR hV hw (pc' := 59) d_M_arrive_56 rfl fl_M_16 (fun r10 hw => ?_)
      refine mm_iload_n (pc' := 60) d_M_arrive_59 rfl rfl rfl ?_
      refine wr_aload_n (some a) (pc' := 61) d_M_arrive_60 rfl rfl rfl ?_
      refine wr_getI hV hw (pc' := 64) d_M_arrive_61 rfl fl_M_158 (fun x11 hw => ?_)
      refine wr_astZ hV hw (pc' := 65) d_M_arrive_64 rfl (fun h A hV hw => ?_)
      refine mm_goto (tgt := 86) d_M_arrive_65 rfl ?_
      exact mm_drop (mm_le.s (mm_le.s (mm_le.s (mm_le.n mm_le.e)))) (sq_M_arrive_86  _ _ hV hw)
  · exact wr_vret hV d_M_arrive_38 rfl hw
theorem d_M_send_0 : decode prog_14_method_49_code 0 = .ok (.iload_n 1, 1) := by decide +kernel
theorem d_M_send_1 : decode prog_14_method_49_code 1 = .ok (.ifCond .lt 27, 3) := by decide +kernel
theorem d_M_send_4 : decode prog_14_method_49_code 4 = .ok (.iload_n 1, 1) := by decide +kernel
theorem d_M_send_5 : decode prog_14_method_49_code 5 = .ok (.iconst 2, 1) := by decide +kernel
theorem d_M_send_6 : decode prog_14_method_49_code 6 = .ok (.if_icmp .gt 22, 3) := by decide +kernel
theorem d_M_send_9 : decode prog_14_method_49_code 9 = .ok (.iload_n 3, 1) := by decide +kernel
theorem d_M_send_10 : decode prog_14_method_49_code 10 = .ok (.iconst 1, 1) := by decide +kernel
theorem d_M_send_11 : decode prog_14_method_49_code 11 = .ok (.if_icmp .lt 17, 3) := by decide +kernel
theorem d_M_send_14 : decode prog_14_method_49_code 14 = .ok (.iload_n 3, 1) := by decide +kernel
theorem d_M_send_15 : decode prog_14_method_49_code 15 = .ok (.iconst 4, 1) := by decide +kernel
theorem d_M_send_16 : decode prog_14_method_49_code 16 = .ok (.if_icmp .gt 12, 3) := by decide +kernel
theorem d_M_send_19 : decode prog_14_method_49_code 19 = .ok (.aload_n 0, 1) := by decide +kernel
theorem d_M_send_20 : decode prog_14_method_49_code 20 = .ok (.getfield 16, 3) := by decide +kernel
theorem d_M_send_23 : decode prog_14_method_49_code 23 = .ok (.iload_n 1, 1) := by decide +kernel
theorem d_M_send_24 : decode prog_14_method_49_code 24 = .ok (.baload, 1) := by decide +kernel
theorem d_M_send_25 : decode prog_14_method_49_code 25 = .ok (.ifCond .eq 5, 3) := by decide +kernel
theorem d_M_send_28 : decode prog_14_method_49_code 28 = .ok (.iconst (-1), 1) := by decide +kernel
theorem d_M_send_29 : decode prog_14_method_49_code 29 = .ok (.ireturn, 1) := by decide +kernel
theorem d_M_send_30 : decode prog_14_method_49_code 30 = .ok (.iconst 0, 1) := by decide +kernel
theorem d_M_send_31 : decode prog_14_method_49_code 31 = .ok (.istore 4, 2) := by decide +kernel
theorem d_M_send_33 : decode prog_14_method_49_code 33 = .ok (.iload_n 3, 1) := by decide +kernel
theorem d_M_send_34 : decode prog_14_method_49_code 34 = .ok (.iconst 1, 1) := by decide +kernel
theorem d_M_send_35 : decode prog_14_method_49_code 35 = .ok (.isub, 1) := by decide +kernel
theorem d_M_send_36 : decode prog_14_method_49_code 36 = .ok (.istore 5, 2) := by decide +kernel
theorem d_M_send_38 : decode prog_14_method_49_code 38 = .ok (.iload 5, 2) := by decide +kernel
theorem d_M_send_40 : decode prog_14_method_49_code 40 = .ok (.ifCond .lt 37, 3) := by decide +kernel
theorem d_M_send_43 : decode prog_14_method_49_code 43 = .ok (.aload_n 0, 1) := by decide +kernel
theorem d_M_send_44 : decode prog_14_method_49_code 44 = .ok (.getfield 16, 3) := by decide +kernel
theorem d_M_send_47 : decode prog_14_method_49_code 47 = .ok (.iload_n 1, 1) := by decide +kernel
theorem d_M_send_48 : decode prog_14_method_49_code 48 = .ok (.baload, 1) := by decide +kernel
theorem d_M_send_49 : decode prog_14_method_49_code 49 = .ok (.ifCond .ne 28, 3) := by decide +kernel
theorem d_M_send_52 : decode prog_14_method_49_code 52 = .ok (.aload_n 0, 1) := by decide +kernel
theorem d_M_send_53 : decode prog_14_method_49_code 53 = .ok (.iload_n 1, 1) := by decide +kernel
theorem d_M_send_54 : decode prog_14_method_49_code 54 = .ok (.iload_n 2, 1) := by decide +kernel
theorem d_M_send_55 : decode prog_14_method_49_code 55 = .ok (.bipush 8, 2) := by decide +kernel
theorem d_M_send_57 : decode prog_14_method_49_code 57 = .ok (.iload 5, 2) := by decide +kernel
theorem d_M_send_59 : decode prog_14_method_49_code 59 = .ok (.imul, 1) := by decide +kernel
theorem d_M_send_60 : decode prog_14_method_49_code 60 = .ok (.ishr, 1) := by decide +kernel
theorem d_M_send_61 : decode prog_14_method_49_code 61 = .ok (.sipush 255, 3) := by decide +kernel
theorem d_M_send_64 : decode prog_14_method_49_code 64 = .ok (.iand, 1) := by decide +kernel
theorem d_M_send_65 : decode prog_14_method_49_code 65 = .ok (.invokevirtual 281, 3) := by decide +kernel
theorem d_M_send_68 : decode prog_14_method_49_code 68 = .ok (.iinc 4 1, 3) := by decide +kernel
theorem d_M_send_71 : decode prog_14_method_49_code 71 = .ok (.iinc 5 (-1), 3) := by decide +kernel
theorem d_M_send_74 : decode prog_14_method_49_code 74 = .ok (.goto (-36), 3) := by decide +kernel
theorem d_M_send_77 : decode prog_14_method_49_code 77 = .ok (.iload 4, 2) := by decide +kernel
theorem d_M_send_79 : decode prog_14_method_49_code 79 = .ok (.ireturn, 1) := by decide +kernel
def wb_M_send_38 (a : Nat) (p0 : Int32) (p1 : Int32) (p2 : Int32) (Q : Int32 → ab_H → Prop)  (k38 : Int32 → Int32 → ab_H → Prop) (u4 : Int32) (u5 : Int32) (A : ab_H) : Prop := if u5 < 0 then (Q u4 A) else (wgR A (some a) 14 2 (fun r1 => wAZ A r1 p0 (fun x2 => if x2 = 0 then (wC A (some a) 14 (fun b => wp_M_arrive b p0 ((p1 >>> (((8 : Int32) * u5) &&& 31)) &&& (255 : Int32)) A (fun A => k38 (u4 + 1) (u5 - 1) A))) else (Q u4 A))))
def wq_M_send_38 (a : Nat) (p0 : Int32) (p1 : Int32) (p2 : Int32) (Q : Int32 → ab_H → Prop)  : Nat → Int32 → Int32 → ab_H → Prop
  | 0 => fun _ _ _ => False
  | n + 1 => wb_M_send_38 a p0 p1 p2 Q  (wq_M_send_38 a p0 p1 p2 Q  n)
set_option maxRecDepth 100000 in
set_option maxHeartbeats 4000000 in
theorem sq_M_send_38 {l : Launch} {G : mm_G} {a : Nat} {p0 : Int32} {p1 : Int32} {p2 : Int32} {Q : Int32 → ab_H → Prop}   : ∀ (n : Nat) (u4 : Int32) (u5 : Int32) (A : ab_H) (h : mm_H), Vw G h A → wq_M_send_38 a p0 p1 p2 Q  n u4 u5 A → mm_V l G M_M_send 0 0 38 [some (va_rf (some a)), some (.int p0), some (.int p1), some (.int p2), some (.int u4), some (.int u5)] [] h (wQI G Q) := by
  intro n
  induction n with
  | zero =>
    intro u4 u5 A h hV hw
    exact absurd hw id
  | succ n hk38 =>
    intro u4 u5 A h hV hw
    have hw : wb_M_send_38 a p0 p1 p2 Q  (wq_M_send_38 a p0 p1 p2 Q  n) u4 u5 A := hw
    unfold wb_M_send_38 at hw
    refine mm_iload (pc' := 40) d_M_send_38 rfl rfl ?_
    refine wr_if_lt hw (pc' := 43) d_M_send_40 rfl rfl (fun hw => ?_) (fun hw => ?_)
    · refine mm_iload (pc' := 79) d_M_send_77 rfl rfl ?_
      exact wr_iret hV d_M_send_79 rfl rfl hw
    · refine wr_aload_n (some a) (pc' := 44) d_M_send_43 rfl rfl rfl ?_
      refine wr_getR hV hw (pc' := 47) d_M_send_44 rfl fl_M_16 (fun r1 hw => ?_)
      refine mm_iload_n (pc' := 48) d_M_send_47 rfl rfl rfl ?_
      refine wr_aldZ hV hw (pc' := 49) d_M_send_48 rfl (fun x2 hw => ?_)
      refine wr_if_ne hw (pc' := 52) d_M_send_49 rfl rfl (fun hw => ?_) (fun hw => ?_)
      · refine mm_iload (pc' := 79) d_M_send_77 rfl rfl ?_
        exact wr_iret hV d_M_send_79 rfl rfl hw
      · refine wr_aload_n (some a) (pc' := 53) d_M_send_52 rfl rfl rfl ?_
        refine mm_iload_n (pc' := 54) d_M_send_53 rfl rfl rfl ?_
        refine mm_iload_n (pc' := 55) d_M_send_54 rfl rfl rfl ?_
        refine mm_bipush (v := 8) (pc' := 57) d_M_send_55 rfl (by decide) ?_
        refine mm_iload (pc' := 59) d_M_send_57 rfl rfl ?_
        refine mm_imul (pc' := 60) d_M_send_59 rfl ?_
        refine mm_ishr (pc' := 61) d_M_send_60 rfl ?_
        refine mm_sipush (v := 255) (pc' := 64) d_M_send_61 rfl (by decide) ?_
        refine mm_iand (pc' := 65) d_M_send_64 rfl ?_
        refine wr_cVV (pc' := 68) (as := [.int p0, .int ((p1 >>> (((8 : Int32) * u5) &&& 31)) &&& (255 : Int32))]) (st := []) d_M_send_65 rfl cs_M_281 rfl (W := fun b Q' => wp_M_arrive b p0 ((p1 >>> (((8 : Int32) * u5) &&& 31)) &&& (255 : Int32)) A Q') hV hw (fun b Q' hw => sd_M_arrive hV hw) rfl rfl (Nat.le_of_ble_eq_true rfl) (Nat.le_of_ble_eq_true rfl) (fun h A hV hw => ?_)
        refine mm_iinc4 (v := (u4 + 1)) (pc' := 71) d_M_send_68 rfl rfl rfl (Nat.le_of_ble_eq_true rfl) ?_
        refine mm_iinc5 (v := (u5 - 1)) (pc' := 74) d_M_send_71 rfl rfl (mm_dec _) (Nat.le_of_ble_eq_true rfl) ?_
        refine mm_goto (tgt := 38) d_M_send_74 rfl ?_
        exact mm_drop (mm_le.s (mm_le.s (mm_le.s (mm_le.s (mm_le.s (mm_le.s mm_le.e)))))) (hk38 _ _ _ _ hV hw)
def wp_M_send (a : Nat) (p0 : Int32) (p1 : Int32) (p2 : Int32) (A : ab_H) (Q : Int32 → ab_H → Prop) : Prop := if p0 < 0 then (Q ((-1) : Int32) A) else (if (2 : Int32) < p0 then (Q ((-1) : Int32) A) else (if p2 < (1 : Int32) then (Q ((-1) : Int32) A) else (if (4 : Int32) < p2 then (Q ((-1) : Int32) A) else (wgR A (some a) 14 2 (fun r3 => wAZ A r3 p0 (fun x4 => if x4 = 0 then (wL ((p2 - (1 : Int32))) (fun x5 => ∃ n, wq_M_send_38 a p0 p1 p2 Q n (0 : Int32) x5 A)) else (Q ((-1) : Int32) A)))))))
set_option maxRecDepth 100000 in
set_option maxHeartbeats 4000000 in
theorem sd_M_send {l : Launch} {G : mm_G} {h : mm_H} {A : ab_H} {a : Nat} {p0 : Int32} {p1 : Int32} {p2 : Int32} {Q : Int32 → ab_H → Prop} (hV : Vw G h A) (hw : wp_M_send a p0 p1 p2 A Q) : mm_S l G M_M_send [.ref a, .int p0, .int p1, .int p2] h 0 0 (wQI G Q) := by
  unfold wp_M_send at hw
  refine mm_start rfl (Nat.le_of_ble_eq_true rfl) ?_
  show mm_V l G M_M_send 0 0 0 [some (va_rf (some a)), some (.int p0), some (.int p1), some (.int p2), none, none] [] h _
  refine mm_iload_n (pc' := 1) d_M_send_0 rfl rfl rfl ?_
  refine wr_if_lt hw (pc' := 4) d_M_send_1 rfl rfl (fun hw => ?_) (fun hw => ?_)
  · refine mm_iconst (v := (-1)) (pc' := 29) d_M_send_28 rfl (by decide) ?_
    exact wr_iret hV d_M_send_29 rfl rfl hw
  · refine mm_iload_n (pc' := 5) d_M_send_4 rfl rfl rfl ?_
    refine mm_iconst (v := 2) (pc' := 6) d_M_send_5 rfl (by decide) ?_
    refine wr_icmp_gt hw (pc' := 9) d_M_send_6 rfl rfl (fun hw => ?_) (fun hw => ?_)
    · refine mm_iconst (v := (-1)) (pc' := 29) d_M_send_28 rfl (by decide) ?_
      exact wr_iret hV d_M_send_29 rfl rfl hw
    · refine mm_iload_n (pc' := 10) d_M_send_9 rfl rfl rfl ?_
      refine mm_iconst (v := 1) (pc' := 11) d_M_send_10 rfl (by decide) ?_
      refine wr_icmp_lt hw (pc' := 14) d_M_send_11 rfl rfl (fun hw => ?_) (fun hw => ?_)
      · refine mm_iconst (v := (-1)) (pc' := 29) d_M_send_28 rfl (by decide) ?_
        exact wr_iret hV d_M_send_29 rfl rfl hw
      · refine mm_iload_n (pc' := 15) d_M_send_14 rfl rfl rfl ?_
        refine mm_iconst (v := 4) (pc' := 16) d_M_send_15 rfl (by decide) ?_
        refine wr_icmp_gt hw (pc' := 19) d_M_send_16 rfl rfl (fun hw => ?_) (fun hw => ?_)
        · refine mm_iconst (v := (-1)) (pc' := 29) d_M_send_28 rfl (by decide) ?_
          exact wr_iret hV d_M_send_29 rfl rfl hw
        · refine wr_aload_n (some a) (pc' := 20) d_M_send_19 rfl rfl rfl ?_
          refine wr_getR hV hw (pc' := 23) d_M_send_20 rfl fl_M_16 (fun r3 hw => ?_)
          refine mm_iload_n (pc' := 24) d_M_send_23 rfl rfl rfl ?_
          refine wr_aldZ hV hw (pc' := 25) d_M_send_24 rfl (fun x4 hw => ?_)
          refine wr_if_eq hw (pc' := 28) d_M_send_25 rfl rfl (fun hw => ?_) (fun hw => ?_)
          · refine mm_iconst (v := 0) (pc' := 31) d_M_send_30 rfl (by decide) ?_
            refine mm_ist4 (pc' := 33) d_M_send_31 rfl rfl (Nat.le_of_ble_eq_true rfl) ?_
            refine mm_iload_n (pc' := 34) d_M_send_33 rfl rfl rfl ?_
            refine mm_iconst (v := 1) (pc' := 35) d_M_send_34 rfl (by decide) ?_
            refine mm_isub (pc' := 36) d_M_send_35 rfl ?_
            refine wr_let (P := fun z => mm_V l G M_M_send 0 0 36 [some (va_rf (some a)), some (.int p0), some (.int p1), some (.int p2), some (.int (0 : Int32)), none] (.int z :: []) h _) hw (fun x5 hw => ?_)
            refine mm_ist5 (pc' := 38) d_M_send_36 rfl rfl (Nat.le_of_ble_eq_true rfl) ?_
            obtain ⟨n, hw⟩ := hw
            exact mm_drop (mm_le.s (mm_le.s (mm_le.s (mm_le.s (mm_le.s (mm_le.s mm_le.e)))))) (sq_M_send_38  n _ _ _ _ hV hw)
          · refine mm_iconst (v := (-1)) (pc' := 29) d_M_send_28 rfl (by decide) ?_
            exact wr_iret hV d_M_send_29 rfl rfl hw
theorem d_M_open_0 : decode prog_14_method_50_code 0 = .ok (.iload_n 1, 1) := by decide +kernel
theorem d_M_open_1 : decode prog_14_method_50_code 1 = .ok (.ifCond .lt 8, 3) := by decide +kernel
theorem d_M_open_4 : decode prog_14_method_50_code 4 = .ok (.iload_n 1, 1) := by decide +kernel
theorem d_M_open_5 : decode prog_14_method_50_code 5 = .ok (.iconst 2, 1) := by decide +kernel
theorem d_M_open_6 : decode prog_14_method_50_code 6 = .ok (.if_icmp .le 5, 3) := by decide +kernel
theorem d_M_open_9 : decode prog_14_method_50_code 9 = .ok (.iconst 0, 1) := by decide +kernel
theorem d_M_open_10 : decode prog_14_method_50_code 10 = .ok (.ireturn, 1) := by decide +kernel
theorem d_M_open_11 : decode prog_14_method_50_code 11 = .ok (.aload_n 0, 1) := by decide +kernel
theorem d_M_open_12 : decode prog_14_method_50_code 12 = .ok (.getfield 16, 3) := by decide +kernel
theorem d_M_open_15 : decode prog_14_method_50_code 15 = .ok (.iload_n 1, 1) := by decide +kernel
theorem d_M_open_16 : decode prog_14_method_50_code 16 = .ok (.iconst 0, 1) := by decide +kernel
theorem d_M_open_17 : decode prog_14_method_50_code 17 = .ok (.bastore, 1) := by decide +kernel
theorem d_M_open_18 : decode prog_14_method_50_code 18 = .ok (.aload_n 0, 1) := by decide +kernel
theorem d_M_open_19 : decode prog_14_method_50_code 19 = .ok (.getfield 13, 3) := by decide +kernel
theorem d_M_open_22 : decode prog_14_method_50_code 22 = .ok (.iload_n 1, 1) := by decide +kernel
theorem d_M_open_23 : decode prog_14_method_50_code 23 = .ok (.iconst 0, 1) := by decide +kernel
theorem d_M_open_24 : decode prog_14_method_50_code 24 = .ok (.iastore, 1) := by decide +kernel
theorem d_M_open_25 : decode prog_14_method_50_code 25 = .ok (.aload_n 0, 1) := by decide +kernel
theorem d_M_open_26 : decode prog_14_method_50_code 26 = .ok (.getfield 23, 3) := by decide +kernel
theorem d_M_open_29 : decode prog_14_method_50_code 29 = .ok (.iload_n 1, 1) := by decide +kernel
theorem d_M_open_30 : decode prog_14_method_50_code 30 = .ok (.iconst 0, 1) := by decide +kernel
theorem d_M_open_31 : decode prog_14_method_50_code 31 = .ok (.iastore, 1) := by decide +kernel
theorem d_M_open_32 : decode prog_14_method_50_code 32 = .ok (.iconst 1, 1) := by decide +kernel
theorem d_M_open_33 : decode prog_14_method_50_code 33 = .ok (.ireturn, 1) := by decide +kernel
def wp_M_open (a : Nat) (p0 : Int32) (A : ab_H) (Q : Int32 → ab_H → Prop) : Prop := if p0 < 0 then (Q (0 : Int32) A) else (if p0 ≤ (2 : Int32) then (wgR A (some a) 14 2 (fun r1 => wSZ A r1 p0 (0 : Int32) (fun A => wgR A (some a) 14 1 (fun r2 => wSI A r2 p0 (0 : Int32) (fun A => wgR A (some a) 14 4 (fun r3 => wSI A r3 p0 (0 : Int32) (fun A => Q (1 : Int32) A))))))) else (Q (0 : Int32) A))
set_option maxRecDepth 100000 in
set_option maxHeartbeats 4000000 in
theorem sd_M_open {l : Launch} {G : mm_G} {h : mm_H} {A : ab_H} {a : Nat} {p0 : Int32} {Q : Int32 → ab_H → Prop} (hV : Vw G h A) (hw : wp_M_open a p0 A Q) : mm_S l G M_M_open [.ref a, .int p0] h 0 0 (wQI G Q) := by
  unfold wp_M_open at hw
  refine mm_start rfl (Nat.le_of_ble_eq_true rfl) ?_
  show mm_V l G M_M_open 0 0 0 [some (va_rf (some a)), some (.int p0)] [] h _
  refine mm_iload_n (pc' := 1) d_M_open_0 rfl rfl rfl ?_
  refine wr_if_lt hw (pc' := 4) d_M_open_1 rfl rfl (fun hw => ?_) (fun hw => ?_)
  · refine mm_iconst (v := 0) (pc' := 10) d_M_open_9 rfl (by decide) ?_
    exact wr_iret hV d_M_open_10 rfl rfl hw
  · refine mm_iload_n (pc' := 5) d_M_open_4 rfl rfl rfl ?_
    refine mm_iconst (v := 2) (pc' := 6) d_M_open_5 rfl (by decide) ?_
    refine wr_icmp_le hw (pc' := 9) d_M_open_6 rfl rfl (fun hw => ?_) (fun hw => ?_)
    · refine wr_aload_n (some a) (pc' := 12) d_M_open_11 rfl rfl rfl ?_
      refine wr_getR hV hw (pc' := 15) d_M_open_12 rfl fl_M_16 (fun r1 hw => ?_)
      refine mm_iload_n (pc' := 16) d_M_open_15 rfl rfl rfl ?_
      refine mm_iconst (v := 0) (pc' := 17) d_M_open_16 rfl (by decide) ?_
      refine wr_astZ hV hw (pc' := 18) d_M_open_17 rfl (fun h A hV hw => ?_)
      refine wr_aload_n (some a) (pc' := 19) d_M_open_18 rfl rfl rfl ?_
      refine wr_getR hV hw (pc' := 22) d_M_open_19 rfl fl_M_13 (fun r2 hw => ?_)
      refine mm_iload_n (pc' := 23) d_M_open_22 rfl rfl rfl ?_
      refine mm_iconst (v := 0) (pc' := 24) d_M_open_23 rfl (by decide) ?_
      refine wr_astI hV hw (pc' := 25) d_M_open_24 rfl (fun h A hV hw => ?_)
      refine wr_aload_n (some a) (pc' := 26) d_M_open_25 rfl rfl rfl ?_
      refine wr_getR hV hw (pc' := 29) d_M_open_26 rfl fl_M_23 (fun r3 hw => ?_)
      refine mm_iload_n (pc' := 30) d_M_open_29 rfl rfl rfl ?_
      refine mm_iconst (v := 0) (pc' := 31) d_M_open_30 rfl (by decide) ?_
      refine wr_astI hV hw (pc' := 32) d_M_open_31 rfl (fun h A hV hw => ?_)
      refine mm_iconst (v := 1) (pc' := 33) d_M_open_32 rfl (by decide) ?_
      exact wr_iret hV d_M_open_33 rfl rfl hw
    · refine mm_iconst (v := 0) (pc' := 10) d_M_open_9 rfl (by decide) ?_
      exact wr_iret hV d_M_open_10 rfl rfl hw
theorem d_M_isOpen_0 : decode prog_14_method_51_code 0 = .ok (.iload_n 1, 1) := by decide +kernel
theorem d_M_isOpen_1 : decode prog_14_method_51_code 1 = .ok (.ifCond .lt 21, 3) := by decide +kernel
theorem d_M_isOpen_4 : decode prog_14_method_51_code 4 = .ok (.iload_n 1, 1) := by decide +kernel
theorem d_M_isOpen_5 : decode prog_14_method_51_code 5 = .ok (.iconst 2, 1) := by decide +kernel
theorem d_M_isOpen_6 : decode prog_14_method_51_code 6 = .ok (.if_icmp .gt 16, 3) := by decide +kernel
theorem d_M_isOpen_9 : decode prog_14_method_51_code 9 = .ok (.aload_n 0, 1) := by decide +kernel
theorem d_M_isOpen_10 : decode prog_14_method_51_code 10 = .ok (.getfield 16, 3) := by decide +kernel
theorem d_M_isOpen_13 : decode prog_14_method_51_code 13 = .ok (.iload_n 1, 1) := by decide +kernel
theorem d_M_isOpen_14 : decode prog_14_method_51_code 14 = .ok (.baload, 1) := by decide +kernel
theorem d_M_isOpen_15 : decode prog_14_method_51_code 15 = .ok (.ifCond .ne 7, 3) := by decide +kernel
theorem d_M_isOpen_18 : decode prog_14_method_51_code 18 = .ok (.iconst 1, 1) := by decide +kernel
theorem d_M_isOpen_19 : decode prog_14_method_51_code 19 = .ok (.goto 4, 3) := by decide +kernel
theorem d_M_isOpen_22 : decode prog_14_method_51_code 22 = .ok (.iconst 0, 1) := by decide +kernel
theorem d_M_isOpen_23 : decode prog_14_method_51_code 23 = .ok (.ireturn, 1) := by decide +kernel
def wp_M_isOpen (a : Nat) (p0 : Int32) (A : ab_H) (Q : Int32 → ab_H → Prop) : Prop := if p0 < 0 then (Q (0 : Int32) A) else (if (2 : Int32) < p0 then (Q (0 : Int32) A) else (wgR A (some a) 14 2 (fun r1 => wAZ A r1 p0 (fun x2 => if x2 = 0 then (Q (1 : Int32) A) else (Q (0 : Int32) A)))))
set_option maxRecDepth 100000 in
set_option maxHeartbeats 4000000 in
theorem sd_M_isOpen {l : Launch} {G : mm_G} {h : mm_H} {A : ab_H} {a : Nat} {p0 : Int32} {Q : Int32 → ab_H → Prop} (hV : Vw G h A) (hw : wp_M_isOpen a p0 A Q) : mm_S l G M_M_isOpen [.ref a, .int p0] h 0 0 (wQI G Q) := by
  unfold wp_M_isOpen at hw
  refine mm_start rfl (Nat.le_of_ble_eq_true rfl) ?_
  show mm_V l G M_M_isOpen 0 0 0 [some (va_rf (some a)), some (.int p0)] [] h _
  refine mm_iload_n (pc' := 1) d_M_isOpen_0 rfl rfl rfl ?_
  refine wr_if_lt hw (pc' := 4) d_M_isOpen_1 rfl rfl (fun hw => ?_) (fun hw => ?_)
  · refine mm_iconst (v := 0) (pc' := 23) d_M_isOpen_22 rfl (by decide) ?_
    exact wr_iret hV d_M_isOpen_23 rfl rfl hw
  · refine mm_iload_n (pc' := 5) d_M_isOpen_4 rfl rfl rfl ?_
    refine mm_iconst (v := 2) (pc' := 6) d_M_isOpen_5 rfl (by decide) ?_
    refine wr_icmp_gt hw (pc' := 9) d_M_isOpen_6 rfl rfl (fun hw => ?_) (fun hw => ?_)
    · refine mm_iconst (v := 0) (pc' := 23) d_M_isOpen_22 rfl (by decide) ?_
      exact wr_iret hV d_M_isOpen_23 rfl rfl hw
    · refine wr_aload_n (some a) (pc' := 10) d_M_isOpen_9 rfl rfl rfl ?_
      refine wr_getR hV hw (pc' := 13) d_M_isOpen_10 rfl fl_M_16 (fun r1 hw => ?_)
      refine mm_iload_n (pc' := 14) d_M_isOpen_13 rfl rfl rfl ?_
      refine wr_aldZ hV hw (pc' := 15) d_M_isOpen_14 rfl (fun x2 hw => ?_)
      refine wr_if_ne hw (pc' := 18) d_M_isOpen_15 rfl rfl (fun hw => ?_) (fun hw => ?_)
      · refine mm_iconst (v := 0) (pc' := 23) d_M_isOpen_22 rfl (by decide) ?_
        exact wr_iret hV d_M_isOpen_23 rfl rfl hw
      · refine mm_iconst (v := 1) (pc' := 19) d_M_isOpen_18 rfl (by decide) ?_
        refine mm_goto (tgt := 23) d_M_isOpen_19 rfl ?_
        exact wr_iret hV d_M_isOpen_23 rfl rfl hw
theorem d_M_size_0 : decode prog_14_method_52_code 0 = .ok (.iload_n 1, 1) := by decide +kernel
theorem d_M_size_1 : decode prog_14_method_52_code 1 = .ok (.ifCond .lt 8, 3) := by decide +kernel
theorem d_M_size_4 : decode prog_14_method_52_code 4 = .ok (.iload_n 1, 1) := by decide +kernel
theorem d_M_size_5 : decode prog_14_method_52_code 5 = .ok (.iconst 2, 1) := by decide +kernel
theorem d_M_size_6 : decode prog_14_method_52_code 6 = .ok (.if_icmp .le 7, 3) := by decide +kernel
theorem d_M_size_9 : decode prog_14_method_52_code 9 = .ok (.iconst 0, 1) := by decide +kernel
theorem d_M_size_10 : decode prog_14_method_52_code 10 = .ok (.goto 9, 3) := by decide +kernel
theorem d_M_size_13 : decode prog_14_method_52_code 13 = .ok (.aload_n 0, 1) := by decide +kernel
theorem d_M_size_14 : decode prog_14_method_52_code 14 = .ok (.getfield 23, 3) := by decide +kernel
theorem d_M_size_17 : decode prog_14_method_52_code 17 = .ok (.iload_n 1, 1) := by decide +kernel
theorem d_M_size_18 : decode prog_14_method_52_code 18 = .ok (.iaload, 1) := by decide +kernel
theorem d_M_size_19 : decode prog_14_method_52_code 19 = .ok (.ireturn, 1) := by decide +kernel
def wp_M_size (a : Nat) (p0 : Int32) (A : ab_H) (Q : Int32 → ab_H → Prop) : Prop := if p0 < 0 then (Q (0 : Int32) A) else (if p0 ≤ (2 : Int32) then (wgR A (some a) 14 4 (fun r1 => wAI A r1 p0 (fun x2 => Q x2 A))) else (Q (0 : Int32) A))
set_option maxRecDepth 100000 in
set_option maxHeartbeats 4000000 in
theorem sd_M_size {l : Launch} {G : mm_G} {h : mm_H} {A : ab_H} {a : Nat} {p0 : Int32} {Q : Int32 → ab_H → Prop} (hV : Vw G h A) (hw : wp_M_size a p0 A Q) : mm_S l G M_M_size [.ref a, .int p0] h 0 0 (wQI G Q) := by
  unfold wp_M_size at hw
  refine mm_start rfl (Nat.le_of_ble_eq_true rfl) ?_
  show mm_V l G M_M_size 0 0 0 [some (va_rf (some a)), some (.int p0)] [] h _
  refine mm_iload_n (pc' := 1) d_M_size_0 rfl rfl rfl ?_
  refine wr_if_lt hw (pc' := 4) d_M_size_1 rfl rfl (fun hw => ?_) (fun hw => ?_)
  · refine mm_iconst (v := 0) (pc' := 10) d_M_size_9 rfl (by decide) ?_
    refine mm_goto (tgt := 19) d_M_size_10 rfl ?_
    exact wr_iret hV d_M_size_19 rfl rfl hw
  · refine mm_iload_n (pc' := 5) d_M_size_4 rfl rfl rfl ?_
    refine mm_iconst (v := 2) (pc' := 6) d_M_size_5 rfl (by decide) ?_
    refine wr_icmp_le hw (pc' := 9) d_M_size_6 rfl rfl (fun hw => ?_) (fun hw => ?_)
    · refine wr_aload_n (some a) (pc' := 14) d_M_size_13 rfl rfl rfl ?_
      refine wr_getR hV hw (pc' := 17) d_M_size_14 rfl fl_M_23 (fun r1 hw => ?_)
      refine mm_iload_n (pc' := 18) d_M_size_17 rfl rfl rfl ?_
      refine wr_aldI hV hw (pc' := 19) d_M_size_18 rfl (fun x2 hw => ?_)
      exact wr_iret hV d_M_size_19 rfl rfl hw
    · refine mm_iconst (v := 0) (pc' := 10) d_M_size_9 rfl (by decide) ?_
      refine mm_goto (tgt := 19) d_M_size_10 rfl ?_
      exact wr_iret hV d_M_size_19 rfl rfl hw
theorem d_M_at_0 : decode prog_14_method_53_code 0 = .ok (.iload_n 2, 1) := by decide +kernel
theorem d_M_at_1 : decode prog_14_method_53_code 1 = .ok (.ifCond .lt 12, 3) := by decide +kernel
theorem d_M_at_4 : decode prog_14_method_53_code 4 = .ok (.iload_n 2, 1) := by decide +kernel
theorem d_M_at_5 : decode prog_14_method_53_code 5 = .ok (.aload_n 0, 1) := by decide +kernel
theorem d_M_at_6 : decode prog_14_method_53_code 6 = .ok (.iload_n 1, 1) := by decide +kernel
theorem d_M_at_7 : decode prog_14_method_53_code 7 = .ok (.invokevirtual 284, 3) := by decide +kernel
theorem d_M_at_10 : decode prog_14_method_53_code 10 = .ok (.if_icmp .lt 7, 3) := by decide +kernel
theorem d_M_at_13 : decode prog_14_method_53_code 13 = .ok (.iconst (-1), 1) := by decide +kernel
theorem d_M_at_14 : decode prog_14_method_53_code 14 = .ok (.goto 14, 3) := by decide +kernel
theorem d_M_at_17 : decode prog_14_method_53_code 17 = .ok (.aload_n 0, 1) := by decide +kernel
theorem d_M_at_18 : decode prog_14_method_53_code 18 = .ok (.getfield 20, 3) := by decide +kernel
theorem d_M_at_21 : decode prog_14_method_53_code 21 = .ok (.bipush 80, 2) := by decide +kernel
theorem d_M_at_23 : decode prog_14_method_53_code 23 = .ok (.iload_n 1, 1) := by decide +kernel
theorem d_M_at_24 : decode prog_14_method_53_code 24 = .ok (.imul, 1) := by decide +kernel
theorem d_M_at_25 : decode prog_14_method_53_code 25 = .ok (.iload_n 2, 1) := by decide +kernel
theorem d_M_at_26 : decode prog_14_method_53_code 26 = .ok (.iadd, 1) := by decide +kernel
theorem d_M_at_27 : decode prog_14_method_53_code 27 = .ok (.iaload, 1) := by decide +kernel
theorem d_M_at_28 : decode prog_14_method_53_code 28 = .ok (.ireturn, 1) := by decide +kernel
def wp_M_at (a : Nat) (p0 : Int32) (p1 : Int32) (A : ab_H) (Q : Int32 → ab_H → Prop) : Prop := if p1 < 0 then (Q ((-1) : Int32) A) else (wC A (some a) 14 (fun b => wp_M_size b p0 A (fun x1 A => if p1 < x1 then (wgR A (some a) 14 3 (fun r2 => wAI A r2 (((80 : Int32) * p0) + p1) (fun x3 => Q x3 A))) else (Q ((-1) : Int32) A))))
set_option maxRecDepth 100000 in
set_option maxHeartbeats 4000000 in
theorem sd_M_at {l : Launch} {G : mm_G} {h : mm_H} {A : ab_H} {a : Nat} {p0 : Int32} {p1 : Int32} {Q : Int32 → ab_H → Prop} (hV : Vw G h A) (hw : wp_M_at a p0 p1 A Q) : mm_S l G M_M_at [.ref a, .int p0, .int p1] h 0 0 (wQI G Q) := by
  unfold wp_M_at at hw
  refine mm_start rfl (Nat.le_of_ble_eq_true rfl) ?_
  show mm_V l G M_M_at 0 0 0 [some (va_rf (some a)), some (.int p0), some (.int p1)] [] h _
  refine mm_iload_n (pc' := 1) d_M_at_0 rfl rfl rfl ?_
  refine wr_if_lt hw (pc' := 4) d_M_at_1 rfl rfl (fun hw => ?_) (fun hw => ?_)
  · refine mm_iconst (v := (-1)) (pc' := 14) d_M_at_13 rfl (by decide) ?_
    refine mm_goto (tgt := 28) d_M_at_14 rfl ?_
    exact wr_iret hV d_M_at_28 rfl rfl hw
  · refine mm_iload_n (pc' := 5) d_M_at_4 rfl rfl rfl ?_
    refine wr_aload_n (some a) (pc' := 6) d_M_at_5 rfl rfl rfl ?_
    refine mm_iload_n (pc' := 7) d_M_at_6 rfl rfl rfl ?_
    refine wr_cVI (pc' := 10) (as := [.int p0]) (st := [.int p1]) d_M_at_7 rfl cs_M_284 rfl (W := fun b Q' => wp_M_size b p0 A Q') hV hw (fun b Q' hw => sd_M_size hV hw) rfl rfl (Nat.le_of_ble_eq_true rfl) (Nat.le_of_ble_eq_true rfl) (fun x1 h A hV hw => ?_)
    refine wr_icmp_lt hw (pc' := 13) d_M_at_10 rfl rfl (fun hw => ?_) (fun hw => ?_)
    · refine wr_aload_n (some a) (pc' := 18) d_M_at_17 rfl rfl rfl ?_
      refine wr_getR hV hw (pc' := 21) d_M_at_18 rfl fl_M_20 (fun r2 hw => ?_)
      refine mm_bipush (v := 80) (pc' := 23) d_M_at_21 rfl (by decide) ?_
      refine mm_iload_n (pc' := 24) d_M_at_23 rfl rfl rfl ?_
      refine mm_imul (pc' := 25) d_M_at_24 rfl ?_
      refine mm_iload_n (pc' := 26) d_M_at_25 rfl rfl rfl ?_
      refine mm_iadd (pc' := 27) d_M_at_26 rfl ?_
      refine wr_aldI hV hw (pc' := 28) d_M_at_27 rfl (fun x3 hw => ?_)
      exact wr_iret hV d_M_at_28 rfl rfl hw
    · refine mm_iconst (v := (-1)) (pc' := 14) d_M_at_13 rfl (by decide) ?_
      refine mm_goto (tgt := 28) d_M_at_14 rfl ?_
      exact wr_iret hV d_M_at_28 rfl rfl hw
theorem d_M_type_0 : decode prog_14_method_54_code 0 = .ok (.iload_n 2, 1) := by decide +kernel
theorem d_M_type_1 : decode prog_14_method_54_code 1 = .ok (.iconst 1, 1) := by decide +kernel
theorem d_M_type_2 : decode prog_14_method_54_code 2 = .ok (.if_icmp .lt 23, 3) := by decide +kernel
theorem d_M_type_5 : decode prog_14_method_54_code 5 = .ok (.iload_n 2, 1) := by decide +kernel
theorem d_M_type_6 : decode prog_14_method_54_code 6 = .ok (.iconst 4, 1) := by decide +kernel
theorem d_M_type_7 : decode prog_14_method_54_code 7 = .ok (.if_icmp .gt 18, 3) := by decide +kernel
theorem d_M_type_10 : decode prog_14_method_54_code 10 = .ok (.aload_n 0, 1) := by decide +kernel
theorem d_M_type_11 : decode prog_14_method_54_code 11 = .ok (.getfield 286, 3) := by decide +kernel
theorem d_M_type_14 : decode prog_14_method_54_code 14 = .ok (.iload_n 2, 1) := by decide +kernel
theorem d_M_type_15 : decode prog_14_method_54_code 15 = .ok (.iadd, 1) := by decide +kernel
theorem d_M_type_16 : decode prog_14_method_54_code 16 = .ok (.bipush 40, 2) := by decide +kernel
theorem d_M_type_18 : decode prog_14_method_54_code 18 = .ok (.if_icmp .gt 7, 3) := by decide +kernel
theorem d_M_type_21 : decode prog_14_method_54_code 21 = .ok (.iconst 1, 1) := by decide +kernel
theorem d_M_type_22 : decode prog_14_method_54_code 22 = .ok (.goto 4, 3) := by decide +kernel
theorem d_M_type_25 : decode prog_14_method_54_code 25 = .ok (.iconst 0, 1) := by decide +kernel
theorem d_M_type_26 : decode prog_14_method_54_code 26 = .ok (.istore_n 3, 1) := by decide +kernel
theorem d_M_type_27 : decode prog_14_method_54_code 27 = .ok (.iconst 0, 1) := by decide +kernel
theorem d_M_type_28 : decode prog_14_method_54_code 28 = .ok (.istore 4, 2) := by decide +kernel
theorem d_M_type_30 : decode prog_14_method_54_code 30 = .ok (.iload 4, 2) := by decide +kernel
theorem d_M_type_32 : decode prog_14_method_54_code 32 = .ok (.iload_n 2, 1) := by decide +kernel
theorem d_M_type_33 : decode prog_14_method_54_code 33 = .ok (.if_icmp .ge 51, 3) := by decide +kernel
theorem d_M_type_36 : decode prog_14_method_54_code 36 = .ok (.iload_n 3, 1) := by decide +kernel
theorem d_M_type_37 : decode prog_14_method_54_code 37 = .ok (.ifCond .eq 47, 3) := by decide +kernel
theorem d_M_type_40 : decode prog_14_method_54_code 40 = .ok (.iload_n 1, 1) := by decide +kernel
theorem d_M_type_41 : decode prog_14_method_54_code 41 = .ok (.bipush 8, 2) := by decide +kernel
theorem d_M_type_43 : decode prog_14_method_54_code 43 = .ok (.iload 4, 2) := by decide +kernel
theorem d_M_type_45 : decode prog_14_method_54_code 45 = .ok (.imul, 1) := by decide +kernel
theorem d_M_type_46 : decode prog_14_method_54_code 46 = .ok (.ishr, 1) := by decide +kernel
theorem d_M_type_47 : decode prog_14_method_54_code 47 = .ok (.sipush 255, 3) := by decide +kernel
theorem d_M_type_50 : decode prog_14_method_54_code 50 = .ok (.iand, 1) := by decide +kernel
theorem d_M_type_51 : decode prog_14_method_54_code 51 = .ok (.bipush 32, 2) := by decide +kernel
theorem d_M_type_53 : decode prog_14_method_54_code 53 = .ok (.if_icmp .lt 23, 3) := by decide +kernel
theorem d_M_type_56 : decode prog_14_method_54_code 56 = .ok (.iload_n 1, 1) := by decide +kernel
theorem d_M_type_57 : decode prog_14_method_54_code 57 = .ok (.bipush 8, 2) := by decide +kernel
theorem d_M_type_59 : decode prog_14_method_54_code 59 = .ok (.iload 4, 2) := by decide +kernel
theorem d_M_type_61 : decode prog_14_method_54_code 61 = .ok (.imul, 1) := by decide +kernel
theorem d_M_type_62 : decode prog_14_method_54_code 62 = .ok (.ishr, 1) := by decide +kernel
theorem d_M_type_63 : decode prog_14_method_54_code 63 = .ok (.sipush 255, 3) := by decide +kernel
theorem d_M_type_66 : decode prog_14_method_54_code 66 = .ok (.iand, 1) := by decide +kernel
theorem d_M_type_67 : decode prog_14_method_54_code 67 = .ok (.bipush 126, 2) := by decide +kernel
theorem d_M_type_69 : decode prog_14_method_54_code 69 = .ok (.if_icmp .gt 7, 3) := by decide +kernel
theorem d_M_type_72 : decode prog_14_method_54_code 72 = .ok (.iconst 1, 1) := by decide +kernel
theorem d_M_type_73 : decode prog_14_method_54_code 73 = .ok (.goto 4, 3) := by decide +kernel
theorem d_M_type_76 : decode prog_14_method_54_code 76 = .ok (.iconst 0, 1) := by decide +kernel
theorem d_M_type_77 : decode prog_14_method_54_code 77 = .ok (.istore_n 3, 1) := by decide +kernel
theorem d_M_type_78 : decode prog_14_method_54_code 78 = .ok (.iinc 4 1, 3) := by decide +kernel
theorem d_M_type_81 : decode prog_14_method_54_code 81 = .ok (.goto (-51), 3) := by decide +kernel
theorem d_M_type_84 : decode prog_14_method_54_code 84 = .ok (.iload_n 2, 1) := by decide +kernel
theorem d_M_type_85 : decode prog_14_method_54_code 85 = .ok (.iconst 1, 1) := by decide +kernel
theorem d_M_type_86 : decode prog_14_method_54_code 86 = .ok (.isub, 1) := by decide +kernel
theorem d_M_type_87 : decode prog_14_method_54_code 87 = .ok (.istore 4, 2) := by decide +kernel
theorem d_M_type_89 : decode prog_14_method_54_code 89 = .ok (.iload 4, 2) := by decide +kernel
theorem d_M_type_91 : decode prog_14_method_54_code 91 = .ok (.ifCond .lt 43, 3) := by decide +kernel
theorem d_M_type_94 : decode prog_14_method_54_code 94 = .ok (.iload_n 3, 1) := by decide +kernel
theorem d_M_type_95 : decode prog_14_method_54_code 95 = .ok (.ifCond .eq 39, 3) := by decide +kernel
theorem d_M_type_98 : decode prog_14_method_54_code 98 = .ok (.aload_n 0, 1) := by decide +kernel
theorem d_M_type_99 : decode prog_14_method_54_code 99 = .ok (.getfield 32, 3) := by decide +kernel
theorem d_M_type_102 : decode prog_14_method_54_code 102 = .ok (.aload_n 0, 1) := by decide +kernel
theorem d_M_type_103 : decode prog_14_method_54_code 103 = .ok (.getfield 286, 3) := by decide +kernel
theorem d_M_type_106 : decode prog_14_method_54_code 106 = .ok (.iload_n 1, 1) := by decide +kernel
theorem d_M_type_107 : decode prog_14_method_54_code 107 = .ok (.bipush 8, 2) := by decide +kernel
theorem d_M_type_109 : decode prog_14_method_54_code 109 = .ok (.iload 4, 2) := by decide +kernel
theorem d_M_type_111 : decode prog_14_method_54_code 111 = .ok (.imul, 1) := by decide +kernel
theorem d_M_type_112 : decode prog_14_method_54_code 112 = .ok (.ishr, 1) := by decide +kernel
theorem d_M_type_113 : decode prog_14_method_54_code 113 = .ok (.sipush 255, 3) := by decide +kernel
theorem d_M_type_116 : decode prog_14_method_54_code 116 = .ok (.iand, 1) := by decide +kernel
theorem d_M_type_117 : decode prog_14_method_54_code 117 = .ok (.iastore, 1) := by decide +kernel
theorem d_M_type_118 : decode prog_14_method_54_code 118 = .ok (.aload_n 0, 1) := by decide +kernel
theorem d_M_type_119 : decode prog_14_method_54_code 119 = .ok (.dup, 1) := by decide +kernel
theorem d_M_type_120 : decode prog_14_method_54_code 120 = .ok (.getfield 286, 3) := by decide +kernel
theorem d_M_type_123 : decode prog_14_method_54_code 123 = .ok (.iconst 1, 1) := by decide +kernel
theorem d_M_type_124 : decode prog_14_method_54_code 124 = .ok (.iadd, 1) := by decide +kernel
theorem d_M_type_125 : decode prog_14_method_54_code 125 = .ok (.putfield 286, 3) := by decide +kernel
theorem d_M_type_128 : decode prog_14_method_54_code 128 = .ok (.iinc 4 (-1), 3) := by decide +kernel
theorem d_M_type_131 : decode prog_14_method_54_code 131 = .ok (.goto (-42), 3) := by decide +kernel
theorem d_M_type_134 : decode prog_14_method_54_code 134 = .ok (.iload_n 3, 1) := by decide +kernel
theorem d_M_type_135 : decode prog_14_method_54_code 135 = .ok (.ireturn, 1) := by decide +kernel
def wb_M_type_89 (a : Nat) (p0 : Int32) (p1 : Int32) (Q : Int32 → ab_H → Prop)  (k89 : Int32 → Int32 → ab_H → Prop) (u3 : Int32) (u4 : Int32) (A : ab_H) : Prop := if u4 < 0 then (wB u3 (Q u3 A)) else (if u3 = 0 then (wB u3 (Q u3 A)) else (wgR A (some a) 14 9 (fun r1 => wgI A (some a) 14 10 (fun x2 => wSI A r1 x2 ((p0 >>> (((8 : Int32) * u4) &&& 31)) &&& (255 : Int32)) (fun A => wgI A (some a) 14 10 (fun x3 => wp A (some a) 14 10 (.int (x3 + (1 : Int32))) (fun A => k89 u3 (u4 - 1) A)))))))
def wq_M_type_89 (a : Nat) (p0 : Int32) (p1 : Int32) (Q : Int32 → ab_H → Prop)  : Nat → Int32 → Int32 → ab_H → Prop
  | 0 => fun _ _ _ => False
  | n + 1 => wb_M_type_89 a p0 p1 Q  (wq_M_type_89 a p0 p1 Q  n)
set_option maxRecDepth 100000 in
set_option maxHeartbeats 4000000 in
theorem sq_M_type_89 {l : Launch} {G : mm_G} {a : Nat} {p0 : Int32} {p1 : Int32} {Q : Int32 → ab_H → Prop}   : ∀ (n : Nat) (u3 : Int32) (u4 : Int32) (A : ab_H) (h : mm_H), Vw G h A → wq_M_type_89 a p0 p1 Q  n u3 u4 A → mm_V l G M_M_type 0 0 89 [some (va_rf (some a)), some (.int p0), some (.int p1), some (.int u3), some (.int u4)] [] h (wQI G Q) := by
  intro n
  induction n with
  | zero =>
    intro u3 u4 A h hV hw
    exact absurd hw id
  | succ n hk89 =>
    intro u3 u4 A h hV hw
    have hw : wb_M_type_89 a p0 p1 Q  (wq_M_type_89 a p0 p1 Q  n) u3 u4 A := hw
    unfold wb_M_type_89 at hw
    refine mm_iload (pc' := 91) d_M_type_89 rfl rfl ?_
    refine wr_if_lt hw (pc' := 94) d_M_type_91 rfl rfl (fun hw => ?_) (fun hw => ?_)
    · refine mm_iload_n (pc' := 135) d_M_type_134 rfl rfl rfl ?_
      obtain ⟨hb, hw⟩ := hw
      exact wr_iret hV d_M_type_135 rfl (wn_b hb) hw
    · refine mm_iload_n (pc' := 95) d_M_type_94 rfl rfl rfl ?_
      refine wr_if_eq hw (pc' := 98) d_M_type_95 rfl rfl (fun hw => ?_) (fun hw => ?_)
      · refine mm_iload_n (pc' := 135) d_M_type_134 rfl rfl rfl ?_
        obtain ⟨hb, hw⟩ := hw
        exact wr_iret hV d_M_type_135 rfl (wn_b hb) hw
      · refine wr_aload_n (some a) (pc' := 99) d_M_type_98 rfl rfl rfl ?_
        refine wr_getR hV hw (pc' := 102) d_M_type_99 rfl fl_M_32 (fun r1 hw => ?_)
        refine wr_aload_n (some a) (pc' := 103) d_M_type_102 rfl rfl rfl ?_
        refine wr_getI hV hw (pc' := 106) d_M_type_103 rfl fl_M_286 (fun x2 hw => ?_)
        refine mm_iload_n (pc' := 107) d_M_type_106 rfl rfl rfl ?_
        refine mm_bipush (v := 8) (pc' := 109) d_M_type_107 rfl (by decide) ?_
        refine mm_iload (pc' := 111) d_M_type_109 rfl rfl ?_
        refine mm_imul (pc' := 112) d_M_type_111 rfl ?_
        refine mm_ishr (pc' := 113) d_M_type_112 rfl ?_
        refine mm_sipush (v := 255) (pc' := 116) d_M_type_113 rfl (by decide) ?_
        refine mm_iand (pc' := 117) d_M_type_116 rfl ?_
        refine wr_astI hV hw (pc' := 118) d_M_type_117 rfl (fun h A hV hw => ?_)
        refine wr_aload_n (some a) (pc' := 119) d_M_type_118 rfl rfl rfl ?_
        refine mm_dup (pc' := 120) d_M_type_119 rfl (wr_cat _) ?_
        refine wr_getI hV hw (pc' := 123) d_M_type_120 rfl fl_M_286 (fun x3 hw => ?_)
        refine mm_iconst (v := 1) (pc' := 124) d_M_type_123 rfl (by decide) ?_
        refine mm_iadd (pc' := 125) d_M_type_124 rfl ?_
        refine wr_put hV hw (pc' := 128) d_M_type_125 rfl pl_M_type_286 (Nat.le_of_ble_eq_true rfl) (wn_I _) (fun h A hV hw => ?_)
        refine mm_iinc4 (v := (u4 - 1)) (pc' := 131) d_M_type_128 rfl rfl (mm_dec _) (Nat.le_of_ble_eq_true rfl) ?_
        refine mm_goto (tgt := 89) d_M_type_131 rfl ?_
        exact mm_drop (mm_le.s (mm_le.s (mm_le.s (mm_le.s (mm_le.s mm_le.e))))) (hk89 _ _ _ _ hV hw)
def wq_M_type_84 (a : Nat) (p0 : Int32) (p1 : Int32) (Q : Int32 → ab_H → Prop)  (u3 : Int32) (A : ab_H) : Prop := wL ((p1 - (1 : Int32))) (fun x4 => ∃ n, wq_M_type_89 a p0 p1 Q n u3 x4 A)
set_option maxRecDepth 100000 in
set_option maxHeartbeats 4000000 in
theorem sq_M_type_84 {l : Launch} {G : mm_G} {a : Nat} {p0 : Int32} {p1 : Int32} {Q : Int32 → ab_H → Prop}   : ∀ (u3 : Int32) (A : ab_H) (h : mm_H), Vw G h A → wq_M_type_84 a p0 p1 Q  u3 A → mm_V l G M_M_type 0 0 84 [some (va_rf (some a)), some (.int p0), some (.int p1), some (.int u3), none] [] h (wQI G Q) := by
  intro u3 A h hV hw
  unfold wq_M_type_84 at hw
  refine mm_iload_n (pc' := 85) d_M_type_84 rfl rfl rfl ?_
  refine mm_iconst (v := 1) (pc' := 86) d_M_type_85 rfl (by decide) ?_
  refine mm_isub (pc' := 87) d_M_type_86 rfl ?_
  refine wr_let (P := fun z => mm_V l G M_M_type 0 0 87 [some (va_rf (some a)), some (.int p0), some (.int p1), some (.int u3), none] (.int z :: []) h _) hw (fun x4 hw => ?_)
  refine mm_ist4 (pc' := 89) d_M_type_87 rfl rfl (Nat.le_of_ble_eq_true rfl) ?_
  obtain ⟨n, hw⟩ := hw
  exact mm_drop (mm_le.s (mm_le.s (mm_le.s (mm_le.s (mm_le.s mm_le.e))))) (sq_M_type_89  n _ _ _ _ hV hw)
def wb_M_type_30 (a : Nat) (p0 : Int32) (p1 : Int32) (Q : Int32 → ab_H → Prop)  (k30 : Int32 → Int32 → ab_H → Prop) (u3 : Int32) (u4 : Int32) (A : ab_H) : Prop := if p1 ≤ u4 then (wq_M_type_84 a p0 p1 Q u3 A) else (if u3 = 0 then (wq_M_type_84 a p0 p1 Q u3 A) else (if ((p0 >>> (((8 : Int32) * u4) &&& 31)) &&& (255 : Int32)) < (32 : Int32) then (k30 (0 : Int32) (u4 + 1) A) else (if (126 : Int32) < ((p0 >>> (((8 : Int32) * u4) &&& 31)) &&& (255 : Int32)) then (k30 (0 : Int32) (u4 + 1) A) else (k30 (1 : Int32) (u4 + 1) A))))
def wq_M_type_30 (a : Nat) (p0 : Int32) (p1 : Int32) (Q : Int32 → ab_H → Prop)  : Nat → Int32 → Int32 → ab_H → Prop
  | 0 => fun _ _ _ => False
  | n + 1 => wb_M_type_30 a p0 p1 Q  (wq_M_type_30 a p0 p1 Q  n)
set_option maxRecDepth 100000 in
set_option maxHeartbeats 4000000 in
theorem sq_M_type_30 {l : Launch} {G : mm_G} {a : Nat} {p0 : Int32} {p1 : Int32} {Q : Int32 → ab_H → Prop}   : ∀ (n : Nat) (u3 : Int32) (u4 : Int32) (A : ab_H) (h : mm_H), Vw G h A → wq_M_type_30 a p0 p1 Q  n u3 u4 A → mm_V l G M_M_type 0 0 30 [some (va_rf (some a)), some (.int p0), some (.int p1), some (.int u3), some (.int u4)] [] h (wQI G Q) := by
  intro n
  induction n with
  | zero =>
    intro u3 u4 A h hV hw
    exact absurd hw id
  | succ n hk30 =>
    intro u3 u4 A h hV hw
    have hw : wb_M_type_30 a p0 p1 Q  (wq_M_type_30 a p0 p1 Q  n) u3 u4 A := hw
    unfold wb_M_type_30 at hw
    refine mm_iload (pc' := 32) d_M_type_30 rfl rfl ?_
    refine mm_iload_n (pc' := 33) d_M_type_32 rfl rfl rfl ?_
    refine wr_icmp_ge hw (pc' := 36) d_M_type_33 rfl rfl (fun hw => ?_) (fun hw => ?_)
    · exact mm_drop (mm_le.s (mm_le.s (mm_le.s (mm_le.s (mm_le.n mm_le.e))))) (sq_M_type_84  _ _ _ hV hw)
    · refine mm_iload_n (pc' := 37) d_M_type_36 rfl rfl rfl ?_
      refine wr_if_eq hw (pc' := 40) d_M_type_37 rfl rfl (fun hw => ?_) (fun hw => ?_)
      · exact mm_drop (mm_le.s (mm_le.s (mm_le.s (mm_le.s (mm_le.n mm_le.e))))) (sq_M_type_84  _ _ _ hV hw)
      · refine mm_iload_n (pc' := 41) d_M_type_40 rfl rfl rfl ?_
        refine mm_bipush (v := 8) (pc' := 43) d_M_type_41 rfl (by decide) ?_
        refine mm_iload (pc' := 45) d_M_type_43 rfl rfl ?_
        refine mm_imul (pc' := 46) d_M_type_45 rfl ?_
        refine mm_ishr (pc' := 47) d_M_type_46 rfl ?_
        refine mm_sipush (v := 255) (pc' := 50) d_M_type_47 rfl (by decide) ?_
        refine mm_iand (pc' := 51) d_M_type_50 rfl ?_
        refine mm_bipush (v := 32) (pc' := 53) d_M_type_51 rfl (by decide) ?_
        refine wr_icmp_lt hw (pc' := 56) d_M_type_53 rfl rfl (fun hw => ?_) (fun hw => ?_)
        · refine mm_iconst (v := 0) (pc' := 77) d_M_type_76 rfl (by decide) ?_
          refine mm_ist3 (pc' := 78) d_M_type_77 rfl rfl (Nat.le_of_ble_eq_true rfl) ?_
          refine mm_iinc4 (v := (u4 + 1)) (pc' := 81) d_M_type_78 rfl rfl rfl (Nat.le_of_ble_eq_true rfl) ?_
          refine mm_goto (tgt := 30) d_M_type_81 rfl ?_
          exact mm_drop (mm_le.s (mm_le.s (mm_le.s (mm_le.s (mm_le.s mm_le.e))))) (hk30 _ _ _ _ hV hw)
        · refine mm_iload_n (pc' := 57) d_M_type_56 rfl rfl rfl ?_
          refine mm_bipush (v := 8) (pc' := 59) d_M_type_57 rfl (by decide) ?_
          refine mm_iload (pc' := 61) d_M_type_59 rfl rfl ?_
          refine mm_imul (pc' := 62) d_M_type_61 rfl ?_
          refine mm_ishr (pc' := 63) d_M_type_62 rfl ?_
          refine mm_sipush (v := 255) (pc' := 66) d_M_type_63 rfl (by decide) ?_
          refine mm_iand (pc' := 67) d_M_type_66 rfl ?_
          refine mm_bipush (v := 126) (pc' := 69) d_M_type_67 rfl (by decide) ?_
          refine wr_icmp_gt hw (pc' := 72) d_M_type_69 rfl rfl (fun hw => ?_) (fun hw => ?_)
          · refine mm_iconst (v := 0) (pc' := 77) d_M_type_76 rfl (by decide) ?_
            refine mm_ist3 (pc' := 78) d_M_type_77 rfl rfl (Nat.le_of_ble_eq_true rfl) ?_
            refine mm_iinc4 (v := (u4 + 1)) (pc' := 81) d_M_type_78 rfl rfl rfl (Nat.le_of_ble_eq_true rfl) ?_
            refine mm_goto (tgt := 30) d_M_type_81 rfl ?_
            exact mm_drop (mm_le.s (mm_le.s (mm_le.s (mm_le.s (mm_le.s mm_le.e))))) (hk30 _ _ _ _ hV hw)
          · refine mm_iconst (v := 1) (pc' := 73) d_M_type_72 rfl (by decide) ?_
            refine mm_goto (tgt := 77) d_M_type_73 rfl ?_
            refine mm_ist3 (pc' := 78) d_M_type_77 rfl rfl (Nat.le_of_ble_eq_true rfl) ?_
            refine mm_iinc4 (v := (u4 + 1)) (pc' := 81) d_M_type_78 rfl rfl rfl (Nat.le_of_ble_eq_true rfl) ?_
            refine mm_goto (tgt := 30) d_M_type_81 rfl ?_
            exact mm_drop (mm_le.s (mm_le.s (mm_le.s (mm_le.s (mm_le.s mm_le.e))))) (hk30 _ _ _ _ hV hw)
def wq_M_type_26 (a : Nat) (p0 : Int32) (p1 : Int32) (Q : Int32 → ab_H → Prop)  (s0 : Int32) (A : ab_H) : Prop := ∃ n, wq_M_type_30 a p0 p1 Q n s0 (0 : Int32) A
set_option maxRecDepth 100000 in
set_option maxHeartbeats 4000000 in
theorem sq_M_type_26 {l : Launch} {G : mm_G} {a : Nat} {p0 : Int32} {p1 : Int32} {Q : Int32 → ab_H → Prop}   : ∀ (s0 : Int32) (A : ab_H) (h : mm_H), Vw G h A → wq_M_type_26 a p0 p1 Q  s0 A → mm_V l G M_M_type 0 0 26 [some (va_rf (some a)), some (.int p0), some (.int p1), none, none] [.int s0] h (wQI G Q) := by
  intro s0 A h hV hw
  unfold wq_M_type_26 at hw
  refine mm_ist3 (pc' := 27) d_M_type_26 rfl rfl (Nat.le_of_ble_eq_true rfl) ?_
  refine mm_iconst (v := 0) (pc' := 28) d_M_type_27 rfl (by decide) ?_
  refine mm_ist4 (pc' := 30) d_M_type_28 rfl rfl (Nat.le_of_ble_eq_true rfl) ?_
  obtain ⟨n, hw⟩ := hw
  exact mm_drop (mm_le.s (mm_le.s (mm_le.s (mm_le.s (mm_le.s mm_le.e))))) (sq_M_type_30  n _ _ _ _ hV hw)
def wq_M_type_25 (a : Nat) (p0 : Int32) (p1 : Int32) (Q : Int32 → ab_H → Prop)   (A : ab_H) : Prop := wq_M_type_26 a p0 p1 Q (0 : Int32) A
set_option maxRecDepth 100000 in
set_option maxHeartbeats 4000000 in
theorem sq_M_type_25 {l : Launch} {G : mm_G} {a : Nat} {p0 : Int32} {p1 : Int32} {Q : Int32 → ab_H → Prop}   : ∀ (A : ab_H) (h : mm_H), Vw G h A → wq_M_type_25 a p0 p1 Q  A → mm_V l G M_M_type 0 0 25 [some (va_rf (some a)), some (.int p0), some (.int p1), none, none] [] h (wQI G Q) := by
  intro A h hV hw
  unfold wq_M_type_25 at hw
  refine mm_iconst (v := 0) (pc' := 26) d_M_type_25 rfl (by decide) ?_
  exact mm_drop (mm_le.s (mm_le.s (mm_le.s (mm_le.n (mm_le.n mm_le.e))))) (sq_M_type_26  _ _ _ hV hw)
def wp_M_type (a : Nat) (p0 : Int32) (p1 : Int32) (A : ab_H) (Q : Int32 → ab_H → Prop) : Prop := if p1 < (1 : Int32) then (wq_M_type_25 a p0 p1 Q A) else (if (4 : Int32) < p1 then (wq_M_type_25 a p0 p1 Q A) else (wgI A (some a) 14 10 (fun x5 => if (40 : Int32) < (x5 + p1) then (wq_M_type_25 a p0 p1 Q A) else (wq_M_type_26 a p0 p1 Q (1 : Int32) A))))
set_option maxRecDepth 100000 in
set_option maxHeartbeats 4000000 in
theorem sd_M_type {l : Launch} {G : mm_G} {h : mm_H} {A : ab_H} {a : Nat} {p0 : Int32} {p1 : Int32} {Q : Int32 → ab_H → Prop} (hV : Vw G h A) (hw : wp_M_type a p0 p1 A Q) : mm_S l G M_M_type [.ref a, .int p0, .int p1] h 0 0 (wQI G Q) := by
  unfold wp_M_type at hw
  refine mm_start rfl (Nat.le_of_ble_eq_true rfl) ?_
  show mm_V l G M_M_type 0 0 0 [some (va_rf (some a)), some (.int p0), some (.int p1), none, none] [] h _
  refine mm_iload_n (pc' := 1) d_M_type_0 rfl rfl rfl ?_
  refine mm_iconst (v := 1) (pc' := 2) d_M_type_1 rfl (by decide) ?_
  refine wr_icmp_lt hw (pc' := 5) d_M_type_2 rfl rfl (fun hw => ?_) (fun hw => ?_)
  · exact mm_drop (mm_le.s (mm_le.s (mm_le.s (mm_le.n (mm_le.n mm_le.e))))) (sq_M_type_25  _ _ hV hw)
  · refine mm_iload_n (pc' := 6) d_M_type_5 rfl rfl rfl ?_
    refine mm_iconst (v := 4) (pc' := 7) d_M_type_6 rfl (by decide) ?_
    refine wr_icmp_gt hw (pc' := 10) d_M_type_7 rfl rfl (fun hw => ?_) (fun hw => ?_)
    · exact mm_drop (mm_le.s (mm_le.s (mm_le.s (mm_le.n (mm_le.n mm_le.e))))) (sq_M_type_25  _ _ hV hw)
    · refine wr_aload_n (some a) (pc' := 11) d_M_type_10 rfl rfl rfl ?_
      refine wr_getI hV hw (pc' := 14) d_M_type_11 rfl fl_M_286 (fun x5 hw => ?_)
      refine mm_iload_n (pc' := 15) d_M_type_14 rfl rfl rfl ?_
      refine mm_iadd (pc' := 16) d_M_type_15 rfl ?_
      refine mm_bipush (v := 40) (pc' := 18) d_M_type_16 rfl (by decide) ?_
      refine wr_icmp_gt hw (pc' := 21) d_M_type_18 rfl rfl (fun hw => ?_) (fun hw => ?_)
      · exact mm_drop (mm_le.s (mm_le.s (mm_le.s (mm_le.n (mm_le.n mm_le.e))))) (sq_M_type_25  _ _ hV hw)
      · refine mm_iconst (v := 1) (pc' := 22) d_M_type_21 rfl (by decide) ?_
        refine mm_goto (tgt := 26) d_M_type_22 rfl ?_
        exact mm_drop (mm_le.s (mm_le.s (mm_le.s (mm_le.n (mm_le.n mm_le.e))))) (sq_M_type_26  _ _ _ hV hw)
