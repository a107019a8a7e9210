theorem d_M_init_0 : decode prog_14_method_1_code 0 = .ok (.aload_n 0, 1) := by decide +kernel
theorem d_M_init_1 : decode prog_14_method_1_code 1 = .ok (.invokespecial 1, 3) := by decide +kernel
theorem d_M_init_4 : decode prog_14_method_1_code 4 = .ok (.aload_n 0, 1) := by decide +kernel
theorem d_M_init_5 : decode prog_14_method_1_code 5 = .ok (.sipush 4160, 3) := by decide +kernel
theorem d_M_init_8 : decode prog_14_method_1_code 8 = .ok (.newarray .int, 2) := by decide +kernel
theorem d_M_init_10 : decode prog_14_method_1_code 10 = .ok (.putfield 7, 3) := by decide +kernel
theorem d_M_init_13 : decode prog_14_method_1_code 13 = .ok (.aload_n 0, 1) := by decide +kernel
theorem d_M_init_14 : decode prog_14_method_1_code 14 = .ok (.bipush 8, 2) := by decide +kernel
theorem d_M_init_16 : decode prog_14_method_1_code 16 = .ok (.newarray .int, 2) := by decide +kernel
theorem d_M_init_18 : decode prog_14_method_1_code 18 = .ok (.putfield 13, 3) := by decide +kernel
theorem d_M_init_21 : decode prog_14_method_1_code 21 = .ok (.aload_n 0, 1) := by decide +kernel
theorem d_M_init_22 : decode prog_14_method_1_code 22 = .ok (.iconst 3, 1) := by decide +kernel
theorem d_M_init_23 : decode prog_14_method_1_code 23 = .ok (.newarray .boolean, 2) := by decide +kernel
theorem d_M_init_25 : decode prog_14_method_1_code 25 = .ok (.putfield 16, 3) := by decide +kernel
theorem d_M_init_28 : decode prog_14_method_1_code 28 = .ok (.aload_n 0, 1) := by decide +kernel
theorem d_M_init_29 : decode prog_14_method_1_code 29 = .ok (.sipush 240, 3) := by decide +kernel
theorem d_M_init_32 : decode prog_14_method_1_code 32 = .ok (.newarray .int, 2) := by decide +kernel
theorem d_M_init_34 : decode prog_14_method_1_code 34 = .ok (.putfield 20, 3) := by decide +kernel
theorem d_M_init_37 : decode prog_14_method_1_code 37 = .ok (.aload_n 0, 1) := by decide +kernel
theorem d_M_init_38 : decode prog_14_method_1_code 38 = .ok (.iconst 3, 1) := by decide +kernel
theorem d_M_init_39 : decode prog_14_method_1_code 39 = .ok (.newarray .int, 2) := by decide +kernel
theorem d_M_init_41 : decode prog_14_method_1_code 41 = .ok (.putfield 23, 3) := by decide +kernel
theorem d_M_init_44 : decode prog_14_method_1_code 44 = .ok (.aload_n 0, 1) := by decide +kernel
theorem d_M_init_45 : decode prog_14_method_1_code 45 = .ok (.bipush 8, 2) := by decide +kernel
theorem d_M_init_47 : decode prog_14_method_1_code 47 = .ok (.newarray .int, 2) := by decide +kernel
theorem d_M_init_49 : decode prog_14_method_1_code 49 = .ok (.putfield 26, 3) := by decide +kernel
theorem d_M_init_52 : decode prog_14_method_1_code 52 = .ok (.aload_n 0, 1) := by decide +kernel
theorem d_M_init_53 : decode prog_14_method_1_code 53 = .ok (.iconst 3, 1) := by decide +kernel
theorem d_M_init_54 : decode prog_14_method_1_code 54 = .ok (.newarray .int, 2) := by decide +kernel
theorem d_M_init_56 : decode prog_14_method_1_code 56 = .ok (.putfield 29, 3) := by decide +kernel
theorem d_M_init_59 : decode prog_14_method_1_code 59 = .ok (.aload_n 0, 1) := by decide +kernel
theorem d_M_init_60 : decode prog_14_method_1_code 60 = .ok (.bipush 40, 2) := by decide +kernel
theorem d_M_init_62 : decode prog_14_method_1_code 62 = .ok (.newarray .int, 2) := by decide +kernel
theorem d_M_init_64 : decode prog_14_method_1_code 64 = .ok (.putfield 32, 3) := by decide +kernel
theorem d_M_init_67 : decode prog_14_method_1_code 67 = .ok (.aload_n 0, 1) := by decide +kernel
theorem d_M_init_68 : decode prog_14_method_1_code 68 = .ok (.bipush 36, 2) := by decide +kernel
theorem d_M_init_70 : decode prog_14_method_1_code 70 = .ok (.newarray .int, 2) := by decide +kernel
theorem d_M_init_72 : decode prog_14_method_1_code 72 = .ok (.putfield 35, 3) := by decide +kernel
theorem d_M_init_75 : decode prog_14_method_1_code 75 = .ok (.aload_n 0, 1) := by decide +kernel
theorem d_M_init_76 : decode prog_14_method_1_code 76 = .ok (.bipush 36, 2) := by decide +kernel
theorem d_M_init_78 : decode prog_14_method_1_code 78 = .ok (.newarray .int, 2) := by decide +kernel
theorem d_M_init_80 : decode prog_14_method_1_code 80 = .ok (.putfield 38, 3) := by decide +kernel
theorem d_M_init_83 : decode prog_14_method_1_code 83 = .ok (.aload_n 0, 1) := by decide +kernel
theorem d_M_init_84 : decode prog_14_method_1_code 84 = .ok (.bipush 36, 2) := by decide +kernel
theorem d_M_init_86 : decode prog_14_method_1_code 86 = .ok (.newarray .int, 2) := by decide +kernel
theorem d_M_init_88 : decode prog_14_method_1_code 88 = .ok (.putfield 41, 3) := by decide +kernel
theorem d_M_init_91 : decode prog_14_method_1_code 91 = .ok (.aload_n 0, 1) := by decide +kernel
theorem d_M_init_92 : decode prog_14_method_1_code 92 = .ok (.bipush 36, 2) := by decide +kernel
theorem d_M_init_94 : decode prog_14_method_1_code 94 = .ok (.newarray .int, 2) := by decide +kernel
theorem d_M_init_96 : decode prog_14_method_1_code 96 = .ok (.putfield 44, 3) := by decide +kernel
theorem d_M_init_99 : decode prog_14_method_1_code 99 = .ok (.aload_n 0, 1) := by decide +kernel
theorem d_M_init_100 : decode prog_14_method_1_code 100 = .ok (.sipush 1440, 3) := by decide +kernel
theorem d_M_init_103 : decode prog_14_method_1_code 103 = .ok (.newarray .int, 2) := by decide +kernel
theorem d_M_init_105 : decode prog_14_method_1_code 105 = .ok (.putfield 47, 3) := by decide +kernel
theorem d_M_init_108 : decode prog_14_method_1_code 108 = .ok (.aload_n 0, 1) := by decide +kernel
theorem d_M_init_109 : decode prog_14_method_1_code 109 = .ok (.bipush 8, 2) := by decide +kernel
theorem d_M_init_111 : decode prog_14_method_1_code 111 = .ok (.newarray .int, 2) := by decide +kernel
theorem d_M_init_113 : decode prog_14_method_1_code 113 = .ok (.putfield 50, 3) := by decide +kernel
theorem d_M_init_116 : decode prog_14_method_1_code 116 = .ok (.aload_n 0, 1) := by decide +kernel
theorem d_M_init_117 : decode prog_14_method_1_code 117 = .ok (.bipush 8, 2) := by decide +kernel
theorem d_M_init_119 : decode prog_14_method_1_code 119 = .ok (.newarray .int, 2) := by decide +kernel
theorem d_M_init_121 : decode prog_14_method_1_code 121 = .ok (.putfield 53, 3) := by decide +kernel
theorem d_M_init_124 : decode prog_14_method_1_code 124 = .ok (.aload_n 0, 1) := by decide +kernel
theorem d_M_init_125 : decode prog_14_method_1_code 125 = .ok (.bipush 8, 2) := by decide +kernel
theorem d_M_init_127 : decode prog_14_method_1_code 127 = .ok (.newarray .int, 2) := by decide +kernel
theorem d_M_init_129 : decode prog_14_method_1_code 129 = .ok (.putfield 56, 3) := by decide +kernel
theorem d_M_init_132 : decode prog_14_method_1_code 132 = .ok (.aload_n 0, 1) := by decide +kernel
theorem d_M_init_133 : decode prog_14_method_1_code 133 = .ok (.bipush 8, 2) := by decide +kernel
theorem d_M_init_135 : decode prog_14_method_1_code 135 = .ok (.newarray .int, 2) := by decide +kernel
theorem d_M_init_137 : decode prog_14_method_1_code 137 = .ok (.putfield 59, 3) := by decide +kernel
theorem d_M_init_140 : decode prog_14_method_1_code 140 = .ok (.aload_n 0, 1) := by decide +kernel
theorem d_M_init_141 : decode prog_14_method_1_code 141 = .ok (.sipush 320, 3) := by decide +kernel
theorem d_M_init_144 : decode prog_14_method_1_code 144 = .ok (.newarray .int, 2) := by decide +kernel
theorem d_M_init_146 : decode prog_14_method_1_code 146 = .ok (.putfield 62, 3) := by decide +kernel
theorem d_M_init_149 : decode prog_14_method_1_code 149 = .ok (.aload_n 0, 1) := by decide +kernel
theorem d_M_init_150 : decode prog_14_method_1_code 150 = .ok (.bipush 8, 2) := by decide +kernel
theorem d_M_init_152 : decode prog_14_method_1_code 152 = .ok (.newarray .int, 2) := by decide +kernel
theorem d_M_init_154 : decode prog_14_method_1_code 154 = .ok (.putfield 65, 3) := by decide +kernel
theorem d_M_init_157 : decode prog_14_method_1_code 157 = .ok (.aload_n 0, 1) := by decide +kernel
theorem d_M_init_158 : decode prog_14_method_1_code 158 = .ok (.bipush 8, 2) := by decide +kernel
theorem d_M_init_160 : decode prog_14_method_1_code 160 = .ok (.newarray .int, 2) := by decide +kernel
theorem d_M_init_162 : decode prog_14_method_1_code 162 = .ok (.putfield 68, 3) := by decide +kernel
theorem d_M_init_165 : decode prog_14_method_1_code 165 = .ok (.aload_n 0, 1) := by decide +kernel
theorem d_M_init_166 : decode prog_14_method_1_code 166 = .ok (.bipush 8, 2) := by decide +kernel
theorem d_M_init_168 : decode prog_14_method_1_code 168 = .ok (.newarray .int, 2) := by decide +kernel
theorem d_M_init_170 : decode prog_14_method_1_code 170 = .ok (.putfield 71, 3) := by decide +kernel
theorem d_M_init_173 : decode prog_14_method_1_code 173 = .ok (.aload_n 0, 1) := by decide +kernel
theorem d_M_init_174 : decode prog_14_method_1_code 174 = .ok (.bipush 8, 2) := by decide +kernel
theorem d_M_init_176 : decode prog_14_method_1_code 176 = .ok (.newarray .int, 2) := by decide +kernel
theorem d_M_init_178 : decode prog_14_method_1_code 178 = .ok (.putfield 74, 3) := by decide +kernel
theorem d_M_init_181 : decode prog_14_method_1_code 181 = .ok (.aload_n 0, 1) := by decide +kernel
theorem d_M_init_182 : decode prog_14_method_1_code 182 = .ok (.iconst 5, 1) := by decide +kernel
theorem d_M_init_183 : decode prog_14_method_1_code 183 = .ok (.newarray .int, 2) := by decide +kernel
theorem d_M_init_185 : decode prog_14_method_1_code 185 = .ok (.putfield 77, 3) := by decide +kernel
theorem d_M_init_188 : decode prog_14_method_1_code 188 = .ok (.aload_n 0, 1) := by decide +kernel
theorem d_M_init_189 : decode prog_14_method_1_code 189 = .ok (.iconst 5, 1) := by decide +kernel
theorem d_M_init_190 : decode prog_14_method_1_code 190 = .ok (.newarray .int, 2) := by decide +kernel
theorem d_M_init_192 : decode prog_14_method_1_code 192 = .ok (.putfield 80, 3) := by decide +kernel
theorem d_M_init_195 : decode prog_14_method_1_code 195 = .ok (.aload_n 0, 1) := by decide +kernel
theorem d_M_init_196 : decode prog_14_method_1_code 196 = .ok (.bipush 64, 2) := by decide +kernel
theorem d_M_init_198 : decode prog_14_method_1_code 198 = .ok (.newarray .int, 2) := by decide +kernel
theorem d_M_init_200 : decode prog_14_method_1_code 200 = .ok (.putfield 83, 3) := by decide +kernel
theorem d_M_init_203 : decode prog_14_method_1_code 203 = .ok (.aload_n 0, 1) := by decide +kernel
theorem d_M_init_204 : decode prog_14_method_1_code 204 = .ok (.bipush 40, 2) := by decide +kernel
theorem d_M_init_206 : decode prog_14_method_1_code 206 = .ok (.newarray .int, 2) := by decide +kernel
theorem d_M_init_208 : decode prog_14_method_1_code 208 = .ok (.putfield 86, 3) := by decide +kernel
theorem d_M_init_211 : decode prog_14_method_1_code 211 = .ok (.aload_n 0, 1) := by decide +kernel
theorem d_M_init_212 : decode prog_14_method_1_code 212 = .ok (.bipush 64, 2) := by decide +kernel
theorem d_M_init_214 : decode prog_14_method_1_code 214 = .ok (.newarray .int, 2) := by decide +kernel
theorem d_M_init_216 : decode prog_14_method_1_code 216 = .ok (.putfield 89, 3) := by decide +kernel
theorem d_M_init_219 : decode prog_14_method_1_code 219 = .ok (.aload_n 0, 1) := by decide +kernel
theorem d_M_init_220 : decode prog_14_method_1_code 220 = .ok (.bipush 64, 2) := by decide +kernel
theorem d_M_init_222 : decode prog_14_method_1_code 222 = .ok (.newarray .int, 2) := by decide +kernel
theorem d_M_init_224 : decode prog_14_method_1_code 224 = .ok (.putfield 92, 3) := by decide +kernel
theorem d_M_init_227 : decode prog_14_method_1_code 227 = .ok (.iconst 0, 1) := by decide +kernel
theorem d_M_init_228 : decode prog_14_method_1_code 228 = .ok (.istore_n 1, 1) := by decide +kernel
theorem d_M_init_229 : decode prog_14_method_1_code 229 = .ok (.iload_n 1, 1) := by decide +kernel
theorem d_M_init_230 : decode prog_14_method_1_code 230 = .ok (.bipush 8, 2) := by decide +kernel
theorem d_M_init_232 : decode prog_14_method_1_code 232 = .ok (.if_icmp .ge 16, 3) := by decide +kernel
theorem d_M_init_235 : decode prog_14_method_1_code 235 = .ok (.aload_n 0, 1) := by decide +kernel
theorem d_M_init_236 : decode prog_14_method_1_code 236 = .ok (.getfield 50, 3) := by decide +kernel
theorem d_M_init_239 : decode prog_14_method_1_code 239 = .ok (.iload_n 1, 1) := by decide +kernel
theorem d_M_init_240 : decode prog_14_method_1_code 240 = .ok (.iconst (-1), 1) := by decide +kernel
theorem d_M_init_241 : decode prog_14_method_1_code 241 = .ok (.iastore, 1) := by decide +kernel
theorem d_M_init_242 : decode prog_14_method_1_code 242 = .ok (.iinc 1 1, 3) := by decide +kernel
theorem d_M_init_245 : decode prog_14_method_1_code 245 = .ok (.goto (-16), 3) := by decide +kernel
theorem d_M_init_248 : decode prog_14_method_1_code 248 = .ok (.return_, 1) := by decide +kernel
def wb_M_init_229 (a : Nat) (Q : ab_H → Prop)  (k229 : Int32 → ab_H → Nat → Nat → Prop) (u1 : Int32) (A : ab_H) (kc ks : Nat) : Prop := if (8 : Int32) ≤ u1 then (Q A) else (wgR A (some a) 14 18 (fun r1 => wSI A r1 u1 ((-1) : Int32) (fun A => k229 (u1 + 1) A kc ks)))
def wq_M_init_229 (a : Nat) (Q : ab_H → Prop)  : Nat → Int32 → ab_H → Nat → Nat → Prop
  | 0 => fun _ _ _ _ => False
  | n + 1 => wb_M_init_229 a Q  (wq_M_init_229 a Q  n)
set_option maxRecDepth 100000 in
set_option maxHeartbeats 4000000 in
theorem sq_M_init_229 {l : Launch} {G : mm_G} {a : Nat} {Q : ab_H → Prop}   : ∀ (n : Nat) (u1 : Int32) (A : ab_H) (kc ks : Nat) (h : mm_H), Vw G h A → wq_M_init_229 a Q  n u1 A kc ks → mm_V l G M_M_init kc ks 229 [some (va_rf (some a)), some (.int u1)] [] h (wQV G Q) := by
  intro n
  induction n with
  | zero =>
    intro u1 A kc ks h hV hw
    exact absurd hw id
  | succ n hk229 =>
    intro u1 A kc ks h hV hw
    have hw : wb_M_init_229 a Q  (wq_M_init_229 a Q  n) u1 A kc ks := hw
    unfold wb_M_init_229 at hw
    refine mm_iload_n (pc' := 230) d_M_init_229 rfl rfl rfl ?_
    refine mm_bipush (v := 8) (pc' := 232) d_M_init_230 rfl (by decide) ?_
    refine wr_icmp_ge hw (pc' := 235) d_M_init_232 rfl rfl (fun hw => ?_) (fun hw => ?_)
    · exact wr_vret hV d_M_init_248 rfl hw
    · refine wr_aload_n (some a) (pc' := 236) d_M_init_235 rfl rfl rfl ?_
      refine wr_getR hV hw (pc' := 239) d_M_init_236 rfl fl_M_50 (fun r1 hw => ?_)
      refine mm_iload_n (pc' := 240) d_M_init_239 rfl rfl rfl ?_
      refine mm_iconst (v := (-1)) (pc' := 241) d_M_init_240 rfl (by decide) ?_
      refine wr_astI hV hw (pc' := 242) d_M_init_241 rfl (fun h A hV hw => ?_)
      refine mm_iinc1 (v := (u1 + 1)) (pc' := 245) d_M_init_242 rfl (wr_2 _) rfl (Nat.le_of_ble_eq_true rfl) ?_
      refine mm_goto (tgt := 229) d_M_init_245 rfl ?_
      exact mm_drop (mm_le.s (mm_le.s mm_le.e)) (hk229 _ _ _ _ _ hV hw)
def wp_M_init (a : Nat) (A : ab_H) (kc ks : Nat) (Q : ab_H → Prop) : Prop := (∃ b, (some a) = some b) ∧ (wNA A kc ks 0 (4160 : Int32) (fun b2 A kc ks => wp A (some a) 14 0 (va_rf (some b2)) (fun A => wNA A kc ks 0 (8 : Int32) (fun b3 A kc ks => wp A (some a) 14 1 (va_rf (some b3)) (fun A => wNA A kc ks 3 (3 : Int32) (fun b4 A kc ks => wp A (some a) 14 2 (va_rf (some b4)) (fun A => wNA A kc ks 0 (240 : Int32) (fun b5 A kc ks => wp A (some a) 14 3 (va_rf (some b5)) (fun A => wNA A kc ks 0 (3 : Int32) (fun b6 A kc ks => wp A (some a) 14 4 (va_rf (some b6)) (fun A => wNA A kc ks 0 (8 : Int32) (fun b7 A kc ks => wp A (some a) 14 6 (va_rf (some b7)) (fun A => wNA A kc ks 0 (3 : Int32) (fun b8 A kc ks => wp A (some a) 14 8 (va_rf (some b8)) (fun A => wNA A kc ks 0 (40 : Int32) (fun b9 A kc ks => wp A (some a) 14 9 (va_rf (some b9)) (fun A => wNA A kc ks 0 (36 : Int32) (fun b10 A kc ks => wp A (some a) 14 11 (va_rf (some b10)) (fun A => wNA A kc ks 0 (36 : Int32) (fun b11 A kc ks => wp A (some a) 14 12 (va_rf (some b11)) (fun A => wNA A kc ks 0 (36 : Int32) (fun b12 A kc ks => wp A (some a) 14 13 (va_rf (some b12)) (fun A => wNA A kc ks 0 (36 : Int32) (fun b13 A kc ks => wp A (some a) 14 14 (va_rf (some b13)) (fun A => wNA A kc ks 0 (1440 : Int32) (fun b14 A kc ks => wp A (some a) 14 15 (va_rf (some b14)) (fun A => wNA A kc ks 0 (8 : Int32) (fun b15 A kc ks => wp A (some a) 14 18 (va_rf (some b15)) (fun A => wNA A kc ks 0 (8 : Int32) (fun b16 A kc ks => wp A (some a) 14 19 (va_rf (some b16)) (fun A => wNA A kc ks 0 (8 : Int32) (fun b17 A kc ks => wp A (some a) 14 20 (va_rf (some b17)) (fun A => wNA A kc ks 0 (8 : Int32) (fun b18 A kc ks => wp A (some a) 14 21 (va_rf (some b18)) (fun A => wNA A kc ks 0 (320 : Int32) (fun b19 A kc ks => wp A (some a) 14 22 (va_rf (some b19)) (fun A => wNA A kc ks 0 (8 : Int32) (fun b20 A kc ks => wp A (some a) 14 23 (va_rf (some b20)) (fun A => wNA A kc ks 0 (8 : Int32) (fun b21 A kc ks => wp A (some a) 14 24 (va_rf (some b21)) (fun A => wNA A kc ks 0 (8 : Int32) (fun b22 A kc ks => wp A (some a) 14 25 (va_rf (some b22)) (fun A => wNA A kc ks 0 (8 : Int32) (fun b23 A kc ks => wp A (some a) 14 26 (va_rf (some b23)) (fun A => wNA A kc ks 0 (5 : Int32) (fun b24 A kc ks => wp A (some a) 14 30 (va_rf (some b24)) (fun A => wNA A kc ks 0 (5 : Int32) (fun b25 A kc ks => wp A (some a) 14 31 (va_rf (some b25)) (fun A => wNA A kc ks 0 (64 : Int32) (fun b26 A kc ks => wp A (some a) 14 33 (va_rf (some b26)) (fun A => wNA A kc ks 0 (40 : Int32) (fun b27 A kc ks => wp A (some a) 14 37 (va_rf (some b27)) (fun A => wNA A kc ks 0 (64 : Int32) (fun b28 A kc ks => wp A (some a) 14 39 (va_rf (some b28)) (fun A => wNA A kc ks 0 (64 : Int32) (fun b29 A kc ks => wp A (some a) 14 41 (va_rf (some b29)) (fun A => ∃ n, wq_M_init_229 a Q n (0 : Int32) A kc ks)))))))))))))))))))))))))))))))))))))))))))))))))))))))))
set_option maxRecDepth 100000 in
set_option maxHeartbeats 4000000 in
theorem sd_M_init {l : Launch} {G : mm_G} {h : mm_H} {A : ab_H} {a : Nat} {kc ks : Nat} {Q : ab_H → Prop} (hV : Vw G h A) (hw : wp_M_init a A kc ks Q) : mm_S l G M_M_init [.ref a] h kc ks (wQV G Q) := by
  unfold wp_M_init at hw
  refine mm_start rfl (Nat.le_of_ble_eq_true rfl) ?_
  show mm_V l G M_M_init kc ks 0 [some (va_rf (some a)), none] [] h _
  refine wr_aload_n (some a) (pc' := 1) d_M_init_0 rfl rfl rfl ?_
  obtain ⟨ho, hw⟩ := hw
  refine wr_objInit ho (pc' := 4) d_M_init_1 rfl oi_M_1 (Nat.le_of_ble_eq_true rfl) (Nat.le_of_ble_eq_true rfl) ?_
  refine wr_aload_n (some a) (pc' := 5) d_M_init_4 rfl rfl rfl ?_
  refine mm_sipush (v := 4160) (pc' := 8) d_M_init_5 rfl (by decide) ?_
  refine wr_newarrI hV hw (pc' := 10) d_M_init_8 rfl ar_int (fun b2 h A kc ks hV hw => ?_)
  refine wr_put hV hw (pc' := 13) d_M_init_10 rfl pl_M_init_7 (Nat.le_of_ble_eq_true rfl) (wn_A _ _) (fun h A hV hw => ?_)
  refine wr_aload_n (some a) (pc' := 14) d_M_init_13 rfl rfl rfl ?_
  refine mm_bipush (v := 8) (pc' := 16) d_M_init_14 rfl (by decide) ?_
  refine wr_newarrI hV hw (pc' := 18) d_M_init_16 rfl ar_int (fun b3 h A kc ks hV hw => ?_)
  refine wr_put hV hw (pc' := 21) d_M_init_18 rfl pl_M_init_13 (Nat.le_of_ble_eq_true rfl) (wn_A _ _) (fun h A hV hw => ?_)
  refine wr_aload_n (some a) (pc' := 22) d_M_init_21 rfl rfl rfl ?_
  refine mm_iconst (v := 3) (pc' := 23) d_M_init_22 rfl (by decide) ?_
  refine wr_newarrZ hV hw (pc' := 25) d_M_init_23 rfl ar_boolean (fun b4 h A kc ks hV hw => ?_)
  refine wr_put hV hw (pc' := 28) d_M_init_25 rfl pl_M_init_16 (Nat.le_of_ble_eq_true rfl) (wn_A _ _) (fun h A hV hw => ?_)
  refine wr_aload_n (some a) (pc' := 29) d_M_init_28 rfl rfl rfl ?_
  refine mm_sipush (v := 240) (pc' := 32) d_M_init_29 rfl (by decide) ?_
  refine wr_newarrI hV hw (pc' := 34) d_M_init_32 rfl ar_int (fun b5 h A kc ks hV hw => ?_)
  refine wr_put hV hw (pc' := 37) d_M_init_34 rfl pl_M_init_20 (Nat.le_of_ble_eq_true rfl) (wn_A _ _) (fun h A hV hw => ?_)
  refine wr_aload_n (some a) (pc' := 38) d_M_init_37 rfl rfl rfl ?_
  refine mm_iconst (v := 3) (pc' := 39) d_M_init_38 rfl (by decide) ?_
  refine wr_newarrI hV hw (pc' := 41) d_M_init_39 rfl ar_int (fun b6 h A kc ks hV hw => ?_)
  refine wr_put hV hw (pc' := 44) d_M_init_41 rfl pl_M_init_23 (Nat.le_of_ble_eq_true rfl) (wn_A _ _) (fun h A hV hw => ?_)
  refine wr_aload_n (some a) (pc' := 45) d_M_init_44 rfl rfl rfl ?_
  refine mm_bipush (v := 8) (pc' := 47) d_M_init_45 rfl (by decide) ?_
  refine wr_newarrI hV hw (pc' := 49) d_M_init_47 rfl ar_int (fun b7 h A kc ks hV hw => ?_)
  refine wr_put hV hw (pc' := 52) d_M_init_49 rfl pl_M_init_26 (Nat.le_of_ble_eq_true rfl) (wn_A _ _) (fun h A hV hw => ?_)
  refine wr_aload_n (some a) (pc' := 53) d_M_init_52 rfl rfl rfl ?_
  refine mm_iconst (v := 3) (pc' := 54) d_M_init_53 rfl (by decide) ?_
  refine wr_newarrI hV hw (pc' := 56) d_M_init_54 rfl ar_int (fun b8 h A kc ks hV hw => ?_)
  refine wr_put hV hw (pc' := 59) d_M_init_56 rfl pl_M_init_29 (Nat.le_of_ble_eq_true rfl) (wn_A _ _) (fun h A hV hw => ?_)
  refine wr_aload_n (some a) (pc' := 60) d_M_init_59 rfl rfl rfl ?_
  refine mm_bipush (v := 40) (pc' := 62) d_M_init_60 rfl (by decide) ?_
  refine wr_newarrI hV hw (pc' := 64) d_M_init_62 rfl ar_int (fun b9 h A kc ks hV hw => ?_)
  refine wr_put hV hw (pc' := 67) d_M_init_64 rfl pl_M_init_32 (Nat.le_of_ble_eq_true rfl) (wn_A _ _) (fun h A hV hw => ?_)
  refine wr_aload_n (some a) (pc' := 68) d_M_init_67 rfl rfl rfl ?_
  refine mm_bipush (v := 36) (pc' := 70) d_M_init_68 rfl (by decide) ?_
  refine wr_newarrI hV hw (pc' := 72) d_M_init_70 rfl ar_int (fun b10 h A kc ks hV hw => ?_)
  refine wr_put hV hw (pc' := 75) d_M_init_72 rfl pl_M_init_35 (Nat.le_of_ble_eq_true rfl) (wn_A _ _) (fun h A hV hw => ?_)
  refine wr_aload_n (some a) (pc' := 76) d_M_init_75 rfl rfl rfl ?_
  refine mm_bipush (v := 36) (pc' := 78) d_M_init_76 rfl (by decide) ?_
  refine wr_newarrI hV hw (pc' := 80) d_M_init_78 rfl ar_int (fun b11 h A kc ks hV hw => ?_)
  refine wr_put hV hw (pc' := 83) d_M_init_80 rfl pl_M_init_38 (Nat.le_of_ble_eq_true rfl) (wn_A _ _) (fun h A hV hw => ?_)
  refine wr_aload_n (some a) (pc' := 84) d_M_init_83 rfl rfl rfl ?_
  refine mm_bipush (v := 36) (pc' := 86) d_M_init_84 rfl (by decide) ?_
  refine wr_newarrI hV hw (pc' := 88) d_M_init_86 rfl ar_int (fun b12 h A kc ks hV hw => ?_)
  refine wr_put hV hw (pc' := 91) d_M_init_88 rfl pl_M_init_41 (Nat.le_of_ble_eq_true rfl) (wn_A _ _) (fun h A hV hw => ?_)
  refine wr_aload_n (some a) (pc' := 92) d_M_init_91 rfl rfl rfl ?_
  refine mm_bipush (v := 36) (pc' := 94) d_M_init_92 rfl (by decide) ?_
  refine wr_newarrI hV hw (pc' := 96) d_M_init_94 rfl ar_int (fun b13 h A kc ks hV hw => ?_)
  refine wr_put hV hw (pc' := 99) d_M_init_96 rfl pl_M_init_44 (Nat.le_of_ble_eq_true rfl) (wn_A _ _) (fun h A hV hw => ?_)
  refine wr_aload_n (some a) (pc' := 100) d_M_init_99 rfl rfl rfl ?_
  refine mm_sipush (v := 1440) (pc' := 103) d_M_init_100 rfl (by decide) ?_
  refine wr_newarrI hV hw (pc' := 105) d_M_init_103 rfl ar_int (fun b14 h A kc ks hV hw => ?_)
  refine wr_put hV hw (pc' := 108) d_M_init_105 rfl pl_M_init_47 (Nat.le_of_ble_eq_true rfl) (wn_A _ _) (fun h A hV hw => ?_)
  refine wr_aload_n (some a) (pc' := 109) d_M_init_108 rfl rfl rfl ?_
  refine mm_bipush (v := 8) (pc' := 111) d_M_init_109 rfl (by decide) ?_
  refine wr_newarrI hV hw (pc' := 113) d_M_init_111 rfl ar_int (fun b15 h A kc ks hV hw => ?_)
  refine wr_put hV hw (pc' := 116) d_M_init_113 rfl pl_M_init_50 (Nat.le_of_ble_eq_true rfl) (wn_A _ _) (fun h A hV hw => ?_)
  refine wr_aload_n (some a) (pc' := 117) d_M_init_116 rfl rfl rfl ?_
  refine mm_bipush (v := 8) (pc' := 119) d_M_init_117 rfl (by decide) ?_
  refine wr_newarrI hV hw (pc' := 121) d_M_init_119 rfl ar_int (fun b16 h A kc ks hV hw => ?_)
  refine wr_put hV hw (pc' := 124) d_M_init_121 rfl pl_M_init_53 (Nat.le_of_ble_eq_true rfl) (wn_A _ _) (fun h A hV hw => ?_)
  refine wr_aload_n (some a) (pc' := 125) d_M_init_124 rfl rfl rfl ?_
  refine mm_bipush (v := 8) (pc' := 127) d_M_init_125 rfl (by decide) ?_
  refine wr_newarrI hV hw (pc' := 129) d_M_init_127 rfl ar_int (fun b17 h A kc ks hV hw => ?_)
  refine wr_put hV hw (pc' := 132) d_M_init_129 rfl pl_M_init_56 (Nat.le_of_ble_eq_true rfl) (wn_A _ _) (fun h A hV hw => ?_)
  refine wr_aload_n (some a) (pc' := 133) d_M_init_132 rfl rfl rfl ?_
  refine mm_bipush (v := 8) (pc' := 135) d_M_init_133 rfl (by decide) ?_
  refine wr_newarrI hV hw (pc' := 137) d_M_init_135 rfl ar_int (fun b18 h A kc ks hV hw => ?_)
  refine wr_put hV hw (pc' := 140) d_M_init_137 rfl pl_M_init_59 (Nat.le_of_ble_eq_true rfl) (wn_A _ _) (fun h A hV hw => ?_)
  refine wr_aload_n (some a) (pc' := 141) d_M_init_140 rfl rfl rfl ?_
  refine mm_sipush (v := 320) (pc' := 144) d_M_init_141 rfl (by decide) ?_
  refine wr_newarrI hV hw (pc' := 146) d_M_init_144 rfl ar_int (fun b19 h A kc ks hV hw => ?_)
  refine wr_put hV hw (pc' := 149) d_M_init_146 rfl pl_M_init_62 (Nat.le_of_ble_eq_true rfl) (wn_A _ _) (fun h A hV hw => ?_)
  refine wr_aload_n (some a) (pc' := 150) d_M_init_149 rfl rfl rfl ?_
  refine mm_bipush (v := 8) (pc' := 152) d_M_init_150 rfl (by decide) ?_
  refine wr_newarrI hV hw (pc' := 154) d_M_init_152 rfl ar_int (fun b20 h A kc ks hV hw => ?_)
  refine wr_put hV hw (pc' := 157) d_M_init_154 rfl pl_M_init_65 (Nat.le_of_ble_eq_true rfl) (wn_A _ _) (fun h A hV hw => ?_)
  refine wr_aload_n (some a) (pc' := 158) d_M_init_157 rfl rfl rfl ?_
  refine mm_bipush (v := 8) (pc' := 160) d_M_init_158 rfl (by decide) ?_
  refine wr_newarrI hV hw (pc' := 162) d_M_init_160 rfl ar_int (fun b21 h A kc ks hV hw => ?_)
  refine wr_put hV hw (pc' := 165) d_M_init_162 rfl pl_M_init_68 (Nat.le_of_ble_eq_true rfl) (wn_A _ _) (fun h A hV hw => ?_)
  refine wr_aload_n (some a) (pc' := 166) d_M_init_165 rfl rfl rfl ?_
  refine mm_bipush (v := 8) (pc' := 168) d_M_init_166 rfl (by decide) ?_
  refine wr_newarrI hV hw (pc' := 170) d_M_init_168 rfl ar_int (fun b22 h A kc ks hV hw => ?_)
  refine wr_put hV hw (pc' := 173) d_M_init_170 rfl pl_M_init_71 (Nat.le_of_ble_eq_true rfl) (wn_A _ _) (fun h A hV hw => ?_)
  refine wr_aload_n (some a) (pc' := 174) d_M_init_173 rfl rfl rfl ?_
  refine mm_bipush (v := 8) (pc' := 176) d_M_init_174 rfl (by decide) ?_
  refine wr_newarrI hV hw (pc' := 178) d_M_init_176 rfl ar_int (fun b23 h A kc ks hV hw => ?_)
  refine wr_put hV hw (pc' := 181) d_M_init_178 rfl pl_M_init_74 (Nat.le_of_ble_eq_true rfl) (wn_A _ _) (fun h A hV hw => ?_)
  refine wr_aload_n (some a) (pc' := 182) d_M_init_181 rfl rfl rfl ?_
  refine mm_iconst (v := 5) (pc' := 183) d_M_init_182 rfl (by decide) ?_
  refine wr_newarrI hV hw (pc' := 185) d_M_init_183 rfl ar_int (fun b24 h A kc ks hV hw => ?_)
  refine wr_put hV hw (pc' := 188) d_M_init_185 rfl pl_M_init_77 (Nat.le_of_ble_eq_true rfl) (wn_A _ _) (fun h A hV hw => ?_)
  refine wr_aload_n (some a) (pc' := 189) d_M_init_188 rfl rfl rfl ?_
  refine mm_iconst (v := 5) (pc' := 190) d_M_init_189 rfl (by decide) ?_
  refine wr_newarrI hV hw (pc' := 192) d_M_init_190 rfl ar_int (fun b25 h A kc ks hV hw => ?_)
  refine wr_put hV hw (pc' := 195) d_M_init_192 rfl pl_M_init_80 (Nat.le_of_ble_eq_true rfl) (wn_A _ _) (fun h A hV hw => ?_)
  refine wr_aload_n (some a) (pc' := 196) d_M_init_195 rfl rfl rfl ?_
  refine mm_bipush (v := 64) (pc' := 198) d_M_init_196 rfl (by decide) ?_
  refine wr_newarrI hV hw (pc' := 200) d_M_init_198 rfl ar_int (fun b26 h A kc ks hV hw => ?_)
  refine wr_put hV hw (pc' := 203) d_M_init_200 rfl pl_M_init_83 (Nat.le_of_ble_eq_true rfl) (wn_A _ _) (fun h A hV hw => ?_)
  refine wr_aload_n (some a) (pc' := 204) d_M_init_203 rfl rfl rfl ?_
  refine mm_bipush (v := 40) (pc' := 206) d_M_init_204 rfl (by decide) ?_
  refine wr_newarrI hV hw (pc' := 208) d_M_init_206 rfl ar_int (fun b27 h A kc ks hV hw => ?_)
  refine wr_put hV hw (pc' := 211) d_M_init_208 rfl pl_M_init_86 (Nat.le_of_ble_eq_true rfl) (wn_A _ _) (fun h A hV hw => ?_)
  refine wr_aload_n (some a) (pc' := 212) d_M_init_211 rfl rfl rfl ?_
  refine mm_bipush (v := 64) (pc' := 214) d_M_init_212 rfl (by decide) ?_
  refine wr_newarrI hV hw (pc' := 216) d_M_init_214 rfl ar_int (fun b28 h A kc ks hV hw => ?_)
  refine wr_put hV hw (pc' := 219) d_M_init_216 rfl pl_M_init_89 (Nat.le_of_ble_eq_true rfl) (wn_A _ _) (fun h A hV hw => ?_)
  refine wr_aload_n (some a) (pc' := 220) d_M_init_219 rfl rfl rfl ?_
  refine mm_bipush (v := 64) (pc' := 222) d_M_init_220 rfl (by decide) ?_
  refine wr_newarrI hV hw (pc' := 224) d_M_init_222 rfl ar_int (fun b29 h A kc ks hV hw => ?_)
  refine wr_put hV hw (pc' := 227) d_M_init_224 rfl pl_M_init_92 (Nat.le_of_ble_eq_true rfl) (wn_A _ _) (fun h A hV hw => ?_)
  refine mm_iconst (v := 0) (pc' := 228) d_M_init_227 rfl (by decide) ?_
  refine mm_ist1 (pc' := 229) d_M_init_228 rfl (wr_2 _) (Nat.le_of_ble_eq_true rfl) ?_
  obtain ⟨n, hw⟩ := hw
  exact mm_drop (mm_le.s (mm_le.s mm_le.e)) (sq_M_init_229  n _ _ _ _ _ hV hw)
theorem d_M_byteAt_0 : decode prog_14_method_2_code 0 = .ok (.iload_n 1, 1) := by decide +kernel
theorem d_M_byteAt_1 : decode prog_14_method_2_code 1 = .ok (.aload_n 0, 1) := by decide +kernel
theorem d_M_byteAt_2 : decode prog_14_method_2_code 2 = .ok (.getfield 95, 3) := by decide +kernel
theorem d_M_byteAt_5 : decode prog_14_method_2_code 5 = .ok (.if_icmp .ge 17, 3) := by decide +kernel
theorem d_M_byteAt_8 : decode prog_14_method_2_code 8 = .ok (.aload_n 0, 1) := by decide +kernel
theorem d_M_byteAt_9 : decode prog_14_method_2_code 9 = .ok (.getfield 7, 3) := by decide +kernel
theorem d_M_byteAt_12 : decode prog_14_method_2_code 12 = .ok (.aload_n 0, 1) := by decide +kernel
theorem d_M_byteAt_13 : decode prog_14_method_2_code 13 = .ok (.getfield 99, 3) := by decide +kernel
theorem d_M_byteAt_16 : decode prog_14_method_2_code 16 = .ok (.iload_n 1, 1) := by decide +kernel
theorem d_M_byteAt_17 : decode prog_14_method_2_code 17 = .ok (.iadd, 1) := by decide +kernel
theorem d_M_byteAt_18 : decode prog_14_method_2_code 18 = .ok (.iaload, 1) := by decide +kernel
theorem d_M_byteAt_19 : decode prog_14_method_2_code 19 = .ok (.goto 4, 3) := by decide +kernel
theorem d_M_byteAt_22 : decode prog_14_method_2_code 22 = .ok (.iconst (-1), 1) := by decide +kernel
theorem d_M_byteAt_23 : decode prog_14_method_2_code 23 = .ok (.ireturn, 1) := by decide +kernel
def wp_M_byteAt (a : Nat) (p0 : Int32) (A : ab_H) (Q : Int32 → ab_H → Prop) : Prop := wgI A (some a) 14 28 (fun x1 => if x1 ≤ p0 then (Q ((-1) : Int32) A) else (wgR A (some a) 14 0 (fun r2 => wgI A (some a) 14 27 (fun x3 => wAI A r2 (x3 + p0) (fun x4 => Q x4 A)))))
set_option maxRecDepth 100000 in
set_option maxHeartbeats 4000000 in
theorem sd_M_byteAt {l : Launch} {G : mm_G} {h : mm_H} {A : ab_H} {a : Nat} {p0 : Int32} {Q : Int32 → ab_H → Prop} (hV : Vw G h A) (hw : wp_M_byteAt a p0 A Q) : mm_S l G M_M_byteAt [.ref a, .int p0] h 0 0 (wQI G Q) := by
  unfold wp_M_byteAt at hw
  refine mm_start rfl (Nat.le_of_ble_eq_true rfl) ?_
  show mm_V l G M_M_byteAt 0 0 0 [some (va_rf (some a)), some (.int p0)] [] h _
  refine mm_iload_n (pc' := 1) d_M_byteAt_0 rfl rfl rfl ?_
  refine wr_aload_n (some a) (pc' := 2) d_M_byteAt_1 rfl rfl rfl ?_
  refine wr_getI hV hw (pc' := 5) d_M_byteAt_2 rfl fl_M_95 (fun x1 hw => ?_)
  refine wr_icmp_ge hw (pc' := 8) d_M_byteAt_5 rfl rfl (fun hw => ?_) (fun hw => ?_)
  · refine mm_iconst (v := (-1)) (pc' := 23) d_M_byteAt_22 rfl (by decide) ?_
    exact wr_iret hV d_M_byteAt_23 rfl rfl hw
  · refine wr_aload_n (some a) (pc' := 9) d_M_byteAt_8 rfl rfl rfl ?_
    refine wr_getR hV hw (pc' := 12) d_M_byteAt_9 rfl fl_M_7 (fun r2 hw => ?_)
    refine wr_aload_n (some a) (pc' := 13) d_M_byteAt_12 rfl rfl rfl ?_
    refine wr_getI hV hw (pc' := 16) d_M_byteAt_13 rfl fl_M_99 (fun x3 hw => ?_)
    refine mm_iload_n (pc' := 17) d_M_byteAt_16 rfl rfl rfl ?_
    refine mm_iadd (pc' := 18) d_M_byteAt_17 rfl ?_
    refine wr_aldI hV hw (pc' := 19) d_M_byteAt_18 rfl (fun x4 hw => ?_)
    refine mm_goto (tgt := 23) d_M_byteAt_19 rfl ?_
    exact wr_iret hV d_M_byteAt_23 rfl rfl hw
theorem d_M_lineEnd_0 : decode prog_14_method_3_code 0 = .ok (.iconst 0, 1) := by decide +kernel
theorem d_M_lineEnd_1 : decode prog_14_method_3_code 1 = .ok (.istore 4, 2) := by decide +kernel
theorem d_M_lineEnd_3 : decode prog_14_method_3_code 3 = .ok (.iload_n 1, 1) := by decide +kernel
theorem d_M_lineEnd_4 : decode prog_14_method_3_code 4 = .ok (.istore 5, 2) := by decide +kernel
theorem d_M_lineEnd_6 : decode prog_14_method_3_code 6 = .ok (.iload 5, 2) := by decide +kernel
theorem d_M_lineEnd_8 : decode prog_14_method_3_code 8 = .ok (.aload_n 0, 1) := by decide +kernel
theorem d_M_lineEnd_9 : decode prog_14_method_3_code 9 = .ok (.getfield 95, 3) := by decide +kernel
theorem d_M_lineEnd_12 : decode prog_14_method_3_code 12 = .ok (.if_icmp .ge 89, 3) := by decide +kernel
theorem d_M_lineEnd_15 : decode prog_14_method_3_code 15 = .ok (.aload_n 0, 1) := by decide +kernel
theorem d_M_lineEnd_16 : decode prog_14_method_3_code 16 = .ok (.iload 5, 2) := by decide +kernel
theorem d_M_lineEnd_18 : decode prog_14_method_3_code 18 = .ok (.invokevirtual 102, 3) := by decide +kernel
theorem d_M_lineEnd_21 : decode prog_14_method_3_code 21 = .ok (.istore 6, 2) := by decide +kernel
theorem d_M_lineEnd_23 : decode prog_14_method_3_code 23 = .ok (.iload 4, 2) := by decide +kernel
theorem d_M_lineEnd_25 : decode prog_14_method_3_code 25 = .ok (.bipush 13, 2) := by decide +kernel
theorem d_M_lineEnd_27 : decode prog_14_method_3_code 27 = .ok (.if_icmp .ne 21, 3) := by decide +kernel
theorem d_M_lineEnd_30 : decode prog_14_method_3_code 30 = .ok (.iload 6, 2) := by decide +kernel
theorem d_M_lineEnd_32 : decode prog_14_method_3_code 32 = .ok (.bipush 10, 2) := by decide +kernel
theorem d_M_lineEnd_34 : decode prog_14_method_3_code 34 = .ok (.if_icmp .ne 10, 3) := by decide +kernel
theorem d_M_lineEnd_37 : decode prog_14_method_3_code 37 = .ok (.iload 5, 2) := by decide +kernel
theorem d_M_lineEnd_39 : decode prog_14_method_3_code 39 = .ok (.iconst 1, 1) := by decide +kernel
theorem d_M_lineEnd_40 : decode prog_14_method_3_code 40 = .ok (.iadd, 1) := by decide +kernel
theorem d_M_lineEnd_41 : decode prog_14_method_3_code 41 = .ok (.goto 6, 3) := by decide +kernel
theorem d_M_lineEnd_44 : decode prog_14_method_3_code 44 = .ok (.sipush (-400), 3) := by decide +kernel
theorem d_M_lineEnd_47 : decode prog_14_method_3_code 47 = .ok (.ireturn, 1) := by decide +kernel
theorem d_M_lineEnd_48 : decode prog_14_method_3_code 48 = .ok (.iload 6, 2) := by decide +kernel
theorem d_M_lineEnd_50 : decode prog_14_method_3_code 50 = .ok (.bipush 13, 2) := by decide +kernel
theorem d_M_lineEnd_52 : decode prog_14_method_3_code 52 = .ok (.if_icmp .eq 21, 3) := by decide +kernel
theorem d_M_lineEnd_55 : decode prog_14_method_3_code 55 = .ok (.iload 6, 2) := by decide +kernel
theorem d_M_lineEnd_57 : decode prog_14_method_3_code 57 = .ok (.bipush 32, 2) := by decide +kernel
theorem d_M_lineEnd_59 : decode prog_14_method_3_code 59 = .ok (.if_icmp .lt 10, 3) := by decide +kernel
theorem d_M_lineEnd_62 : decode prog_14_method_3_code 62 = .ok (.iload 6, 2) := by decide +kernel
theorem d_M_lineEnd_64 : decode prog_14_method_3_code 64 = .ok (.bipush 126, 2) := by decide +kernel
theorem d_M_lineEnd_66 : decode prog_14_method_3_code 66 = .ok (.if_icmp .le 7, 3) := by decide +kernel
theorem d_M_lineEnd_69 : decode prog_14_method_3_code 69 = .ok (.sipush (-400), 3) := by decide +kernel
theorem d_M_lineEnd_72 : decode prog_14_method_3_code 72 = .ok (.ireturn, 1) := by decide +kernel
theorem d_M_lineEnd_73 : decode prog_14_method_3_code 73 = .ok (.iload 6, 2) := by decide +kernel
theorem d_M_lineEnd_75 : decode prog_14_method_3_code 75 = .ok (.bipush 13, 2) := by decide +kernel
theorem d_M_lineEnd_77 : decode prog_14_method_3_code 77 = .ok (.if_icmp .eq 14, 3) := by decide +kernel
theorem d_M_lineEnd_80 : decode prog_14_method_3_code 80 = .ok (.iload 5, 2) := by decide +kernel
theorem d_M_lineEnd_82 : decode prog_14_method_3_code 82 = .ok (.iload_n 1, 1) := by decide +kernel
theorem d_M_lineEnd_83 : decode prog_14_method_3_code 83 = .ok (.isub, 1) := by decide +kernel
theorem d_M_lineEnd_84 : decode prog_14_method_3_code 84 = .ok (.iload_n 2, 1) := by decide +kernel
theorem d_M_lineEnd_85 : decode prog_14_method_3_code 85 = .ok (.if_icmp .lt 6, 3) := by decide +kernel
theorem d_M_lineEnd_88 : decode prog_14_method_3_code 88 = .ok (.iload_n 3, 1) := by decide +kernel
theorem d_M_lineEnd_89 : decode prog_14_method_3_code 89 = .ok (.ineg, 1) := by decide +kernel
theorem d_M_lineEnd_90 : decode prog_14_method_3_code 90 = .ok (.ireturn, 1) := by decide +kernel
theorem d_M_lineEnd_91 : decode prog_14_method_3_code 91 = .ok (.iload 6, 2) := by decide +kernel
theorem d_M_lineEnd_93 : decode prog_14_method_3_code 93 = .ok (.istore 4, 2) := by decide +kernel
theorem d_M_lineEnd_95 : decode prog_14_method_3_code 95 = .ok (.iinc 5 1, 3) := by decide +kernel
theorem d_M_lineEnd_98 : decode prog_14_method_3_code 98 = .ok (.goto (-92), 3) := by decide +kernel
theorem d_M_lineEnd_101 : decode prog_14_method_3_code 101 = .ok (.iconst 0, 1) := by decide +kernel
theorem d_M_lineEnd_102 : decode prog_14_method_3_code 102 = .ok (.ireturn, 1) := by decide +kernel
def wq_M_lineEnd_73 (a : Nat) (p0 : Int32) (p1 : Int32) (p2 : Int32) (Q : Int32 → ab_H → Prop) (k6 : Int32 → Int32 → ab_H → Prop) (u5 : Int32) (u6 : Int32) (A : ab_H) : Prop := if u6 = (13 : Int32) then (k6 u6 (u5 + 1) A) else (if (u5 - p0) < p1 then (k6 u6 (u5 + 1) A) else (Q (-p2) A))
set_option maxRecDepth 100000 in
set_option maxHeartbeats 4000000 in
theorem sq_M_lineEnd_73 {l : Launch} {G : mm_G} {a : Nat} {p0 : Int32} {p1 : Int32} {p2 : Int32} {Q : Int32 → ab_H → Prop} {k6 : Int32 → Int32 → ab_H → Prop} (hk6 : ∀ (u4 : Int32) (u5 : Int32) (A : ab_H) (h : mm_H), Vw G h A → k6 u4 u5 A → mm_V l G M_M_lineEnd 0 0 6 [some (va_rf (some a)), some (.int p0), some (.int p1), some (.int p2), some (.int u4), some (.int u5), none] [] h (wQI G Q)) : ∀ (u5 : Int32) (u6 : Int32) (A : ab_H) (h : mm_H), Vw G h A → wq_M_lineEnd_73 a p0 p1 p2 Q k6 u5 u6 A → mm_V l G M_M_lineEnd 0 0 73 [some (va_rf (some a)), some (.int p0), some (.int p1), some (.int p2), none, some (.int u5), some (.int u6)] [] h (wQI G Q) := by
  intro u5 u6 A h hV hw
  unfold wq_M_lineEnd_73 at hw
  refine mm_iload (pc' := 75) d_M_lineEnd_73 rfl rfl ?_
  refine mm_bipush (v := 13) (pc' := 77) d_M_lineEnd_75 rfl (by decide) ?_
  refine wr_icmp_eq hw (pc' := 80) d_M_lineEnd_77 rfl rfl (fun hw => ?_) (fun hw => ?_)
  · refine mm_iload (pc' := 93) d_M_lineEnd_91 rfl rfl ?_
    refine mm_ist4 (pc' := 95) d_M_lineEnd_93 rfl rfl (Nat.le_of_ble_eq_true rfl) ?_
    refine mm_iinc5 (v := (u5 + 1)) (pc' := 98) d_M_lineEnd_95 rfl rfl rfl (Nat.le_of_ble_eq_true rfl) ?_
    refine mm_goto (tgt := 6) d_M_lineEnd_98 rfl ?_
    exact mm_drop (mm_le.s (mm_le.s (mm_le.s (mm_le.s (mm_le.s (mm_le.s (mm_le.n mm_le.e))))))) (hk6 _ _ _ _ hV hw)
  · refine mm_iload (pc' := 82) d_M_lineEnd_80 rfl rfl ?_
    refine mm_iload_n (pc' := 83) d_M_lineEnd_82 rfl rfl rfl ?_
    refine mm_isub (pc' := 84) d_M_lineEnd_83 rfl ?_
    refine mm_iload_n (pc' := 85) d_M_lineEnd_84 rfl rfl rfl ?_
    refine wr_icmp_lt hw (pc' := 88) d_M_lineEnd_85 rfl rfl (fun hw => ?_) (fun hw => ?_)
    · refine mm_iload (pc' := 93) d_M_lineEnd_91 rfl rfl ?_
      refine mm_ist4 (pc' := 95) d_M_lineEnd_93 rfl rfl (Nat.le_of_ble_eq_true rfl) ?_
      refine mm_iinc5 (v := (u5 + 1)) (pc' := 98) d_M_lineEnd_95 rfl rfl rfl (Nat.le_of_ble_eq_true rfl) ?_
      refine mm_goto (tgt := 6) d_M_lineEnd_98 rfl ?_
      exact mm_drop (mm_le.s (mm_le.s (mm_le.s (mm_le.s (mm_le.s (mm_le.s (mm_le.n mm_le.e))))))) (hk6 _ _ _ _ hV hw)
    · refine mm_iload_n (pc' := 89) d_M_lineEnd_88 rfl rfl rfl ?_
      refine mm_ineg (pc' := 90) d_M_lineEnd_89 rfl ?_
      exact wr_iret hV d_M_lineEnd_90 rfl rfl hw
def wq_M_lineEnd_30 (a : Nat) (p0 : Int32) (p1 : Int32) (p2 : Int32) (Q : Int32 → ab_H → Prop)  (u5 : Int32) (u6 : Int32) (A : ab_H) : Prop := if u6 = (10 : Int32) then (Q (u5 + (1 : Int32)) A) else (Q ((-400) : Int32) A)
set_option maxRecDepth 100000 in
set_option maxHeartbeats 4000000 in
theorem sq_M_lineEnd_30 {l : Launch} {G : mm_G} {a : Nat} {p0 : Int32} {p1 : Int32} {p2 : Int32} {Q : Int32 → ab_H → Prop}   : ∀ (u5 : Int32) (u6 : Int32) (A : ab_H) (h : mm_H), Vw G h A → wq_M_lineEnd_30 a p0 p1 p2 Q  u5 u6 A → mm_V l G M_M_lineEnd 0 0 30 [some (va_rf (some a)), some (.int p0), some (.int p1), some (.int p2), none, some (.int u5), some (.int u6)] [] h (wQI G Q) := by
  intro u5 u6 A h hV hw
  unfold wq_M_lineEnd_30 at hw
  refine mm_iload (pc' := 32) d_M_lineEnd_30 rfl rfl ?_
  refine mm_bipush (v := 10) (pc' := 34) d_M_lineEnd_32 rfl (by decide) ?_
  refine wr_icmp_ne hw (pc' := 37) d_M_lineEnd_34 rfl rfl (fun hw => ?_) (fun hw => ?_)
  · refine mm_sipush (v := (-400)) (pc' := 47) d_M_lineEnd_44 rfl (by decide) ?_
    exact wr_iret hV d_M_lineEnd_47 rfl rfl hw
  · refine mm_iload (pc' := 39) d_M_lineEnd_37 rfl rfl ?_
    refine mm_iconst (v := 1) (pc' := 40) d_M_lineEnd_39 rfl (by decide) ?_
    refine mm_iadd (pc' := 41) d_M_lineEnd_40 rfl ?_
    refine mm_goto (tgt := 47) d_M_lineEnd_41 rfl ?_
    exact wr_iret hV d_M_lineEnd_47 rfl rfl hw
def wb_M_lineEnd_6 (a : Nat) (p0 : Int32) (p1 : Int32) (p2 : Int32) (Q : Int32 → ab_H → Prop)  (k6 : Int32 → Int32 → ab_H → Prop) (u4 : Int32) (u5 : Int32) (A : ab_H) : Prop := wgI A (some a) 14 28 (fun x1 => if x1 ≤ u5 then (Q (0 : Int32) A) else (wC A (some a) 14 (fun b => wp_M_byteAt b u5 A (fun x2 A => if u4 = (13 : Int32) then (wq_M_lineEnd_30 a p0 p1 p2 Q u5 x2 A) else (if x2 = (13 : Int32) then (wq_M_lineEnd_73 a p0 p1 p2 Q k6 u5 x2 A) else (if x2 < (32 : Int32) then (Q ((-400) : Int32) A) else (if x2 ≤ (126 : Int32) then (wq_M_lineEnd_73 a p0 p1 p2 Q k6 u5 x2 A) else (Q ((-400) : Int32) A))))))))
def wq_M_lineEnd_6 (a : Nat) (p0 : Int32) (p1 : Int32) (p2 : Int32) (Q : Int32 → ab_H → Prop)  : Nat → Int32 → Int32 → ab_H → Prop
  | 0 => fun _ _ _ => False
  | n + 1 => wb_M_lineEnd_6 a p0 p1 p2 Q  (wq_M_lineEnd_6 a p0 p1 p2 Q  n)
set_option maxRecDepth 100000 in
set_option maxHeartbeats 4000000 in
theorem sq_M_lineEnd_6 {l : Launch} {G : mm_G} {a : Nat} {p0 : Int32} {p1 : Int32} {p2 : Int32} {Q : Int32 → ab_H → Prop}   : ∀ (n : Nat) (u4 : Int32) (u5 : Int32) (A : ab_H) (h : mm_H), Vw G h A → wq_M_lineEnd_6 a p0 p1 p2 Q  n u4 u5 A → mm_V l G M_M_lineEnd 0 0 6 [some (va_rf (some a)), some (.int p0), some (.int p1), some (.int p2), some (.int u4), some (.int u5), none] [] h (wQI G Q) := by
  intro n
  induction n with
  | zero =>
    intro u4 u5 A h hV hw
    exact absurd hw id
  | succ n hk6 =>
    intro u4 u5 A h hV hw
    have hw : wb_M_lineEnd_6 a p0 p1 p2 Q  (wq_M_lineEnd_6 a p0 p1 p2 Q  n) u4 u5 A := hw
    unfold wb_M_lineEnd_6 at hw
    refine mm_iload (pc' := 8) d_M_lineEnd_6 rfl rfl ?_
    refine wr_aload_n (some a) (pc' := 9) d_M_lineEnd_8 rfl rfl rfl ?_
    refine wr_getI hV hw (pc' := 12) d_M_lineEnd_9 rfl fl_M_95 (fun x1 hw => ?_)
    refine wr_icmp_ge hw (pc' := 15) d_M_lineEnd_12 rfl rfl (fun hw => ?_) (fun hw => ?_)
    · refine mm_iconst (v := 0) (pc' := 102) d_M_lineEnd_101 rfl (by decide) ?_
      exact wr_iret hV d_M_lineEnd_102 rfl rfl hw
    · refine wr_aload_n (some a) (pc' := 16) d_M_lineEnd_15 rfl rfl rfl ?_
      refine mm_iload (pc' := 18) d_M_lineEnd_16 rfl rfl ?_
      refine wr_cVI (pc' := 21) (as := [.int u5]) (st := []) d_M_lineEnd_18 rfl cs_M_102 rfl (W := fun b Q' => wp_M_byteAt b u5 A Q') hV hw (fun b Q' hw => sd_M_byteAt hV hw) rfl rfl (Nat.le_of_ble_eq_true rfl) (Nat.le_of_ble_eq_true rfl) (fun x2 h A hV hw => ?_)
      refine mm_ist6 (pc' := 23) d_M_lineEnd_21 rfl rfl (Nat.le_of_ble_eq_true rfl) ?_
      refine mm_iload (pc' := 25) d_M_lineEnd_23 rfl rfl ?_
      refine mm_bipush (v := 13) (pc' := 27) d_M_lineEnd_25 rfl (by decide) ?_
      refine wr_icmp_ne hw (pc' := 30) d_M_lineEnd_27 rfl rfl (fun hw => ?_) (fun hw => ?_)
      · refine mm_iload (pc' := 50) d_M_lineEnd_48 rfl rfl ?_
        refine mm_bipush (v := 13) (pc' := 52) d_M_lineEnd_50 rfl (by decide) ?_
        refine wr_icmp_eq hw (pc' := 55) d_M_lineEnd_52 rfl rfl (fun hw => ?_) (fun hw => ?_)
        · exact mm_drop (mm_le.s (mm_le.s (mm_le.s (mm_le.s (mm_le.n (mm_le.s (mm_le.s mm_le.e))))))) (sq_M_lineEnd_73 hk6 _ _ _ _ hV hw)
        · refine mm_iload (pc' := 57) d_M_lineEnd_55 rfl rfl ?_
          refine mm_bipush (v := 32) (pc' := 59) d_M_lineEnd_57 rfl (by decide) ?_
          refine wr_icmp_lt hw (pc' := 62) d_M_lineEnd_59 rfl rfl (fun hw => ?_) (fun hw => ?_)
          · refine mm_sipush (v := (-400)) (pc' := 72) d_M_lineEnd_69 rfl (by decide) ?_
            exact wr_iret hV d_M_lineEnd_72 rfl rfl hw
          · refine mm_iload (pc' := 64) d_M_lineEnd_62 rfl rfl ?_
            refine mm_bipush (v := 126) (pc' := 66) d_M_lineEnd_64 rfl (by decide) ?_
            refine wr_icmp_le hw (pc' := 69) d_M_lineEnd_66 rfl rfl (fun hw => ?_) (fun hw => ?_)
            · exact mm_drop (mm_le.s (mm_le.s (mm_le.s (mm_le.s (mm_le.n (mm_le.s (mm_le.s mm_le.e))))))) (sq_M_lineEnd_73 hk6 _ _ _ _ hV hw)
            · refine mm_sipush (v := (-400)) (pc' := 72) d_M_lineEnd_69 rfl (by decide) ?_
              exact wr_iret hV d_M_lineEnd_72 rfl rfl hw
      · exact mm_drop (mm_le.s (mm_le.s (mm_le.s (mm_le.s (mm_le.n (mm_le.s (mm_le.s mm_le.e))))))) (sq_M_lineEnd_30  _ _ _ _ hV hw)
def wp_M_lineEnd (a : Nat) (p0 : Int32) (p1 : Int32) (p2 : Int32) (A : ab_H) (Q : Int32 → ab_H → Prop) : Prop := ∃ n, wq_M_lineEnd_6 a p0 p1 p2 Q n (0 : Int32) p0 A
set_option maxRecDepth 100000 in
set_option maxHeartbeats 4000000 in
theorem sd_M_lineEnd {l : Launch} {G : mm_G} {h : mm_H} {A : ab_H} {a : Nat} {p0 : Int32} {p1 : Int32} {p2 : Int32} {Q : Int32 → ab_H → Prop} (hV : Vw G h A) (hw : wp_M_lineEnd a p0 p1 p2 A Q) : mm_S l G M_M_lineEnd [.ref a, .int p0, .int p1, .int p2] h 0 0 (wQI G Q) := by
  unfold wp_M_lineEnd at hw
  refine mm_start rfl (Nat.le_of_ble_eq_true rfl) ?_
  show mm_V l G M_M_lineEnd 0 0 0 [some (va_rf (some a)), some (.int p0), some (.int p1), some (.int p2), none, none, none] [] h _
  refine mm_iconst (v := 0) (pc' := 1) d_M_lineEnd_0 rfl (by decide) ?_
  refine mm_ist4 (pc' := 3) d_M_lineEnd_1 rfl rfl (Nat.le_of_ble_eq_true rfl) ?_
  refine mm_iload_n (pc' := 4) d_M_lineEnd_3 rfl rfl rfl ?_
  refine mm_ist5 (pc' := 6) d_M_lineEnd_4 rfl rfl (Nat.le_of_ble_eq_true rfl) ?_
  obtain ⟨n, hw⟩ := hw
  exact mm_drop (mm_le.s (mm_le.s (mm_le.s (mm_le.s (mm_le.s (mm_le.s (mm_le.n mm_le.e))))))) (sq_M_lineEnd_6  n _ _ _ _ hV hw)
theorem d_M_seek_0 : decode prog_14_method_7_code 0 = .ok (.iload_n 2, 1) := by decide +kernel
theorem d_M_seek_1 : decode prog_14_method_7_code 1 = .ok (.istore 4, 2) := by decide +kernel
theorem d_M_seek_3 : decode prog_14_method_7_code 3 = .ok (.iload 4, 2) := by decide +kernel
theorem d_M_seek_5 : decode prog_14_method_7_code 5 = .ok (.iload_n 3, 1) := by decide +kernel
theorem d_M_seek_6 : decode prog_14_method_7_code 6 = .ok (.if_icmp .ge 22, 3) := by decide +kernel
theorem d_M_seek_9 : decode prog_14_method_7_code 9 = .ok (.aload_n 0, 1) := by decide +kernel
theorem d_M_seek_10 : decode prog_14_method_7_code 10 = .ok (.iload 4, 2) := by decide +kernel
theorem d_M_seek_12 : decode prog_14_method_7_code 12 = .ok (.invokevirtual 102, 3) := by decide +kernel
theorem d_M_seek_15 : decode prog_14_method_7_code 15 = .ok (.iload_n 1, 1) := by decide +kernel
theorem d_M_seek_16 : decode prog_14_method_7_code 16 = .ok (.if_icmp .ne 6, 3) := by decide +kernel
theorem d_M_seek_19 : decode prog_14_method_7_code 19 = .ok (.iload 4, 2) := by decide +kernel
theorem d_M_seek_21 : decode prog_14_method_7_code 21 = .ok (.ireturn, 1) := by decide +kernel
theorem d_M_seek_22 : decode prog_14_method_7_code 22 = .ok (.iinc 4 1, 3) := by decide +kernel
theorem d_M_seek_25 : decode prog_14_method_7_code 25 = .ok (.goto (-22), 3) := by decide +kernel
theorem d_M_seek_28 : decode prog_14_method_7_code 28 = .ok (.iload_n 3, 1) := by decide +kernel
theorem d_M_seek_29 : decode prog_14_method_7_code 29 = .ok (.ireturn, 1) := by decide +kernel
def wb_M_seek_3 (a : Nat) (p0 : Int32) (p1 : Int32) (p2 : Int32) (Q : Int32 → ab_H → Prop)  (k3 : Int32 → ab_H → Prop) (u4 : Int32) (A : ab_H) : Prop := if p2 ≤ u4 then (Q p2 A) else (wC A (some a) 14 (fun b => wp_M_byteAt b u4 A (fun x1 A => if x1 = p0 then (Q u4 A) else (k3 (u4 + 1) A))))
def wq_M_seek_3 (a : Nat) (p0 : Int32) (p1 : Int32) (p2 : Int32) (Q : Int32 → ab_H → Prop)  : Nat → Int32 → ab_H → Prop
  | 0 => fun _ _ => False
  | n + 1 => wb_M_seek_3 a p0 p1 p2 Q  (wq_M_seek_3 a p0 p1 p2 Q  n)
set_option maxRecDepth 100000 in
set_option maxHeartbeats 4000000 in
theorem sq_M_seek_3 {l : Launch} {G : mm_G} {a : Nat} {p0 : Int32} {p1 : Int32} {p2 : Int32} {Q : Int32 → ab_H → Prop}   : ∀ (n : Nat) (u4 : Int32) (A : ab_H) (h : mm_H), Vw G h A → wq_M_seek_3 a p0 p1 p2 Q  n u4 A → mm_V l G M_M_seek 0 0 3 [some (va_rf (some a)), some (.int p0), some (.int p1), some (.int p2), some (.int u4)] [] h (wQI G Q) := by
  intro n
  induction n with
  | zero =>
    intro u4 A h hV hw
    exact absurd hw id
  | succ n hk3 =>
    intro u4 A h hV hw
    have hw : wb_M_seek_3 a p0 p1 p2 Q  (wq_M_seek_3 a p0 p1 p2 Q  n) u4 A := hw
    unfold wb_M_seek_3 at hw
    refine mm_iload (pc' := 5) d_M_seek_3 rfl rfl ?_
    refine mm_iload_n (pc' := 6) d_M_seek_5 rfl rfl rfl ?_
    refine wr_icmp_ge hw (pc' := 9) d_M_seek_6 rfl rfl (fun hw => ?_) (fun hw => ?_)
    · refine mm_iload_n (pc' := 29) d_M_seek_28 rfl rfl rfl ?_
      exact wr_iret hV d_M_seek_29 rfl rfl hw
    · refine wr_aload_n (some a) (pc' := 10) d_M_seek_9 rfl rfl rfl ?_
      refine mm_iload (pc' := 12) d_M_seek_10 rfl rfl ?_
      refine wr_cVI (pc' := 15) (as := [.int u4]) (st := []) d_M_seek_12 rfl cs_M_102 rfl (W := fun b Q' => wp_M_byteAt b u4 A Q') hV hw (fun b Q' hw => sd_M_byteAt hV hw) rfl rfl (Nat.le_of_ble_eq_true rfl) (Nat.le_of_ble_eq_true rfl) (fun x1 h A hV hw => ?_)
      refine mm_iload_n (pc' := 16) d_M_seek_15 rfl rfl rfl ?_
      refine wr_icmp_ne hw (pc' := 19) d_M_seek_16 rfl rfl (fun hw => ?_) (fun hw => ?_)
      · refine mm_iinc4 (v := (u4 + 1)) (pc' := 25) d_M_seek_22 rfl rfl rfl (Nat.le_of_ble_eq_true rfl) ?_
        refine mm_goto (tgt := 3) d_M_seek_25 rfl ?_
        exact mm_drop (mm_le.s (mm_le.s (mm_le.s (mm_le.s (mm_le.s mm_le.e))))) (hk3 _ _ _ hV hw)
      · refine mm_iload (pc' := 21) d_M_seek_19 rfl rfl ?_
        exact wr_iret hV d_M_seek_21 rfl rfl hw
def wp_M_seek (a : Nat) (p0 : Int32) (p1 : Int32) (p2 : Int32) (A : ab_H) (Q : Int32 → ab_H → Prop) : Prop := ∃ n, wq_M_seek_3 a p0 p1 p2 Q n p1 A
set_option maxRecDepth 100000 in
set_option maxHeartbeats 4000000 in
theorem sd_M_seek {l : Launch} {G : mm_G} {h : mm_H} {A : ab_H} {a : Nat} {p0 : Int32} {p1 : Int32} {p2 : Int32} {Q : Int32 → ab_H → Prop} (hV : Vw G h A) (hw : wp_M_seek a p0 p1 p2 A Q) : mm_S l G M_M_seek [.ref a, .int p0, .int p1, .int p2] h 0 0 (wQI G Q) := by
  unfold wp_M_seek at hw
  refine mm_start rfl (Nat.le_of_ble_eq_true rfl) ?_
  show mm_V l G M_M_seek 0 0 0 [some (va_rf (some a)), some (.int p0), some (.int p1), some (.int p2), none] [] h _
  refine mm_iload_n (pc' := 1) d_M_seek_0 rfl rfl rfl ?_
  refine mm_ist4 (pc' := 3) d_M_seek_1 rfl rfl (Nat.le_of_ble_eq_true rfl) ?_
  obtain ⟨n, hw⟩ := hw
  exact mm_drop (mm_le.s (mm_le.s (mm_le.s (mm_le.s (mm_le.s mm_le.e))))) (sq_M_seek_3  n _ _ _ hV hw)
theorem d_M_pathAt_0 : decode prog_14_method_9_code 0 = .ok (.aload_n 0, 1) := by decide +kernel
theorem d_M_pathAt_1 : decode prog_14_method_9_code 1 = .ok (.bipush 32, 2) := by decide +kernel
theorem d_M_pathAt_3 : decode prog_14_method_9_code 3 = .ok (.iconst 0, 1) := by decide +kernel
theorem d_M_pathAt_4 : decode prog_14_method_9_code 4 = .ok (.aload_n 0, 1) := by decide +kernel
theorem d_M_pathAt_5 : decode prog_14_method_9_code 5 = .ok (.getfield 95, 3) := by decide +kernel
theorem d_M_pathAt_8 : decode prog_14_method_9_code 8 = .ok (.invokevirtual 109, 3) := by decide +kernel
theorem d_M_pathAt_11 : decode prog_14_method_9_code 11 = .ok (.iconst 1, 1) := by decide +kernel
theorem d_M_pathAt_12 : decode prog_14_method_9_code 12 = .ok (.iadd, 1) := by decide +kernel
theorem d_M_pathAt_13 : decode prog_14_method_9_code 13 = .ok (.ireturn, 1) := by decide +kernel
def wp_M_pathAt (a : Nat) (A : ab_H) (Q : Int32 → ab_H → Prop) : Prop := wgI A (some a) 14 28 (fun x1 => wC A (some a) 14 (fun b => wp_M_seek b (32 : Int32) (0 : Int32) x1 A (fun x2 A => Q (x2 + (1 : Int32)) A)))
set_option maxRecDepth 100000 in
set_option maxHeartbeats 4000000 in
theorem sd_M_pathAt {l : Launch} {G : mm_G} {h : mm_H} {A : ab_H} {a : Nat} {Q : Int32 → ab_H → Prop} (hV : Vw G h A) (hw : wp_M_pathAt a A Q) : mm_S l G M_M_pathAt [.ref a] h 0 0 (wQI G Q) := by
  unfold wp_M_pathAt at hw
  refine mm_start rfl (Nat.le_of_ble_eq_true rfl) ?_
  show mm_V l G M_M_pathAt 0 0 0 [some (va_rf (some a))] [] h _
  refine wr_aload_n (some a) (pc' := 1) d_M_pathAt_0 rfl rfl rfl ?_
  refine mm_bipush (v := 32) (pc' := 3) d_M_pathAt_1 rfl (by decide) ?_
  refine mm_iconst (v := 0) (pc' := 4) d_M_pathAt_3 rfl (by decide) ?_
  refine wr_aload_n (some a) (pc' := 5) d_M_pathAt_4 rfl rfl rfl ?_
  refine wr_getI hV hw (pc' := 8) d_M_pathAt_5 rfl fl_M_95 (fun x1 hw => ?_)
  refine wr_cVI (pc' := 11) (as := [.int (32 : Int32), .int (0 : Int32), .int x1]) (st := []) d_M_pathAt_8 rfl cs_M_109 rfl (W := fun b Q' => wp_M_seek b (32 : Int32) (0 : Int32) x1 A Q') hV hw (fun b Q' hw => sd_M_seek hV hw) rfl rfl (Nat.le_of_ble_eq_true rfl) (Nat.le_of_ble_eq_true rfl) (fun x2 h A hV hw => ?_)
  refine mm_iconst (v := 1) (pc' := 12) d_M_pathAt_11 rfl (by decide) ?_
  refine mm_iadd (pc' := 13) d_M_pathAt_12 rfl ?_
  exact wr_iret hV d_M_pathAt_13 rfl rfl hw
theorem d_M_targetEnd_0 : decode prog_14_method_10_code 0 = .ok (.aload_n 0, 1) := by decide +kernel
theorem d_M_targetEnd_1 : decode prog_14_method_10_code 1 = .ok (.bipush 32, 2) := by decide +kernel
theorem d_M_targetEnd_3 : decode prog_14_method_10_code 3 = .ok (.aload_n 0, 1) := by decide +kernel
theorem d_M_targetEnd_4 : decode prog_14_method_10_code 4 = .ok (.invokevirtual 113, 3) := by decide +kernel
theorem d_M_targetEnd_7 : decode prog_14_method_10_code 7 = .ok (.aload_n 0, 1) := by decide +kernel
theorem d_M_targetEnd_8 : decode prog_14_method_10_code 8 = .ok (.getfield 95, 3) := by decide +kernel
theorem d_M_targetEnd_11 : decode prog_14_method_10_code 11 = .ok (.invokevirtual 109, 3) := by decide +kernel
theorem d_M_targetEnd_14 : decode prog_14_method_10_code 14 = .ok (.ireturn, 1) := by decide +kernel
def wp_M_targetEnd (a : Nat) (A : ab_H) (Q : Int32 → ab_H → Prop) : Prop := wC A (some a) 14 (fun b => wp_M_pathAt b  A (fun x1 A => wgI A (some a) 14 28 (fun x2 => wC A (some a) 14 (fun b => wp_M_seek b (32 : Int32) x1 x2 A (fun x3 A => Q x3 A)))))
set_option maxRecDepth 100000 in
set_option maxHeartbeats 4000000 in
theorem sd_M_targetEnd {l : Launch} {G : mm_G} {h : mm_H} {A : ab_H} {a : Nat} {Q : Int32 → ab_H → Prop} (hV : Vw G h A) (hw : wp_M_targetEnd a A Q) : mm_S l G M_M_targetEnd [.ref a] h 0 0 (wQI G Q) := by
  unfold wp_M_targetEnd at hw
  refine mm_start rfl (Nat.le_of_ble_eq_true rfl) ?_
  show mm_V l G M_M_targetEnd 0 0 0 [some (va_rf (some a))] [] h _
  refine wr_aload_n (some a) (pc' := 1) d_M_targetEnd_0 rfl rfl rfl ?_
  refine mm_bipush (v := 32) (pc' := 3) d_M_targetEnd_1 rfl (by decide) ?_
  refine wr_aload_n (some a) (pc' := 4) d_M_targetEnd_3 rfl rfl rfl ?_
  refine wr_cVI (pc' := 7) (as := []) (st := [.int (32 : Int32), va_rf (some a)]) d_M_targetEnd_4 rfl cs_M_113 rfl (W := fun b Q' => wp_M_pathAt b  A Q') hV hw (fun b Q' hw => sd_M_pathAt hV hw) rfl rfl (Nat.le_of_ble_eq_true rfl) (Nat.le_trans (wr_hI (wr_hR wr_h0)) (Nat.le_of_ble_eq_true rfl)) (fun x1 h A hV hw => ?_)
  refine wr_aload_n (some a) (pc' := 8) d_M_targetEnd_7 rfl rfl rfl ?_
  refine wr_getI hV hw (pc' := 11) d_M_targetEnd_8 rfl fl_M_95 (fun x2 hw => ?_)
  refine wr_cVI (pc' := 14) (as := [.int (32 : Int32), .int x1, .int x2]) (st := []) d_M_targetEnd_11 rfl cs_M_109 rfl (W := fun b Q' => wp_M_seek b (32 : Int32) x1 x2 A Q') hV hw (fun b Q' hw => sd_M_seek hV hw) rfl rfl (Nat.le_of_ble_eq_true rfl) (Nat.le_of_ble_eq_true rfl) (fun x3 h A hV hw => ?_)
  exact wr_iret hV d_M_targetEnd_14 rfl rfl hw
theorem d_M_pathEnd_0 : decode prog_14_method_11_code 0 = .ok (.aload_n 0, 1) := by decide +kernel
theorem d_M_pathEnd_1 : decode prog_14_method_11_code 1 = .ok (.bipush 63, 2) := by decide +kernel
theorem d_M_pathEnd_3 : decode prog_14_method_11_code 3 = .ok (.aload_n 0, 1) := by decide +kernel
theorem d_M_pathEnd_4 : decode prog_14_method_11_code 4 = .ok (.invokevirtual 113, 3) := by decide +kernel
theorem d_M_pathEnd_7 : decode prog_14_method_11_code 7 = .ok (.aload_n 0, 1) := by decide +kernel
theorem d_M_pathEnd_8 : decode prog_14_method_11_code 8 = .ok (.invokevirtual 117, 3) := by decide +kernel
theorem d_M_pathEnd_11 : decode prog_14_method_11_code 11 = .ok (.invokevirtual 109, 3) := by decide +kernel
theorem d_M_pathEnd_14 : decode prog_14_method_11_code 14 = .ok (.ireturn, 1) := by decide +kernel
def wp_M_pathEnd (a : Nat) (A : ab_H) (Q : Int32 → ab_H → Prop) : Prop := wC A (some a) 14 (fun b => wp_M_pathAt b  A (fun x1 A => wC A (some a) 14 (fun b => wp_M_targetEnd b  A (fun x2 A => wC A (some a) 14 (fun b => wp_M_seek b (63 : Int32) x1 x2 A (fun x3 A => Q x3 A))))))
set_option maxRecDepth 100000 in
set_option maxHeartbeats 4000000 in
theorem sd_M_pathEnd {l : Launch} {G : mm_G} {h : mm_H} {A : ab_H} {a : Nat} {Q : Int32 → ab_H → Prop} (hV : Vw G h A) (hw : wp_M_pathEnd a A Q) : mm_S l G M_M_pathEnd [.ref a] h 0 0 (wQI G Q) := by
  unfold wp_M_pathEnd at hw
  refine mm_start rfl (Nat.le_of_ble_eq_true rfl) ?_
  show mm_V l G M_M_pathEnd 0 0 0 [some (va_rf (some a))] [] h _
  refine wr_aload_n (some a) (pc' := 1) d_M_pathEnd_0 rfl rfl rfl ?_
  refine mm_bipush (v := 63) (pc' := 3) d_M_pathEnd_1 rfl (by decide) ?_
  refine wr_aload_n (some a) (pc' := 4) d_M_pathEnd_3 rfl rfl rfl ?_
  refine wr_cVI (pc' := 7) (as := []) (st := [.int (63 : Int32), va_rf (some a)]) d_M_pathEnd_4 rfl cs_M_113 rfl (W := fun b Q' => wp_M_pathAt b  A Q') hV hw (fun b Q' hw => sd_M_pathAt hV hw) rfl rfl (Nat.le_of_ble_eq_true rfl) (Nat.le_trans (wr_hI (wr_hR wr_h0)) (Nat.le_of_ble_eq_true rfl)) (fun x1 h A hV hw => ?_)
  refine wr_aload_n (some a) (pc' := 8) d_M_pathEnd_7 rfl rfl rfl ?_
  refine wr_cVI (pc' := 11) (as := []) (st := [.int x1, .int (63 : Int32), va_rf (some a)]) d_M_pathEnd_8 rfl cs_M_117 rfl (W := fun b Q' => wp_M_targetEnd b  A Q') hV hw (fun b Q' hw => sd_M_targetEnd hV hw) rfl rfl (Nat.le_of_ble_eq_true rfl) (Nat.le_trans (wr_hI (wr_hI (wr_hR wr_h0))) (Nat.le_of_ble_eq_true rfl)) (fun x2 h A hV hw => ?_)
  refine wr_cVI (pc' := 14) (as := [.int (63 : Int32), .int x1, .int x2]) (st := []) d_M_pathEnd_11 rfl cs_M_109 rfl (W := fun b Q' => wp_M_seek b (63 : Int32) x1 x2 A Q') hV hw (fun b Q' hw => sd_M_seek hV hw) rfl rfl (Nat.le_of_ble_eq_true rfl) (Nat.le_of_ble_eq_true rfl) (fun x3 h A hV hw => ?_)
  exact wr_iret hV d_M_pathEnd_14 rfl rfl hw
theorem d_M_hex_0 : decode prog_14_method_5_code 0 = .ok (.iload_n 0, 1) := by decide +kernel
theorem d_M_hex_1 : decode prog_14_method_5_code 1 = .ok (.bipush 48, 2) := by decide +kernel
theorem d_M_hex_3 : decode prog_14_method_5_code 3 = .ok (.if_icmp .lt 16, 3) := by decide +kernel
theorem d_M_hex_6 : decode prog_14_method_5_code 6 = .ok (.iload_n 0, 1) := by decide +kernel
theorem d_M_hex_7 : decode prog_14_method_5_code 7 = .ok (.bipush 57, 2) := by decide +kernel
theorem d_M_hex_9 : decode prog_14_method_5_code 9 = .ok (.if_icmp .gt 10, 3) := by decide +kernel
theorem d_M_hex_12 : decode prog_14_method_5_code 12 = .ok (.iload_n 0, 1) := by decide +kernel
theorem d_M_hex_13 : decode prog_14_method_5_code 13 = .ok (.bipush 48, 2) := by decide +kernel
theorem d_M_hex_15 : decode prog_14_method_5_code 15 = .ok (.isub, 1) := by decide +kernel
theorem d_M_hex_16 : decode prog_14_method_5_code 16 = .ok (.goto 48, 3) := by decide +kernel
theorem d_M_hex_19 : decode prog_14_method_5_code 19 = .ok (.iload_n 0, 1) := by decide +kernel
theorem d_M_hex_20 : decode prog_14_method_5_code 20 = .ok (.bipush 97, 2) := by decide +kernel
theorem d_M_hex_22 : decode prog_14_method_5_code 22 = .ok (.if_icmp .lt 19, 3) := by decide +kernel
theorem d_M_hex_25 : decode prog_14_method_5_code 25 = .ok (.iload_n 0, 1) := by decide +kernel
theorem d_M_hex_26 : decode prog_14_method_5_code 26 = .ok (.bipush 102, 2) := by decide +kernel
theorem d_M_hex_28 : decode prog_14_method_5_code 28 = .ok (.if_icmp .gt 13, 3) := by decide +kernel
theorem d_M_hex_31 : decode prog_14_method_5_code 31 = .ok (.iload_n 0, 1) := by decide +kernel
theorem d_M_hex_32 : decode prog_14_method_5_code 32 = .ok (.bipush 97, 2) := by decide +kernel
theorem d_M_hex_34 : decode prog_14_method_5_code 34 = .ok (.isub, 1) := by decide +kernel
theorem d_M_hex_35 : decode prog_14_method_5_code 35 = .ok (.bipush 10, 2) := by decide +kernel
theorem d_M_hex_37 : decode prog_14_method_5_code 37 = .ok (.iadd, 1) := by decide +kernel
theorem d_M_hex_38 : decode prog_14_method_5_code 38 = .ok (.goto 26, 3) := by decide +kernel
theorem d_M_hex_41 : decode prog_14_method_5_code 41 = .ok (.iload_n 0, 1) := by decide +kernel
theorem d_M_hex_42 : decode prog_14_method_5_code 42 = .ok (.bipush 65, 2) := by decide +kernel
theorem d_M_hex_44 : decode prog_14_method_5_code 44 = .ok (.if_icmp .lt 19, 3) := by decide +kernel
theorem d_M_hex_47 : decode prog_14_method_5_code 47 = .ok (.iload_n 0, 1) := by decide +kernel
theorem d_M_hex_48 : decode prog_14_method_5_code 48 = .ok (.bipush 70, 2) := by decide +kernel
theorem d_M_hex_50 : decode prog_14_method_5_code 50 = .ok (.if_icmp .gt 13, 3) := by decide +kernel
theorem d_M_hex_53 : decode prog_14_method_5_code 53 = .ok (.iload_n 0, 1) := by decide +kernel
theorem d_M_hex_54 : decode prog_14_method_5_code 54 = .ok (.bipush 65, 2) := by decide +kernel
theorem d_M_hex_56 : decode prog_14_method_5_code 56 = .ok (.isub, 1) := by decide +kernel
theorem d_M_hex_57 : decode prog_14_method_5_code 57 = .ok (.bipush 10, 2) := by decide +kernel
theorem d_M_hex_59 : decode prog_14_method_5_code 59 = .ok (.iadd, 1) := by decide +kernel
theorem d_M_hex_60 : decode prog_14_method_5_code 60 = .ok (.goto 4, 3) := by decide +kernel
theorem d_M_hex_63 : decode prog_14_method_5_code 63 = .ok (.iconst (-1), 1) := by decide +kernel
theorem d_M_hex_64 : decode prog_14_method_5_code 64 = .ok (.ireturn, 1) := by decide +kernel
def wq_M_hex_41 (p0 : Int32) (Q : Int32 → ab_H → Prop)   (A : ab_H) : Prop := if p0 < (65 : Int32) then (Q ((-1) : Int32) A) else (if (70 : Int32) < p0 then (Q ((-1) : Int32) A) else (Q ((p0 - (65 : Int32)) + (10 : Int32)) A))
set_option maxRecDepth 100000 in
set_option maxHeartbeats 4000000 in
theorem sq_M_hex_41 {l : Launch} {G : mm_G} {p0 : Int32} {Q : Int32 → ab_H → Prop}   : ∀ (A : ab_H) (h : mm_H), Vw G h A → wq_M_hex_41 p0 Q  A → mm_V l G M_M_hex 0 0 41 [some (.int p0)] [] h (wQI G Q) := by
  intro A h hV hw
  unfold wq_M_hex_41 at hw
  refine mm_iload_n (pc' := 42) d_M_hex_41 rfl rfl rfl ?_
  refine mm_bipush (v := 65) (pc' := 44) d_M_hex_42 rfl (by decide) ?_
  refine wr_icmp_lt hw (pc' := 47) d_M_hex_44 rfl rfl (fun hw => ?_) (fun hw => ?_)
  · refine mm_iconst (v := (-1)) (pc' := 64) d_M_hex_63 rfl (by decide) ?_
    exact wr_iret hV d_M_hex_64 rfl rfl hw
  · refine mm_iload_n (pc' := 48) d_M_hex_47 rfl rfl rfl ?_
    refine mm_bipush (v := 70) (pc' := 50) d_M_hex_48 rfl (by decide) ?_
    refine wr_icmp_gt hw (pc' := 53) d_M_hex_50 rfl rfl (fun hw => ?_) (fun hw => ?_)
    · refine mm_iconst (v := (-1)) (pc' := 64) d_M_hex_63 rfl (by decide) ?_
      exact wr_iret hV d_M_hex_64 rfl rfl hw
    · refine mm_iload_n (pc' := 54) d_M_hex_53 rfl rfl rfl ?_
      refine mm_bipush (v := 65) (pc' := 56) d_M_hex_54 rfl (by decide) ?_
      refine mm_isub (pc' := 57) d_M_hex_56 rfl ?_
      refine mm_bipush (v := 10) (pc' := 59) d_M_hex_57 rfl (by decide) ?_
      refine mm_iadd (pc' := 60) d_M_hex_59 rfl ?_
      refine mm_goto (tgt := 64) d_M_hex_60 rfl ?_
      exact wr_iret hV d_M_hex_64 rfl rfl hw
def wq_M_hex_19 (p0 : Int32) (Q : Int32 → ab_H → Prop)   (A : ab_H) : Prop := if p0 < (97 : Int32) then (wq_M_hex_41 p0 Q A) else (if (102 : Int32) < p0 then (wq_M_hex_41 p0 Q A) else (Q ((p0 - (97 : Int32)) + (10 : Int32)) A))
set_option maxRecDepth 100000 in
set_option maxHeartbeats 4000000 in
theorem sq_M_hex_19 {l : Launch} {G : mm_G} {p0 : Int32} {Q : Int32 → ab_H → Prop}   : ∀ (A : ab_H) (h : mm_H), Vw G h A → wq_M_hex_19 p0 Q  A → mm_V l G M_M_hex 0 0 19 [some (.int p0)] [] h (wQI G Q) := by
  intro A h hV hw
  unfold wq_M_hex_19 at hw
  refine mm_iload_n (pc' := 20) d_M_hex_19 rfl rfl rfl ?_
  refine mm_bipush (v := 97) (pc' := 22) d_M_hex_20 rfl (by decide) ?_
  refine wr_icmp_lt hw (pc' := 25) d_M_hex_22 rfl rfl (fun hw => ?_) (fun hw => ?_)
  · exact mm_drop (mm_le.s mm_le.e) (sq_M_hex_41  _ _ hV hw)
  · refine mm_iload_n (pc' := 26) d_M_hex_25 rfl rfl rfl ?_
    refine mm_bipush (v := 102) (pc' := 28) d_M_hex_26 rfl (by decide) ?_
    refine wr_icmp_gt hw (pc' := 31) d_M_hex_28 rfl rfl (fun hw => ?_) (fun hw => ?_)
    · exact mm_drop (mm_le.s mm_le.e) (sq_M_hex_41  _ _ hV hw)
    · refine mm_iload_n (pc' := 32) d_M_hex_31 rfl rfl rfl ?_
      refine mm_bipush (v := 97) (pc' := 34) d_M_hex_32 rfl (by decide) ?_
      refine mm_isub (pc' := 35) d_M_hex_34 rfl ?_
      refine mm_bipush (v := 10) (pc' := 37) d_M_hex_35 rfl (by decide) ?_
      refine mm_iadd (pc' := 38) d_M_hex_37 rfl ?_
      refine mm_goto (tgt := 64) d_M_hex_38 rfl ?_
      exact wr_iret hV d_M_hex_64 rfl rfl hw
def wp_M_hex (p0 : Int32) (A : ab_H) (Q : Int32 → ab_H → Prop) : Prop := if p0 < (48 : Int32) then (wq_M_hex_19 p0 Q A) else (if (57 : Int32) < p0 then (wq_M_hex_19 p0 Q A) else (Q (p0 - (48 : Int32)) A))
set_option maxRecDepth 100000 in
set_option maxHeartbeats 4000000 in
theorem sd_M_hex {l : Launch} {G : mm_G} {h : mm_H} {A : ab_H} {p0 : Int32} {Q : Int32 → ab_H → Prop} (hV : Vw G h A) (hw : wp_M_hex p0 A Q) : mm_S l G M_M_hex [.int p0] h 0 0 (wQI G Q) := by
  unfold wp_M_hex at hw
  refine mm_start rfl (Nat.le_of_ble_eq_true rfl) ?_
  show mm_V l G M_M_hex 0 0 0 [some (.int p0)] [] h _
  refine mm_iload_n (pc' := 1) d_M_hex_0 rfl rfl rfl ?_
  refine mm_bipush (v := 48) (pc' := 3) d_M_hex_1 rfl (by decide) ?_
  refine wr_icmp_lt hw (pc' := 6) d_M_hex_3 rfl rfl (fun hw => ?_) (fun hw => ?_)
  · exact mm_drop (mm_le.s mm_le.e) (sq_M_hex_19  _ _ hV hw)
  · refine mm_iload_n (pc' := 7) d_M_hex_6 rfl rfl rfl ?_
    refine mm_bipush (v := 57) (pc' := 9) d_M_hex_7 rfl (by decide) ?_
    refine wr_icmp_gt hw (pc' := 12) d_M_hex_9 rfl rfl (fun hw => ?_) (fun hw => ?_)
    · exact mm_drop (mm_le.s mm_le.e) (sq_M_hex_19  _ _ hV hw)
    · refine mm_iload_n (pc' := 13) d_M_hex_12 rfl rfl rfl ?_
      refine mm_bipush (v := 48) (pc' := 15) d_M_hex_13 rfl (by decide) ?_
      refine mm_isub (pc' := 16) d_M_hex_15 rfl ?_
      refine mm_goto (tgt := 64) d_M_hex_16 rfl ?_
      exact wr_iret hV d_M_hex_64 rfl rfl hw
theorem d_M_coded_0 : decode prog_14_method_8_code 0 = .ok (.iconst 1, 1) := by decide +kernel
theorem d_M_coded_1 : decode prog_14_method_8_code 1 = .ok (.istore_n 3, 1) := by decide +kernel
theorem d_M_coded_2 : decode prog_14_method_8_code 2 = .ok (.iload_n 1, 1) := by decide +kernel
theorem d_M_coded_3 : decode prog_14_method_8_code 3 = .ok (.istore 4, 2) := by decide +kernel
theorem d_M_coded_5 : decode prog_14_method_8_code 5 = .ok (.iload 4, 2) := by decide +kernel
theorem d_M_coded_7 : decode prog_14_method_8_code 7 = .ok (.iload_n 2, 1) := by decide +kernel
theorem d_M_coded_8 : decode prog_14_method_8_code 8 = .ok (.if_icmp .ge 118, 3) := by decide +kernel
theorem d_M_coded_11 : decode prog_14_method_8_code 11 = .ok (.aload_n 0, 1) := by decide +kernel
theorem d_M_coded_12 : decode prog_14_method_8_code 12 = .ok (.iload 4, 2) := by decide +kernel
theorem d_M_coded_14 : decode prog_14_method_8_code 14 = .ok (.invokevirtual 102, 3) := by decide +kernel
theorem d_M_coded_17 : decode prog_14_method_8_code 17 = .ok (.bipush 37, 2) := by decide +kernel
theorem d_M_coded_19 : decode prog_14_method_8_code 19 = .ok (.if_icmp .ne 101, 3) := by decide +kernel
theorem d_M_coded_22 : decode prog_14_method_8_code 22 = .ok (.iload 4, 2) := by decide +kernel
theorem d_M_coded_24 : decode prog_14_method_8_code 24 = .ok (.iconst 2, 1) := by decide +kernel
theorem d_M_coded_25 : decode prog_14_method_8_code 25 = .ok (.iadd, 1) := by decide +kernel
theorem d_M_coded_26 : decode prog_14_method_8_code 26 = .ok (.iload_n 2, 1) := by decide +kernel
theorem d_M_coded_27 : decode prog_14_method_8_code 27 = .ok (.if_icmp .ge 17, 3) := by decide +kernel
theorem d_M_coded_30 : decode prog_14_method_8_code 30 = .ok (.aload_n 0, 1) := by decide +kernel
theorem d_M_coded_31 : decode prog_14_method_8_code 31 = .ok (.iload 4, 2) := by decide +kernel
theorem d_M_coded_33 : decode prog_14_method_8_code 33 = .ok (.iconst 1, 1) := by decide +kernel
theorem d_M_coded_34 : decode prog_14_method_8_code 34 = .ok (.iadd, 1) := by decide +kernel
theorem d_M_coded_35 : decode prog_14_method_8_code 35 = .ok (.invokevirtual 102, 3) := by decide +kernel
theorem d_M_coded_38 : decode prog_14_method_8_code 38 = .ok (.invokestatic 106, 3) := by decide +kernel
theorem d_M_coded_41 : decode prog_14_method_8_code 41 = .ok (.goto 4, 3) := by decide +kernel
theorem d_M_coded_44 : decode prog_14_method_8_code 44 = .ok (.iconst (-1), 1) := by decide +kernel
theorem d_M_coded_45 : decode prog_14_method_8_code 45 = .ok (.istore 5, 2) := by decide +kernel
theorem d_M_coded_47 : decode prog_14_method_8_code 47 = .ok (.iload 4, 2) := by decide +kernel
theorem d_M_coded_49 : decode prog_14_method_8_code 49 = .ok (.iconst 2, 1) := by decide +kernel
theorem d_M_coded_50 : decode prog_14_method_8_code 50 = .ok (.iadd, 1) := by decide +kernel
theorem d_M_coded_51 : decode prog_14_method_8_code 51 = .ok (.iload_n 2, 1) := by decide +kernel
theorem d_M_coded_52 : decode prog_14_method_8_code 52 = .ok (.if_icmp .ge 17, 3) := by decide +kernel
theorem d_M_coded_55 : decode prog_14_method_8_code 55 = .ok (.aload_n 0, 1) := by decide +kernel
theorem d_M_coded_56 : decode prog_14_method_8_code 56 = .ok (.iload 4, 2) := by decide +kernel
theorem d_M_coded_58 : decode prog_14_method_8_code 58 = .ok (.iconst 2, 1) := by decide +kernel
theorem d_M_coded_59 : decode prog_14_method_8_code 59 = .ok (.iadd, 1) := by decide +kernel
theorem d_M_coded_60 : decode prog_14_method_8_code 60 = .ok (.invokevirtual 102, 3) := by decide +kernel
theorem d_M_coded_63 : decode prog_14_method_8_code 63 = .ok (.invokestatic 106, 3) := by decide +kernel
theorem d_M_coded_66 : decode prog_14_method_8_code 66 = .ok (.goto 4, 3) := by decide +kernel
theorem d_M_coded_69 : decode prog_14_method_8_code 69 = .ok (.iconst (-1), 1) := by decide +kernel
theorem d_M_coded_70 : decode prog_14_method_8_code 70 = .ok (.istore 6, 2) := by decide +kernel
theorem d_M_coded_72 : decode prog_14_method_8_code 72 = .ok (.iload 5, 2) := by decide +kernel
theorem d_M_coded_74 : decode prog_14_method_8_code 74 = .ok (.ifCond .lt 8, 3) := by decide +kernel
theorem d_M_coded_77 : decode prog_14_method_8_code 77 = .ok (.iload 6, 2) := by decide +kernel
theorem d_M_coded_79 : decode prog_14_method_8_code 79 = .ok (.ifCond .ge 7, 3) := by decide +kernel
theorem d_M_coded_82 : decode prog_14_method_8_code 82 = .ok (.iconst (-1), 1) := by decide +kernel
theorem d_M_coded_83 : decode prog_14_method_8_code 83 = .ok (.goto 11, 3) := by decide +kernel
theorem d_M_coded_86 : decode prog_14_method_8_code 86 = .ok (.bipush 16, 2) := by decide +kernel
theorem d_M_coded_88 : decode prog_14_method_8_code 88 = .ok (.iload 5, 2) := by decide +kernel
theorem d_M_coded_90 : decode prog_14_method_8_code 90 = .ok (.imul, 1) := by decide +kernel
theorem d_M_coded_91 : decode prog_14_method_8_code 91 = .ok (.iload 6, 2) := by decide +kernel
theorem d_M_coded_93 : decode prog_14_method_8_code 93 = .ok (.iadd, 1) := by decide +kernel
theorem d_M_coded_94 : decode prog_14_method_8_code 94 = .ok (.istore 7, 2) := by decide +kernel
theorem d_M_coded_96 : decode prog_14_method_8_code 96 = .ok (.iload_n 3, 1) := by decide +kernel
theorem d_M_coded_97 : decode prog_14_method_8_code 97 = .ok (.ifCond .eq 21, 3) := by decide +kernel
theorem d_M_coded_100 : decode prog_14_method_8_code 100 = .ok (.iload 7, 2) := by decide +kernel
theorem d_M_coded_102 : decode prog_14_method_8_code 102 = .ok (.bipush 32, 2) := by decide +kernel
theorem d_M_coded_104 : decode prog_14_method_8_code 104 = .ok (.if_icmp .lt 14, 3) := by decide +kernel
theorem d_M_coded_107 : decode prog_14_method_8_code 107 = .ok (.iload 7, 2) := by decide +kernel
theorem d_M_coded_109 : decode prog_14_method_8_code 109 = .ok (.bipush 126, 2) := by decide +kernel
theorem d_M_coded_111 : decode prog_14_method_8_code 111 = .ok (.if_icmp .gt 7, 3) := by decide +kernel
theorem d_M_coded_114 : decode prog_14_method_8_code 114 = .ok (.iconst 1, 1) := by decide +kernel
theorem d_M_coded_115 : decode prog_14_method_8_code 115 = .ok (.goto 4, 3) := by decide +kernel
theorem d_M_coded_118 : decode prog_14_method_8_code 118 = .ok (.iconst 0, 1) := by decide +kernel
theorem d_M_coded_119 : decode prog_14_method_8_code 119 = .ok (.istore_n 3, 1) := by decide +kernel
theorem d_M_coded_120 : decode prog_14_method_8_code 120 = .ok (.iinc 4 1, 3) := by decide +kernel
theorem d_M_coded_123 : decode prog_14_method_8_code 123 = .ok (.goto (-118), 3) := by decide +kernel
theorem d_M_coded_126 : decode prog_14_method_8_code 126 = .ok (.iload_n 3, 1) := by decide +kernel
theorem d_M_coded_127 : decode prog_14_method_8_code 127 = .ok (.ireturn, 1) := by decide +kernel
def wq_M_coded_94 (a : Nat) (p0 : Int32) (p1 : Int32) (Q : Int32 → ab_H → Prop) (k5 : Int32 → Int32 → ab_H → Prop) (u3 : Int32) (u4 : Int32) (s0 : Int32) (A : ab_H) : Prop := if u3 = 0 then (k5 (0 : Int32) (u4 + 1) A) else (if s0 < (32 : Int32) then (k5 (0 : Int32) (u4 + 1) A) else (if (126 : Int32) < s0 then (k5 (0 : Int32) (u4 + 1) A) else (k5 (1 : Int32) (u4 + 1) A)))
set_option maxRecDepth 100000 in
set_option maxHeartbeats 4000000 in
theorem sq_M_coded_94 {l : Launch} {G : mm_G} {a : Nat} {p0 : Int32} {p1 : Int32} {Q : Int32 → ab_H → Prop} {k5 : Int32 → Int32 → ab_H → Prop} (hk5 : ∀ (u3 : Int32) (u4 : Int32) (A : ab_H) (h : mm_H), Vw G h A → k5 u3 u4 A → mm_V l G M_M_coded 0 0 5 [some (va_rf (some a)), some (.int p0), some (.int p1), some (.int u3), some (.int u4), none, none, none] [] h (wQI G Q)) : ∀ (u3 : Int32) (u4 : Int32) (s0 : Int32) (A : ab_H) (h : mm_H), Vw G h A → wq_M_coded_94 a p0 p1 Q k5 u3 u4 s0 A → mm_V l G M_M_coded 0 0 94 [some (va_rf (some a)), some (.int p0), some (.int p1), some (.int u3), some (.int u4), none, none, none] [.int s0] h (wQI G Q) := by
  intro u3 u4 s0 A h hV hw
  unfold wq_M_coded_94 at hw
  refine mm_ist7 (pc' := 96) d_M_coded_94 rfl rfl (Nat.le_of_ble_eq_true rfl) ?_
  refine mm_iload_n (pc' := 97) d_M_coded_96 rfl rfl rfl ?_
  refine wr_if_eq hw (pc' := 100) d_M_coded_97 rfl rfl (fun hw => ?_) (fun hw => ?_)
  · refine mm_iconst (v := 0) (pc' := 119) d_M_coded_118 rfl (by decide) ?_
    refine mm_ist3 (pc' := 120) d_M_coded_119 rfl rfl (Nat.le_of_ble_eq_true rfl) ?_
    refine mm_iinc4 (v := (u4 + 1)) (pc' := 123) d_M_coded_120 rfl rfl rfl (Nat.le_of_ble_eq_true rfl) ?_
    refine mm_goto (tgt := 5) d_M_coded_123 rfl ?_
    exact mm_drop (mm_le.s (mm_le.s (mm_le.s (mm_le.s (mm_le.s (mm_le.n (mm_le.n (mm_le.n mm_le.e)))))))) (hk5 _ _ _ _ hV hw)
  · refine mm_iload (pc' := 102) d_M_coded_100 rfl rfl ?_
    refine mm_bipush (v := 32) (pc' := 104) d_M_coded_102 rfl (by decide) ?_
    refine wr_icmp_lt hw (pc' := 107) d_M_coded_104 rfl rfl (fun hw => ?_) (fun hw => ?_)
    · refine mm_iconst (v := 0) (pc' := 119) d_M_coded_118 rfl (by decide) ?_
      refine mm_ist3 (pc' := 120) d_M_coded_119 rfl rfl (Nat.le_of_ble_eq_true rfl) ?_
      refine mm_iinc4 (v := (u4 + 1)) (pc' := 123) d_M_coded_120 rfl rfl rfl (Nat.le_of_ble_eq_true rfl) ?_
      refine mm_goto (tgt := 5) d_M_coded_123 rfl ?_
      exact mm_drop (mm_le.s (mm_le.s (mm_le.s (mm_le.s (mm_le.s (mm_le.n (mm_le.n (mm_le.n mm_le.e)))))))) (hk5 _ _ _ _ hV hw)
    · refine mm_iload (pc' := 109) d_M_coded_107 rfl rfl ?_
      refine mm_bipush (v := 126) (pc' := 111) d_M_coded_109 rfl (by decide) ?_
      refine wr_icmp_gt hw (pc' := 114) d_M_coded_111 rfl rfl (fun hw => ?_) (fun hw => ?_)
      · refine mm_iconst (v := 0) (pc' := 119) d_M_coded_118 rfl (by decide) ?_
        refine mm_ist3 (pc' := 120) d_M_coded_119 rfl rfl (Nat.le_of_ble_eq_true rfl) ?_
        refine mm_iinc4 (v := (u4 + 1)) (pc' := 123) d_M_coded_120 rfl rfl rfl (Nat.le_of_ble_eq_true rfl) ?_
        refine mm_goto (tgt := 5) d_M_coded_123 rfl ?_
        exact mm_drop (mm_le.s (mm_le.s (mm_le.s (mm_le.s (mm_le.s (mm_le.n (mm_le.n (mm_le.n mm_le.e)))))))) (hk5 _ _ _ _ hV hw)
      · refine mm_iconst (v := 1) (pc' := 115) d_M_coded_114 rfl (by decide) ?_
        refine mm_goto (tgt := 119) d_M_coded_115 rfl ?_
        refine mm_ist3 (pc' := 120) d_M_coded_119 rfl rfl (Nat.le_of_ble_eq_true rfl) ?_
        refine mm_iinc4 (v := (u4 + 1)) (pc' := 123) d_M_coded_120 rfl rfl rfl (Nat.le_of_ble_eq_true rfl) ?_
        refine mm_goto (tgt := 5) d_M_coded_123 rfl ?_
        exact mm_drop (mm_le.s (mm_le.s (mm_le.s (mm_le.s (mm_le.s (mm_le.n (mm_le.n (mm_le.n mm_le.e)))))))) (hk5 _ _ _ _ hV hw)
def wq_M_coded_82 (a : Nat) (p0 : Int32) (p1 : Int32) (Q : Int32 → ab_H → Prop) (k5 : Int32 → Int32 → ab_H → Prop) (u3 : Int32) (u4 : Int32) (A : ab_H) : Prop := wq_M_coded_94 a p0 p1 Q k5 u3 u4 ((-1) : Int32) A
set_option maxRecDepth 100000 in
set_option maxHeartbeats 4000000 in
theorem sq_M_coded_82 {l : Launch} {G : mm_G} {a : Nat} {p0 : Int32} {p1 : Int32} {Q : Int32 → ab_H → Prop} {k5 : Int32 → Int32 → ab_H → Prop} (hk5 : ∀ (u3 : Int32) (u4 : Int32) (A : ab_H) (h : mm_H), Vw G h A → k5 u3 u4 A → mm_V l G M_M_coded 0 0 5 [some (va_rf (some a)), some (.int p0), some (.int p1), some (.int u3), some (.int u4), none, none, none] [] h (wQI G Q)) : ∀ (u3 : Int32) (u4 : Int32) (A : ab_H) (h : mm_H), Vw G h A → wq_M_coded_82 a p0 p1 Q k5 u3 u4 A → mm_V l G M_M_coded 0 0 82 [some (va_rf (some a)), some (.int p0), some (.int p1), some (.int u3), some (.int u4), none, none, none] [] h (wQI G Q) := by
  intro u3 u4 A h hV hw
  unfold wq_M_coded_82 at hw
  refine mm_iconst (v := (-1)) (pc' := 83) d_M_coded_82 rfl (by decide) ?_
  refine mm_goto (tgt := 94) d_M_coded_83 rfl ?_
  exact mm_drop (mm_le.s (mm_le.s (mm_le.s (mm_le.s (mm_le.s (mm_le.n (mm_le.n (mm_le.n mm_le.e)))))))) (sq_M_coded_94 hk5 _ _ _ _ _ hV hw)
def wq_M_coded_70 (a : Nat) (p0 : Int32) (p1 : Int32) (Q : Int32 → ab_H → Prop) (k5 : Int32 → Int32 → ab_H → Prop) (u3 : Int32) (u4 : Int32) (u5 : Int32) (s0 : Int32) (A : ab_H) : Prop := if u5 < 0 then (wq_M_coded_82 a p0 p1 Q k5 u3 u4 A) else (if 0 ≤ s0 then (wq_M_coded_94 a p0 p1 Q k5 u3 u4 (((16 : Int32) * u5) + s0) A) else (wq_M_coded_82 a p0 p1 Q k5 u3 u4 A))
set_option maxRecDepth 100000 in
set_option maxHeartbeats 4000000 in
theorem sq_M_coded_70 {l : Launch} {G : mm_G} {a : Nat} {p0 : Int32} {p1 : Int32} {Q : Int32 → ab_H → Prop} {k5 : Int32 → Int32 → ab_H → Prop} (hk5 : ∀ (u3 : Int32) (u4 : Int32) (A : ab_H) (h : mm_H), Vw G h A → k5 u3 u4 A → mm_V l G M_M_coded 0 0 5 [some (va_rf (some a)), some (.int p0), some (.int p1), some (.int u3), some (.int u4), none, none, none] [] h (wQI G Q)) : ∀ (u3 : Int32) (u4 : Int32) (u5 : Int32) (s0 : Int32) (A : ab_H) (h : mm_H), Vw G h A → wq_M_coded_70 a p0 p1 Q k5 u3 u4 u5 s0 A → mm_V l G M_M_coded 0 0 70 [some (va_rf (some a)), some (.int p0), some (.int p1), some (.int u3), some (.int u4), some (.int u5), none, none] [.int s0] h (wQI G Q) := by
  intro u3 u4 u5 s0 A h hV hw
  unfold wq_M_coded_70 at hw
  refine mm_ist6 (pc' := 72) d_M_coded_70 rfl rfl (Nat.le_of_ble_eq_true rfl) ?_
  refine mm_iload (pc' := 74) d_M_coded_72 rfl rfl ?_
  refine wr_if_lt hw (pc' := 77) d_M_coded_74 rfl rfl (fun hw => ?_) (fun hw => ?_)
  · exact mm_drop (mm_le.s (mm_le.s (mm_le.s (mm_le.s (mm_le.s (mm_le.n (mm_le.n (mm_le.n mm_le.e)))))))) (sq_M_coded_82 hk5 _ _ _ _ hV hw)
  · refine mm_iload (pc' := 79) d_M_coded_77 rfl rfl ?_
    refine wr_if_ge hw (pc' := 82) d_M_coded_79 rfl rfl (fun hw => ?_) (fun hw => ?_)
    · refine mm_bipush (v := 16) (pc' := 88) d_M_coded_86 rfl (by decide) ?_
      refine mm_iload (pc' := 90) d_M_coded_88 rfl rfl ?_
      refine mm_imul (pc' := 91) d_M_coded_90 rfl ?_
      refine mm_iload (pc' := 93) d_M_coded_91 rfl rfl ?_
      refine mm_iadd (pc' := 94) d_M_coded_93 rfl ?_
      exact mm_drop (mm_le.s (mm_le.s (mm_le.s (mm_le.s (mm_le.s (mm_le.n (mm_le.n (mm_le.n mm_le.e)))))))) (sq_M_coded_94 hk5 _ _ _ _ _ hV hw)
    · exact mm_drop (mm_le.s (mm_le.s (mm_le.s (mm_le.s (mm_le.s (mm_le.n (mm_le.n (mm_le.n mm_le.e)))))))) (sq_M_coded_82 hk5 _ _ _ _ hV hw)
def wq_M_coded_45 (a : Nat) (p0 : Int32) (p1 : Int32) (Q : Int32 → ab_H → Prop) (k5 : Int32 → Int32 → ab_H → Prop) (u3 : Int32) (u4 : Int32) (s0 : Int32) (A : ab_H) : Prop := if p1 ≤ (u4 + (2 : Int32)) then (wq_M_coded_70 a p0 p1 Q k5 u3 u4 s0 ((-1) : Int32) A) else (wC A (some a) 14 (fun b => wp_M_byteAt b (u4 + (2 : Int32)) A (fun x1 A => wp_M_hex x1 A (fun x2 A => wq_M_coded_70 a p0 p1 Q k5 u3 u4 s0 x2 A))))
set_option maxRecDepth 100000 in
set_option maxHeartbeats 4000000 in
theorem sq_M_coded_45 {l : Launch} {G : mm_G} {a : Nat} {p0 : Int32} {p1 : Int32} {Q : Int32 → ab_H → Prop} {k5 : Int32 → Int32 → ab_H → Prop} (hk5 : ∀ (u3 : Int32) (u4 : Int32) (A : ab_H) (h : mm_H), Vw G h A → k5 u3 u4 A → mm_V l G M_M_coded 0 0 5 [some (va_rf (some a)), some (.int p0), some (.int p1), some (.int u3), some (.int u4), none, none, none] [] h (wQI G Q)) : ∀ (u3 : Int32) (u4 : Int32) (s0 : Int32) (A : ab_H) (h : mm_H), Vw G h A → wq_M_coded_45 a p0 p1 Q k5 u3 u4 s0 A → mm_V l G M_M_coded 0 0 45 [some (va_rf (some a)), some (.int p0), some (.int p1), some (.int u3), some (.int u4), none, none, none] [.int s0] h (wQI G Q) := by
  intro u3 u4 s0 A h hV hw
  unfold wq_M_coded_45 at hw
  refine mm_ist5 (pc' := 47) d_M_coded_45 rfl rfl (Nat.le_of_ble_eq_true rfl) ?_
  refine mm_iload (pc' := 49) d_M_coded_47 rfl rfl ?_
  refine mm_iconst (v := 2) (pc' := 50) d_M_coded_49 rfl (by decide) ?_
  refine mm_iadd (pc' := 51) d_M_coded_50 rfl ?_
  refine mm_iload_n (pc' := 52) d_M_coded_51 rfl rfl rfl ?_
  refine wr_icmp_ge hw (pc' := 55) d_M_coded_52 rfl rfl (fun hw => ?_) (fun hw => ?_)
  · refine mm_iconst (v := (-1)) (pc' := 70) d_M_coded_69 rfl (by decide) ?_
    exact mm_drop (mm_le.s (mm_le.s (mm_le.s (mm_le.s (mm_le.s (mm_le.s (mm_le.n (mm_le.n mm_le.e)))))))) (sq_M_coded_70 hk5 _ _ _ _ _ _ hV hw)
  · refine wr_aload_n (some a) (pc' := 56) d_M_coded_55 rfl rfl rfl ?_
    refine mm_iload (pc' := 58) d_M_coded_56 rfl rfl ?_
    refine mm_iconst (v := 2) (pc' := 59) d_M_coded_58 rfl (by decide) ?_
    refine mm_iadd (pc' := 60) d_M_coded_59 rfl ?_
    refine wr_cVI (pc' := 63) (as := [.int (u4 + (2 : Int32))]) (st := []) d_M_coded_60 rfl cs_M_102 rfl (W := fun b Q' => wp_M_byteAt b (u4 + (2 : Int32)) A Q') hV hw (fun b Q' hw => sd_M_byteAt hV hw) rfl rfl (Nat.le_of_ble_eq_true rfl) (Nat.le_of_ble_eq_true rfl) (fun x1 h A hV hw => ?_)
    refine wr_cSI (pc' := 66) (as := [.int x1]) (st := []) d_M_coded_63 rfl cs_M_106 (sd_M_hex hV hw) rfl rfl (Nat.le_of_ble_eq_true rfl) (Nat.le_of_ble_eq_true rfl) (fun x2 h A hV hw => ?_)
    refine mm_goto (tgt := 70) d_M_coded_66 rfl ?_
    exact mm_drop (mm_le.s (mm_le.s (mm_le.s (mm_le.s (mm_le.s (mm_le.s (mm_le.n (mm_le.n mm_le.e)))))))) (sq_M_coded_70 hk5 _ _ _ _ _ _ hV hw)
def wb_M_coded_5 (a : Nat) (p0 : Int32) (p1 : Int32) (Q : Int32 → ab_H → Prop)  (k5 : Int32 → Int32 → ab_H → Prop) (u3 : Int32) (u4 : Int32) (A : ab_H) : Prop := if p1 ≤ u4 then (wB u3 (Q u3 A)) else (wC A (some a) 14 (fun b => wp_M_byteAt b u4 A (fun x3 A => if x3 = (37 : Int32) then (if p1 ≤ (u4 + (2 : Int32)) then (wq_M_coded_45 a p0 p1 Q k5 u3 u4 ((-1) : Int32) A) else (wC A (some a) 14 (fun b => wp_M_byteAt b (u4 + (1 : Int32)) A (fun x4 A => wp_M_hex x4 A (fun x5 A => wq_M_coded_45 a p0 p1 Q k5 u3 u4 x5 A))))) else (k5 u3 (u4 + 1) A))))
def wq_M_coded_5 (a : Nat) (p0 : Int32) (p1 : Int32) (Q : Int32 → ab_H → Prop)  : Nat → Int32 → Int32 → ab_H → Prop
  | 0 => fun _ _ _ => False
  | n + 1 => wb_M_coded_5 a p0 p1 Q  (wq_M_coded_5 a p0 p1 Q  n)
set_option maxRecDepth 100000 in
set_option maxHeartbeats 4000000 in
theorem sq_M_coded_5 {l : Launch} {G : mm_G} {a : Nat} {p0 : Int32} {p1 : Int32} {Q : Int32 → ab_H → Prop}   : ∀ (n : Nat) (u3 : Int32) (u4 : Int32) (A : ab_H) (h : mm_H), Vw G h A → wq_M_coded_5 a p0 p1 Q  n u3 u4 A → mm_V l G M_M_coded 0 0 5 [some (va_rf (some a)), some (.int p0), some (.int p1), some (.int u3), some (.int u4), none, none, none] [] h (wQI G Q) := by
  intro n
  induction n with
  | zero =>
    intro u3 u4 A h hV hw
    exact absurd hw id
  | succ n hk5 =>
    intro u3 u4 A h hV hw
    have hw : wb_M_coded_5 a p0 p1 Q  (wq_M_coded_5 a p0 p1 Q  n) u3 u4 A := hw
    unfold wb_M_coded_5 at hw
    refine mm_iload (pc' := 7) d_M_coded_5 rfl rfl ?_
    refine mm_iload_n (pc' := 8) d_M_coded_7 rfl rfl rfl ?_
    refine wr_icmp_ge hw (pc' := 11) d_M_coded_8 rfl rfl (fun hw => ?_) (fun hw => ?_)
    · refine mm_iload_n (pc' := 127) d_M_coded_126 rfl rfl rfl ?_
      obtain ⟨hb, hw⟩ := hw
      exact wr_iret hV d_M_coded_127 rfl (wn_b hb) hw
    · refine wr_aload_n (some a) (pc' := 12) d_M_coded_11 rfl rfl rfl ?_
      refine mm_iload (pc' := 14) d_M_coded_12 rfl rfl ?_
      refine wr_cVI (pc' := 17) (as := [.int u4]) (st := []) d_M_coded_14 rfl cs_M_102 rfl (W := fun b Q' => wp_M_byteAt b u4 A Q') hV hw (fun b Q' hw => sd_M_byteAt hV hw) rfl rfl (Nat.le_of_ble_eq_true rfl) (Nat.le_of_ble_eq_true rfl) (fun x3 h A hV hw => ?_)
      refine mm_bipush (v := 37) (pc' := 19) d_M_coded_17 rfl (by decide) ?_
      refine wr_icmp_ne hw (pc' := 22) d_M_coded_19 rfl rfl (fun hw => ?_) (fun hw => ?_)
      · refine mm_iinc4 (v := (u4 + 1)) (pc' := 123) d_M_coded_120 rfl rfl rfl (Nat.le_of_ble_eq_true rfl) ?_
        refine mm_goto (tgt := 5) d_M_coded_123 rfl ?_
        exact mm_drop (mm_le.s (mm_le.s (mm_le.s (mm_le.s (mm_le.s (mm_le.n (mm_le.n (mm_le.n mm_le.e)))))))) (hk5 _ _ _ _ hV hw)
      · refine mm_iload (pc' := 24) d_M_coded_22 rfl rfl ?_
        refine mm_iconst (v := 2) (pc' := 25) d_M_coded_24 rfl (by decide) ?_
        refine mm_iadd (pc' := 26) d_M_coded_25 rfl ?_
        refine mm_iload_n (pc' := 27) d_M_coded_26 rfl rfl rfl ?_
        refine wr_icmp_ge hw (pc' := 30) d_M_coded_27 rfl rfl (fun hw => ?_) (fun hw => ?_)
        · refine mm_iconst (v := (-1)) (pc' := 45) d_M_coded_44 rfl (by decide) ?_
          exact mm_drop (mm_le.s (mm_le.s (mm_le.s (mm_le.s (mm_le.s (mm_le.n (mm_le.n (mm_le.n mm_le.e)))))))) (sq_M_coded_45 hk5 _ _ _ _ _ hV hw)
        · refine wr_aload_n (some a) (pc' := 31) d_M_coded_30 rfl rfl rfl ?_
          refine mm_iload (pc' := 33) d_M_coded_31 rfl rfl ?_
          refine mm_iconst (v := 1) (pc' := 34) d_M_coded_33 rfl (by decide) ?_
          refine mm_iadd (pc' := 35) d_M_coded_34 rfl ?_
          refine wr_cVI (pc' := 38) (as := [.int (u4 + (1 : Int32))]) (st := []) d_M_coded_35 rfl cs_M_102 rfl (W := fun b Q' => wp_M_byteAt b (u4 + (1 : Int32)) A Q') hV hw (fun b Q' hw => sd_M_byteAt hV hw) rfl rfl (Nat.le_of_ble_eq_true rfl) (Nat.le_of_ble_eq_true rfl) (fun x4 h A hV hw => ?_)
          refine wr_cSI (pc' := 41) (as := [.int x4]) (st := []) d_M_coded_38 rfl cs_M_106 (sd_M_hex hV hw) rfl rfl (Nat.le_of_ble_eq_true rfl) (Nat.le_of_ble_eq_true rfl) (fun x5 h A hV hw => ?_)
          refine mm_goto (tgt := 45) d_M_coded_41 rfl ?_
          exact mm_drop (mm_le.s (mm_le.s (mm_le.s (mm_le.s (mm_le.s (mm_le.n (mm_le.n (mm_le.n mm_le.e)))))))) (sq_M_coded_45 hk5 _ _ _ _ _ hV hw)
def wp_M_coded (a : Nat) (p0 : Int32) (p1 : Int32) (A : ab_H) (Q : Int32 → ab_H → Prop) : Prop := ∃ n, wq_M_coded_5 a p0 p1 Q n (1 : Int32) p0 A
set_option maxRecDepth 100000 in
set_option maxHeartbeats 4000000 in
theorem sd_M_coded {l : Launch} {G : mm_G} {h : mm_H} {A : ab_H} {a : Nat} {p0 : Int32} {p1 : Int32} {Q : Int32 → ab_H → Prop} (hV : Vw G h A) (hw : wp_M_coded a p0 p1 A Q) : mm_S l G M_M_coded [.ref a, .int p0, .int p1] h 0 0 (wQI G Q) := by
  unfold wp_M_coded at hw
  refine mm_start rfl (Nat.le_of_ble_eq_true rfl) ?_
  show mm_V l G M_M_coded 0 0 0 [some (va_rf (some a)), some (.int p0), some (.int p1), none, none, none, none, none] [] h _
  refine mm_iconst (v := 1) (pc' := 1) d_M_coded_0 rfl (by decide) ?_
  refine mm_ist3 (pc' := 2) d_M_coded_1 rfl rfl (Nat.le_of_ble_eq_true rfl) ?_
  refine mm_iload_n (pc' := 3) d_M_coded_2 rfl rfl rfl ?_
  refine mm_ist4 (pc' := 5) d_M_coded_3 rfl rfl (Nat.le_of_ble_eq_true rfl) ?_
  obtain ⟨n, hw⟩ := hw
  exact mm_drop (mm_le.s (mm_le.s (mm_le.s (mm_le.s (mm_le.s (mm_le.n (mm_le.n (mm_le.n mm_le.e)))))))) (sq_M_coded_5  n _ _ _ _ hV hw)
theorem d_M_requestLine_0 : decode prog_14_method_12_code 0 = .ok (.aload_n 0, 1) := by decide +kernel
theorem d_M_requestLine_1 : decode prog_14_method_12_code 1 = .ok (.bipush 32, 2) := by decide +kernel
theorem d_M_requestLine_3 : decode prog_14_method_12_code 3 = .ok (.iconst 0, 1) := by decide +kernel
theorem d_M_requestLine_4 : decode prog_14_method_12_code 4 = .ok (.iload_n 1, 1) := by decide +kernel
theorem d_M_requestLine_5 : decode prog_14_method_12_code 5 = .ok (.invokevirtual 109, 3) := by decide +kernel
theorem d_M_requestLine_8 : decode prog_14_method_12_code 8 = .ok (.istore_n 2, 1) := by decide +kernel
theorem d_M_requestLine_9 : decode prog_14_method_12_code 9 = .ok (.iload_n 2, 1) := by decide +kernel
theorem d_M_requestLine_10 : decode prog_14_method_12_code 10 = .ok (.iconst 1, 1) := by decide +kernel
theorem d_M_requestLine_11 : decode prog_14_method_12_code 11 = .ok (.if_icmp .lt 18, 3) := by decide +kernel
theorem d_M_requestLine_14 : decode prog_14_method_12_code 14 = .ok (.iload_n 2, 1) := by decide +kernel
theorem d_M_requestLine_15 : decode prog_14_method_12_code 15 = .ok (.bipush 7, 2) := by decide +kernel
theorem d_M_requestLine_17 : decode prog_14_method_12_code 17 = .ok (.if_icmp .gt 12, 3) := by decide +kernel
theorem d_M_requestLine_20 : decode prog_14_method_12_code 20 = .ok (.iload_n 2, 1) := by decide +kernel
theorem d_M_requestLine_21 : decode prog_14_method_12_code 21 = .ok (.iload_n 1, 1) := by decide +kernel
theorem d_M_requestLine_22 : decode prog_14_method_12_code 22 = .ok (.if_icmp .ge 7, 3) := by decide +kernel
theorem d_M_requestLine_25 : decode prog_14_method_12_code 25 = .ok (.iconst 1, 1) := by decide +kernel
theorem d_M_requestLine_26 : decode prog_14_method_12_code 26 = .ok (.goto 4, 3) := by decide +kernel
theorem d_M_requestLine_29 : decode prog_14_method_12_code 29 = .ok (.iconst 0, 1) := by decide +kernel
theorem d_M_requestLine_30 : decode prog_14_method_12_code 30 = .ok (.istore_n 3, 1) := by decide +kernel
theorem d_M_requestLine_31 : decode prog_14_method_12_code 31 = .ok (.iconst 0, 1) := by decide +kernel
theorem d_M_requestLine_32 : decode prog_14_method_12_code 32 = .ok (.istore 4, 2) := by decide +kernel
theorem d_M_requestLine_34 : decode prog_14_method_12_code 34 = .ok (.iload 4, 2) := by decide +kernel
theorem d_M_requestLine_36 : decode prog_14_method_12_code 36 = .ok (.iload_n 2, 1) := by decide +kernel
theorem d_M_requestLine_37 : decode prog_14_method_12_code 37 = .ok (.if_icmp .ge 41, 3) := by decide +kernel
theorem d_M_requestLine_40 : decode prog_14_method_12_code 40 = .ok (.iload_n 3, 1) := by decide +kernel
theorem d_M_requestLine_41 : decode prog_14_method_12_code 41 = .ok (.ifCond .eq 29, 3) := by decide +kernel
theorem d_M_requestLine_44 : decode prog_14_method_12_code 44 = .ok (.aload_n 0, 1) := by decide +kernel
theorem d_M_requestLine_45 : decode prog_14_method_12_code 45 = .ok (.iload 4, 2) := by decide +kernel
theorem d_M_requestLine_47 : decode prog_14_method_12_code 47 = .ok (.invokevirtual 102, 3) := by decide +kernel
theorem d_M_requestLine_50 : decode prog_14_method_12_code 50 = .ok (.bipush 65, 2) := by decide +kernel
theorem d_M_requestLine_52 : decode prog_14_method_12_code 52 = .ok (.if_icmp .lt 18, 3) := by decide +kernel
theorem d_M_requestLine_55 : decode prog_14_method_12_code 55 = .ok (.aload_n 0, 1) := by decide +kernel
theorem d_M_requestLine_56 : decode prog_14_method_12_code 56 = .ok (.iload 4, 2) := by decide +kernel
theorem d_M_requestLine_58 : decode prog_14_method_12_code 58 = .ok (.invokevirtual 102, 3) := by decide +kernel
theorem d_M_requestLine_61 : decode prog_14_method_12_code 61 = .ok (.bipush 90, 2) := by decide +kernel
theorem d_M_requestLine_63 : decode prog_14_method_12_code 63 = .ok (.if_icmp .gt 7, 3) := by decide +kernel
theorem d_M_requestLine_66 : decode prog_14_method_12_code 66 = .ok (.iconst 1, 1) := by decide +kernel
theorem d_M_requestLine_67 : decode prog_14_method_12_code 67 = .ok (.goto 4, 3) := by decide +kernel
theorem d_M_requestLine_70 : decode prog_14_method_12_code 70 = .ok (.iconst 0, 1) := by decide +kernel
theorem d_M_requestLine_71 : decode prog_14_method_12_code 71 = .ok (.istore_n 3, 1) := by decide +kernel
theorem d_M_requestLine_72 : decode prog_14_method_12_code 72 = .ok (.iinc 4 1, 3) := by decide +kernel
theorem d_M_requestLine_75 : decode prog_14_method_12_code 75 = .ok (.goto (-41), 3) := by decide +kernel
theorem d_M_requestLine_78 : decode prog_14_method_12_code 78 = .ok (.aload_n 0, 1) := by decide +kernel
theorem d_M_requestLine_79 : decode prog_14_method_12_code 79 = .ok (.bipush 32, 2) := by decide +kernel
theorem d_M_requestLine_81 : decode prog_14_method_12_code 81 = .ok (.iload_n 2, 1) := by decide +kernel
theorem d_M_requestLine_82 : decode prog_14_method_12_code 82 = .ok (.iconst 1, 1) := by decide +kernel
theorem d_M_requestLine_83 : decode prog_14_method_12_code 83 = .ok (.iadd, 1) := by decide +kernel
theorem d_M_requestLine_84 : decode prog_14_method_12_code 84 = .ok (.iload_n 1, 1) := by decide +kernel
theorem d_M_requestLine_85 : decode prog_14_method_12_code 85 = .ok (.invokevirtual 109, 3) := by decide +kernel
theorem d_M_requestLine_88 : decode prog_14_method_12_code 88 = .ok (.istore 4, 2) := by decide +kernel
theorem d_M_requestLine_90 : decode prog_14_method_12_code 90 = .ok (.iload_n 3, 1) := by decide +kernel
theorem d_M_requestLine_91 : decode prog_14_method_12_code 91 = .ok (.ifCond .eq 53, 3) := by decide +kernel
theorem d_M_requestLine_94 : decode prog_14_method_12_code 94 = .ok (.aload_n 0, 1) := by decide +kernel
theorem d_M_requestLine_95 : decode prog_14_method_12_code 95 = .ok (.iload_n 2, 1) := by decide +kernel
theorem d_M_requestLine_96 : decode prog_14_method_12_code 96 = .ok (.iconst 1, 1) := by decide +kernel
theorem d_M_requestLine_97 : decode prog_14_method_12_code 97 = .ok (.iadd, 1) := by decide +kernel
theorem d_M_requestLine_98 : decode prog_14_method_12_code 98 = .ok (.invokevirtual 102, 3) := by decide +kernel
theorem d_M_requestLine_101 : decode prog_14_method_12_code 101 = .ok (.bipush 47, 2) := by decide +kernel
theorem d_M_requestLine_103 : decode prog_14_method_12_code 103 = .ok (.if_icmp .ne 41, 3) := by decide +kernel
theorem d_M_requestLine_106 : decode prog_14_method_12_code 106 = .ok (.iload 4, 2) := by decide +kernel
theorem d_M_requestLine_108 : decode prog_14_method_12_code 108 = .ok (.iload_n 1, 1) := by decide +kernel
theorem d_M_requestLine_109 : decode prog_14_method_12_code 109 = .ok (.iconst 3, 1) := by decide +kernel
theorem d_M_requestLine_110 : decode prog_14_method_12_code 110 = .ok (.isub, 1) := by decide +kernel
theorem d_M_requestLine_111 : decode prog_14_method_12_code 111 = .ok (.if_icmp .ne 33, 3) := by decide +kernel
theorem d_M_requestLine_114 : decode prog_14_method_12_code 114 = .ok (.aload_n 0, 1) := by decide +kernel
theorem d_M_requestLine_115 : decode prog_14_method_12_code 115 = .ok (.iload 4, 2) := by decide +kernel
theorem d_M_requestLine_117 : decode prog_14_method_12_code 117 = .ok (.iconst 1, 1) := by decide +kernel
theorem d_M_requestLine_118 : decode prog_14_method_12_code 118 = .ok (.iadd, 1) := by decide +kernel
theorem d_M_requestLine_119 : decode prog_14_method_12_code 119 = .ok (.invokevirtual 102, 3) := by decide +kernel
theorem d_M_requestLine_122 : decode prog_14_method_12_code 122 = .ok (.bipush 72, 2) := by decide +kernel
theorem d_M_requestLine_124 : decode prog_14_method_12_code 124 = .ok (.if_icmp .ne 20, 3) := by decide +kernel
theorem d_M_requestLine_127 : decode prog_14_method_12_code 127 = .ok (.aload_n 0, 1) := by decide +kernel
theorem d_M_requestLine_128 : decode prog_14_method_12_code 128 = .ok (.iload 4, 2) := by decide +kernel
theorem d_M_requestLine_130 : decode prog_14_method_12_code 130 = .ok (.iconst 2, 1) := by decide +kernel
theorem d_M_requestLine_131 : decode prog_14_method_12_code 131 = .ok (.iadd, 1) := by decide +kernel
theorem d_M_requestLine_132 : decode prog_14_method_12_code 132 = .ok (.invokevirtual 102, 3) := by decide +kernel
theorem d_M_requestLine_135 : decode prog_14_method_12_code 135 = .ok (.bipush 49, 2) := by decide +kernel
theorem d_M_requestLine_137 : decode prog_14_method_12_code 137 = .ok (.if_icmp .ne 7, 3) := by decide +kernel
theorem d_M_requestLine_140 : decode prog_14_method_12_code 140 = .ok (.iconst 1, 1) := by decide +kernel
theorem d_M_requestLine_141 : decode prog_14_method_12_code 141 = .ok (.goto 4, 3) := by decide +kernel
theorem d_M_requestLine_144 : decode prog_14_method_12_code 144 = .ok (.iconst 0, 1) := by decide +kernel
theorem d_M_requestLine_145 : decode prog_14_method_12_code 145 = .ok (.istore_n 3, 1) := by decide +kernel
theorem d_M_requestLine_146 : decode prog_14_method_12_code 146 = .ok (.iload_n 3, 1) := by decide +kernel
theorem d_M_requestLine_147 : decode prog_14_method_12_code 147 = .ok (.ifCond .ne 5, 3) := by decide +kernel
theorem d_M_requestLine_150 : decode prog_14_method_12_code 150 = .ok (.iconst 0, 1) := by decide +kernel
theorem d_M_requestLine_151 : decode prog_14_method_12_code 151 = .ok (.ireturn, 1) := by decide +kernel
theorem d_M_requestLine_152 : decode prog_14_method_12_code 152 = .ok (.aload_n 0, 1) := by decide +kernel
theorem d_M_requestLine_153 : decode prog_14_method_12_code 153 = .ok (.invokevirtual 120, 3) := by decide +kernel
theorem d_M_requestLine_156 : decode prog_14_method_12_code 156 = .ok (.istore 5, 2) := by decide +kernel
theorem d_M_requestLine_158 : decode prog_14_method_12_code 158 = .ok (.aload_n 0, 1) := by decide +kernel
theorem d_M_requestLine_159 : decode prog_14_method_12_code 159 = .ok (.iload_n 2, 1) := by decide +kernel
theorem d_M_requestLine_160 : decode prog_14_method_12_code 160 = .ok (.iconst 1, 1) := by decide +kernel
theorem d_M_requestLine_161 : decode prog_14_method_12_code 161 = .ok (.iadd, 1) := by decide +kernel
theorem d_M_requestLine_162 : decode prog_14_method_12_code 162 = .ok (.iload 5, 2) := by decide +kernel
theorem d_M_requestLine_164 : decode prog_14_method_12_code 164 = .ok (.invokevirtual 123, 3) := by decide +kernel
theorem d_M_requestLine_167 : decode prog_14_method_12_code 167 = .ok (.ifCond .eq 16, 3) := by decide +kernel
theorem d_M_requestLine_170 : decode prog_14_method_12_code 170 = .ok (.iload 5, 2) := by decide +kernel
theorem d_M_requestLine_172 : decode prog_14_method_12_code 172 = .ok (.iconst 1, 1) := by decide +kernel
theorem d_M_requestLine_173 : decode prog_14_method_12_code 173 = .ok (.iadd, 1) := by decide +kernel
theorem d_M_requestLine_174 : decode prog_14_method_12_code 174 = .ok (.iload 4, 2) := by decide +kernel
theorem d_M_requestLine_176 : decode prog_14_method_12_code 176 = .ok (.if_icmp .eq 7, 3) := by decide +kernel
theorem d_M_requestLine_179 : decode prog_14_method_12_code 179 = .ok (.iconst 1, 1) := by decide +kernel
theorem d_M_requestLine_180 : decode prog_14_method_12_code 180 = .ok (.goto 4, 3) := by decide +kernel
theorem d_M_requestLine_183 : decode prog_14_method_12_code 183 = .ok (.iconst 0, 1) := by decide +kernel
theorem d_M_requestLine_184 : decode prog_14_method_12_code 184 = .ok (.istore_n 3, 1) := by decide +kernel
theorem d_M_requestLine_185 : decode prog_14_method_12_code 185 = .ok (.iconst 0, 1) := by decide +kernel
theorem d_M_requestLine_186 : decode prog_14_method_12_code 186 = .ok (.istore 6, 2) := by decide +kernel
theorem d_M_requestLine_188 : decode prog_14_method_12_code 188 = .ok (.iload 5, 2) := by decide +kernel
theorem d_M_requestLine_190 : decode prog_14_method_12_code 190 = .ok (.iconst 1, 1) := by decide +kernel
theorem d_M_requestLine_191 : decode prog_14_method_12_code 191 = .ok (.iadd, 1) := by decide +kernel
theorem d_M_requestLine_192 : decode prog_14_method_12_code 192 = .ok (.istore 7, 2) := by decide +kernel
theorem d_M_requestLine_194 : decode prog_14_method_12_code 194 = .ok (.iload 7, 2) := by decide +kernel
theorem d_M_requestLine_196 : decode prog_14_method_12_code 196 = .ok (.iload 4, 2) := by decide +kernel
theorem d_M_requestLine_198 : decode prog_14_method_12_code 198 = .ok (.if_icmp .ge 114, 3) := by decide +kernel
theorem d_M_requestLine_201 : decode prog_14_method_12_code 201 = .ok (.aload_n 0, 1) := by decide +kernel
theorem d_M_requestLine_202 : decode prog_14_method_12_code 202 = .ok (.bipush 38, 2) := by decide +kernel
theorem d_M_requestLine_204 : decode prog_14_method_12_code 204 = .ok (.iload 7, 2) := by decide +kernel
theorem d_M_requestLine_206 : decode prog_14_method_12_code 206 = .ok (.iload 4, 2) := by decide +kernel
theorem d_M_requestLine_208 : decode prog_14_method_12_code 208 = .ok (.invokevirtual 109, 3) := by decide +kernel
theorem d_M_requestLine_211 : decode prog_14_method_12_code 211 = .ok (.istore 8, 2) := by decide +kernel
theorem d_M_requestLine_213 : decode prog_14_method_12_code 213 = .ok (.aload_n 0, 1) := by decide +kernel
theorem d_M_requestLine_214 : decode prog_14_method_12_code 214 = .ok (.bipush 61, 2) := by decide +kernel
theorem d_M_requestLine_216 : decode prog_14_method_12_code 216 = .ok (.iload 7, 2) := by decide +kernel
theorem d_M_requestLine_218 : decode prog_14_method_12_code 218 = .ok (.iload 8, 2) := by decide +kernel
theorem d_M_requestLine_220 : decode prog_14_method_12_code 220 = .ok (.invokevirtual 109, 3) := by decide +kernel
theorem d_M_requestLine_223 : decode prog_14_method_12_code 223 = .ok (.istore 9, 2) := by decide +kernel
theorem d_M_requestLine_225 : decode prog_14_method_12_code 225 = .ok (.iinc 6 1, 3) := by decide +kernel
theorem d_M_requestLine_228 : decode prog_14_method_12_code 228 = .ok (.iload_n 3, 1) := by decide +kernel
theorem d_M_requestLine_229 : decode prog_14_method_12_code 229 = .ok (.ifCond .eq 45, 3) := by decide +kernel
theorem d_M_requestLine_232 : decode prog_14_method_12_code 232 = .ok (.iload 9, 2) := by decide +kernel
theorem d_M_requestLine_234 : decode prog_14_method_12_code 234 = .ok (.iload 7, 2) := by decide +kernel
theorem d_M_requestLine_236 : decode prog_14_method_12_code 236 = .ok (.if_icmp .le 38, 3) := by decide +kernel
theorem d_M_requestLine_239 : decode prog_14_method_12_code 239 = .ok (.aload_n 0, 1) := by decide +kernel
theorem d_M_requestLine_240 : decode prog_14_method_12_code 240 = .ok (.iload 7, 2) := by decide +kernel
theorem d_M_requestLine_242 : decode prog_14_method_12_code 242 = .ok (.iload 9, 2) := by decide +kernel
theorem d_M_requestLine_244 : decode prog_14_method_12_code 244 = .ok (.invokevirtual 123, 3) := by decide +kernel
theorem d_M_requestLine_247 : decode prog_14_method_12_code 247 = .ok (.ifCond .eq 27, 3) := by decide +kernel
theorem d_M_requestLine_250 : decode prog_14_method_12_code 250 = .ok (.iload 9, 2) := by decide +kernel
theorem d_M_requestLine_252 : decode prog_14_method_12_code 252 = .ok (.iload 8, 2) := by decide +kernel
theorem d_M_requestLine_254 : decode prog_14_method_12_code 254 = .ok (.if_icmp .eq 16, 3) := by decide +kernel
theorem d_M_requestLine_257 : decode prog_14_method_12_code 257 = .ok (.aload_n 0, 1) := by decide +kernel
theorem d_M_requestLine_258 : decode prog_14_method_12_code 258 = .ok (.iload 9, 2) := by decide +kernel
theorem d_M_requestLine_260 : decode prog_14_method_12_code 260 = .ok (.iconst 1, 1) := by decide +kernel
theorem d_M_requestLine_261 : decode prog_14_method_12_code 261 = .ok (.iadd, 1) := by decide +kernel
theorem d_M_requestLine_262 : decode prog_14_method_12_code 262 = .ok (.iload 8, 2) := by decide +kernel
theorem d_M_requestLine_264 : decode prog_14_method_12_code 264 = .ok (.invokevirtual 123, 3) := by decide +kernel
theorem d_M_requestLine_267 : decode prog_14_method_12_code 267 = .ok (.ifCond .eq 7, 3) := by decide +kernel
theorem d_M_requestLine_270 : decode prog_14_method_12_code 270 = .ok (.iconst 1, 1) := by decide +kernel
theorem d_M_requestLine_271 : decode prog_14_method_12_code 271 = .ok (.goto 4, 3) := by decide +kernel
theorem d_M_requestLine_274 : decode prog_14_method_12_code 274 = .ok (.iconst 0, 1) := by decide +kernel
theorem d_M_requestLine_275 : decode prog_14_method_12_code 275 = .ok (.istore_n 3, 1) := by decide +kernel
theorem d_M_requestLine_276 : decode prog_14_method_12_code 276 = .ok (.iload_n 3, 1) := by decide +kernel
theorem d_M_requestLine_277 : decode prog_14_method_12_code 277 = .ok (.ifCond .eq 16, 3) := by decide +kernel
theorem d_M_requestLine_280 : decode prog_14_method_12_code 280 = .ok (.iload 8, 2) := by decide +kernel
theorem d_M_requestLine_282 : decode prog_14_method_12_code 282 = .ok (.iload 4, 2) := by decide +kernel
theorem d_M_requestLine_284 : decode prog_14_method_12_code 284 = .ok (.iconst 1, 1) := by decide +kernel
theorem d_M_requestLine_285 : decode prog_14_method_12_code 285 = .ok (.isub, 1) := by decide +kernel
theorem d_M_requestLine_286 : decode prog_14_method_12_code 286 = .ok (.if_icmp .eq 7, 3) := by decide +kernel
theorem d_M_requestLine_289 : decode prog_14_method_12_code 289 = .ok (.iconst 1, 1) := by decide +kernel
theorem d_M_requestLine_290 : decode prog_14_method_12_code 290 = .ok (.goto 4, 3) := by decide +kernel
theorem d_M_requestLine_293 : decode prog_14_method_12_code 293 = .ok (.iconst 0, 1) := by decide +kernel
theorem d_M_requestLine_294 : decode prog_14_method_12_code 294 = .ok (.istore_n 3, 1) := by decide +kernel
theorem d_M_requestLine_295 : decode prog_14_method_12_code 295 = .ok (.aload_n 0, 1) := by decide +kernel
theorem d_M_requestLine_296 : decode prog_14_method_12_code 296 = .ok (.bipush 38, 2) := by decide +kernel
theorem d_M_requestLine_298 : decode prog_14_method_12_code 298 = .ok (.iload 7, 2) := by decide +kernel
theorem d_M_requestLine_300 : decode prog_14_method_12_code 300 = .ok (.iload 4, 2) := by decide +kernel
theorem d_M_requestLine_302 : decode prog_14_method_12_code 302 = .ok (.invokevirtual 109, 3) := by decide +kernel
theorem d_M_requestLine_305 : decode prog_14_method_12_code 305 = .ok (.iconst 1, 1) := by decide +kernel
theorem d_M_requestLine_306 : decode prog_14_method_12_code 306 = .ok (.iadd, 1) := by decide +kernel
theorem d_M_requestLine_307 : decode prog_14_method_12_code 307 = .ok (.istore 7, 2) := by decide +kernel
theorem d_M_requestLine_309 : decode prog_14_method_12_code 309 = .ok (.goto (-115), 3) := by decide +kernel
theorem d_M_requestLine_312 : decode prog_14_method_12_code 312 = .ok (.iload_n 3, 1) := by decide +kernel
theorem d_M_requestLine_313 : decode prog_14_method_12_code 313 = .ok (.ifCond .eq 13, 3) := by decide +kernel
theorem d_M_requestLine_316 : decode prog_14_method_12_code 316 = .ok (.iload 6, 2) := by decide +kernel
theorem d_M_requestLine_318 : decode prog_14_method_12_code 318 = .ok (.iconst 4, 1) := by decide +kernel
theorem d_M_requestLine_319 : decode prog_14_method_12_code 319 = .ok (.if_icmp .gt 7, 3) := by decide +kernel
theorem d_M_requestLine_322 : decode prog_14_method_12_code 322 = .ok (.iconst 1, 1) := by decide +kernel
theorem d_M_requestLine_323 : decode prog_14_method_12_code 323 = .ok (.goto 4, 3) := by decide +kernel
theorem d_M_requestLine_326 : decode prog_14_method_12_code 326 = .ok (.iconst 0, 1) := by decide +kernel
theorem d_M_requestLine_327 : decode prog_14_method_12_code 327 = .ok (.ireturn, 1) := by decide +kernel
def wq_M_requestLine_312 (a : Nat) (p0 : Int32) (Q : Int32 → ab_H → Prop)  (u3 : Int32) (u6 : Int32) (A : ab_H) : Prop := if u3 = 0 then (Q (0 : Int32) A) else (if (4 : Int32) < u6 then (Q (0 : Int32) A) else (Q (1 : Int32) A))
set_option maxRecDepth 100000 in
set_option maxHeartbeats 4000000 in
theorem sq_M_requestLine_312 {l : Launch} {G : mm_G} {a : Nat} {p0 : Int32} {Q : Int32 → ab_H → Prop}   : ∀ (u3 : Int32) (u6 : Int32) (A : ab_H) (h : mm_H), Vw G h A → wq_M_requestLine_312 a p0 Q  u3 u6 A → mm_V l G M_M_requestLine 0 0 312 [some (va_rf (some a)), some (.int p0), none, some (.int u3), none, none, some (.int u6), none, none, none] [] h (wQI G Q) := by
  intro u3 u6 A h hV hw
  unfold wq_M_requestLine_312 at hw
  refine mm_iload_n (pc' := 313) d_M_requestLine_312 rfl rfl rfl ?_
  refine wr_if_eq hw (pc' := 316) d_M_requestLine_313 rfl rfl (fun hw => ?_) (fun hw => ?_)
  · refine mm_iconst (v := 0) (pc' := 327) d_M_requestLine_326 rfl (by decide) ?_
    exact wr_iret hV d_M_requestLine_327 rfl rfl hw
  · refine mm_iload (pc' := 318) d_M_requestLine_316 rfl rfl ?_
    refine mm_iconst (v := 4) (pc' := 319) d_M_requestLine_318 rfl (by decide) ?_
    refine wr_icmp_gt hw (pc' := 322) d_M_requestLine_319 rfl rfl (fun hw => ?_) (fun hw => ?_)
    · refine mm_iconst (v := 0) (pc' := 327) d_M_requestLine_326 rfl (by decide) ?_
      exact wr_iret hV d_M_requestLine_327 rfl rfl hw
    · refine mm_iconst (v := 1) (pc' := 323) d_M_requestLine_322 rfl (by decide) ?_
      refine mm_goto (tgt := 327) d_M_requestLine_323 rfl ?_
      exact wr_iret hV d_M_requestLine_327 rfl rfl hw
def wq_M_requestLine_294 (a : Nat) (p0 : Int32) (Q : Int32 → ab_H → Prop) (k194 : Int32 → Int32 → Int32 → Int32 → ab_H → Prop) (u4 : Int32) (u6 : Int32) (u7 : Int32) (s0 : Int32) (A : ab_H) : Prop := wC A (some a) 14 (fun b => wp_M_seek b (38 : Int32) u7 u4 A (fun x1 A => wL ((x1 + (1 : Int32))) (fun x2 => k194 s0 u4 u6 x2 A)))
set_option maxRecDepth 100000 in
set_option maxHeartbeats 4000000 in
theorem sq_M_requestLine_294 {l : Launch} {G : mm_G} {a : Nat} {p0 : Int32} {Q : Int32 → ab_H → Prop} {k194 : Int32 → Int32 → Int32 → Int32 → ab_H → Prop} (hk194 : ∀ (u3 : Int32) (u4 : Int32) (u6 : Int32) (u7 : Int32) (A : ab_H) (h : mm_H), Vw G h A → k194 u3 u4 u6 u7 A → mm_V l G M_M_requestLine 0 0 194 [some (va_rf (some a)), some (.int p0), none, some (.int u3), some (.int u4), none, some (.int u6), some (.int u7), none, none] [] h (wQI G Q)) : ∀ (u4 : Int32) (u6 : Int32) (u7 : Int32) (s0 : Int32) (A : ab_H) (h : mm_H), Vw G h A → wq_M_requestLine_294 a p0 Q k194 u4 u6 u7 s0 A → mm_V l G M_M_requestLine 0 0 294 [some (va_rf (some a)), some (.int p0), none, none, some (.int u4), none, some (.int u6), some (.int u7), none, none] [.int s0] h (wQI G Q) := by
  intro u4 u6 u7 s0 A h hV hw
  unfold wq_M_requestLine_294 at hw
  refine mm_ist3 (pc' := 295) d_M_requestLine_294 rfl rfl (Nat.le_of_ble_eq_true rfl) ?_
  refine wr_aload_n (some a) (pc' := 296) d_M_requestLine_295 rfl rfl rfl ?_
  refine mm_bipush (v := 38) (pc' := 298) d_M_requestLine_296 rfl (by decide) ?_
  refine mm_iload (pc' := 300) d_M_requestLine_298 rfl rfl ?_
  refine mm_iload (pc' := 302) d_M_requestLine_300 rfl rfl ?_
  refine wr_cVI (pc' := 305) (as := [.int (38 : Int32), .int u7, .int u4]) (st := []) d_M_requestLine_302 rfl cs_M_109 rfl (W := fun b Q' => wp_M_seek b (38 : Int32) u7 u4 A Q') hV hw (fun b Q' hw => sd_M_seek hV hw) rfl rfl (Nat.le_of_ble_eq_true rfl) (Nat.le_of_ble_eq_true rfl) (fun x1 h A hV hw => ?_)
  refine mm_iconst (v := 1) (pc' := 306) d_M_requestLine_305 rfl (by decide) ?_
  refine mm_iadd (pc' := 307) d_M_requestLine_306 rfl ?_
  refine wr_let (P := fun z => mm_V l G M_M_requestLine 0 0 307 [some (va_rf (some a)), some (.int p0), none, some (.int s0), some (.int u4), none, some (.int u6), some (.int u7), none, none] (.int z :: []) h _) hw (fun x2 hw => ?_)
  refine mm_ist7 (pc' := 309) d_M_requestLine_307 rfl rfl (Nat.le_of_ble_eq_true rfl) ?_
  refine mm_goto (tgt := 194) d_M_requestLine_309 rfl ?_
  exact mm_drop (mm_le.s (mm_le.s (mm_le.n (mm_le.s (mm_le.s (mm_le.n (mm_le.s (mm_le.s (mm_le.n (mm_le.n mm_le.e)))))))))) (hk194 _ _ _ _ _ _ hV hw)
def wq_M_requestLine_293 (a : Nat) (p0 : Int32) (Q : Int32 → ab_H → Prop) (k194 : Int32 → Int32 → Int32 → Int32 → ab_H → Prop) (u4 : Int32) (u6 : Int32) (u7 : Int32) (A : ab_H) : Prop := wq_M_requestLine_294 a p0 Q k194 u4 u6 u7 (0 : Int32) A
set_option maxRecDepth 100000 in
set_option maxHeartbeats 4000000 in
theorem sq_M_requestLine_293 {l : Launch} {G : mm_G} {a : Nat} {p0 : Int32} {Q : Int32 → ab_H → Prop} {k194 : Int32 → Int32 → Int32 → Int32 → ab_H → Prop} (hk194 : ∀ (u3 : Int32) (u4 : Int32) (u6 : Int32) (u7 : Int32) (A : ab_H) (h : mm_H), Vw G h A → k194 u3 u4 u6 u7 A → mm_V l G M_M_requestLine 0 0 194 [some (va_rf (some a)), some (.int p0), none, some (.int u3), some (.int u4), none, some (.int u6), some (.int u7), none, none] [] h (wQI G Q)) : ∀ (u4 : Int32) (u6 : Int32) (u7 : Int32) (A : ab_H) (h : mm_H), Vw G h A → wq_M_requestLine_293 a p0 Q k194 u4 u6 u7 A → mm_V l G M_M_requestLine 0 0 293 [some (va_rf (some a)), some (.int p0), none, none, some (.int u4), none, some (.int u6), some (.int u7), none, none] [] h (wQI G Q) := by
  intro u4 u6 u7 A h hV hw
  unfold wq_M_requestLine_293 at hw
  refine mm_iconst (v := 0) (pc' := 294) d_M_requestLine_293 rfl (by decide) ?_
  exact mm_drop (mm_le.s (mm_le.s (mm_le.n (mm_le.n (mm_le.s (mm_le.n (mm_le.s (mm_le.s (mm_le.n (mm_le.n mm_le.e)))))))))) (sq_M_requestLine_294 hk194 _ _ _ _ _ _ hV hw)
def wq_M_requestLine_275 (a : Nat) (p0 : Int32) (Q : Int32 → ab_H → Prop) (k194 : Int32 → Int32 → Int32 → Int32 → ab_H → Prop) (u4 : Int32) (u6 : Int32) (u7 : Int32) (u8 : Int32) (s0 : Int32) (A : ab_H) : Prop := if s0 = 0 then (wq_M_requestLine_293 a p0 Q k194 u4 u6 u7 A) else (if u8 = (u4 - (1 : Int32)) then (wq_M_requestLine_293 a p0 Q k194 u4 u6 u7 A) else (wq_M_requestLine_294 a p0 Q k194 u4 u6 u7 (1 : Int32) A))
set_option maxRecDepth 100000 in
set_option maxHeartbeats 4000000 in
theorem sq_M_requestLine_275 {l : Launch} {G : mm_G} {a : Nat} {p0 : Int32} {Q : Int32 → ab_H → Prop} {k194 : Int32 → Int32 → Int32 → Int32 → ab_H → Prop} (hk194 : ∀ (u3 : Int32) (u4 : Int32) (u6 : Int32) (u7 : Int32) (A : ab_H) (h : mm_H), Vw G h A → k194 u3 u4 u6 u7 A → mm_V l G M_M_requestLine 0 0 194 [some (va_rf (some a)), some (.int p0), none, some (.int u3), some (.int u4), none, some (.int u6), some (.int u7), none, none] [] h (wQI G Q)) : ∀ (u4 : Int32) (u6 : Int32) (u7 : Int32) (u8 : Int32) (s0 : Int32) (A : ab_H) (h : mm_H), Vw G h A → wq_M_requestLine_275 a p0 Q k194 u4 u6 u7 u8 s0 A → mm_V l G M_M_requestLine 0 0 275 [some (va_rf (some a)), some (.int p0), none, none, some (.int u4), none, some (.int u6), some (.int u7), some (.int u8), none] [.int s0] h (wQI G Q) := by
  intro u4 u6 u7 u8 s0 A h hV hw
  unfold wq_M_requestLine_275 at hw
  refine mm_ist3 (pc' := 276) d_M_requestLine_275 rfl rfl (Nat.le_of_ble_eq_true rfl) ?_
  refine mm_iload_n (pc' := 277) d_M_requestLine_276 rfl rfl rfl ?_
  refine wr_if_eq hw (pc' := 280) d_M_requestLine_277 rfl rfl (fun hw => ?_) (fun hw => ?_)
  · exact mm_drop (mm_le.s (mm_le.s (mm_le.n (mm_le.n (mm_le.s (mm_le.n (mm_le.s (mm_le.s (mm_le.n (mm_le.n mm_le.e)))))))))) (sq_M_requestLine_293 hk194 _ _ _ _ _ hV hw)
  · refine mm_iload (pc' := 282) d_M_requestLine_280 rfl rfl ?_
    refine mm_iload (pc' := 284) d_M_requestLine_282 rfl rfl ?_
    refine mm_iconst (v := 1) (pc' := 285) d_M_requestLine_284 rfl (by decide) ?_
    refine mm_isub (pc' := 286) d_M_requestLine_285 rfl ?_
    refine wr_icmp_eq hw (pc' := 289) d_M_requestLine_286 rfl rfl (fun hw => ?_) (fun hw => ?_)
    · exact mm_drop (mm_le.s (mm_le.s (mm_le.n (mm_le.n (mm_le.s (mm_le.n (mm_le.s (mm_le.s (mm_le.n (mm_le.n mm_le.e)))))))))) (sq_M_requestLine_293 hk194 _ _ _ _ _ hV hw)
    · refine mm_iconst (v := 1) (pc' := 290) d_M_requestLine_289 rfl (by decide) ?_
      refine mm_goto (tgt := 294) d_M_requestLine_290 rfl ?_
      exact mm_drop (mm_le.s (mm_le.s (mm_le.n (mm_le.n (mm_le.s (mm_le.n (mm_le.s (mm_le.s (mm_le.n (mm_le.n mm_le.e)))))))))) (sq_M_requestLine_294 hk194 _ _ _ _ _ _ hV hw)
def wq_M_requestLine_274 (a : Nat) (p0 : Int32) (Q : Int32 → ab_H → Prop) (k194 : Int32 → Int32 → Int32 → Int32 → ab_H → Prop) (u4 : Int32) (u6 : Int32) (u7 : Int32) (u8 : Int32) (A : ab_H) : Prop := wq_M_requestLine_275 a p0 Q k194 u4 u6 u7 u8 (0 : Int32) A
set_option maxRecDepth 100000 in
set_option maxHeartbeats 4000000 in
theorem sq_M_requestLine_274 {l : Launch} {G : mm_G} {a : Nat} {p0 : Int32} {Q : Int32 → ab_H → Prop} {k194 : Int32 → Int32 → Int32 → Int32 → ab_H → Prop} (hk194 : ∀ (u3 : Int32) (u4 : Int32) (u6 : Int32) (u7 : Int32) (A : ab_H) (h : mm_H), Vw G h A → k194 u3 u4 u6 u7 A → mm_V l G M_M_requestLine 0 0 194 [some (va_rf (some a)), some (.int p0), none, some (.int u3), some (.int u4), none, some (.int u6), some (.int u7), none, none] [] h (wQI G Q)) : ∀ (u4 : Int32) (u6 : Int32) (u7 : Int32) (u8 : Int32) (A : ab_H) (h : mm_H), Vw G h A → wq_M_requestLine_274 a p0 Q k194 u4 u6 u7 u8 A → mm_V l G M_M_requestLine 0 0 274 [some (va_rf (some a)), some (.int p0), none, none, some (.int u4), none, some (.int u6), some (.int u7), some (.int u8), none] [] h (wQI G Q) := by
  intro u4 u6 u7 u8 A h hV hw
  unfold wq_M_requestLine_274 at hw
  refine mm_iconst (v := 0) (pc' := 275) d_M_requestLine_274 rfl (by decide) ?_
  exact mm_drop (mm_le.s (mm_le.s (mm_le.n (mm_le.n (mm_le.s (mm_le.n (mm_le.s (mm_le.s (mm_le.s (mm_le.n mm_le.e)))))))))) (sq_M_requestLine_275 hk194 _ _ _ _ _ _ _ hV hw)
def wq_M_requestLine_270 (a : Nat) (p0 : Int32) (Q : Int32 → ab_H → Prop) (k194 : Int32 → Int32 → Int32 → Int32 → ab_H → Prop) (u4 : Int32) (u6 : Int32) (u7 : Int32) (u8 : Int32) (A : ab_H) : Prop := wq_M_requestLine_275 a p0 Q k194 u4 u6 u7 u8 (1 : Int32) A
set_option maxRecDepth 100000 in
set_option maxHeartbeats 4000000 in
theorem sq_M_requestLine_270 {l : Launch} {G : mm_G} {a : Nat} {p0 : Int32} {Q : Int32 → ab_H → Prop} {k194 : Int32 → Int32 → Int32 → Int32 → ab_H → Prop} (hk194 : ∀ (u3 : Int32) (u4 : Int32) (u6 : Int32) (u7 : Int32) (A : ab_H) (h : mm_H), Vw G h A → k194 u3 u4 u6 u7 A → mm_V l G M_M_requestLine 0 0 194 [some (va_rf (some a)), some (.int p0), none, some (.int u3), some (.int u4), none, some (.int u6), some (.int u7), none, none] [] h (wQI G Q)) : ∀ (u4 : Int32) (u6 : Int32) (u7 : Int32) (u8 : Int32) (A : ab_H) (h : mm_H), Vw G h A → wq_M_requestLine_270 a p0 Q k194 u4 u6 u7 u8 A → mm_V l G M_M_requestLine 0 0 270 [some (va_rf (some a)), some (.int p0), none, none, some (.int u4), none, some (.int u6), some (.int u7), some (.int u8), none] [] h (wQI G Q) := by
  intro u4 u6 u7 u8 A h hV hw
  unfold wq_M_requestLine_270 at hw
  refine mm_iconst (v := 1) (pc' := 271) d_M_requestLine_270 rfl (by decide) ?_
  refine mm_goto (tgt := 275) d_M_requestLine_271 rfl ?_
  exact mm_drop (mm_le.s (mm_le.s (mm_le.n (mm_le.n (mm_le.s (mm_le.n (mm_le.s (mm_le.s (mm_le.s (mm_le.n mm_le.e)))))))))) (sq_M_requestLine_275 hk194 _ _ _ _ _ _ _ hV hw)
def wb_M_requestLine_194 (a : Nat) (p0 : Int32) (Q : Int32 → ab_H → Prop)  (k194 : Int32 → Int32 → Int32 → Int32 → ab_H → Prop) (u3 : Int32) (u4 : Int32) (u6 : Int32) (u7 : Int32) (A : ab_H) : Prop := if u4 ≤ u7 then (wq_M_requestLine_312 a p0 Q u3 u6 A) else (wC A (some a) 14 (fun b => wp_M_seek b (38 : Int32) u7 u4 A (fun x3 A => wC A (some a) 14 (fun b => wp_M_seek b (61 : Int32) u7 x3 A (fun x4 A => if u3 = 0 then (wq_M_requestLine_274 a p0 Q k194 u4 (u6 + 1) u7 x3 A) else (if x4 ≤ u7 then (wq_M_requestLine_274 a p0 Q k194 u4 (u6 + 1) u7 x3 A) else (wC A (some a) 14 (fun b => wp_M_coded b u7 x4 A (fun x5 A => if x5 = 0 then (wq_M_requestLine_274 a p0 Q k194 u4 (u6 + 1) u7 x3 A) else (if x4 = x3 then (wq_M_requestLine_270 a p0 Q k194 u4 (u6 + 1) u7 x3 A) else (wC A (some a) 14 (fun b => wp_M_coded b (x4 + (1 : Int32)) x3 A (fun x6 A => if x6 = 0 then (wq_M_requestLine_274 a p0 Q k194 u4 (u6 + 1) u7 x3 A) else (wq_M_requestLine_270 a p0 Q k194 u4 (u6 + 1) u7 x3 A))))))))))))))
def wq_M_requestLine_194 (a : Nat) (p0 : Int32) (Q : Int32 → ab_H → Prop)  : Nat → Int32 → Int32 → Int32 → Int32 → ab_H → Prop
  | 0 => fun _ _ _ _ _ => False
  | n + 1 => wb_M_requestLine_194 a p0 Q  (wq_M_requestLine_194 a p0 Q  n)
set_option maxRecDepth 100000 in
set_option maxHeartbeats 4000000 in
theorem sq_M_requestLine_194 {l : Launch} {G : mm_G} {a : Nat} {p0 : Int32} {Q : Int32 → ab_H → Prop}   : ∀ (n : Nat) (u3 : Int32) (u4 : Int32) (u6 : Int32) (u7 : Int32) (A : ab_H) (h : mm_H), Vw G h A → wq_M_requestLine_194 a p0 Q  n u3 u4 u6 u7 A → mm_V l G M_M_requestLine 0 0 194 [some (va_rf (some a)), some (.int p0), none, some (.int u3), some (.int u4), none, some (.int u6), some (.int u7), none, none] [] h (wQI G Q) := by
  intro n
  induction n with
  | zero =>
    intro u3 u4 u6 u7 A h hV hw
    exact absurd hw id
  | succ n hk194 =>
    intro u3 u4 u6 u7 A h hV hw
    have hw : wb_M_requestLine_194 a p0 Q  (wq_M_requestLine_194 a p0 Q  n) u3 u4 u6 u7 A := hw
    unfold wb_M_requestLine_194 at hw
    refine mm_iload (pc' := 196) d_M_requestLine_194 rfl rfl ?_
    refine mm_iload (pc' := 198) d_M_requestLine_196 rfl rfl ?_
    refine wr_icmp_ge hw (pc' := 201) d_M_requestLine_198 rfl rfl (fun hw => ?_) (fun hw => ?_)
    · exact mm_drop (mm_le.s (mm_le.s (mm_le.n (mm_le.s (mm_le.n (mm_le.n (mm_le.s (mm_le.n (mm_le.n (mm_le.n mm_le.e)))))))))) (sq_M_requestLine_312  _ _ _ _ hV hw)
    · refine wr_aload_n (some a) (pc' := 202) d_M_requestLine_201 rfl rfl rfl ?_
      refine mm_bipush (v := 38) (pc' := 204) d_M_requestLine_202 rfl (by decide) ?_
      refine mm_iload (pc' := 206) d_M_requestLine_204 rfl rfl ?_
      refine mm_iload (pc' := 208) d_M_requestLine_206 rfl rfl ?_
      refine wr_cVI (pc' := 211) (as := [.int (38 : Int32), .int u7, .int u4]) (st := []) d_M_requestLine_208 rfl cs_M_109 rfl (W := fun b Q' => wp_M_seek b (38 : Int32) u7 u4 A Q') hV hw (fun b Q' hw => sd_M_seek hV hw) rfl rfl (Nat.le_of_ble_eq_true rfl) (Nat.le_of_ble_eq_true rfl) (fun x3 h A hV hw => ?_)
      refine mm_ist8 (pc' := 213) d_M_requestLine_211 rfl rfl (Nat.le_of_ble_eq_true rfl) ?_
      refine wr_aload_n (some a) (pc' := 214) d_M_requestLine_213 rfl rfl rfl ?_
      refine mm_bipush (v := 61) (pc' := 216) d_M_requestLine_214 rfl (by decide) ?_
      refine mm_iload (pc' := 218) d_M_requestLine_216 rfl rfl ?_
      refine mm_iload (pc' := 220) d_M_requestLine_218 rfl rfl ?_
      refine wr_cVI (pc' := 223) (as := [.int (61 : Int32), .int u7, .int x3]) (st := []) d_M_requestLine_220 rfl cs_M_109 rfl (W := fun b Q' => wp_M_seek b (61 : Int32) u7 x3 A Q') hV hw (fun b Q' hw => sd_M_seek hV hw) rfl rfl (Nat.le_of_ble_eq_true rfl) (Nat.le_of_ble_eq_true rfl) (fun x4 h A hV hw => ?_)
      refine mm_ist9 (pc' := 225) d_M_requestLine_223 rfl rfl (Nat.le_of_ble_eq_true rfl) ?_
      refine mm_iinc6 (v := (u6 + 1)) (pc' := 228) d_M_requestLine_225 rfl rfl rfl (Nat.le_of_ble_eq_true rfl) ?_
      refine mm_iload_n (pc' := 229) d_M_requestLine_228 rfl rfl rfl ?_
      refine wr_if_eq hw (pc' := 232) d_M_requestLine_229 rfl rfl (fun hw => ?_) (fun hw => ?_)
      · exact mm_drop (mm_le.s (mm_le.s (mm_le.n (mm_le.n (mm_le.s (mm_le.n (mm_le.s (mm_le.s (mm_le.s (mm_le.n mm_le.e)))))))))) (sq_M_requestLine_274 hk194 _ _ _ _ _ _ hV hw)
      · refine mm_iload (pc' := 234) d_M_requestLine_232 rfl rfl ?_
        refine mm_iload (pc' := 236) d_M_requestLine_234 rfl rfl ?_
        refine wr_icmp_le hw (pc' := 239) d_M_requestLine_236 rfl rfl (fun hw => ?_) (fun hw => ?_)
        · exact mm_drop (mm_le.s (mm_le.s (mm_le.n (mm_le.n (mm_le.s (mm_le.n (mm_le.s (mm_le.s (mm_le.s (mm_le.n mm_le.e)))))))))) (sq_M_requestLine_274 hk194 _ _ _ _ _ _ hV hw)
        · refine wr_aload_n (some a) (pc' := 240) d_M_requestLine_239 rfl rfl rfl ?_
          refine mm_iload (pc' := 242) d_M_requestLine_240 rfl rfl ?_
          refine mm_iload (pc' := 244) d_M_requestLine_242 rfl rfl ?_
          refine wr_cVI (pc' := 247) (as := [.int u7, .int x4]) (st := []) d_M_requestLine_244 rfl cs_M_123 rfl (W := fun b Q' => wp_M_coded b u7 x4 A Q') hV hw (fun b Q' hw => sd_M_coded hV hw) rfl rfl (Nat.le_of_ble_eq_true rfl) (Nat.le_of_ble_eq_true rfl) (fun x5 h A hV hw => ?_)
          refine wr_if_eq hw (pc' := 250) d_M_requestLine_247 rfl rfl (fun hw => ?_) (fun hw => ?_)
          · exact mm_drop (mm_le.s (mm_le.s (mm_le.n (mm_le.n (mm_le.s (mm_le.n (mm_le.s (mm_le.s (mm_le.s (mm_le.n mm_le.e)))))))))) (sq_M_requestLine_274 hk194 _ _ _ _ _ _ hV hw)
          · refine mm_iload (pc' := 252) d_M_requestLine_250 rfl rfl ?_
            refine mm_iload (pc' := 254) d_M_requestLine_252 rfl rfl ?_
            refine wr_icmp_eq hw (pc' := 257) d_M_requestLine_254 rfl rfl (fun hw => ?_) (fun hw => ?_)
            · exact mm_drop (mm_le.s (mm_le.s (mm_le.n (mm_le.n (mm_le.s (mm_le.n (mm_le.s (mm_le.s (mm_le.s (mm_le.n mm_le.e)))))))))) (sq_M_requestLine_270 hk194 _ _ _ _ _ _ hV hw)
            · refine wr_aload_n (some a) (pc' := 258) d_M_requestLine_257 rfl rfl rfl ?_
              refine mm_iload (pc' := 260) d_M_requestLine_258 rfl rfl ?_
              refine mm_iconst (v := 1) (pc' := 261) d_M_requestLine_260 rfl (by decide) ?_
              refine mm_iadd (pc' := 262) d_M_requestLine_261 rfl ?_
              refine mm_iload (pc' := 264) d_M_requestLine_262 rfl rfl ?_
              refine wr_cVI (pc' := 267) (as := [.int (x4 + (1 : Int32)), .int x3]) (st := []) d_M_requestLine_264 rfl cs_M_123 rfl (W := fun b Q' => wp_M_coded b (x4 + (1 : Int32)) x3 A Q') hV hw (fun b Q' hw => sd_M_coded hV hw) rfl rfl (Nat.le_of_ble_eq_true rfl) (Nat.le_of_ble_eq_true rfl) (fun x6 h A hV hw => ?_)
              refine wr_if_eq hw (pc' := 270) d_M_requestLine_267 rfl rfl (fun hw => ?_) (fun hw => ?_)
              · exact mm_drop (mm_le.s (mm_le.s (mm_le.n (mm_le.n (mm_le.s (mm_le.n (mm_le.s (mm_le.s (mm_le.s (mm_le.n mm_le.e)))))))))) (sq_M_requestLine_274 hk194 _ _ _ _ _ _ hV hw)
              · exact mm_drop (mm_le.s (mm_le.s (mm_le.n (mm_le.n (mm_le.s (mm_le.n (mm_le.s (mm_le.s (mm_le.s (mm_le.n mm_le.e)))))))))) (sq_M_requestLine_270 hk194 _ _ _ _ _ _ hV hw)
def wq_M_requestLine_184 (a : Nat) (p0 : Int32) (Q : Int32 → ab_H → Prop)  (u4 : Int32) (u5 : Int32) (s0 : Int32) (A : ab_H) : Prop := wL ((u5 + (1 : Int32))) (fun x7 => ∃ n, wq_M_requestLine_194 a p0 Q n s0 u4 (0 : Int32) x7 A)
set_option maxRecDepth 100000 in
set_option maxHeartbeats 4000000 in
theorem sq_M_requestLine_184 {l : Launch} {G : mm_G} {a : Nat} {p0 : Int32} {Q : Int32 → ab_H → Prop}   : ∀ (u4 : Int32) (u5 : Int32) (s0 : Int32) (A : ab_H) (h : mm_H), Vw G h A → wq_M_requestLine_184 a p0 Q  u4 u5 s0 A → mm_V l G M_M_requestLine 0 0 184 [some (va_rf (some a)), some (.int p0), none, none, some (.int u4), some (.int u5), none, none, none, none] [.int s0] h (wQI G Q) := by
  intro u4 u5 s0 A h hV hw
  unfold wq_M_requestLine_184 at hw
  refine mm_ist3 (pc' := 185) d_M_requestLine_184 rfl rfl (Nat.le_of_ble_eq_true rfl) ?_
  refine mm_iconst (v := 0) (pc' := 186) d_M_requestLine_185 rfl (by decide) ?_
  refine mm_ist6 (pc' := 188) d_M_requestLine_186 rfl rfl (Nat.le_of_ble_eq_true rfl) ?_
  refine mm_iload (pc' := 190) d_M_requestLine_188 rfl rfl ?_
  refine mm_iconst (v := 1) (pc' := 191) d_M_requestLine_190 rfl (by decide) ?_
  refine mm_iadd (pc' := 192) d_M_requestLine_191 rfl ?_
  refine wr_let (P := fun z => mm_V l G M_M_requestLine 0 0 192 [some (va_rf (some a)), some (.int p0), none, some (.int s0), some (.int u4), some (.int u5), some (.int (0 : Int32)), none, none, none] (.int z :: []) h _) hw (fun x7 hw => ?_)
  refine mm_ist7 (pc' := 194) d_M_requestLine_192 rfl rfl (Nat.le_of_ble_eq_true rfl) ?_
  obtain ⟨n, hw⟩ := hw
  exact mm_drop (mm_le.s (mm_le.s (mm_le.n (mm_le.s (mm_le.s (mm_le.n (mm_le.s (mm_le.s (mm_le.n (mm_le.n mm_le.e)))))))))) (sq_M_requestLine_194  n _ _ _ _ _ _ hV hw)
def wq_M_requestLine_183 (a : Nat) (p0 : Int32) (Q : Int32 → ab_H → Prop)  (u4 : Int32) (u5 : Int32) (A : ab_H) : Prop := wq_M_requestLine_184 a p0 Q u4 u5 (0 : Int32) A
set_option maxRecDepth 100000 in
set_option maxHeartbeats 4000000 in
theorem sq_M_requestLine_183 {l : Launch} {G : mm_G} {a : Nat} {p0 : Int32} {Q : Int32 → ab_H → Prop}   : ∀ (u4 : Int32) (u5 : Int32) (A : ab_H) (h : mm_H), Vw G h A → wq_M_requestLine_183 a p0 Q  u4 u5 A → mm_V l G M_M_requestLine 0 0 183 [some (va_rf (some a)), some (.int p0), none, none, some (.int u4), some (.int u5), none, none, none, none] [] h (wQI G Q) := by
  intro u4 u5 A h hV hw
  unfold wq_M_requestLine_183 at hw
  refine mm_iconst (v := 0) (pc' := 184) d_M_requestLine_183 rfl (by decide) ?_
  exact mm_drop (mm_le.s (mm_le.s (mm_le.n (mm_le.n (mm_le.s (mm_le.s (mm_le.n (mm_le.n (mm_le.n (mm_le.n mm_le.e)))))))))) (sq_M_requestLine_184  _ _ _ _ _ hV hw)
def wq_M_requestLine_145 (a : Nat) (p0 : Int32) (Q : Int32 → ab_H → Prop)  (u2 : Int32) (u4 : Int32) (s0 : Int32) (A : ab_H) : Prop := if s0 = 0 then (Q (0 : Int32) A) else (wC A (some a) 14 (fun b => wp_M_pathEnd b  A (fun x8 A => wC A (some a) 14 (fun b => wp_M_coded b (u2 + (1 : Int32)) x8 A (fun x9 A => if x9 = 0 then (wq_M_requestLine_183 a p0 Q u4 x8 A) else (if (x8 + (1 : Int32)) = u4 then (wq_M_requestLine_183 a p0 Q u4 x8 A) else (wq_M_requestLine_184 a p0 Q u4 x8 (1 : Int32) A)))))))
set_option maxRecDepth 100000 in
set_option maxHeartbeats 4000000 in
theorem sq_M_requestLine_145 {l : Launch} {G : mm_G} {a : Nat} {p0 : Int32} {Q : Int32 → ab_H → Prop}   : ∀ (u2 : Int32) (u4 : Int32) (s0 : Int32) (A : ab_H) (h : mm_H), Vw G h A → wq_M_requestLine_145 a p0 Q  u2 u4 s0 A → mm_V l G M_M_requestLine 0 0 145 [some (va_rf (some a)), some (.int p0), some (.int u2), none, some (.int u4), none, none, none, none, none] [.int s0] h (wQI G Q) := by
  intro u2 u4 s0 A h hV hw
  unfold wq_M_requestLine_145 at hw
  refine mm_ist3 (pc' := 146) d_M_requestLine_145 rfl rfl (Nat.le_of_ble_eq_true rfl) ?_
  refine mm_iload_n (pc' := 147) d_M_requestLine_146 rfl rfl rfl ?_
  refine wr_if_ne hw (pc' := 150) d_M_requestLine_147 rfl rfl (fun hw => ?_) (fun hw => ?_)
  · refine wr_aload_n (some a) (pc' := 153) d_M_requestLine_152 rfl rfl rfl ?_
    refine wr_cVI (pc' := 156) (as := []) (st := []) d_M_requestLine_153 rfl cs_M_120 rfl (W := fun b Q' => wp_M_pathEnd b  A Q') hV hw (fun b Q' hw => sd_M_pathEnd hV hw) rfl rfl (Nat.le_of_ble_eq_true rfl) (Nat.le_of_ble_eq_true rfl) (fun x8 h A hV hw => ?_)
    refine mm_ist5 (pc' := 158) d_M_requestLine_156 rfl rfl (Nat.le_of_ble_eq_true rfl) ?_
    refine wr_aload_n (some a) (pc' := 159) d_M_requestLine_158 rfl rfl rfl ?_
    refine mm_iload_n (pc' := 160) d_M_requestLine_159 rfl rfl rfl ?_
    refine mm_iconst (v := 1) (pc' := 161) d_M_requestLine_160 rfl (by decide) ?_
    refine mm_iadd (pc' := 162) d_M_requestLine_161 rfl ?_
    refine mm_iload (pc' := 164) d_M_requestLine_162 rfl rfl ?_
    refine wr_cVI (pc' := 167) (as := [.int (u2 + (1 : Int32)), .int x8]) (st := []) d_M_requestLine_164 rfl cs_M_123 rfl (W := fun b Q' => wp_M_coded b (u2 + (1 : Int32)) x8 A Q') hV hw (fun b Q' hw => sd_M_coded hV hw) rfl rfl (Nat.le_of_ble_eq_true rfl) (Nat.le_of_ble_eq_true rfl) (fun x9 h A hV hw => ?_)
    refine wr_if_eq hw (pc' := 170) d_M_requestLine_167 rfl rfl (fun hw => ?_) (fun hw => ?_)
    · exact mm_drop (mm_le.s (mm_le.s (mm_le.n (mm_le.n (mm_le.s (mm_le.s (mm_le.n (mm_le.n (mm_le.n (mm_le.n mm_le.e)))))))))) (sq_M_requestLine_183  _ _ _ _ hV hw)
    · refine mm_iload (pc' := 172) d_M_requestLine_170 rfl rfl ?_
      refine mm_iconst (v := 1) (pc' := 173) d_M_requestLine_172 rfl (by decide) ?_
      refine mm_iadd (pc' := 174) d_M_requestLine_173 rfl ?_
      refine mm_iload (pc' := 176) d_M_requestLine_174 rfl rfl ?_
      refine wr_icmp_eq hw (pc' := 179) d_M_requestLine_176 rfl rfl (fun hw => ?_) (fun hw => ?_)
      · exact mm_drop (mm_le.s (mm_le.s (mm_le.n (mm_le.n (mm_le.s (mm_le.s (mm_le.n (mm_le.n (mm_le.n (mm_le.n mm_le.e)))))))))) (sq_M_requestLine_183  _ _ _ _ hV hw)
      · refine mm_iconst (v := 1) (pc' := 180) d_M_requestLine_179 rfl (by decide) ?_
        refine mm_goto (tgt := 184) d_M_requestLine_180 rfl ?_
        exact mm_drop (mm_le.s (mm_le.s (mm_le.n (mm_le.n (mm_le.s (mm_le.s (mm_le.n (mm_le.n (mm_le.n (mm_le.n mm_le.e)))))))))) (sq_M_requestLine_184  _ _ _ _ _ hV hw)
  · refine mm_iconst (v := 0) (pc' := 151) d_M_requestLine_150 rfl (by decide) ?_
    exact wr_iret hV d_M_requestLine_151 rfl rfl hw
def wq_M_requestLine_144 (a : Nat) (p0 : Int32) (Q : Int32 → ab_H → Prop)  (u2 : Int32) (u4 : Int32) (A : ab_H) : Prop := wq_M_requestLine_145 a p0 Q u2 u4 (0 : Int32) A
set_option maxRecDepth 100000 in
set_option maxHeartbeats 4000000 in
theorem sq_M_requestLine_144 {l : Launch} {G : mm_G} {a : Nat} {p0 : Int32} {Q : Int32 → ab_H → Prop}   : ∀ (u2 : Int32) (u4 : Int32) (A : ab_H) (h : mm_H), Vw G h A → wq_M_requestLine_144 a p0 Q  u2 u4 A → mm_V l G M_M_requestLine 0 0 144 [some (va_rf (some a)), some (.int p0), some (.int u2), none, some (.int u4), none, none, none, none, none] [] h (wQI G Q) := by
  intro u2 u4 A h hV hw
  unfold wq_M_requestLine_144 at hw
  refine mm_iconst (v := 0) (pc' := 145) d_M_requestLine_144 rfl (by decide) ?_
  exact mm_drop (mm_le.s (mm_le.s (mm_le.s (mm_le.n (mm_le.s (mm_le.n (mm_le.n (mm_le.n (mm_le.n (mm_le.n mm_le.e)))))))))) (sq_M_requestLine_145  _ _ _ _ _ hV hw)
def wq_M_requestLine_78 (a : Nat) (p0 : Int32) (Q : Int32 → ab_H → Prop)  (u2 : Int32) (u3 : Int32) (A : ab_H) : Prop := wC A (some a) 14 (fun b => wp_M_seek b (32 : Int32) (u2 + (1 : Int32)) p0 A (fun x10 A => if u3 = 0 then (wq_M_requestLine_144 a p0 Q u2 x10 A) else (wC A (some a) 14 (fun b => wp_M_byteAt b (u2 + (1 : Int32)) A (fun x11 A => if x11 = (47 : Int32) then (if x10 = (p0 - (3 : Int32)) then (wC A (some a) 14 (fun b => wp_M_byteAt b (x10 + (1 : Int32)) A (fun x12 A => if x12 = (72 : Int32) then (wC A (some a) 14 (fun b => wp_M_byteAt b (x10 + (2 : Int32)) A (fun x13 A => if x13 = (49 : Int32) then (wq_M_requestLine_145 a p0 Q u2 x10 (1 : Int32) A) else (wq_M_requestLine_144 a p0 Q u2 x10 A)))) else (wq_M_requestLine_144 a p0 Q u2 x10 A)))) else (wq_M_requestLine_144 a p0 Q u2 x10 A)) else (wq_M_requestLine_144 a p0 Q u2 x10 A))))))
set_option maxRecDepth 100000 in
set_option maxHeartbeats 4000000 in
theorem sq_M_requestLine_78 {l : Launch} {G : mm_G} {a : Nat} {p0 : Int32} {Q : Int32 → ab_H → Prop}   : ∀ (u2 : Int32) (u3 : Int32) (A : ab_H) (h : mm_H), Vw G h A → wq_M_requestLine_78 a p0 Q  u2 u3 A → mm_V l G M_M_requestLine 0 0 78 [some (va_rf (some a)), some (.int p0), some (.int u2), some (.int u3), none, none, none, none, none, none] [] h (wQI G Q) := by
  intro u2 u3 A h hV hw
  unfold wq_M_requestLine_78 at hw
  refine wr_aload_n (some a) (pc' := 79) d_M_requestLine_78 rfl rfl rfl ?_
  refine mm_bipush (v := 32) (pc' := 81) d_M_requestLine_79 rfl (by decide) ?_
  refine mm_iload_n (pc' := 82) d_M_requestLine_81 rfl rfl rfl ?_
  refine mm_iconst (v := 1) (pc' := 83) d_M_requestLine_82 rfl (by decide) ?_
  refine mm_iadd (pc' := 84) d_M_requestLine_83 rfl ?_
  refine mm_iload_n (pc' := 85) d_M_requestLine_84 rfl rfl rfl ?_
  refine wr_cVI (pc' := 88) (as := [.int (32 : Int32), .int (u2 + (1 : Int32)), .int p0]) (st := []) d_M_requestLine_85 rfl cs_M_109 rfl (W := fun b Q' => wp_M_seek b (32 : Int32) (u2 + (1 : Int32)) p0 A Q') hV hw (fun b Q' hw => sd_M_seek hV hw) rfl rfl (Nat.le_of_ble_eq_true rfl) (Nat.le_of_ble_eq_true rfl) (fun x10 h A hV hw => ?_)
  refine mm_ist4 (pc' := 90) d_M_requestLine_88 rfl rfl (Nat.le_of_ble_eq_true rfl) ?_
  refine mm_iload_n (pc' := 91) d_M_requestLine_90 rfl rfl rfl ?_
  refine wr_if_eq hw (pc' := 94) d_M_requestLine_91 rfl rfl (fun hw => ?_) (fun hw => ?_)
  · exact mm_drop (mm_le.s (mm_le.s (mm_le.s (mm_le.n (mm_le.s (mm_le.n (mm_le.n (mm_le.n (mm_le.n (mm_le.n mm_le.e)))))))))) (sq_M_requestLine_144  _ _ _ _ hV hw)
  · refine wr_aload_n (some a) (pc' := 95) d_M_requestLine_94 rfl rfl rfl ?_
    refine mm_iload_n (pc' := 96) d_M_requestLine_95 rfl rfl rfl ?_
    refine mm_iconst (v := 1) (pc' := 97) d_M_requestLine_96 rfl (by decide) ?_
    refine mm_iadd (pc' := 98) d_M_requestLine_97 rfl ?_
    refine wr_cVI (pc' := 101) (as := [.int (u2 + (1 : Int32))]) (st := []) d_M_requestLine_98 rfl cs_M_102 rfl (W := fun b Q' => wp_M_byteAt b (u2 + (1 : Int32)) A Q') hV hw (fun b Q' hw => sd_M_byteAt hV hw) rfl rfl (Nat.le_of_ble_eq_true rfl) (Nat.le_of_ble_eq_true rfl) (fun x11 h A hV hw => ?_)
    refine mm_bipush (v := 47) (pc' := 103) d_M_requestLine_101 rfl (by decide) ?_
    refine wr_icmp_ne hw (pc' := 106) d_M_requestLine_103 rfl rfl (fun hw => ?_) (fun hw => ?_)
    · exact mm_drop (mm_le.s (mm_le.s (mm_le.s (mm_le.n (mm_le.s (mm_le.n (mm_le.n (mm_le.n (mm_le.n (mm_le.n mm_le.e)))))))))) (sq_M_requestLine_144  _ _ _ _ hV hw)
    · refine mm_iload (pc' := 108) d_M_requestLine_106 rfl rfl ?_
      refine mm_iload_n (pc' := 109) d_M_requestLine_108 rfl rfl rfl ?_
      refine mm_iconst (v := 3) (pc' := 110) d_M_requestLine_109 rfl (by decide) ?_
      refine mm_isub (pc' := 111) d_M_requestLine_110 rfl ?_
      refine wr_icmp_ne hw (pc' := 114) d_M_requestLine_111 rfl rfl (fun hw => ?_) (fun hw => ?_)
      · exact mm_drop (mm_le.s (mm_le.s (mm_le.s (mm_le.n (mm_le.s (mm_le.n (mm_le.n (mm_le.n (mm_le.n (mm_le.n mm_le.e)))))))))) (sq_M_requestLine_144  _ _ _ _ hV hw)
      · refine wr_aload_n (some a) (pc' := 115) d_M_requestLine_114 rfl rfl rfl ?_
        refine mm_iload (pc' := 117) d_M_requestLine_115 rfl rfl ?_
        refine mm_iconst (v := 1) (pc' := 118) d_M_requestLine_117 rfl (by decide) ?_
        refine mm_iadd (pc' := 119) d_M_requestLine_118 rfl ?_
        refine wr_cVI (pc' := 122) (as := [.int (x10 + (1 : Int32))]) (st := []) d_M_requestLine_119 rfl cs_M_102 rfl (W := fun b Q' => wp_M_byteAt b (x10 + (1 : Int32)) A Q') hV hw (fun b Q' hw => sd_M_byteAt hV hw) rfl rfl (Nat.le_of_ble_eq_true rfl) (Nat.le_of_ble_eq_true rfl) (fun x12 h A hV hw => ?_)
        refine mm_bipush (v := 72) (pc' := 124) d_M_requestLine_122 rfl (by decide) ?_
        refine wr_icmp_ne hw (pc' := 127) d_M_requestLine_124 rfl rfl (fun hw => ?_) (fun hw => ?_)
        · exact mm_drop (mm_le.s (mm_le.s (mm_le.s (mm_le.n (mm_le.s (mm_le.n (mm_le.n (mm_le.n (mm_le.n (mm_le.n mm_le.e)))))))))) (sq_M_requestLine_144  _ _ _ _ hV hw)
        · refine wr_aload_n (some a) (pc' := 128) d_M_requestLine_127 rfl rfl rfl ?_
          refine mm_iload (pc' := 130) d_M_requestLine_128 rfl rfl ?_
          refine mm_iconst (v := 2) (pc' := 131) d_M_requestLine_130 rfl (by decide) ?_
          refine mm_iadd (pc' := 132) d_M_requestLine_131 rfl ?_
          refine wr_cVI (pc' := 135) (as := [.int (x10 + (2 : Int32))]) (st := []) d_M_requestLine_132 rfl cs_M_102 rfl (W := fun b Q' => wp_M_byteAt b (x10 + (2 : Int32)) A Q') hV hw (fun b Q' hw => sd_M_byteAt hV hw) rfl rfl (Nat.le_of_ble_eq_true rfl) (Nat.le_of_ble_eq_true rfl) (fun x13 h A hV hw => ?_)
          refine mm_bipush (v := 49) (pc' := 137) d_M_requestLine_135 rfl (by decide) ?_
          refine wr_icmp_ne hw (pc' := 140) d_M_requestLine_137 rfl rfl (fun hw => ?_) (fun hw => ?_)
          · exact mm_drop (mm_le.s (mm_le.s (mm_le.s (mm_le.n (mm_le.s (mm_le.n (mm_le.n (mm_le.n (mm_le.n (mm_le.n mm_le.e)))))))))) (sq_M_requestLine_144  _ _ _ _ hV hw)
          · refine mm_iconst (v := 1) (pc' := 141) d_M_requestLine_140 rfl (by decide) ?_
            refine mm_goto (tgt := 145) d_M_requestLine_141 rfl ?_
            exact mm_drop (mm_le.s (mm_le.s (mm_le.s (mm_le.n (mm_le.s (mm_le.n (mm_le.n (mm_le.n (mm_le.n (mm_le.n mm_le.e)))))))))) (sq_M_requestLine_145  _ _ _ _ _ hV hw)
def wb_M_requestLine_34 (a : Nat) (p0 : Int32) (Q : Int32 → ab_H → Prop)  (k34 : Int32 → Int32 → Int32 → ab_H → Prop) (u2 : Int32) (u3 : Int32) (u4 : Int32) (A : ab_H) : Prop := if u2 ≤ u4 then (wq_M_requestLine_78 a p0 Q u2 u3 A) else (if u3 = 0 then (k34 u2 (0 : Int32) (u4 + 1) A) else (wC A (some a) 14 (fun b => wp_M_byteAt b u4 A (fun x14 A => if x14 < (65 : Int32) then (k34 u2 (0 : Int32) (u4 + 1) A) else (wC A (some a) 14 (fun b => wp_M_byteAt b u4 A (fun x15 A => if (90 : Int32) < x15 then (k34 u2 (0 : Int32) (u4 + 1) A) else (k34 u2 (1 : Int32) (u4 + 1) A))))))))
def wq_M_requestLine_34 (a : Nat) (p0 : Int32) (Q : Int32 → ab_H → Prop)  : Nat → Int32 → Int32 → Int32 → ab_H → Prop
  | 0 => fun _ _ _ _ => False
  | n + 1 => wb_M_requestLine_34 a p0 Q  (wq_M_requestLine_34 a p0 Q  n)
set_option maxRecDepth 100000 in
set_option maxHeartbeats 4000000 in
theorem sq_M_requestLine_34 {l : Launch} {G : mm_G} {a : Nat} {p0 : Int32} {Q : Int32 → ab_H → Prop}   : ∀ (n : Nat) (u2 : Int32) (u3 : Int32) (u4 : Int32) (A : ab_H) (h : mm_H), Vw G h A → wq_M_requestLine_34 a p0 Q  n u2 u3 u4 A → mm_V l G M_M_requestLine 0 0 34 [some (va_rf (some a)), some (.int p0), some (.int u2), some (.int u3), some (.int u4), none, none, none, none, none] [] h (wQI G Q) := by
  intro n
  induction n with
  | zero =>
    intro u2 u3 u4 A h hV hw
    exact absurd hw id
  | succ n hk34 =>
    intro u2 u3 u4 A h hV hw
    have hw : wb_M_requestLine_34 a p0 Q  (wq_M_requestLine_34 a p0 Q  n) u2 u3 u4 A := hw
    unfold wb_M_requestLine_34 at hw
    refine mm_iload (pc' := 36) d_M_requestLine_34 rfl rfl ?_
    refine mm_iload_n (pc' := 37) d_M_requestLine_36 rfl rfl rfl ?_
    refine wr_icmp_ge hw (pc' := 40) d_M_requestLine_37 rfl rfl (fun hw => ?_) (fun hw => ?_)
    · exact mm_drop (mm_le.s (mm_le.s (mm_le.s (mm_le.s (mm_le.n (mm_le.n (mm_le.n (mm_le.n (mm_le.n (mm_le.n mm_le.e)))))))))) (sq_M_requestLine_78  _ _ _ _ hV hw)
    · refine mm_iload_n (pc' := 41) d_M_requestLine_40 rfl rfl rfl ?_
      refine wr_if_eq hw (pc' := 44) d_M_requestLine_41 rfl rfl (fun hw => ?_) (fun hw => ?_)
      · refine mm_iconst (v := 0) (pc' := 71) d_M_requestLine_70 rfl (by decide) ?_
        refine mm_ist3 (pc' := 72) d_M_requestLine_71 rfl rfl (Nat.le_of_ble_eq_true rfl) ?_
        refine mm_iinc4 (v := (u4 + 1)) (pc' := 75) d_M_requestLine_72 rfl rfl rfl (Nat.le_of_ble_eq_true rfl) ?_
        refine mm_goto (tgt := 34) d_M_requestLine_75 rfl ?_
        exact mm_drop (mm_le.s (mm_le.s (mm_le.s (mm_le.s (mm_le.s (mm_le.n (mm_le.n (mm_le.n (mm_le.n (mm_le.n mm_le.e)))))))))) (hk34 _ _ _ _ _ hV hw)
      · refine wr_aload_n (some a) (pc' := 45) d_M_requestLine_44 rfl rfl rfl ?_
        refine mm_iload (pc' := 47) d_M_requestLine_45 rfl rfl ?_
        refine wr_cVI (pc' := 50) (as := [.int u4]) (st := []) d_M_requestLine_47 rfl cs_M_102 rfl (W := fun b Q' => wp_M_byteAt b u4 A Q') hV hw (fun b Q' hw => sd_M_byteAt hV hw) rfl rfl (Nat.le_of_ble_eq_true rfl) (Nat.le_of_ble_eq_true rfl) (fun x14 h A hV hw => ?_)
        refine mm_bipush (v := 65) (pc' := 52) d_M_requestLine_50 rfl (by decide) ?_
        refine wr_icmp_lt hw (pc' := 55) d_M_requestLine_52 rfl rfl (fun hw => ?_) (fun hw => ?_)
        · refine mm_iconst (v := 0) (pc' := 71) d_M_requestLine_70 rfl (by decide) ?_
          refine mm_ist3 (pc' := 72) d_M_requestLine_71 rfl rfl (Nat.le_of_ble_eq_true rfl) ?_
          refine mm_iinc4 (v := (u4 + 1)) (pc' := 75) d_M_requestLine_72 rfl rfl rfl (Nat.le_of_ble_eq_true rfl) ?_
          refine mm_goto (tgt := 34) d_M_requestLine_75 rfl ?_
          exact mm_drop (mm_le.s (mm_le.s (mm_le.s (mm_le.s (mm_le.s (mm_le.n (mm_le.n (mm_le.n (mm_le.n (mm_le.n mm_le.e)))))))))) (hk34 _ _ _ _ _ hV hw)
        · refine wr_aload_n (some a) (pc' := 56) d_M_requestLine_55 rfl rfl rfl ?_
          refine mm_iload (pc' := 58) d_M_requestLine_56 rfl rfl ?_
          refine wr_cVI (pc' := 61) (as := [.int u4]) (st := []) d_M_requestLine_58 rfl cs_M_102 rfl (W := fun b Q' => wp_M_byteAt b u4 A Q') hV hw (fun b Q' hw => sd_M_byteAt hV hw) rfl rfl (Nat.le_of_ble_eq_true rfl) (Nat.le_of_ble_eq_true rfl) (fun x15 h A hV hw => ?_)
          refine mm_bipush (v := 90) (pc' := 63) d_M_requestLine_61 rfl (by decide) ?_
          refine wr_icmp_gt hw (pc' := 66) d_M_requestLine_63 rfl rfl (fun hw => ?_) (fun hw => ?_)
          · refine mm_iconst (v := 0) (pc' := 71) d_M_requestLine_70 rfl (by decide) ?_
            refine mm_ist3 (pc' := 72) d_M_requestLine_71 rfl rfl (Nat.le_of_ble_eq_true rfl) ?_
            refine mm_iinc4 (v := (u4 + 1)) (pc' := 75) d_M_requestLine_72 rfl rfl rfl (Nat.le_of_ble_eq_true rfl) ?_
            refine mm_goto (tgt := 34) d_M_requestLine_75 rfl ?_
            exact mm_drop (mm_le.s (mm_le.s (mm_le.s (mm_le.s (mm_le.s (mm_le.n (mm_le.n (mm_le.n (mm_le.n (mm_le.n mm_le.e)))))))))) (hk34 _ _ _ _ _ hV hw)
          · refine mm_iconst (v := 1) (pc' := 67) d_M_requestLine_66 rfl (by decide) ?_
            refine mm_goto (tgt := 71) d_M_requestLine_67 rfl ?_
            refine mm_ist3 (pc' := 72) d_M_requestLine_71 rfl rfl (Nat.le_of_ble_eq_true rfl) ?_
            refine mm_iinc4 (v := (u4 + 1)) (pc' := 75) d_M_requestLine_72 rfl rfl rfl (Nat.le_of_ble_eq_true rfl) ?_
            refine mm_goto (tgt := 34) d_M_requestLine_75 rfl ?_
            exact mm_drop (mm_le.s (mm_le.s (mm_le.s (mm_le.s (mm_le.s (mm_le.n (mm_le.n (mm_le.n (mm_le.n (mm_le.n mm_le.e)))))))))) (hk34 _ _ _ _ _ hV hw)
def wq_M_requestLine_30 (a : Nat) (p0 : Int32) (Q : Int32 → ab_H → Prop)  (u2 : Int32) (s0 : Int32) (A : ab_H) : Prop := ∃ n, wq_M_requestLine_34 a p0 Q n u2 s0 (0 : Int32) A
set_option maxRecDepth 100000 in
set_option maxHeartbeats 4000000 in
theorem sq_M_requestLine_30 {l : Launch} {G : mm_G} {a : Nat} {p0 : Int32} {Q : Int32 → ab_H → Prop}   : ∀ (u2 : Int32) (s0 : Int32) (A : ab_H) (h : mm_H), Vw G h A → wq_M_requestLine_30 a p0 Q  u2 s0 A → mm_V l G M_M_requestLine 0 0 30 [some (va_rf (some a)), some (.int p0), some (.int u2), none, none, none, none, none, none, none] [.int s0] h (wQI G Q) := by
  intro u2 s0 A h hV hw
  unfold wq_M_requestLine_30 at hw
  refine mm_ist3 (pc' := 31) d_M_requestLine_30 rfl rfl (Nat.le_of_ble_eq_true rfl) ?_
  refine mm_iconst (v := 0) (pc' := 32) d_M_requestLine_31 rfl (by decide) ?_
  refine mm_ist4 (pc' := 34) d_M_requestLine_32 rfl rfl (Nat.le_of_ble_eq_true rfl) ?_
  obtain ⟨n, hw⟩ := hw
  exact mm_drop (mm_le.s (mm_le.s (mm_le.s (mm_le.s (mm_le.s (mm_le.n (mm_le.n (mm_le.n (mm_le.n (mm_le.n mm_le.e)))))))))) (sq_M_requestLine_34  n _ _ _ _ _ hV hw)
def wq_M_requestLine_29 (a : Nat) (p0 : Int32) (Q : Int32 → ab_H → Prop)  (u2 : Int32) (A : ab_H) : Prop := wq_M_requestLine_30 a p0 Q u2 (0 : Int32) A
set_option maxRecDepth 100000 in
set_option maxHeartbeats 4000000 in
theorem sq_M_requestLine_29 {l : Launch} {G : mm_G} {a : Nat} {p0 : Int32} {Q : Int32 → ab_H → Prop}   : ∀ (u2 : Int32) (A : ab_H) (h : mm_H), Vw G h A → wq_M_requestLine_29 a p0 Q  u2 A → mm_V l G M_M_requestLine 0 0 29 [some (va_rf (some a)), some (.int p0), some (.int u2), none, none, none, none, none, none, none] [] h (wQI G Q) := by
  intro u2 A h hV hw
  unfold wq_M_requestLine_29 at hw
  refine mm_iconst (v := 0) (pc' := 30) d_M_requestLine_29 rfl (by decide) ?_
  exact mm_drop (mm_le.s (mm_le.s (mm_le.s (mm_le.n (mm_le.n (mm_le.n (mm_le.n (mm_le.n (mm_le.n (mm_le.n mm_le.e)))))))))) (sq_M_requestLine_30  _ _ _ _ hV hw)
def wp_M_requestLine (a : Nat) (p0 : Int32) (A : ab_H) (Q : Int32 → ab_H → Prop) : Prop := wC A (some a) 14 (fun b => wp_M_seek b (32 : Int32) (0 : Int32) p0 A (fun x16 A => if x16 < (1 : Int32) then (wq_M_requestLine_29 a p0 Q x16 A) else (if (7 : Int32) < x16 then (wq_M_requestLine_29 a p0 Q x16 A) else (if p0 ≤ x16 then (wq_M_requestLine_29 a p0 Q x16 A) else (wq_M_requestLine_30 a p0 Q x16 (1 : Int32) A)))))
set_option maxRecDepth 100000 in
set_option maxHeartbeats 4000000 in
theorem sd_M_requestLine {l : Launch} {G : mm_G} {h : mm_H} {A : ab_H} {a : Nat} {p0 : Int32} {Q : Int32 → ab_H → Prop} (hV : Vw G h A) (hw : wp_M_requestLine a p0 A Q) : mm_S l G M_M_requestLine [.ref a, .int p0] h 0 0 (wQI G Q) := by
  unfold wp_M_requestLine at hw
  refine mm_start rfl (Nat.le_of_ble_eq_true rfl) ?_
  show mm_V l G M_M_requestLine 0 0 0 [some (va_rf (some a)), some (.int p0), none, none, none, none, none, none, none, none] [] h _
  refine wr_aload_n (some a) (pc' := 1) d_M_requestLine_0 rfl rfl rfl ?_
  refine mm_bipush (v := 32) (pc' := 3) d_M_requestLine_1 rfl (by decide) ?_
  refine mm_iconst (v := 0) (pc' := 4) d_M_requestLine_3 rfl (by decide) ?_
  refine mm_iload_n (pc' := 5) d_M_requestLine_4 rfl rfl rfl ?_
  refine wr_cVI (pc' := 8) (as := [.int (32 : Int32), .int (0 : Int32), .int p0]) (st := []) d_M_requestLine_5 rfl cs_M_109 rfl (W := fun b Q' => wp_M_seek b (32 : Int32) (0 : Int32) p0 A Q') hV hw (fun b Q' hw => sd_M_seek hV hw) rfl rfl (Nat.le_of_ble_eq_true rfl) (Nat.le_of_ble_eq_true rfl) (fun x16 h A hV hw => ?_)
  refine mm_ist2 (pc' := 9) d_M_requestLine_8 rfl rfl (Nat.le_of_ble_eq_true rfl) ?_
  refine mm_iload_n (pc' := 10) d_M_requestLine_9 rfl rfl rfl ?_
  refine mm_iconst (v := 1) (pc' := 11) d_M_requestLine_10 rfl (by decide) ?_
  refine wr_icmp_lt hw (pc' := 14) d_M_requestLine_11 rfl rfl (fun hw => ?_) (fun hw => ?_)
  · exact mm_drop (mm_le.s (mm_le.s (mm_le.s (mm_le.n (mm_le.n (mm_le.n (mm_le.n (mm_le.n (mm_le.n (mm_le.n mm_le.e)))))))))) (sq_M_requestLine_29  _ _ _ hV hw)
  · refine mm_iload_n (pc' := 15) d_M_requestLine_14 rfl rfl rfl ?_
    refine mm_bipush (v := 7) (pc' := 17) d_M_requestLine_15 rfl (by decide) ?_
    refine wr_icmp_gt hw (pc' := 20) d_M_requestLine_17 rfl rfl (fun hw => ?_) (fun hw => ?_)
    · exact mm_drop (mm_le.s (mm_le.s (mm_le.s (mm_le.n (mm_le.n (mm_le.n (mm_le.n (mm_le.n (mm_le.n (mm_le.n mm_le.e)))))))))) (sq_M_requestLine_29  _ _ _ hV hw)
    · refine mm_iload_n (pc' := 21) d_M_requestLine_20 rfl rfl rfl ?_
      refine mm_iload_n (pc' := 22) d_M_requestLine_21 rfl rfl rfl ?_
      refine wr_icmp_ge hw (pc' := 25) d_M_requestLine_22 rfl rfl (fun hw => ?_) (fun hw => ?_)
      · exact mm_drop (mm_le.s (mm_le.s (mm_le.s (mm_le.n (mm_le.n (mm_le.n (mm_le.n (mm_le.n (mm_le.n (mm_le.n mm_le.e)))))))))) (sq_M_requestLine_29  _ _ _ hV hw)
      · refine mm_iconst (v := 1) (pc' := 26) d_M_requestLine_25 rfl (by decide) ?_
        refine mm_goto (tgt := 30) d_M_requestLine_26 rfl ?_
        exact mm_drop (mm_le.s (mm_le.s (mm_le.s (mm_le.n (mm_le.n (mm_le.n (mm_le.n (mm_le.n (mm_le.n (mm_le.n mm_le.e)))))))))) (sq_M_requestLine_30  _ _ _ _ hV hw)
theorem d_M_letter_0 : decode prog_14_method_4_code 0 = .ok (.iload_n 0, 1) := by decide +kernel
theorem d_M_letter_1 : decode prog_14_method_4_code 1 = .ok (.bipush 97, 2) := by decide +kernel
theorem d_M_letter_3 : decode prog_14_method_4_code 3 = .ok (.if_icmp .lt 9, 3) := by decide +kernel
theorem d_M_letter_6 : decode prog_14_method_4_code 6 = .ok (.iload_n 0, 1) := by decide +kernel
theorem d_M_letter_7 : decode prog_14_method_4_code 7 = .ok (.bipush 122, 2) := by decide +kernel
theorem d_M_letter_9 : decode prog_14_method_4_code 9 = .ok (.if_icmp .le 15, 3) := by decide +kernel
theorem d_M_letter_12 : decode prog_14_method_4_code 12 = .ok (.iload_n 0, 1) := by decide +kernel
theorem d_M_letter_13 : decode prog_14_method_4_code 13 = .ok (.bipush 65, 2) := by decide +kernel
theorem d_M_letter_15 : decode prog_14_method_4_code 15 = .ok (.if_icmp .lt 13, 3) := by decide +kernel
theorem d_M_letter_18 : decode prog_14_method_4_code 18 = .ok (.iload_n 0, 1) := by decide +kernel
theorem d_M_letter_19 : decode prog_14_method_4_code 19 = .ok (.bipush 90, 2) := by decide +kernel
theorem d_M_letter_21 : decode prog_14_method_4_code 21 = .ok (.if_icmp .gt 7, 3) := by decide +kernel
theorem d_M_letter_24 : decode prog_14_method_4_code 24 = .ok (.iconst 1, 1) := by decide +kernel
theorem d_M_letter_25 : decode prog_14_method_4_code 25 = .ok (.goto 4, 3) := by decide +kernel
theorem d_M_letter_28 : decode prog_14_method_4_code 28 = .ok (.iconst 0, 1) := by decide +kernel
theorem d_M_letter_29 : decode prog_14_method_4_code 29 = .ok (.ireturn, 1) := by decide +kernel
def wq_M_letter_12 (p0 : Int32) (Q : Int32 → ab_H → Prop)   (A : ab_H) : Prop := if p0 < (65 : Int32) then (Q (0 : Int32) A) else (if (90 : Int32) < p0 then (Q (0 : Int32) A) else (Q (1 : Int32) A))
set_option maxRecDepth 100000 in
set_option maxHeartbeats 4000000 in
theorem sq_M_letter_12 {l : Launch} {G : mm_G} {p0 : Int32} {Q : Int32 → ab_H → Prop}   : ∀ (A : ab_H) (h : mm_H), Vw G h A → wq_M_letter_12 p0 Q  A → mm_V l G M_M_letter 0 0 12 [some (.int p0)] [] h (wQI G Q) := by
  intro A h hV hw
  unfold wq_M_letter_12 at hw
  refine mm_iload_n (pc' := 13) d_M_letter_12 rfl rfl rfl ?_
  refine mm_bipush (v := 65) (pc' := 15) d_M_letter_13 rfl (by decide) ?_
  refine wr_icmp_lt hw (pc' := 18) d_M_letter_15 rfl rfl (fun hw => ?_) (fun hw => ?_)
  · refine mm_iconst (v := 0) (pc' := 29) d_M_letter_28 rfl (by decide) ?_
    exact wr_iret hV d_M_letter_29 rfl rfl hw
  · refine mm_iload_n (pc' := 19) d_M_letter_18 rfl rfl rfl ?_
    refine mm_bipush (v := 90) (pc' := 21) d_M_letter_19 rfl (by decide) ?_
    refine wr_icmp_gt hw (pc' := 24) d_M_letter_21 rfl rfl (fun hw => ?_) (fun hw => ?_)
    · refine mm_iconst (v := 0) (pc' := 29) d_M_letter_28 rfl (by decide) ?_
      exact wr_iret hV d_M_letter_29 rfl rfl hw
    · refine mm_iconst (v := 1) (pc' := 25) d_M_letter_24 rfl (by decide) ?_
      refine mm_goto (tgt := 29) d_M_letter_25 rfl ?_
      exact wr_iret hV d_M_letter_29 rfl rfl hw
def wp_M_letter (p0 : Int32) (A : ab_H) (Q : Int32 → ab_H → Prop) : Prop := if p0 < (97 : Int32) then (wq_M_letter_12 p0 Q A) else (if p0 ≤ (122 : Int32) then (Q (1 : Int32) A) else (wq_M_letter_12 p0 Q A))
set_option maxRecDepth 100000 in
set_option maxHeartbeats 4000000 in
theorem sd_M_letter {l : Launch} {G : mm_G} {h : mm_H} {A : ab_H} {p0 : Int32} {Q : Int32 → ab_H → Prop} (hV : Vw G h A) (hw : wp_M_letter p0 A Q) : mm_S l G M_M_letter [.int p0] h 0 0 (wQI G Q) := by
  unfold wp_M_letter at hw
  refine mm_start rfl (Nat.le_of_ble_eq_true rfl) ?_
  show mm_V l G M_M_letter 0 0 0 [some (.int p0)] [] h _
  refine mm_iload_n (pc' := 1) d_M_letter_0 rfl rfl rfl ?_
  refine mm_bipush (v := 97) (pc' := 3) d_M_letter_1 rfl (by decide) ?_
  refine wr_icmp_lt hw (pc' := 6) d_M_letter_3 rfl rfl (fun hw => ?_) (fun hw => ?_)
  · exact mm_drop (mm_le.s mm_le.e) (sq_M_letter_12  _ _ hV hw)
  · refine mm_iload_n (pc' := 7) d_M_letter_6 rfl rfl rfl ?_
    refine mm_bipush (v := 122) (pc' := 9) d_M_letter_7 rfl (by decide) ?_
    refine wr_icmp_le hw (pc' := 12) d_M_letter_9 rfl rfl (fun hw => ?_) (fun hw => ?_)
    · refine mm_iconst (v := 1) (pc' := 25) d_M_letter_24 rfl (by decide) ?_
      refine mm_goto (tgt := 29) d_M_letter_25 rfl ?_
      exact wr_iret hV d_M_letter_29 rfl rfl hw
    · exact mm_drop (mm_le.s mm_le.e) (sq_M_letter_12  _ _ hV hw)
theorem d_M_valueAt_0 : decode prog_14_method_15_code 0 = .ok (.aload_n 0, 1) := by decide +kernel
theorem d_M_valueAt_1 : decode prog_14_method_15_code 1 = .ok (.bipush 58, 2) := by decide +kernel
theorem d_M_valueAt_3 : decode prog_14_method_15_code 3 = .ok (.iload_n 1, 1) := by decide +kernel
theorem d_M_valueAt_4 : decode prog_14_method_15_code 4 = .ok (.iload_n 2, 1) := by decide +kernel
theorem d_M_valueAt_5 : decode prog_14_method_15_code 5 = .ok (.invokevirtual 109, 3) := by decide +kernel
theorem d_M_valueAt_8 : decode prog_14_method_15_code 8 = .ok (.iconst 1, 1) := by decide +kernel
theorem d_M_valueAt_9 : decode prog_14_method_15_code 9 = .ok (.iadd, 1) := by decide +kernel
theorem d_M_valueAt_10 : decode prog_14_method_15_code 10 = .ok (.istore_n 3, 1) := by decide +kernel
theorem d_M_valueAt_11 : decode prog_14_method_15_code 11 = .ok (.iload_n 3, 1) := by decide +kernel
theorem d_M_valueAt_12 : decode prog_14_method_15_code 12 = .ok (.iload_n 2, 1) := by decide +kernel
theorem d_M_valueAt_13 : decode prog_14_method_15_code 13 = .ok (.if_icmp .ge 19, 3) := by decide +kernel
theorem d_M_valueAt_16 : decode prog_14_method_15_code 16 = .ok (.aload_n 0, 1) := by decide +kernel
theorem d_M_valueAt_17 : decode prog_14_method_15_code 17 = .ok (.iload_n 3, 1) := by decide +kernel
theorem d_M_valueAt_18 : decode prog_14_method_15_code 18 = .ok (.invokevirtual 102, 3) := by decide +kernel
theorem d_M_valueAt_21 : decode prog_14_method_15_code 21 = .ok (.bipush 32, 2) := by decide +kernel
theorem d_M_valueAt_23 : decode prog_14_method_15_code 23 = .ok (.if_icmp .ne 9, 3) := by decide +kernel
theorem d_M_valueAt_26 : decode prog_14_method_15_code 26 = .ok (.iinc 3 1, 3) := by decide +kernel
theorem d_M_valueAt_29 : decode prog_14_method_15_code 29 = .ok (.goto (-18), 3) := by decide +kernel
theorem d_M_valueAt_32 : decode prog_14_method_15_code 32 = .ok (.iload_n 3, 1) := by decide +kernel
theorem d_M_valueAt_33 : decode prog_14_method_15_code 33 = .ok (.ireturn, 1) := by decide +kernel
def wb_M_valueAt_11 (a : Nat) (p0 : Int32) (p1 : Int32) (Q : Int32 → ab_H → Prop)  (k11 : Int32 → ab_H → Prop) (u3 : Int32) (A : ab_H) : Prop := if p1 ≤ u3 then (Q u3 A) else (wC A (some a) 14 (fun b => wp_M_byteAt b u3 A (fun x1 A => if x1 = (32 : Int32) then (k11 (u3 + 1) A) else (Q u3 A))))
def wq_M_valueAt_11 (a : Nat) (p0 : Int32) (p1 : Int32) (Q : Int32 → ab_H → Prop)  : Nat → Int32 → ab_H → Prop
  | 0 => fun _ _ => False
  | n + 1 => wb_M_valueAt_11 a p0 p1 Q  (wq_M_valueAt_11 a p0 p1 Q  n)
set_option maxRecDepth 100000 in
set_option maxHeartbeats 4000000 in
theorem sq_M_valueAt_11 {l : Launch} {G : mm_G} {a : Nat} {p0 : Int32} {p1 : Int32} {Q : Int32 → ab_H → Prop}   : ∀ (n : Nat) (u3 : Int32) (A : ab_H) (h : mm_H), Vw G h A → wq_M_valueAt_11 a p0 p1 Q  n u3 A → mm_V l G M_M_valueAt 0 0 11 [some (va_rf (some a)), some (.int p0), some (.int p1), some (.int u3)] [] h (wQI G Q) := by
  intro n
  induction n with
  | zero =>
    intro u3 A h hV hw
    exact absurd hw id
  | succ n hk11 =>
    intro u3 A h hV hw
    have hw : wb_M_valueAt_11 a p0 p1 Q  (wq_M_valueAt_11 a p0 p1 Q  n) u3 A := hw
    unfold wb_M_valueAt_11 at hw
    refine mm_iload_n (pc' := 12) d_M_valueAt_11 rfl rfl rfl ?_
    refine mm_iload_n (pc' := 13) d_M_valueAt_12 rfl rfl rfl ?_
    refine wr_icmp_ge hw (pc' := 16) d_M_valueAt_13 rfl rfl (fun hw => ?_) (fun hw => ?_)
    · refine mm_iload_n (pc' := 33) d_M_valueAt_32 rfl rfl rfl ?_
      exact wr_iret hV d_M_valueAt_33 rfl rfl hw
    · refine wr_aload_n (some a) (pc' := 17) d_M_valueAt_16 rfl rfl rfl ?_
      refine mm_iload_n (pc' := 18) d_M_valueAt_17 rfl rfl rfl ?_
      refine wr_cVI (pc' := 21) (as := [.int u3]) (st := []) d_M_valueAt_18 rfl cs_M_102 rfl (W := fun b Q' => wp_M_byteAt b u3 A Q') hV hw (fun b Q' hw => sd_M_byteAt hV hw) rfl rfl (Nat.le_of_ble_eq_true rfl) (Nat.le_of_ble_eq_true rfl) (fun x1 h A hV hw => ?_)
      refine mm_bipush (v := 32) (pc' := 23) d_M_valueAt_21 rfl (by decide) ?_
      refine wr_icmp_ne hw (pc' := 26) d_M_valueAt_23 rfl rfl (fun hw => ?_) (fun hw => ?_)
      · refine mm_iload_n (pc' := 33) d_M_valueAt_32 rfl rfl rfl ?_
        exact wr_iret hV d_M_valueAt_33 rfl rfl hw
      · refine mm_iinc3 (v := (u3 + 1)) (pc' := 29) d_M_valueAt_26 rfl rfl rfl (Nat.le_of_ble_eq_true rfl) ?_
        refine mm_goto (tgt := 11) d_M_valueAt_29 rfl ?_
        exact mm_drop (mm_le.s (mm_le.s (mm_le.s (mm_le.s mm_le.e)))) (hk11 _ _ _ hV hw)
def wp_M_valueAt (a : Nat) (p0 : Int32) (p1 : Int32) (A : ab_H) (Q : Int32 → ab_H → Prop) : Prop := wC A (some a) 14 (fun b => wp_M_seek b (58 : Int32) p0 p1 A (fun x2 A => wL ((x2 + (1 : Int32))) (fun x3 => ∃ n, wq_M_valueAt_11 a p0 p1 Q n x3 A)))
set_option maxRecDepth 100000 in
set_option maxHeartbeats 4000000 in
theorem sd_M_valueAt {l : Launch} {G : mm_G} {h : mm_H} {A : ab_H} {a : Nat} {p0 : Int32} {p1 : Int32} {Q : Int32 → ab_H → Prop} (hV : Vw G h A) (hw : wp_M_valueAt a p0 p1 A Q) : mm_S l G M_M_valueAt [.ref a, .int p0, .int p1] h 0 0 (wQI G Q) := by
  unfold wp_M_valueAt at hw
  refine mm_start rfl (Nat.le_of_ble_eq_true rfl) ?_
  show mm_V l G M_M_valueAt 0 0 0 [some (va_rf (some a)), some (.int p0), some (.int p1), none] [] h _
  refine wr_aload_n (some a) (pc' := 1) d_M_valueAt_0 rfl rfl rfl ?_
  refine mm_bipush (v := 58) (pc' := 3) d_M_valueAt_1 rfl (by decide) ?_
  refine mm_iload_n (pc' := 4) d_M_valueAt_3 rfl rfl rfl ?_
  refine mm_iload_n (pc' := 5) d_M_valueAt_4 rfl rfl rfl ?_
  refine wr_cVI (pc' := 8) (as := [.int (58 : Int32), .int p0, .int p1]) (st := []) d_M_valueAt_5 rfl cs_M_109 rfl (W := fun b Q' => wp_M_seek b (58 : Int32) p0 p1 A Q') hV hw (fun b Q' hw => sd_M_seek hV hw) rfl rfl (Nat.le_of_ble_eq_true rfl) (Nat.le_of_ble_eq_true rfl) (fun x2 h A hV hw => ?_)
  refine mm_iconst (v := 1) (pc' := 9) d_M_valueAt_8 rfl (by decide) ?_
  refine mm_iadd (pc' := 10) d_M_valueAt_9 rfl ?_
  refine wr_let (P := fun z => mm_V l G M_M_valueAt 0 0 10 [some (va_rf (some a)), some (.int p0), some (.int p1), none] (.int z :: []) h _) hw (fun x3 hw => ?_)
  refine mm_ist3 (pc' := 11) d_M_valueAt_10 rfl rfl (Nat.le_of_ble_eq_true rfl) ?_
  obtain ⟨n, hw⟩ := hw
  exact mm_drop (mm_le.s (mm_le.s (mm_le.s (mm_le.s mm_le.e)))) (sq_M_valueAt_11  n _ _ _ hV hw)
theorem d_M_valueEnd_0 : decode prog_14_method_16_code 0 = .ok (.iload_n 2, 1) := by decide +kernel
theorem d_M_valueEnd_1 : decode prog_14_method_16_code 1 = .ok (.istore_n 3, 1) := by decide +kernel
theorem d_M_valueEnd_2 : decode prog_14_method_16_code 2 = .ok (.iload_n 3, 1) := by decide +kernel
theorem d_M_valueEnd_3 : decode prog_14_method_16_code 3 = .ok (.aload_n 0, 1) := by decide +kernel
theorem d_M_valueEnd_4 : decode prog_14_method_16_code 4 = .ok (.iload_n 1, 1) := by decide +kernel
theorem d_M_valueEnd_5 : decode prog_14_method_16_code 5 = .ok (.iload_n 2, 1) := by decide +kernel
theorem d_M_valueEnd_6 : decode prog_14_method_16_code 6 = .ok (.invokevirtual 134, 3) := by decide +kernel
theorem d_M_valueEnd_9 : decode prog_14_method_16_code 9 = .ok (.if_icmp .le 21, 3) := by decide +kernel
theorem d_M_valueEnd_12 : decode prog_14_method_16_code 12 = .ok (.aload_n 0, 1) := by decide +kernel
theorem d_M_valueEnd_13 : decode prog_14_method_16_code 13 = .ok (.iload_n 3, 1) := by decide +kernel
theorem d_M_valueEnd_14 : decode prog_14_method_16_code 14 = .ok (.iconst 1, 1) := by decide +kernel
theorem d_M_valueEnd_15 : decode prog_14_method_16_code 15 = .ok (.isub, 1) := by decide +kernel
theorem d_M_valueEnd_16 : decode prog_14_method_16_code 16 = .ok (.invokevirtual 102, 3) := by decide +kernel
theorem d_M_valueEnd_19 : decode prog_14_method_16_code 19 = .ok (.bipush 32, 2) := by decide +kernel
theorem d_M_valueEnd_21 : decode prog_14_method_16_code 21 = .ok (.if_icmp .ne 9, 3) := by decide +kernel
theorem d_M_valueEnd_24 : decode prog_14_method_16_code 24 = .ok (.iinc 3 (-1), 3) := by decide +kernel
theorem d_M_valueEnd_27 : decode prog_14_method_16_code 27 = .ok (.goto (-25), 3) := by decide +kernel
theorem d_M_valueEnd_30 : decode prog_14_method_16_code 30 = .ok (.iload_n 3, 1) := by decide +kernel
theorem d_M_valueEnd_31 : decode prog_14_method_16_code 31 = .ok (.ireturn, 1) := by decide +kernel
def wb_M_valueEnd_2 (a : Nat) (p0 : Int32) (p1 : Int32) (Q : Int32 → ab_H → Prop)  (k2 : Int32 → ab_H → Prop) (u3 : Int32) (A : ab_H) : Prop := wC A (some a) 14 (fun b => wp_M_valueAt b p0 p1 A (fun x1 A => if u3 ≤ x1 then (Q u3 A) else (wC A (some a) 14 (fun b => wp_M_byteAt b (u3 - (1 : Int32)) A (fun x2 A => if x2 = (32 : Int32) then (k2 (u3 - 1) A) else (Q u3 A))))))
def wq_M_valueEnd_2 (a : Nat) (p0 : Int32) (p1 : Int32) (Q : Int32 → ab_H → Prop)  : Nat → Int32 → ab_H → Prop
  | 0 => fun _ _ => False
  | n + 1 => wb_M_valueEnd_2 a p0 p1 Q  (wq_M_valueEnd_2 a p0 p1 Q  n)
set_option maxRecDepth 100000 in
set_option maxHeartbeats 4000000 in
theorem sq_M_valueEnd_2 {l : Launch} {G : mm_G} {a : Nat} {p0 : Int32} {p1 : Int32} {Q : Int32 → ab_H → Prop}   : ∀ (n : Nat) (u3 : Int32) (A : ab_H) (h : mm_H), Vw G h A → wq_M_valueEnd_2 a p0 p1 Q  n u3 A → mm_V l G M_M_valueEnd 0 0 2 [some (va_rf (some a)), some (.int p0), some (.int p1), some (.int u3)] [] h (wQI G Q) := by
  intro n
  induction n with
  | zero =>
    intro u3 A h hV hw
    exact absurd hw id
  | succ n hk2 =>
    intro u3 A h hV hw
    have hw : wb_M_valueEnd_2 a p0 p1 Q  (wq_M_valueEnd_2 a p0 p1 Q  n) u3 A := hw
    unfold wb_M_valueEnd_2 at hw
    refine mm_iload_n (pc' := 3) d_M_valueEnd_2 rfl rfl rfl ?_
    refine wr_aload_n (some a) (pc' := 4) d_M_valueEnd_3 rfl rfl rfl ?_
    refine mm_iload_n (pc' := 5) d_M_valueEnd_4 rfl rfl rfl ?_
    refine mm_iload_n (pc' := 6) d_M_valueEnd_5 rfl rfl rfl ?_
    refine wr_cVI (pc' := 9) (as := [.int p0, .int p1]) (st := [.int u3]) d_M_valueEnd_6 rfl cs_M_134 rfl (W := fun b Q' => wp_M_valueAt b p0 p1 A Q') hV hw (fun b Q' hw => sd_M_valueAt hV hw) rfl rfl (Nat.le_of_ble_eq_true rfl) (Nat.le_of_ble_eq_true rfl) (fun x1 h A hV hw => ?_)
    refine wr_icmp_le hw (pc' := 12) d_M_valueEnd_9 rfl rfl (fun hw => ?_) (fun hw => ?_)
    · refine mm_iload_n (pc' := 31) d_M_valueEnd_30 rfl rfl rfl ?_
      exact wr_iret hV d_M_valueEnd_31 rfl rfl hw
    · refine wr_aload_n (some a) (pc' := 13) d_M_valueEnd_12 rfl rfl rfl ?_
      refine mm_iload_n (pc' := 14) d_M_valueEnd_13 rfl rfl rfl ?_
      refine mm_iconst (v := 1) (pc' := 15) d_M_valueEnd_14 rfl (by decide) ?_
      refine mm_isub (pc' := 16) d_M_valueEnd_15 rfl ?_
      refine wr_cVI (pc' := 19) (as := [.int (u3 - (1 : Int32))]) (st := []) d_M_valueEnd_16 rfl cs_M_102 rfl (W := fun b Q' => wp_M_byteAt b (u3 - (1 : Int32)) A Q') hV hw (fun b Q' hw => sd_M_byteAt hV hw) rfl rfl (Nat.le_of_ble_eq_true rfl) (Nat.le_of_ble_eq_true rfl) (fun x2 h A hV hw => ?_)
      refine mm_bipush (v := 32) (pc' := 21) d_M_valueEnd_19 rfl (by decide) ?_
      refine wr_icmp_ne hw (pc' := 24) d_M_valueEnd_21 rfl rfl (fun hw => ?_) (fun hw => ?_)
      · refine mm_iload_n (pc' := 31) d_M_valueEnd_30 rfl rfl rfl ?_
        exact wr_iret hV d_M_valueEnd_31 rfl rfl hw
      · refine mm_iinc3 (v := (u3 - 1)) (pc' := 27) d_M_valueEnd_24 rfl rfl (mm_dec _) (Nat.le_of_ble_eq_true rfl) ?_
        refine mm_goto (tgt := 2) d_M_valueEnd_27 rfl ?_
        exact mm_drop (mm_le.s (mm_le.s (mm_le.s (mm_le.s mm_le.e)))) (hk2 _ _ _ hV hw)
def wp_M_valueEnd (a : Nat) (p0 : Int32) (p1 : Int32) (A : ab_H) (Q : Int32 → ab_H → Prop) : Prop := ∃ n, wq_M_valueEnd_2 a p0 p1 Q n p1 A
set_option maxRecDepth 100000 in
set_option maxHeartbeats 4000000 in
theorem sd_M_valueEnd {l : Launch} {G : mm_G} {h : mm_H} {A : ab_H} {a : Nat} {p0 : Int32} {p1 : Int32} {Q : Int32 → ab_H → Prop} (hV : Vw G h A) (hw : wp_M_valueEnd a p0 p1 A Q) : mm_S l G M_M_valueEnd [.ref a, .int p0, .int p1] h 0 0 (wQI G Q) := by
  unfold wp_M_valueEnd at hw
  refine mm_start rfl (Nat.le_of_ble_eq_true rfl) ?_
  show mm_V l G M_M_valueEnd 0 0 0 [some (va_rf (some a)), some (.int p0), some (.int p1), none] [] h _
  refine mm_iload_n (pc' := 1) d_M_valueEnd_0 rfl rfl rfl ?_
  refine mm_ist3 (pc' := 2) d_M_valueEnd_1 rfl rfl (Nat.le_of_ble_eq_true rfl) ?_
  obtain ⟨n, hw⟩ := hw
  exact mm_drop (mm_le.s (mm_le.s (mm_le.s (mm_le.s mm_le.e)))) (sq_M_valueEnd_2  n _ _ _ hV hw)
theorem d_M_small_0 : decode prog_14_method_6_code 0 = .ok (.iload_n 0, 1) := by decide +kernel
theorem d_M_small_1 : decode prog_14_method_6_code 1 = .ok (.bipush 65, 2) := by decide +kernel
theorem d_M_small_3 : decode prog_14_method_6_code 3 = .ok (.if_icmp .lt 16, 3) := by decide +kernel
theorem d_M_small_6 : decode prog_14_method_6_code 6 = .ok (.iload_n 0, 1) := by decide +kernel
theorem d_M_small_7 : decode prog_14_method_6_code 7 = .ok (.bipush 90, 2) := by decide +kernel
theorem d_M_small_9 : decode prog_14_method_6_code 9 = .ok (.if_icmp .gt 10, 3) := by decide +kernel
theorem d_M_small_12 : decode prog_14_method_6_code 12 = .ok (.iload_n 0, 1) := by decide +kernel
theorem d_M_small_13 : decode prog_14_method_6_code 13 = .ok (.bipush 32, 2) := by decide +kernel
theorem d_M_small_15 : decode prog_14_method_6_code 15 = .ok (.iadd, 1) := by decide +kernel
theorem d_M_small_16 : decode prog_14_method_6_code 16 = .ok (.goto 4, 3) := by decide +kernel
theorem d_M_small_19 : decode prog_14_method_6_code 19 = .ok (.iload_n 0, 1) := by decide +kernel
theorem d_M_small_20 : decode prog_14_method_6_code 20 = .ok (.ireturn, 1) := by decide +kernel
def wp_M_small (p0 : Int32) (A : ab_H) (Q : Int32 → ab_H → Prop) : Prop := if p0 < (65 : Int32) then (Q p0 A) else (if (90 : Int32) < p0 then (Q p0 A) else (Q (p0 + (32 : Int32)) A))
set_option maxRecDepth 100000 in
set_option maxHeartbeats 4000000 in
theorem sd_M_small {l : Launch} {G : mm_G} {h : mm_H} {A : ab_H} {p0 : Int32} {Q : Int32 → ab_H → Prop} (hV : Vw G h A) (hw : wp_M_small p0 A Q) : mm_S l G M_M_small [.int p0] h 0 0 (wQI G Q) := by
  unfold wp_M_small at hw
  refine mm_start rfl (Nat.le_of_ble_eq_true rfl) ?_
  show mm_V l G M_M_small 0 0 0 [some (.int p0)] [] h _
  refine mm_iload_n (pc' := 1) d_M_small_0 rfl rfl rfl ?_
  refine mm_bipush (v := 65) (pc' := 3) d_M_small_1 rfl (by decide) ?_
  refine wr_icmp_lt hw (pc' := 6) d_M_small_3 rfl rfl (fun hw => ?_) (fun hw => ?_)
  · refine mm_iload_n (pc' := 20) d_M_small_19 rfl rfl rfl ?_
    exact wr_iret hV d_M_small_20 rfl rfl hw
  · refine mm_iload_n (pc' := 7) d_M_small_6 rfl rfl rfl ?_
    refine mm_bipush (v := 90) (pc' := 9) d_M_small_7 rfl (by decide) ?_
    refine wr_icmp_gt hw (pc' := 12) d_M_small_9 rfl rfl (fun hw => ?_) (fun hw => ?_)
    · refine mm_iload_n (pc' := 20) d_M_small_19 rfl rfl rfl ?_
      exact wr_iret hV d_M_small_20 rfl rfl hw
    · refine mm_iload_n (pc' := 13) d_M_small_12 rfl rfl rfl ?_
      refine mm_bipush (v := 32) (pc' := 15) d_M_small_13 rfl (by decide) ?_
      refine mm_iadd (pc' := 16) d_M_small_15 rfl ?_
      refine mm_goto (tgt := 20) d_M_small_16 rfl ?_
      exact wr_iret hV d_M_small_20 rfl rfl hw
theorem d_M_isNamed_0 : decode prog_14_method_13_code 0 = .ok (.iload_n 2, 1) := by decide +kernel
theorem d_M_isNamed_1 : decode prog_14_method_13_code 1 = .ok (.iload_n 1, 1) := by decide +kernel
theorem d_M_isNamed_2 : decode prog_14_method_13_code 2 = .ok (.isub, 1) := by decide +kernel
theorem d_M_isNamed_3 : decode prog_14_method_13_code 3 = .ok (.iconst 3, 1) := by decide +kernel
theorem d_M_isNamed_4 : decode prog_14_method_13_code 4 = .ok (.if_icmp .lt 49, 3) := by decide +kernel
theorem d_M_isNamed_7 : decode prog_14_method_13_code 7 = .ok (.aload_n 0, 1) := by decide +kernel
theorem d_M_isNamed_8 : decode prog_14_method_13_code 8 = .ok (.iload_n 1, 1) := by decide +kernel
theorem d_M_isNamed_9 : decode prog_14_method_13_code 9 = .ok (.invokevirtual 102, 3) := by decide +kernel
theorem d_M_isNamed_12 : decode prog_14_method_13_code 12 = .ok (.invokestatic 127, 3) := by decide +kernel
theorem d_M_isNamed_15 : decode prog_14_method_13_code 15 = .ok (.iload_n 3, 1) := by decide +kernel
theorem d_M_isNamed_16 : decode prog_14_method_13_code 16 = .ok (.if_icmp .ne 37, 3) := by decide +kernel
theorem d_M_isNamed_19 : decode prog_14_method_13_code 19 = .ok (.aload_n 0, 1) := by decide +kernel
theorem d_M_isNamed_20 : decode prog_14_method_13_code 20 = .ok (.iload_n 1, 1) := by decide +kernel
theorem d_M_isNamed_21 : decode prog_14_method_13_code 21 = .ok (.iconst 1, 1) := by decide +kernel
theorem d_M_isNamed_22 : decode prog_14_method_13_code 22 = .ok (.iadd, 1) := by decide +kernel
theorem d_M_isNamed_23 : decode prog_14_method_13_code 23 = .ok (.invokevirtual 102, 3) := by decide +kernel
theorem d_M_isNamed_26 : decode prog_14_method_13_code 26 = .ok (.invokestatic 127, 3) := by decide +kernel
theorem d_M_isNamed_29 : decode prog_14_method_13_code 29 = .ok (.iload 4, 2) := by decide +kernel
theorem d_M_isNamed_31 : decode prog_14_method_13_code 31 = .ok (.if_icmp .ne 22, 3) := by decide +kernel
theorem d_M_isNamed_34 : decode prog_14_method_13_code 34 = .ok (.aload_n 0, 1) := by decide +kernel
theorem d_M_isNamed_35 : decode prog_14_method_13_code 35 = .ok (.iload_n 1, 1) := by decide +kernel
theorem d_M_isNamed_36 : decode prog_14_method_13_code 36 = .ok (.iconst 2, 1) := by decide +kernel
theorem d_M_isNamed_37 : decode prog_14_method_13_code 37 = .ok (.iadd, 1) := by decide +kernel
theorem d_M_isNamed_38 : decode prog_14_method_13_code 38 = .ok (.invokevirtual 102, 3) := by decide +kernel
theorem d_M_isNamed_41 : decode prog_14_method_13_code 41 = .ok (.invokestatic 127, 3) := by decide +kernel
theorem d_M_isNamed_44 : decode prog_14_method_13_code 44 = .ok (.iload 5, 2) := by decide +kernel
theorem d_M_isNamed_46 : decode prog_14_method_13_code 46 = .ok (.if_icmp .ne 7, 3) := by decide +kernel
theorem d_M_isNamed_49 : decode prog_14_method_13_code 49 = .ok (.iconst 1, 1) := by decide +kernel
theorem d_M_isNamed_50 : decode prog_14_method_13_code 50 = .ok (.goto 4, 3) := by decide +kernel
theorem d_M_isNamed_53 : decode prog_14_method_13_code 53 = .ok (.iconst 0, 1) := by decide +kernel
theorem d_M_isNamed_54 : decode prog_14_method_13_code 54 = .ok (.ireturn, 1) := by decide +kernel
def wp_M_isNamed (a : Nat) (p0 : Int32) (p1 : Int32) (p2 : Int32) (p3 : Int32) (p4 : Int32) (A : ab_H) (Q : Int32 → ab_H → Prop) : Prop := if (p1 - p0) < (3 : Int32) then (Q (0 : Int32) A) else (wC A (some a) 14 (fun b => wp_M_byteAt b p0 A (fun x1 A => wp_M_small x1 A (fun x2 A => if x2 = p2 then (wC A (some a) 14 (fun b => wp_M_byteAt b (p0 + (1 : Int32)) A (fun x3 A => wp_M_small x3 A (fun x4 A => if x4 = p3 then (wC A (some a) 14 (fun b => wp_M_byteAt b (p0 + (2 : Int32)) A (fun x5 A => wp_M_small x5 A (fun x6 A => if x6 = p4 then (Q (1 : Int32) A) else (Q (0 : Int32) A))))) else (Q (0 : Int32) A))))) else (Q (0 : Int32) A)))))
set_option maxRecDepth 100000 in
set_option maxHeartbeats 4000000 in
theorem sd_M_isNamed {l : Launch} {G : mm_G} {h : mm_H} {A : ab_H} {a : Nat} {p0 : Int32} {p1 : Int32} {p2 : Int32} {p3 : Int32} {p4 : Int32} {Q : Int32 → ab_H → Prop} (hV : Vw G h A) (hw : wp_M_isNamed a p0 p1 p2 p3 p4 A Q) : mm_S l G M_M_isNamed [.ref a, .int p0, .int p1, .int p2, .int p3, .int p4] h 0 0 (wQI G Q) := by
  unfold wp_M_isNamed at hw
  refine mm_start rfl (Nat.le_of_ble_eq_true rfl) ?_
  show mm_V l G M_M_isNamed 0 0 0 [some (va_rf (some a)), some (.int p0), some (.int p1), some (.int p2), some (.int p3), some (.int p4)] [] h _
  refine mm_iload_n (pc' := 1) d_M_isNamed_0 rfl rfl rfl ?_
  refine mm_iload_n (pc' := 2) d_M_isNamed_1 rfl rfl rfl ?_
  refine mm_isub (pc' := 3) d_M_isNamed_2 rfl ?_
  refine mm_iconst (v := 3) (pc' := 4) d_M_isNamed_3 rfl (by decide) ?_
  refine wr_icmp_lt hw (pc' := 7) d_M_isNamed_4 rfl rfl (fun hw => ?_) (fun hw => ?_)
  · refine mm_iconst (v := 0) (pc' := 54) d_M_isNamed_53 rfl (by decide) ?_
    exact wr_iret hV d_M_isNamed_54 rfl rfl hw
  · refine wr_aload_n (some a) (pc' := 8) d_M_isNamed_7 rfl rfl rfl ?_
    refine mm_iload_n (pc' := 9) d_M_isNamed_8 rfl rfl rfl ?_
    refine wr_cVI (pc' := 12) (as := [.int p0]) (st := []) d_M_isNamed_9 rfl cs_M_102 rfl (W := fun b Q' => wp_M_byteAt b p0 A Q') hV hw (fun b Q' hw => sd_M_byteAt hV hw) rfl rfl (Nat.le_of_ble_eq_true rfl) (Nat.le_of_ble_eq_true rfl) (fun x1 h A hV hw => ?_)
    refine wr_cSI (pc' := 15) (as := [.int x1]) (st := []) d_M_isNamed_12 rfl cs_M_127 (sd_M_small hV hw) rfl rfl (Nat.le_of_ble_eq_true rfl) (Nat.le_of_ble_eq_true rfl) (fun x2 h A hV hw => ?_)
    refine mm_iload_n (pc' := 16) d_M_isNamed_15 rfl rfl rfl ?_
    refine wr_icmp_ne hw (pc' := 19) d_M_isNamed_16 rfl rfl (fun hw => ?_) (fun hw => ?_)
    · refine mm_iconst (v := 0) (pc' := 54) d_M_isNamed_53 rfl (by decide) ?_
      exact wr_iret hV d_M_isNamed_54 rfl rfl hw
    · refine wr_aload_n (some a) (pc' := 20) d_M_isNamed_19 rfl rfl rfl ?_
      refine mm_iload_n (pc' := 21) d_M_isNamed_20 rfl rfl rfl ?_
      refine mm_iconst (v := 1) (pc' := 22) d_M_isNamed_21 rfl (by decide) ?_
      refine mm_iadd (pc' := 23) d_M_isNamed_22 rfl ?_
      refine wr_cVI (pc' := 26) (as := [.int (p0 + (1 : Int32))]) (st := []) d_M_isNamed_23 rfl cs_M_102 rfl (W := fun b Q' => wp_M_byteAt b (p0 + (1 : Int32)) A Q') hV hw (fun b Q' hw => sd_M_byteAt hV hw) rfl rfl (Nat.le_of_ble_eq_true rfl) (Nat.le_of_ble_eq_true rfl) (fun x3 h A hV hw => ?_)
      refine wr_cSI (pc' := 29) (as := [.int x3]) (st := []) d_M_isNamed_26 rfl cs_M_127 (sd_M_small hV hw) rfl rfl (Nat.le_of_ble_eq_true rfl) (Nat.le_of_ble_eq_true rfl) (fun x4 h A hV hw => ?_)
      refine mm_iload (pc' := 31) d_M_isNamed_29 rfl rfl ?_
      refine wr_icmp_ne hw (pc' := 34) d_M_isNamed_31 rfl rfl (fun hw => ?_) (fun hw => ?_)
      · refine mm_iconst (v := 0) (pc' := 54) d_M_isNamed_53 rfl (by decide) ?_
        exact wr_iret hV d_M_isNamed_54 rfl rfl hw
      · refine wr_aload_n (some a) (pc' := 35) d_M_isNamed_34 rfl rfl rfl ?_
        refine mm_iload_n (pc' := 36) d_M_isNamed_35 rfl rfl rfl ?_
        refine mm_iconst (v := 2) (pc' := 37) d_M_isNamed_36 rfl (by decide) ?_
        refine mm_iadd (pc' := 38) d_M_isNamed_37 rfl ?_
        refine wr_cVI (pc' := 41) (as := [.int (p0 + (2 : Int32))]) (st := []) d_M_isNamed_38 rfl cs_M_102 rfl (W := fun b Q' => wp_M_byteAt b (p0 + (2 : Int32)) A Q') hV hw (fun b Q' hw => sd_M_byteAt hV hw) rfl rfl (Nat.le_of_ble_eq_true rfl) (Nat.le_of_ble_eq_true rfl) (fun x5 h A hV hw => ?_)
        refine wr_cSI (pc' := 44) (as := [.int x5]) (st := []) d_M_isNamed_41 rfl cs_M_127 (sd_M_small hV hw) rfl rfl (Nat.le_of_ble_eq_true rfl) (Nat.le_of_ble_eq_true rfl) (fun x6 h A hV hw => ?_)
        refine mm_iload (pc' := 46) d_M_isNamed_44 rfl rfl ?_
        refine wr_icmp_ne hw (pc' := 49) d_M_isNamed_46 rfl rfl (fun hw => ?_) (fun hw => ?_)
        · refine mm_iconst (v := 0) (pc' := 54) d_M_isNamed_53 rfl (by decide) ?_
          exact wr_iret hV d_M_isNamed_54 rfl rfl hw
        · refine mm_iconst (v := 1) (pc' := 50) d_M_isNamed_49 rfl (by decide) ?_
          refine mm_goto (tgt := 54) d_M_isNamed_50 rfl ?_
          exact wr_iret hV d_M_isNamed_54 rfl rfl hw
theorem d_M_isChunked_0 : decode prog_14_method_14_code 0 = .ok (.iload_n 2, 1) := by decide +kernel
theorem d_M_isChunked_1 : decode prog_14_method_14_code 1 = .ok (.iload_n 1, 1) := by decide +kernel
theorem d_M_isChunked_2 : decode prog_14_method_14_code 2 = .ok (.isub, 1) := by decide +kernel
theorem d_M_isChunked_3 : decode prog_14_method_14_code 3 = .ok (.bipush 7, 2) := by decide +kernel
theorem d_M_isChunked_5 : decode prog_14_method_14_code 5 = .ok (.if_icmp .ne 55, 3) := by decide +kernel
theorem d_M_isChunked_8 : decode prog_14_method_14_code 8 = .ok (.aload_n 0, 1) := by decide +kernel
theorem d_M_isChunked_9 : decode prog_14_method_14_code 9 = .ok (.iload_n 1, 1) := by decide +kernel
theorem d_M_isChunked_10 : decode prog_14_method_14_code 10 = .ok (.iload_n 2, 1) := by decide +kernel
theorem d_M_isChunked_11 : decode prog_14_method_14_code 11 = .ok (.bipush 99, 2) := by decide +kernel
theorem d_M_isChunked_13 : decode prog_14_method_14_code 13 = .ok (.bipush 104, 2) := by decide +kernel
theorem d_M_isChunked_15 : decode prog_14_method_14_code 15 = .ok (.bipush 117, 2) := by decide +kernel
theorem d_M_isChunked_17 : decode prog_14_method_14_code 17 = .ok (.invokevirtual 130, 3) := by decide +kernel
theorem d_M_isChunked_20 : decode prog_14_method_14_code 20 = .ok (.ifCond .eq 40, 3) := by decide +kernel
theorem d_M_isChunked_23 : decode prog_14_method_14_code 23 = .ok (.aload_n 0, 1) := by decide +kernel
theorem d_M_isChunked_24 : decode prog_14_method_14_code 24 = .ok (.iload_n 1, 1) := by decide +kernel
theorem d_M_isChunked_25 : decode prog_14_method_14_code 25 = .ok (.iconst 3, 1) := by decide +kernel
theorem d_M_isChunked_26 : decode prog_14_method_14_code 26 = .ok (.iadd, 1) := by decide +kernel
theorem d_M_isChunked_27 : decode prog_14_method_14_code 27 = .ok (.iload_n 2, 1) := by decide +kernel
theorem d_M_isChunked_28 : decode prog_14_method_14_code 28 = .ok (.bipush 110, 2) := by decide +kernel
theorem d_M_isChunked_30 : decode prog_14_method_14_code 30 = .ok (.bipush 107, 2) := by decide +kernel
theorem d_M_isChunked_32 : decode prog_14_method_14_code 32 = .ok (.bipush 101, 2) := by decide +kernel
theorem d_M_isChunked_34 : decode prog_14_method_14_code 34 = .ok (.invokevirtual 130, 3) := by decide +kernel
theorem d_M_isChunked_37 : decode prog_14_method_14_code 37 = .ok (.ifCond .eq 23, 3) := by decide +kernel
theorem d_M_isChunked_40 : decode prog_14_method_14_code 40 = .ok (.aload_n 0, 1) := by decide +kernel
theorem d_M_isChunked_41 : decode prog_14_method_14_code 41 = .ok (.iload_n 1, 1) := by decide +kernel
theorem d_M_isChunked_42 : decode prog_14_method_14_code 42 = .ok (.bipush 6, 2) := by decide +kernel
theorem d_M_isChunked_44 : decode prog_14_method_14_code 44 = .ok (.iadd, 1) := by decide +kernel
theorem d_M_isChunked_45 : decode prog_14_method_14_code 45 = .ok (.invokevirtual 102, 3) := by decide +kernel
theorem d_M_isChunked_48 : decode prog_14_method_14_code 48 = .ok (.invokestatic 127, 3) := by decide +kernel
theorem d_M_isChunked_51 : decode prog_14_method_14_code 51 = .ok (.bipush 100, 2) := by decide +kernel
theorem d_M_isChunked_53 : decode prog_14_method_14_code 53 = .ok (.if_icmp .ne 7, 3) := by decide +kernel
theorem d_M_isChunked_56 : decode prog_14_method_14_code 56 = .ok (.iconst 1, 1) := by decide +kernel
theorem d_M_isChunked_57 : decode prog_14_method_14_code 57 = .ok (.goto 4, 3) := by decide +kernel
theorem d_M_isChunked_60 : decode prog_14_method_14_code 60 = .ok (.iconst 0, 1) := by decide +kernel
theorem d_M_isChunked_61 : decode prog_14_method_14_code 61 = .ok (.ireturn, 1) := by decide +kernel
def wp_M_isChunked (a : Nat) (p0 : Int32) (p1 : Int32) (A : ab_H) (Q : Int32 → ab_H → Prop) : Prop := if (p1 - p0) = (7 : Int32) then (wC A (some a) 14 (fun b => wp_M_isNamed b p0 p1 (99 : Int32) (104 : Int32) (117 : Int32) A (fun x1 A => if x1 = 0 then (Q (0 : Int32) A) else (wC A (some a) 14 (fun b => wp_M_isNamed b (p0 + (3 : Int32)) p1 (110 : Int32) (107 : Int32) (101 : Int32) A (fun x2 A => if x2 = 0 then (Q (0 : Int32) A) else (wC A (some a) 14 (fun b => wp_M_byteAt b (p0 + (6 : Int32)) A (fun x3 A => wp_M_small x3 A (fun x4 A => if x4 = (100 : Int32) then (Q (1 : Int32) A) else (Q (0 : Int32) A))))))))))) else (Q (0 : Int32) A)
set_option maxRecDepth 100000 in
set_option maxHeartbeats 4000000 in
theorem sd_M_isChunked {l : Launch} {G : mm_G} {h : mm_H} {A : ab_H} {a : Nat} {p0 : Int32} {p1 : Int32} {Q : Int32 → ab_H → Prop} (hV : Vw G h A) (hw : wp_M_isChunked a p0 p1 A Q) : mm_S l G M_M_isChunked [.ref a, .int p0, .int p1] h 0 0 (wQI G Q) := by
  unfold wp_M_isChunked at hw
  refine mm_start rfl (Nat.le_of_ble_eq_true rfl) ?_
  show mm_V l G M_M_isChunked 0 0 0 [some (va_rf (some a)), some (.int p0), some (.int p1)] [] h _
  refine mm_iload_n (pc' := 1) d_M_isChunked_0 rfl rfl rfl ?_
  refine mm_iload_n (pc' := 2) d_M_isChunked_1 rfl rfl rfl ?_
  refine mm_isub (pc' := 3) d_M_isChunked_2 rfl ?_
  refine mm_bipush (v := 7) (pc' := 5) d_M_isChunked_3 rfl (by decide) ?_
  refine wr_icmp_ne hw (pc' := 8) d_M_isChunked_5 rfl rfl (fun hw => ?_) (fun hw => ?_)
  · refine mm_iconst (v := 0) (pc' := 61) d_M_isChunked_60 rfl (by decide) ?_
    exact wr_iret hV d_M_isChunked_61 rfl rfl hw
  · refine wr_aload_n (some a) (pc' := 9) d_M_isChunked_8 rfl rfl rfl ?_
    refine mm_iload_n (pc' := 10) d_M_isChunked_9 rfl rfl rfl ?_
    refine mm_iload_n (pc' := 11) d_M_isChunked_10 rfl rfl rfl ?_
    refine mm_bipush (v := 99) (pc' := 13) d_M_isChunked_11 rfl (by decide) ?_
    refine mm_bipush (v := 104) (pc' := 15) d_M_isChunked_13 rfl (by decide) ?_
    refine mm_bipush (v := 117) (pc' := 17) d_M_isChunked_15 rfl (by decide) ?_
    refine wr_cVI (pc' := 20) (as := [.int p0, .int p1, .int (99 : Int32), .int (104 : Int32), .int (117 : Int32)]) (st := []) d_M_isChunked_17 rfl cs_M_130 rfl (W := fun b Q' => wp_M_isNamed b p0 p1 (99 : Int32) (104 : Int32) (117 : Int32) A Q') hV hw (fun b Q' hw => sd_M_isNamed hV hw) rfl rfl (Nat.le_of_ble_eq_true rfl) (Nat.le_of_ble_eq_true rfl) (fun x1 h A hV hw => ?_)
    refine wr_if_eq hw (pc' := 23) d_M_isChunked_20 rfl rfl (fun hw => ?_) (fun hw => ?_)
    · refine mm_iconst (v := 0) (pc' := 61) d_M_isChunked_60 rfl (by decide) ?_
      exact wr_iret hV d_M_isChunked_61 rfl rfl hw
    · refine wr_aload_n (some a) (pc' := 24) d_M_isChunked_23 rfl rfl rfl ?_
      refine mm_iload_n (pc' := 25) d_M_isChunked_24 rfl rfl rfl ?_
      refine mm_iconst (v := 3) (pc' := 26) d_M_isChunked_25 rfl (by decide) ?_
      refine mm_iadd (pc' := 27) d_M_isChunked_26 rfl ?_
      refine mm_iload_n (pc' := 28) d_M_isChunked_27 rfl rfl rfl ?_
      refine mm_bipush (v := 110) (pc' := 30) d_M_isChunked_28 rfl (by decide) ?_
      refine mm_bipush (v := 107) (pc' := 32) d_M_isChunked_30 rfl (by decide) ?_
      refine mm_bipush (v := 101) (pc' := 34) d_M_isChunked_32 rfl (by decide) ?_
      refine wr_cVI (pc' := 37) (as := [.int (p0 + (3 : Int32)), .int p1, .int (110 : Int32), .int (107 : Int32), .int (101 : Int32)]) (st := []) d_M_isChunked_34 rfl cs_M_130 rfl (W := fun b Q' => wp_M_isNamed b (p0 + (3 : Int32)) p1 (110 : Int32) (107 : Int32) (101 : Int32) A Q') hV hw (fun b Q' hw => sd_M_isNamed hV hw) rfl rfl (Nat.le_of_ble_eq_true rfl) (Nat.le_of_ble_eq_true rfl) (fun x2 h A hV hw => ?_)
      refine wr_if_eq hw (pc' := 40) d_M_isChunked_37 rfl rfl (fun hw => ?_) (fun hw => ?_)
      · refine mm_iconst (v := 0) (pc' := 61) d_M_isChunked_60 rfl (by decide) ?_
        exact wr_iret hV d_M_isChunked_61 rfl rfl hw
      · refine wr_aload_n (some a) (pc' := 41) d_M_isChunked_40 rfl rfl rfl ?_
        refine mm_iload_n (pc' := 42) d_M_isChunked_41 rfl rfl rfl ?_
        refine mm_bipush (v := 6) (pc' := 44) d_M_isChunked_42 rfl (by decide) ?_
        refine mm_iadd (pc' := 45) d_M_isChunked_44 rfl ?_
        refine wr_cVI (pc' := 48) (as := [.int (p0 + (6 : Int32))]) (st := []) d_M_isChunked_45 rfl cs_M_102 rfl (W := fun b Q' => wp_M_byteAt b (p0 + (6 : Int32)) A Q') hV hw (fun b Q' hw => sd_M_byteAt hV hw) rfl rfl (Nat.le_of_ble_eq_true rfl) (Nat.le_of_ble_eq_true rfl) (fun x3 h A hV hw => ?_)
        refine wr_cSI (pc' := 51) (as := [.int x3]) (st := []) d_M_isChunked_48 rfl cs_M_127 (sd_M_small hV hw) rfl rfl (Nat.le_of_ble_eq_true rfl) (Nat.le_of_ble_eq_true rfl) (fun x4 h A hV hw => ?_)
        refine mm_bipush (v := 100) (pc' := 53) d_M_isChunked_51 rfl (by decide) ?_
        refine wr_icmp_ne hw (pc' := 56) d_M_isChunked_53 rfl rfl (fun hw => ?_) (fun hw => ?_)
        · refine mm_iconst (v := 0) (pc' := 61) d_M_isChunked_60 rfl (by decide) ?_
          exact wr_iret hV d_M_isChunked_61 rfl rfl hw
        · refine mm_iconst (v := 1) (pc' := 57) d_M_isChunked_56 rfl (by decide) ?_
          refine mm_goto (tgt := 61) d_M_isChunked_57 rfl ?_
          exact wr_iret hV d_M_isChunked_61 rfl rfl hw
theorem d_M_announce_0 : decode prog_14_method_18_code 0 = .ok (.aload_n 0, 1) := by decide +kernel
theorem d_M_announce_1 : decode prog_14_method_18_code 1 = .ok (.iconst 0, 1) := by decide +kernel
theorem d_M_announce_2 : decode prog_14_method_18_code 2 = .ok (.putfield 151, 3) := by decide +kernel
theorem d_M_announce_5 : decode prog_14_method_18_code 5 = .ok (.iload_n 2, 1) := by decide +kernel
theorem d_M_announce_6 : decode prog_14_method_18_code 6 = .ok (.iload_n 1, 1) := by decide +kernel
theorem d_M_announce_7 : decode prog_14_method_18_code 7 = .ok (.isub, 1) := by decide +kernel
theorem d_M_announce_8 : decode prog_14_method_18_code 8 = .ok (.iconst 1, 1) := by decide +kernel
theorem d_M_announce_9 : decode prog_14_method_18_code 9 = .ok (.if_icmp .lt 14, 3) := by decide +kernel
theorem d_M_announce_12 : decode prog_14_method_18_code 12 = .ok (.iload_n 2, 1) := by decide +kernel
theorem d_M_announce_13 : decode prog_14_method_18_code 13 = .ok (.iload_n 1, 1) := by decide +kernel
theorem d_M_announce_14 : decode prog_14_method_18_code 14 = .ok (.isub, 1) := by decide +kernel
theorem d_M_announce_15 : decode prog_14_method_18_code 15 = .ok (.iconst 3, 1) := by decide +kernel
theorem d_M_announce_16 : decode prog_14_method_18_code 16 = .ok (.if_icmp .gt 7, 3) := by decide +kernel
theorem d_M_announce_19 : decode prog_14_method_18_code 19 = .ok (.iconst 1, 1) := by decide +kernel
theorem d_M_announce_20 : decode prog_14_method_18_code 20 = .ok (.goto 4, 3) := by decide +kernel
theorem d_M_announce_23 : decode prog_14_method_18_code 23 = .ok (.iconst 0, 1) := by decide +kernel
theorem d_M_announce_24 : decode prog_14_method_18_code 24 = .ok (.istore_n 3, 1) := by decide +kernel
theorem d_M_announce_25 : decode prog_14_method_18_code 25 = .ok (.iload_n 1, 1) := by decide +kernel
theorem d_M_announce_26 : decode prog_14_method_18_code 26 = .ok (.istore 4, 2) := by decide +kernel
theorem d_M_announce_28 : decode prog_14_method_18_code 28 = .ok (.iload 4, 2) := by decide +kernel
theorem d_M_announce_30 : decode prog_14_method_18_code 30 = .ok (.iload_n 2, 1) := by decide +kernel
theorem d_M_announce_31 : decode prog_14_method_18_code 31 = .ok (.if_icmp .ge 70, 3) := by decide +kernel
theorem d_M_announce_34 : decode prog_14_method_18_code 34 = .ok (.iload_n 3, 1) := by decide +kernel
theorem d_M_announce_35 : decode prog_14_method_18_code 35 = .ok (.ifCond .eq 29, 3) := by decide +kernel
theorem d_M_announce_38 : decode prog_14_method_18_code 38 = .ok (.aload_n 0, 1) := by decide +kernel
theorem d_M_announce_39 : decode prog_14_method_18_code 39 = .ok (.iload 4, 2) := by decide +kernel
theorem d_M_announce_41 : decode prog_14_method_18_code 41 = .ok (.invokevirtual 102, 3) := by decide +kernel
theorem d_M_announce_44 : decode prog_14_method_18_code 44 = .ok (.bipush 48, 2) := by decide +kernel
theorem d_M_announce_46 : decode prog_14_method_18_code 46 = .ok (.if_icmp .lt 18, 3) := by decide +kernel
theorem d_M_announce_49 : decode prog_14_method_18_code 49 = .ok (.aload_n 0, 1) := by decide +kernel
theorem d_M_announce_50 : decode prog_14_method_18_code 50 = .ok (.iload 4, 2) := by decide +kernel
theorem d_M_announce_52 : decode prog_14_method_18_code 52 = .ok (.invokevirtual 102, 3) := by decide +kernel
theorem d_M_announce_55 : decode prog_14_method_18_code 55 = .ok (.bipush 57, 2) := by decide +kernel
theorem d_M_announce_57 : decode prog_14_method_18_code 57 = .ok (.if_icmp .gt 7, 3) := by decide +kernel
theorem d_M_announce_60 : decode prog_14_method_18_code 60 = .ok (.iconst 1, 1) := by decide +kernel
theorem d_M_announce_61 : decode prog_14_method_18_code 61 = .ok (.goto 4, 3) := by decide +kernel
theorem d_M_announce_64 : decode prog_14_method_18_code 64 = .ok (.iconst 0, 1) := by decide +kernel
theorem d_M_announce_65 : decode prog_14_method_18_code 65 = .ok (.istore_n 3, 1) := by decide +kernel
theorem d_M_announce_66 : decode prog_14_method_18_code 66 = .ok (.aload_n 0, 1) := by decide +kernel
theorem d_M_announce_67 : decode prog_14_method_18_code 67 = .ok (.iload_n 3, 1) := by decide +kernel
theorem d_M_announce_68 : decode prog_14_method_18_code 68 = .ok (.ifCond .eq 23, 3) := by decide +kernel
theorem d_M_announce_71 : decode prog_14_method_18_code 71 = .ok (.aload_n 0, 1) := by decide +kernel
theorem d_M_announce_72 : decode prog_14_method_18_code 72 = .ok (.getfield 151, 3) := by decide +kernel
theorem d_M_announce_75 : decode prog_14_method_18_code 75 = .ok (.bipush 10, 2) := by decide +kernel
theorem d_M_announce_77 : decode prog_14_method_18_code 77 = .ok (.imul, 1) := by decide +kernel
theorem d_M_announce_78 : decode prog_14_method_18_code 78 = .ok (.aload_n 0, 1) := by decide +kernel
theorem d_M_announce_79 : decode prog_14_method_18_code 79 = .ok (.iload 4, 2) := by decide +kernel
theorem d_M_announce_81 : decode prog_14_method_18_code 81 = .ok (.invokevirtual 102, 3) := by decide +kernel
theorem d_M_announce_84 : decode prog_14_method_18_code 84 = .ok (.iadd, 1) := by decide +kernel
theorem d_M_announce_85 : decode prog_14_method_18_code 85 = .ok (.bipush 48, 2) := by decide +kernel
theorem d_M_announce_87 : decode prog_14_method_18_code 87 = .ok (.isub, 1) := by decide +kernel
theorem d_M_announce_88 : decode prog_14_method_18_code 88 = .ok (.goto 4, 3) := by decide +kernel
theorem d_M_announce_91 : decode prog_14_method_18_code 91 = .ok (.iconst 0, 1) := by decide +kernel
theorem d_M_announce_92 : decode prog_14_method_18_code 92 = .ok (.putfield 151, 3) := by decide +kernel
theorem d_M_announce_95 : decode prog_14_method_18_code 95 = .ok (.iinc 4 1, 3) := by decide +kernel
theorem d_M_announce_98 : decode prog_14_method_18_code 98 = .ok (.goto (-70), 3) := by decide +kernel
theorem d_M_announce_101 : decode prog_14_method_18_code 101 = .ok (.iload_n 3, 1) := by decide +kernel
theorem d_M_announce_102 : decode prog_14_method_18_code 102 = .ok (.ifCond .ne 9, 3) := by decide +kernel
theorem d_M_announce_105 : decode prog_14_method_18_code 105 = .ok (.sipush 400, 3) := by decide +kernel
theorem d_M_announce_108 : decode prog_14_method_18_code 108 = .ok (.goto 19, 3) := by decide +kernel
theorem d_M_announce_111 : decode prog_14_method_18_code 111 = .ok (.aload_n 0, 1) := by decide +kernel
theorem d_M_announce_112 : decode prog_14_method_18_code 112 = .ok (.getfield 151, 3) := by decide +kernel
theorem d_M_announce_115 : decode prog_14_method_18_code 115 = .ok (.bipush 40, 2) := by decide +kernel
theorem d_M_announce_117 : decode prog_14_method_18_code 117 = .ok (.if_icmp .le 9, 3) := by decide +kernel
theorem d_M_announce_120 : decode prog_14_method_18_code 120 = .ok (.sipush 413, 3) := by decide +kernel
theorem d_M_announce_123 : decode prog_14_method_18_code 123 = .ok (.goto 4, 3) := by decide +kernel
theorem d_M_announce_126 : decode prog_14_method_18_code 126 = .ok (.iconst 0, 1) := by decide +kernel
theorem d_M_announce_127 : decode prog_14_method_18_code 127 = .ok (.ireturn, 1) := by decide +kernel
def wq_M_announce_101 (a : Nat) (p0 : Int32) (p1 : Int32) (Q : Int32 → ab_H → Prop)  (u3 : Int32) (A : ab_H) : Prop := if u3 = 0 then (Q (400 : Int32) A) else (wgI A (some a) 14 35 (fun x1 => if x1 ≤ (40 : Int32) then (Q (0 : Int32) A) else (Q (413 : Int32) A)))
set_option maxRecDepth 100000 in
set_option maxHeartbeats 4000000 in
theorem sq_M_announce_101 {l : Launch} {G : mm_G} {a : Nat} {p0 : Int32} {p1 : Int32} {Q : Int32 → ab_H → Prop}   : ∀ (u3 : Int32) (A : ab_H) (h : mm_H), Vw G h A → wq_M_announce_101 a p0 p1 Q  u3 A → mm_V l G M_M_announce 0 0 101 [some (va_rf (some a)), some (.int p0), some (.int p1), some (.int u3), none] [] h (wQI G Q) := by
  intro u3 A h hV hw
  unfold wq_M_announce_101 at hw
  refine mm_iload_n (pc' := 102) d_M_announce_101 rfl rfl rfl ?_
  refine wr_if_ne hw (pc' := 105) d_M_announce_102 rfl rfl (fun hw => ?_) (fun hw => ?_)
  · refine wr_aload_n (some a) (pc' := 112) d_M_announce_111 rfl rfl rfl ?_
    refine wr_getI hV hw (pc' := 115) d_M_announce_112 rfl fl_M_151 (fun x1 hw => ?_)
    refine mm_bipush (v := 40) (pc' := 117) d_M_announce_115 rfl (by decide) ?_
    refine wr_icmp_le hw (pc' := 120) d_M_announce_117 rfl rfl (fun hw => ?_) (fun hw => ?_)
    · refine mm_iconst (v := 0) (pc' := 127) d_M_announce_126 rfl (by decide) ?_
      exact wr_iret hV d_M_announce_127 rfl rfl hw
    · refine mm_sipush (v := 413) (pc' := 123) d_M_announce_120 rfl (by decide) ?_
      refine mm_goto (tgt := 127) d_M_announce_123 rfl ?_
      exact wr_iret hV d_M_announce_127 rfl rfl hw
  · refine mm_sipush (v := 400) (pc' := 108) d_M_announce_105 rfl (by decide) ?_
    refine mm_goto (tgt := 127) d_M_announce_108 rfl ?_
    exact wr_iret hV d_M_announce_127 rfl rfl hw
def wq_M_announce_92 (a : Nat) (p0 : Int32) (p1 : Int32) (Q : Int32 → ab_H → Prop) (k28 : Int32 → Int32 → ab_H → Prop) (u3 : Int32) (u4 : Int32) (s0 : Option Nat) (s1 : Int32) (A : ab_H) : Prop := wp A s0 14 35 (.int s1) (fun A => k28 u3 (u4 + 1) A)
set_option maxRecDepth 100000 in
set_option maxHeartbeats 4000000 in
theorem sq_M_announce_92 {l : Launch} {G : mm_G} {a : Nat} {p0 : Int32} {p1 : Int32} {Q : Int32 → ab_H → Prop} {k28 : Int32 → Int32 → ab_H → Prop} (hk28 : ∀ (u3 : Int32) (u4 : Int32) (A : ab_H) (h : mm_H), Vw G h A → k28 u3 u4 A → mm_V l G M_M_announce 0 0 28 [some (va_rf (some a)), some (.int p0), some (.int p1), some (.int u3), some (.int u4)] [] h (wQI G Q)) : ∀ (u3 : Int32) (u4 : Int32) (s0 : Option Nat) (s1 : Int32) (A : ab_H) (h : mm_H), Vw G h A → wq_M_announce_92 a p0 p1 Q k28 u3 u4 s0 s1 A → mm_V l G M_M_announce 0 0 92 [some (va_rf (some a)), some (.int p0), some (.int p1), some (.int u3), some (.int u4)] [.int s1, va_rf s0] h (wQI G Q) := by
  intro u3 u4 s0 s1 A h hV hw
  unfold wq_M_announce_92 at hw
  refine wr_put hV hw (pc' := 95) d_M_announce_92 rfl pl_M_announce_151 (Nat.le_of_ble_eq_true rfl) (wn_I _) (fun h A hV hw => ?_)
  refine mm_iinc4 (v := (u4 + 1)) (pc' := 98) d_M_announce_95 rfl rfl rfl (Nat.le_of_ble_eq_true rfl) ?_
  refine mm_goto (tgt := 28) d_M_announce_98 rfl ?_
  exact mm_drop (mm_le.s (mm_le.s (mm_le.s (mm_le.s (mm_le.s mm_le.e))))) (hk28 _ _ _ _ hV hw)
def wq_M_announce_65 (a : Nat) (p0 : Int32) (p1 : Int32) (Q : Int32 → ab_H → Prop) (k28 : Int32 → Int32 → ab_H → Prop) (u4 : Int32) (s0 : Int32) (A : ab_H) : Prop := if s0 = 0 then (wq_M_announce_92 a p0 p1 Q k28 s0 u4 (some a) (0 : Int32) A) else (wgI A (some a) 14 35 (fun x2 => wC A (some a) 14 (fun b => wp_M_byteAt b u4 A (fun x3 A => wq_M_announce_92 a p0 p1 Q k28 s0 u4 (some a) (((x2 * (10 : Int32)) + x3) - (48 : Int32)) A))))
set_option maxRecDepth 100000 in
set_option maxHeartbeats 4000000 in
theorem sq_M_announce_65 {l : Launch} {G : mm_G} {a : Nat} {p0 : Int32} {p1 : Int32} {Q : Int32 → ab_H → Prop} {k28 : Int32 → Int32 → ab_H → Prop} (hk28 : ∀ (u3 : Int32) (u4 : Int32) (A : ab_H) (h : mm_H), Vw G h A → k28 u3 u4 A → mm_V l G M_M_announce 0 0 28 [some (va_rf (some a)), some (.int p0), some (.int p1), some (.int u3), some (.int u4)] [] h (wQI G Q)) : ∀ (u4 : Int32) (s0 : Int32) (A : ab_H) (h : mm_H), Vw G h A → wq_M_announce_65 a p0 p1 Q k28 u4 s0 A → mm_V l G M_M_announce 0 0 65 [some (va_rf (some a)), some (.int p0), some (.int p1), none, some (.int u4)] [.int s0] h (wQI G Q) := by
  intro u4 s0 A h hV hw
  unfold wq_M_announce_65 at hw
  refine mm_ist3 (pc' := 66) d_M_announce_65 rfl rfl (Nat.le_of_ble_eq_true rfl) ?_
  refine wr_aload_n (some a) (pc' := 67) d_M_announce_66 rfl rfl rfl ?_
  refine mm_iload_n (pc' := 68) d_M_announce_67 rfl rfl rfl ?_
  refine wr_if_eq hw (pc' := 71) d_M_announce_68 rfl rfl (fun hw => ?_) (fun hw => ?_)
  · refine mm_iconst (v := 0) (pc' := 92) d_M_announce_91 rfl (by decide) ?_
    exact mm_drop (mm_le.s (mm_le.s (mm_le.s (mm_le.s (mm_le.s mm_le.e))))) (sq_M_announce_92 hk28 _ _ _ _ _ _ hV hw)
  · refine wr_aload_n (some a) (pc' := 72) d_M_announce_71 rfl rfl rfl ?_
    refine wr_getI hV hw (pc' := 75) d_M_announce_72 rfl fl_M_151 (fun x2 hw => ?_)
    refine mm_bipush (v := 10) (pc' := 77) d_M_announce_75 rfl (by decide) ?_
    refine mm_imul (pc' := 78) d_M_announce_77 rfl ?_
    refine wr_aload_n (some a) (pc' := 79) d_M_announce_78 rfl rfl rfl ?_
    refine mm_iload (pc' := 81) d_M_announce_79 rfl rfl ?_
    refine wr_cVI (pc' := 84) (as := [.int u4]) (st := [.int (x2 * (10 : Int32)), va_rf (some a)]) d_M_announce_81 rfl cs_M_102 rfl (W := fun b Q' => wp_M_byteAt b u4 A Q') hV hw (fun b Q' hw => sd_M_byteAt hV hw) rfl rfl (Nat.le_of_ble_eq_true rfl) (Nat.le_trans (wr_hI (wr_hR wr_h0)) (Nat.le_of_ble_eq_true rfl)) (fun x3 h A hV hw => ?_)
    refine mm_iadd (pc' := 85) d_M_announce_84 rfl ?_
    refine mm_bipush (v := 48) (pc' := 87) d_M_announce_85 rfl (by decide) ?_
    refine mm_isub (pc' := 88) d_M_announce_87 rfl ?_
    refine mm_goto (tgt := 92) d_M_announce_88 rfl ?_
    exact mm_drop (mm_le.s (mm_le.s (mm_le.s (mm_le.s (mm_le.s mm_le.e))))) (sq_M_announce_92 hk28 _ _ _ _ _ _ hV hw)
def wq_M_announce_64 (a : Nat) (p0 : Int32) (p1 : Int32) (Q : Int32 → ab_H → Prop) (k28 : Int32 → Int32 → ab_H → Prop) (u4 : Int32) (A : ab_H) : Prop := wq_M_announce_65 a p0 p1 Q k28 u4 (0 : Int32) A
set_option maxRecDepth 100000 in
set_option maxHeartbeats 4000000 in
theorem sq_M_announce_64 {l : Launch} {G : mm_G} {a : Nat} {p0 : Int32} {p1 : Int32} {Q : Int32 → ab_H → Prop} {k28 : Int32 → Int32 → ab_H → Prop} (hk28 : ∀ (u3 : Int32) (u4 : Int32) (A : ab_H) (h : mm_H), Vw G h A → k28 u3 u4 A → mm_V l G M_M_announce 0 0 28 [some (va_rf (some a)), some (.int p0), some (.int p1), some (.int u3), some (.int u4)] [] h (wQI G Q)) : ∀ (u4 : Int32) (A : ab_H) (h : mm_H), Vw G h A → wq_M_announce_64 a p0 p1 Q k28 u4 A → mm_V l G M_M_announce 0 0 64 [some (va_rf (some a)), some (.int p0), some (.int p1), none, some (.int u4)] [] h (wQI G Q) := by
  intro u4 A h hV hw
  unfold wq_M_announce_64 at hw
  refine mm_iconst (v := 0) (pc' := 65) d_M_announce_64 rfl (by decide) ?_
  exact mm_drop (mm_le.s (mm_le.s (mm_le.s (mm_le.n (mm_le.s mm_le.e))))) (sq_M_announce_65 hk28 _ _ _ _ hV hw)
def wb_M_announce_28 (a : Nat) (p0 : Int32) (p1 : Int32) (Q : Int32 → ab_H → Prop)  (k28 : Int32 → Int32 → ab_H → Prop) (u3 : Int32) (u4 : Int32) (A : ab_H) : Prop := if p1 ≤ u4 then (wq_M_announce_101 a p0 p1 Q u3 A) else (if u3 = 0 then (wq_M_announce_64 a p0 p1 Q k28 u4 A) else (wC A (some a) 14 (fun b => wp_M_byteAt b u4 A (fun x4 A => if x4 < (48 : Int32) then (wq_M_announce_64 a p0 p1 Q k28 u4 A) else (wC A (some a) 14 (fun b => wp_M_byteAt b u4 A (fun x5 A => if (57 : Int32) < x5 then (wq_M_announce_64 a p0 p1 Q k28 u4 A) else (wq_M_announce_65 a p0 p1 Q k28 u4 (1 : Int32) A))))))))
def wq_M_announce_28 (a : Nat) (p0 : Int32) (p1 : Int32) (Q : Int32 → ab_H → Prop)  : Nat → Int32 → Int32 → ab_H → Prop
  | 0 => fun _ _ _ => False
  | n + 1 => wb_M_announce_28 a p0 p1 Q  (wq_M_announce_28 a p0 p1 Q  n)
set_option maxRecDepth 100000 in
set_option maxHeartbeats 4000000 in
theorem sq_M_announce_28 {l : Launch} {G : mm_G} {a : Nat} {p0 : Int32} {p1 : Int32} {Q : Int32 → ab_H → Prop}   : ∀ (n : Nat) (u3 : Int32) (u4 : Int32) (A : ab_H) (h : mm_H), Vw G h A → wq_M_announce_28 a p0 p1 Q  n u3 u4 A → mm_V l G M_M_announce 0 0 28 [some (va_rf (some a)), some (.int p0), some (.int p1), some (.int u3), some (.int u4)] [] h (wQI G Q) := by
  intro n
  induction n with
  | zero =>
    intro u3 u4 A h hV hw
    exact absurd hw id
  | succ n hk28 =>
    intro u3 u4 A h hV hw
    have hw : wb_M_announce_28 a p0 p1 Q  (wq_M_announce_28 a p0 p1 Q  n) u3 u4 A := hw
    unfold wb_M_announce_28 at hw
    refine mm_iload (pc' := 30) d_M_announce_28 rfl rfl ?_
    refine mm_iload_n (pc' := 31) d_M_announce_30 rfl rfl rfl ?_
    refine wr_icmp_ge hw (pc' := 34) d_M_announce_31 rfl rfl (fun hw => ?_) (fun hw => ?_)
    · exact mm_drop (mm_le.s (mm_le.s (mm_le.s (mm_le.s (mm_le.n mm_le.e))))) (sq_M_announce_101  _ _ _ hV hw)
    · refine mm_iload_n (pc' := 35) d_M_announce_34 rfl rfl rfl ?_
      refine wr_if_eq hw (pc' := 38) d_M_announce_35 rfl rfl (fun hw => ?_) (fun hw => ?_)
      · exact mm_drop (mm_le.s (mm_le.s (mm_le.s (mm_le.n (mm_le.s mm_le.e))))) (sq_M_announce_64 hk28 _ _ _ hV hw)
      · refine wr_aload_n (some a) (pc' := 39) d_M_announce_38 rfl rfl rfl ?_
        refine mm_iload (pc' := 41) d_M_announce_39 rfl rfl ?_
        refine wr_cVI (pc' := 44) (as := [.int u4]) (st := []) d_M_announce_41 rfl cs_M_102 rfl (W := fun b Q' => wp_M_byteAt b u4 A Q') hV hw (fun b Q' hw => sd_M_byteAt hV hw) rfl rfl (Nat.le_of_ble_eq_true rfl) (Nat.le_of_ble_eq_true rfl) (fun x4 h A hV hw => ?_)
        refine mm_bipush (v := 48) (pc' := 46) d_M_announce_44 rfl (by decide) ?_
        refine wr_icmp_lt hw (pc' := 49) d_M_announce_46 rfl rfl (fun hw => ?_) (fun hw => ?_)
        · exact mm_drop (mm_le.s (mm_le.s (mm_le.s (mm_le.n (mm_le.s mm_le.e))))) (sq_M_announce_64 hk28 _ _ _ hV hw)
        · refine wr_aload_n (some a) (pc' := 50) d_M_announce_49 rfl rfl rfl ?_
          refine mm_iload (pc' := 52) d_M_announce_50 rfl rfl ?_
          refine wr_cVI (pc' := 55) (as := [.int u4]) (st := []) d_M_announce_52 rfl cs_M_102 rfl (W := fun b Q' => wp_M_byteAt b u4 A Q') hV hw (fun b Q' hw => sd_M_byteAt hV hw) rfl rfl (Nat.le_of_ble_eq_true rfl) (Nat.le_of_ble_eq_true rfl) (fun x5 h A hV hw => ?_)
          refine mm_bipush (v := 57) (pc' := 57) d_M_announce_55 rfl (by decide) ?_
          refine wr_icmp_gt hw (pc' := 60) d_M_announce_57 rfl rfl (fun hw => ?_) (fun hw => ?_)
          · exact mm_drop (mm_le.s (mm_le.s (mm_le.s (mm_le.n (mm_le.s mm_le.e))))) (sq_M_announce_64 hk28 _ _ _ hV hw)
          · refine mm_iconst (v := 1) (pc' := 61) d_M_announce_60 rfl (by decide) ?_
            refine mm_goto (tgt := 65) d_M_announce_61 rfl ?_
            exact mm_drop (mm_le.s (mm_le.s (mm_le.s (mm_le.n (mm_le.s mm_le.e))))) (sq_M_announce_65 hk28 _ _ _ _ hV hw)
def wq_M_announce_24 (a : Nat) (p0 : Int32) (p1 : Int32) (Q : Int32 → ab_H → Prop)  (s0 : Int32) (A : ab_H) : Prop := ∃ n, wq_M_announce_28 a p0 p1 Q n s0 p0 A
set_option maxRecDepth 100000 in
set_option maxHeartbeats 4000000 in
theorem sq_M_announce_24 {l : Launch} {G : mm_G} {a : Nat} {p0 : Int32} {p1 : Int32} {Q : Int32 → ab_H → Prop}   : ∀ (s0 : Int32) (A : ab_H) (h : mm_H), Vw G h A → wq_M_announce_24 a p0 p1 Q  s0 A → mm_V l G M_M_announce 0 0 24 [some (va_rf (some a)), some (.int p0), some (.int p1), none, none] [.int s0] h (wQI G Q) := by
  intro s0 A h hV hw
  unfold wq_M_announce_24 at hw
  refine mm_ist3 (pc' := 25) d_M_announce_24 rfl rfl (Nat.le_of_ble_eq_true rfl) ?_
  refine mm_iload_n (pc' := 26) d_M_announce_25 rfl rfl rfl ?_
  refine mm_ist4 (pc' := 28) d_M_announce_26 rfl rfl (Nat.le_of_ble_eq_true rfl) ?_
  obtain ⟨n, hw⟩ := hw
  exact mm_drop (mm_le.s (mm_le.s (mm_le.s (mm_le.s (mm_le.s mm_le.e))))) (sq_M_announce_28  n _ _ _ _ hV hw)
def wq_M_announce_23 (a : Nat) (p0 : Int32) (p1 : Int32) (Q : Int32 → ab_H → Prop)   (A : ab_H) : Prop := wq_M_announce_24 a p0 p1 Q (0 : Int32) A
set_option maxRecDepth 100000 in
set_option maxHeartbeats 4000000 in
theorem sq_M_announce_23 {l : Launch} {G : mm_G} {a : Nat} {p0 : Int32} {p1 : Int32} {Q : Int32 → ab_H → Prop}   : ∀ (A : ab_H) (h : mm_H), Vw G h A → wq_M_announce_23 a p0 p1 Q  A → mm_V l G M_M_announce 0 0 23 [some (va_rf (some a)), some (.int p0), some (.int p1), none, none] [] h (wQI G Q) := by
  intro A h hV hw
  unfold wq_M_announce_23 at hw
  refine mm_iconst (v := 0) (pc' := 24) d_M_announce_23 rfl (by decide) ?_
  exact mm_drop (mm_le.s (mm_le.s (mm_le.s (mm_le.n (mm_le.n mm_le.e))))) (sq_M_announce_24  _ _ _ hV hw)
def wp_M_announce (a : Nat) (p0 : Int32) (p1 : Int32) (A : ab_H) (Q : Int32 → ab_H → Prop) : Prop := wp A (some a) 14 35 (.int (0 : Int32)) (fun A => if (p1 - p0) < (1 : Int32) then (wq_M_announce_23 a p0 p1 Q A) else (if (3 : Int32) < (p1 - p0) then (wq_M_announce_23 a p0 p1 Q A) else (wq_M_announce_24 a p0 p1 Q (1 : Int32) A)))
set_option maxRecDepth 100000 in
set_option maxHeartbeats 4000000 in
theorem sd_M_announce {l : Launch} {G : mm_G} {h : mm_H} {A : ab_H} {a : Nat} {p0 : Int32} {p1 : Int32} {Q : Int32 → ab_H → Prop} (hV : Vw G h A) (hw : wp_M_announce a p0 p1 A Q) : mm_S l G M_M_announce [.ref a, .int p0, .int p1] h 0 0 (wQI G Q) := by
  unfold wp_M_announce at hw
  refine mm_start rfl (Nat.le_of_ble_eq_true rfl) ?_
  show mm_V l G M_M_announce 0 0 0 [some (va_rf (some a)), some (.int p0), some (.int p1), none, none] [] h _
  refine wr_aload_n (some a) (pc' := 1) d_M_announce_0 rfl rfl rfl ?_
  refine mm_iconst (v := 0) (pc' := 2) d_M_announce_1 rfl (by decide) ?_
  refine wr_put hV hw (pc' := 5) d_M_announce_2 rfl pl_M_announce_151 (Nat.le_of_ble_eq_true rfl) (wn_I _) (fun h A hV hw => ?_)
  refine mm_iload_n (pc' := 6) d_M_announce_5 rfl rfl rfl ?_
  refine mm_iload_n (pc' := 7) d_M_announce_6 rfl rfl rfl ?_
  refine mm_isub (pc' := 8) d_M_announce_7 rfl ?_
  refine mm_iconst (v := 1) (pc' := 9) d_M_announce_8 rfl (by decide) ?_
  refine wr_icmp_lt hw (pc' := 12) d_M_announce_9 rfl rfl (fun hw => ?_) (fun hw => ?_)
  · exact mm_drop (mm_le.s (mm_le.s (mm_le.s (mm_le.n (mm_le.n mm_le.e))))) (sq_M_announce_23  _ _ hV hw)
  · refine mm_iload_n (pc' := 13) d_M_announce_12 rfl rfl rfl ?_
    refine mm_iload_n (pc' := 14) d_M_announce_13 rfl rfl rfl ?_
    refine mm_isub (pc' := 15) d_M_announce_14 rfl ?_
    refine mm_iconst (v := 3) (pc' := 16) d_M_announce_15 rfl (by decide) ?_
    refine wr_icmp_gt hw (pc' := 19) d_M_announce_16 rfl rfl (fun hw => ?_) (fun hw => ?_)
    · exact mm_drop (mm_le.s (mm_le.s (mm_le.s (mm_le.n (mm_le.n mm_le.e))))) (sq_M_announce_23  _ _ hV hw)
    · refine mm_iconst (v := 1) (pc' := 20) d_M_announce_19 rfl (by decide) ?_
      refine mm_goto (tgt := 24) d_M_announce_20 rfl ?_
      exact mm_drop (mm_le.s (mm_le.s (mm_le.s (mm_le.n (mm_le.n mm_le.e))))) (sq_M_announce_24  _ _ _ hV hw)
