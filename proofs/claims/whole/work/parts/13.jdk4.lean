theorem d_AR_copyOfRange_0 : decode prog_30_method_132_code 0 = .ok (.iload_n 1, 1) := by decide +kernel
theorem d_AR_copyOfRange_1 : decode prog_30_method_132_code 1 = .ok (.ifCond .ne 9, 3) := by decide +kernel
theorem d_AR_copyOfRange_4 : decode prog_30_method_132_code 4 = .ok (.iload_n 2, 1) := by decide +kernel
theorem d_AR_copyOfRange_5 : decode prog_30_method_132_code 5 = .ok (.aload_n 0, 1) := by decide +kernel
theorem d_AR_copyOfRange_6 : decode prog_30_method_132_code 6 = .ok (.arraylength, 1) := by decide +kernel
theorem d_AR_copyOfRange_7 : decode prog_30_method_132_code 7 = .ok (.if_icmp .eq 10, 3) := by decide +kernel
theorem d_AR_copyOfRange_10 : decode prog_30_method_132_code 10 = .ok (.aload_n 0, 1) := by decide +kernel
theorem d_AR_copyOfRange_11 : decode prog_30_method_132_code 11 = .ok (.iload_n 1, 1) := by decide +kernel
theorem d_AR_copyOfRange_12 : decode prog_30_method_132_code 12 = .ok (.iload_n 2, 1) := by decide +kernel
theorem d_AR_copyOfRange_13 : decode prog_30_method_132_code 13 = .ok (.invokestatic 339, 3) := by decide +kernel
theorem d_AR_copyOfRange_16 : decode prog_30_method_132_code 16 = .ok (.areturn, 1) := by decide +kernel
theorem d_AR_copyOfRange_17 : decode prog_30_method_132_code 17 = .ok (.aload_n 0, 1) := by decide +kernel
theorem d_AR_copyOfRange_18 : decode prog_30_method_132_code 18 = .ok (.invokevirtual 310, 3) := by decide +kernel
theorem d_AR_copyOfRange_21 : decode prog_30_method_132_code 21 = .ok (.checkcast 311, 3) := by decide +kernel
theorem d_AR_copyOfRange_24 : decode prog_30_method_132_code 24 = .ok (.areturn, 1) := by decide +kernel
theorem d_AR_copyOfRangeByte_0 : decode prog_30_method_133_code 0 = .ok (.iload_n 1, 1) := by decide +kernel
theorem d_AR_copyOfRangeByte_1 : decode prog_30_method_133_code 1 = .ok (.iload_n 2, 1) := by decide +kernel
theorem d_AR_copyOfRangeByte_2 : decode prog_30_method_133_code 2 = .ok (.invokestatic 343, 3) := by decide +kernel
theorem d_AR_copyOfRangeByte_5 : decode prog_30_method_133_code 5 = .ok (.iload_n 2, 1) := by decide +kernel
theorem d_AR_copyOfRangeByte_6 : decode prog_30_method_133_code 6 = .ok (.iload_n 1, 1) := by decide +kernel
theorem d_AR_copyOfRangeByte_7 : decode prog_30_method_133_code 7 = .ok (.isub, 1) := by decide +kernel
theorem d_AR_copyOfRangeByte_8 : decode prog_30_method_133_code 8 = .ok (.istore_n 3, 1) := by decide +kernel
theorem d_AR_copyOfRangeByte_9 : decode prog_30_method_133_code 9 = .ok (.iload_n 3, 1) := by decide +kernel
theorem d_AR_copyOfRangeByte_10 : decode prog_30_method_133_code 10 = .ok (.newarray .byte, 2) := by decide +kernel
theorem d_AR_copyOfRangeByte_12 : decode prog_30_method_133_code 12 = .ok (.astore 4, 2) := by decide +kernel
theorem d_AR_copyOfRangeByte_14 : decode prog_30_method_133_code 14 = .ok (.aload_n 0, 1) := by decide +kernel
theorem d_AR_copyOfRangeByte_15 : decode prog_30_method_133_code 15 = .ok (.iload_n 1, 1) := by decide +kernel
theorem d_AR_copyOfRangeByte_16 : decode prog_30_method_133_code 16 = .ok (.aload 4, 2) := by decide +kernel
theorem d_AR_copyOfRangeByte_18 : decode prog_30_method_133_code 18 = .ok (.iconst 0, 1) := by decide +kernel
theorem d_AR_copyOfRangeByte_19 : decode prog_30_method_133_code 19 = .ok (.aload_n 0, 1) := by decide +kernel
theorem d_AR_copyOfRangeByte_20 : decode prog_30_method_133_code 20 = .ok (.arraylength, 1) := by decide +kernel
theorem d_AR_copyOfRangeByte_21 : decode prog_30_method_133_code 21 = .ok (.iload_n 1, 1) := by decide +kernel
theorem d_AR_copyOfRangeByte_22 : decode prog_30_method_133_code 22 = .ok (.isub, 1) := by decide +kernel
theorem d_AR_copyOfRangeByte_23 : decode prog_30_method_133_code 23 = .ok (.iload_n 3, 1) := by decide +kernel
theorem d_AR_copyOfRangeByte_24 : decode prog_30_method_133_code 24 = .ok (.invokestatic 304, 3) := by decide +kernel
theorem d_AR_copyOfRangeByte_27 : decode prog_30_method_133_code 27 = .ok (.invokestatic 150, 3) := by decide +kernel
theorem d_AR_copyOfRangeByte_30 : decode prog_30_method_133_code 30 = .ok (.aload 4, 2) := by decide +kernel
theorem d_AR_copyOfRangeByte_32 : decode prog_30_method_133_code 32 = .ok (.areturn, 1) := by decide +kernel
theorem d_L1_newString_0 : decode prog_24_method_47_code 0 = .ok (.iload_n 2, 1) := by decide +kernel
theorem d_L1_newString_1 : decode prog_24_method_47_code 1 = .ok (.ifCond .ne 6, 3) := by decide +kernel
theorem d_L1_newString_4 : decode prog_24_method_47_code 4 = .ok (.ldc 151, 2) := by decide +kernel
theorem d_L1_newString_6 : decode prog_24_method_47_code 6 = .ok (.areturn, 1) := by decide +kernel
theorem d_L1_newString_7 : decode prog_24_method_47_code 7 = .ok (.new 1, 3) := by decide +kernel
theorem d_L1_newString_10 : decode prog_24_method_47_code 10 = .ok (.dup, 1) := by decide +kernel
theorem d_L1_newString_11 : decode prog_24_method_47_code 11 = .ok (.aload_n 0, 1) := by decide +kernel
theorem d_L1_newString_12 : decode prog_24_method_47_code 12 = .ok (.iload_n 1, 1) := by decide +kernel
theorem d_L1_newString_13 : decode prog_24_method_47_code 13 = .ok (.iload_n 1, 1) := by decide +kernel
theorem d_L1_newString_14 : decode prog_24_method_47_code 14 = .ok (.iload_n 2, 1) := by decide +kernel
theorem d_L1_newString_15 : decode prog_24_method_47_code 15 = .ok (.iadd, 1) := by decide +kernel
theorem d_L1_newString_16 : decode prog_24_method_47_code 16 = .ok (.invokestatic 232, 3) := by decide +kernel
theorem d_L1_newString_19 : decode prog_24_method_47_code 19 = .ok (.iconst 0, 1) := by decide +kernel
theorem d_L1_newString_20 : decode prog_24_method_47_code 20 = .ok (.invokespecial 112, 3) := by decide +kernel
theorem d_L1_newString_23 : decode prog_24_method_47_code 23 = .ok (.areturn, 1) := by decide +kernel
theorem d_SB_toString_0 : decode prog_23_method_42_code 0 = .ok (.new 18, 3) := by decide +kernel
theorem d_SB_toString_3 : decode prog_23_method_42_code 3 = .ok (.dup, 1) := by decide +kernel
theorem d_SB_toString_4 : decode prog_23_method_42_code 4 = .ok (.aload_n 0, 1) := by decide +kernel
theorem d_SB_toString_5 : decode prog_23_method_42_code 5 = .ok (.invokespecial 137, 3) := by decide +kernel
theorem d_SB_toString_8 : decode prog_23_method_42_code 8 = .ok (.areturn, 1) := by decide +kernel
theorem d_ST_init_AV_0 : decode prog_22_method_150_code 0 = .ok (.aload_n 0, 1) := by decide +kernel
theorem d_ST_init_AV_1 : decode prog_22_method_150_code 1 = .ok (.invokespecial 1, 3) := by decide +kernel
theorem d_ST_init_AV_4 : decode prog_22_method_150_code 4 = .ok (.aload_n 1, 1) := by decide +kernel
theorem d_ST_init_AV_5 : decode prog_22_method_150_code 5 = .ok (.invokevirtual 552, 3) := by decide +kernel
theorem d_ST_init_AV_8 : decode prog_22_method_150_code 8 = .ok (.astore_n 3, 1) := by decide +kernel
theorem d_ST_init_AV_9 : decode prog_22_method_150_code 9 = .ok (.aload_n 1, 1) := by decide +kernel
theorem d_ST_init_AV_10 : decode prog_22_method_150_code 10 = .ok (.invokevirtual 549, 3) := by decide +kernel
theorem d_ST_init_AV_13 : decode prog_22_method_150_code 13 = .ok (.istore 4, 2) := by decide +kernel
theorem d_ST_init_AV_15 : decode prog_22_method_150_code 15 = .ok (.aload_n 1, 1) := by decide +kernel
theorem d_ST_init_AV_16 : decode prog_22_method_150_code 16 = .ok (.invokevirtual 1047, 3) := by decide +kernel
theorem d_ST_init_AV_19 : decode prog_22_method_150_code 19 = .ok (.ifCond .eq 22, 3) := by decide +kernel
theorem d_ST_init_AV_22 : decode prog_22_method_150_code 22 = .ok (.aload_n 0, 1) := by decide +kernel
theorem d_ST_init_AV_23 : decode prog_22_method_150_code 23 = .ok (.iconst 0, 1) := by decide +kernel
theorem d_ST_init_AV_24 : decode prog_22_method_150_code 24 = .ok (.putfield 15, 3) := by decide +kernel
theorem d_ST_init_AV_27 : decode prog_22_method_150_code 27 = .ok (.aload_n 0, 1) := by decide +kernel
theorem d_ST_init_AV_28 : decode prog_22_method_150_code 28 = .ok (.aload_n 3, 1) := by decide +kernel
theorem d_ST_init_AV_29 : decode prog_22_method_150_code 29 = .ok (.iconst 0, 1) := by decide +kernel
theorem d_ST_init_AV_30 : decode prog_22_method_150_code 30 = .ok (.iload 4, 2) := by decide +kernel
theorem d_ST_init_AV_32 : decode prog_22_method_150_code 32 = .ok (.invokestatic 54, 3) := by decide +kernel
theorem d_ST_init_AV_35 : decode prog_22_method_150_code 35 = .ok (.putfield 9, 3) := by decide +kernel
theorem d_ST_init_AV_38 : decode prog_22_method_150_code 38 = .ok (.goto 59, 3) := by decide +kernel
theorem d_ST_init_AV_97 : decode prog_22_method_150_code 97 = .ok (.return_, 1) := by decide +kernel
theorem d_ST_init_S_0 : decode prog_22_method_53_code 0 = .ok (.aload_n 0, 1) := by decide +kernel
theorem d_ST_init_S_1 : decode prog_22_method_53_code 1 = .ok (.aload_n 1, 1) := by decide +kernel
theorem d_ST_init_S_2 : decode prog_22_method_53_code 2 = .ok (.aconst_null, 1) := by decide +kernel
theorem d_ST_init_S_3 : decode prog_22_method_53_code 3 = .ok (.invokespecial 489, 3) := by decide +kernel
theorem d_ST_init_S_6 : decode prog_22_method_53_code 6 = .ok (.return_, 1) := by decide +kernel
theorem d_ST_init_aBB_0 : decode prog_22_method_151_code 0 = .ok (.aload_n 0, 1) := by decide +kernel
theorem d_ST_init_aBB_1 : decode prog_22_method_151_code 1 = .ok (.invokespecial 1, 3) := by decide +kernel
theorem d_ST_init_aBB_4 : decode prog_22_method_151_code 4 = .ok (.aload_n 0, 1) := by decide +kernel
theorem d_ST_init_aBB_5 : decode prog_22_method_151_code 5 = .ok (.aload_n 1, 1) := by decide +kernel
theorem d_ST_init_aBB_6 : decode prog_22_method_151_code 6 = .ok (.putfield 9, 3) := by decide +kernel
theorem d_ST_init_aBB_9 : decode prog_22_method_151_code 9 = .ok (.aload_n 0, 1) := by decide +kernel
theorem d_ST_init_aBB_10 : decode prog_22_method_151_code 10 = .ok (.iload_n 2, 1) := by decide +kernel
theorem d_ST_init_aBB_11 : decode prog_22_method_151_code 11 = .ok (.putfield 15, 3) := by decide +kernel
theorem d_ST_init_aBB_14 : decode prog_22_method_151_code 14 = .ok (.return_, 1) := by decide +kernel
theorem mm_setSame {h : mm_H} {a : Nat} {e : mm_E} (ha : h.1 a = some e) : mm_set h a e = h := by
  apply Prod.ext
  · funext b
    show (if b = a then some e else h.1 b) = h.1 b
    by_cases hb : b = a
    · rw [if_pos hb, hb, ha]
    · rw [if_neg hb]
  · rfl
/-- a String at a: its row of n bytes at v -/
def tx_at (h : mm_H) (a v t n : Nat) (f : Nat → Int32) : Prop :=
  (∃ fs, h.1 a = some (.inr (0, .ref v :: .int 0 :: fs))) ∧ h.1 v = some (.inl (t, n, .inl f)) ∧ (t = 1 ∨ t = 9) ∧ n ≤ 300 ∧ ∀ j, j < n → fits .byte (.int (f j)) = true
theorem tx_t {t : Nat} (h : t = 1 ∨ t = 9) : t < 16 ∧ mm_ty t = .byte := by
  rcases h with rfl | rfl
  · exact ⟨by decide, rfl⟩
  · exact ⟨by decide, rfl⟩
/-- a new String of n bytes g, at the first free address, its row behind it -/
def tx_nw (h h' : mm_H) (n : Nat) (g : Nat → Int32) : Prop :=
  h'.1 h.2 = some (.inr (0, [.ref (h.2 + 1), .int 0, .int 0, .int 0])) ∧ h'.1 (h.2 + 1) = some (.inl (1, n, .inl g)) ∧ h'.2 = h.2 + 2 ∧ (∀ b, b < h.2 → h'.1 b = h.1 b) ∧ mm_wf h' ∧ ∀ j, j < n → fits .byte (.int (g j)) = true
theorem bu_at.new {h : mm_H} {a v cap n : Nat} {ml : Int32} {f : Nat → Int32} {e : mm_E} (hw : mm_wf h) (hb : bu_at h a v cap n ml f) : bu_at (mm_new h e) a v cap n ml f :=
  ⟨by rw [mm_newNe (hw.lt hb.1)]; exact hb.1, by rw [mm_newNe (hw.lt hb.2.1)]; exact hb.2.1, hb.2.2⟩
/-- the first place from i on, among k, that holds b; -1 if there is none -/
def fi_x (f : Nat → Int32) (b : Int32) : Nat → Nat → Int32
  | 0, _ => -1
  | k + 1, i => if f i = b then nI i else fi_x f b k (i + 1)
/-- do the two rows hold the same at k places from i on -/
def eq_x (f g : Nat → Int32) : Nat → Nat → Int32
  | 0, _ => 1
  | k + 1, i => if f i = g i then eq_x f g k (i + 1) else 0
section J4
variable {l : Launch} {G : mm_G} {h : mm_H}
set_option maxHeartbeats 1000000 in
theorem sp_AR_copyOfRangeByte (hw : mm_wf h) {v t cap : Nat} {f : Nat → Int32} (hv : h.1 v = some (.inl (t, cap, .inl f))) (ht : t = 1 ∨ t = 9) (hcap : cap ≤ 300) (hfit : ∀ j, j < cap → fits .byte (.int (f j)) = true) {i j : Nat} (hij : i ≤ j) (hj : j ≤ cap) : mm_S l G M_AR_copyOfRangeByte [.ref v, .int (nI i), .int (nI j)] h 1 (j - i) (fun r h' => ∃ g, r = some (.ref h.2) ∧ h' = mm_new h (.inl (1, j - i, .inl g)) ∧ ∀ q, q < j - i → g q = f (i + q)) := by
  refine mm_start rfl (Nat.le_of_ble_eq_true rfl) ?_
  show mm_V l G M_AR_copyOfRangeByte 1 (j - i) 0 [some (.ref v), some (.int (nI i)), some (.int (nI j)), none, none] [] h _
  refine mm_iload_n (pc' := 1) d_AR_copyOfRangeByte_0 rfl rfl rfl ?_
  refine mm_iload_n (pc' := 2) d_AR_copyOfRangeByte_1 rfl rfl rfl ?_
  refine mm_callS (pc' := 5) (as := [.int (nI i), .int (nI j)]) (st := []) d_AR_copyOfRangeByte_2 rfl cs_AR_343 (sp_AR_checkLength (nI_le hij (by omega))) rfl rfl (Nat.le_of_ble_eq_true rfl) (Nat.le_of_ble_eq_true rfl) (Nat.zero_le _) (Nat.zero_le _) (fun v h1 hq => ?_)
  obtain ⟨rfl, rfl⟩ := hq
  refine mm_iload_n (pc' := 6) d_AR_copyOfRangeByte_5 rfl rfl rfl ?_
  refine mm_iload_n (pc' := 7) d_AR_copyOfRangeByte_6 rfl rfl rfl ?_
  refine mm_isub (pc' := 8) d_AR_copyOfRangeByte_7 rfl ?_
  rw [pk_sub hij]
  refine mm_ist3 (pc' := 9) d_AR_copyOfRangeByte_8 rfl rfl (Nat.le_of_ble_eq_true rfl) ?_
  refine mm_iload_n (pc' := 10) d_AR_copyOfRangeByte_9 rfl rfl rfl ?_
  refine mm_newarr (pc' := 12) (t := 1) (N := j - i) d_AR_copyOfRangeByte_10 rfl (Nat.le_of_ble_eq_true rfl) rfl ar_byte rfl (nI_pos (by omega)) (nI_clamp (by omega)) (by show (j - i) * 1 ≤ _; omega) (by decide) (Nat.le_refl _) ?_
  have hvn := hw.lt hv
  obtain ⟨ht1, ht2⟩ := tx_t ht
  refine mm_ast4 (pc' := 14) d_AR_copyOfRangeByte_12 rfl rfl (Nat.le_of_ble_eq_true rfl) ?_
  refine mm_aload_n (pc' := 15) d_AR_copyOfRangeByte_14 rfl rfl rfl ?_
  refine mm_iload_n (pc' := 16) d_AR_copyOfRangeByte_15 rfl rfl rfl ?_
  refine mm_aload (pc' := 18) d_AR_copyOfRangeByte_16 rfl rfl ?_
  refine mm_iconst (v := 0) (pc' := 19) d_AR_copyOfRangeByte_18 rfl (by decide) ?_
  refine mm_aload_n (pc' := 20) d_AR_copyOfRangeByte_19 rfl rfl rfl ?_
  refine mm_alen (pc' := 21) d_AR_copyOfRangeByte_20 rfl ht1 (by rw [mm_newNe hvn]; exact hv) rfl ?_
  refine mm_iload_n (pc' := 22) d_AR_copyOfRangeByte_21 rfl rfl rfl ?_
  refine mm_isub (pc' := 23) d_AR_copyOfRangeByte_22 rfl ?_
  rw [show Int32.ofNat cap = nI cap from rfl, pk_sub (by omega)]
  refine mm_iload_n (pc' := 24) d_AR_copyOfRangeByte_23 rfl rfl rfl ?_
  refine mm_min (pc' := 27) d_AR_copyOfRangeByte_24 rfl cs_AR_304 (Nat.le_of_ble_eq_true rfl) (Nat.le_of_ble_eq_true rfl) ?_
  have emin : (if nI (j - i) < nI (cap - i) then nI (j - i) else nI (cap - i)) = nI (j - i) := by
    by_cases hlt : j - i < cap - i
    · rw [if_pos (nI_lt hlt (by omega))]
    · rw [if_neg (nI_nlt (by omega) (by omega)), show cap - i = j - i by omega]
  rw [emin]
  have hcl : (nI (j - i)).toNatClampNeg = j - i := nI_clamp (by omega)
  have hcl2 : (nI i).toNatClampNeg = i := nI_clamp (by omega)
  refine mm_copy (pc' := 30) (t0 := t) (t1 := 1) (n0 := cap) (n1 := j - i) (f := f) (g := fun _ => 0) d_AR_copyOfRangeByte_27 rfl ac_AR_150 ht1 (Nat.le_of_ble_eq_true rfl) ht2 rfl (by rw [mm_newNe hvn]; exact hv) mm_newSelf (nI_pos (by omega)) (by decide) (nI_pos (by omega)) (by rw [hcl, hcl2]; omega) (by rw [hcl]; show 0 + _ ≤ _; omega) (fun q hq => by rw [hcl] at hq; rw [hcl2]; exact hfit _ (by omega)) (Nat.le_of_ble_eq_true rfl) (Nat.le_of_ble_eq_true rfl) ?_
  rw [hcl, hcl2, mm_setNew]
  refine mm_aload (pc' := 32) d_AR_copyOfRangeByte_30 rfl rfl ?_
  refine mm_aret d_AR_copyOfRangeByte_32 rfl (by first | exact Or.inl ⟨_, rfl⟩ | exact Or.inr ⟨_, rfl⟩) (Or.inr ⟨_, rfl⟩) ⟨_, rfl, rfl, fun q hq => ?_⟩
  show va_cpy f (fun _ => 0) i 0 (j - i) q = f (i + q)
  rw [pk_cpy_in (by omega) (by omega)]
  simp
set_option maxHeartbeats 1000000 in
theorem sp_AR_copyOfRange (hw : mm_wf h) {v t cap : Nat} {f : Nat → Int32} (hv : h.1 v = some (.inl (t, cap, .inl f))) (ht : t = 1 ∨ t = 9) (hcap : cap ≤ 300) (hfit : ∀ j, j < cap → fits .byte (.int (f j)) = true) {i j : Nat} (hij : i ≤ j) (hj : j ≤ cap) (h1c : t = 1 ∨ ¬ (i = 0 ∧ j = cap)) : mm_S l G M_AR_copyOfRange [.ref v, .int (nI i), .int (nI j)] h 1 (j - i) (fun r h' => ∃ g, r = some (.ref h.2) ∧ h' = mm_new h (.inl (1, j - i, .inl g)) ∧ ∀ q, q < j - i → g q = f (i + q)) := by
  refine mm_start rfl (Nat.le_of_ble_eq_true rfl) ?_
  show mm_V l G M_AR_copyOfRange 1 (j - i) 0 [some (.ref v), some (.int (nI i)), some (.int (nI j))] [] h _
  obtain ⟨ht1, ht2⟩ := tx_t ht
  refine mm_iload_n (pc' := 1) d_AR_copyOfRange_0 rfl rfl rfl ?_
  refine mm_if_ne (pc' := 4) (tgt := 10) d_AR_copyOfRange_1 rfl rfl (fun hc => ?_) (fun hc => ?_)
  · refine mm_aload_n (pc' := 11) d_AR_copyOfRange_10 rfl rfl rfl ?_
    refine mm_iload_n (pc' := 12) d_AR_copyOfRange_11 rfl rfl rfl ?_
    refine mm_iload_n (pc' := 13) d_AR_copyOfRange_12 rfl rfl rfl ?_
    refine mm_callS (pc' := 16) (as := [.ref v, .int (nI i), .int (nI j)]) (st := []) d_AR_copyOfRange_13 rfl cs_AR_339 (sp_AR_copyOfRangeByte hw hv ht hcap hfit hij hj) rfl rfl (Nat.le_of_ble_eq_true rfl) (Nat.le_of_ble_eq_true rfl) (Nat.le_refl _) (Nat.le_refl _) (fun r1 h1 hq => ?_)
    obtain ⟨g, rfl, hq⟩ := hq
    exact mm_aret d_AR_copyOfRange_16 rfl (by first | exact Or.inl ⟨_, rfl⟩ | exact Or.inr ⟨_, rfl⟩) (Or.inr ⟨_, rfl⟩) ⟨g, rfl, hq⟩
  · have hi0 : i = 0 := Nat.eq_zero_of_not_pos fun q => nI_ne0 q (by omega) hc
    refine mm_iload_n (pc' := 5) d_AR_copyOfRange_4 rfl rfl rfl ?_
    refine mm_aload_n (pc' := 6) d_AR_copyOfRange_5 rfl rfl rfl ?_
    refine mm_alen (pc' := 7) d_AR_copyOfRange_6 rfl ht1 hv rfl ?_
    refine mm_icmp_eq (pc' := 10) (tgt := 17) d_AR_copyOfRange_7 rfl rfl (fun hc2 => ?_) (fun hc2 => ?_)
    · have hjc : j = cap := (nI_eq (by omega) (by omega)).mp hc2
      have ht9 : t = 1 := h1c.resolve_right (fun q => q ⟨hi0, hjc⟩)
      subst ht9
      subst hi0
      subst hjc
      refine mm_aload_n (pc' := 18) d_AR_copyOfRange_17 rfl rfl rfl ?_
      refine mm_clone (pc' := 21) (t := 1) d_AR_copyOfRange_18 rfl cn_AR_310 (Nat.le_of_ble_eq_true rfl) rfl hv hfit (Nat.le_of_ble_eq_true rfl) (Nat.le_of_ble_eq_true rfl) (Nat.le_of_ble_eq_true rfl) (by omega) ?_
      refine mm_castB (pc' := 24) (t := 1) d_AR_copyOfRange_21 rfl cl_AR_311 (Nat.le_of_ble_eq_true rfl) rfl mm_newSelf ?_
      exact mm_aret d_AR_copyOfRange_24 rfl (by first | exact Or.inl ⟨_, rfl⟩ | exact Or.inr ⟨_, rfl⟩) (Or.inr ⟨_, rfl⟩) ⟨f, rfl, rfl, fun q _ => by rw [Nat.zero_add]⟩
    · refine mm_aload_n (pc' := 11) d_AR_copyOfRange_10 rfl rfl rfl ?_
      refine mm_iload_n (pc' := 12) d_AR_copyOfRange_11 rfl rfl rfl ?_
      refine mm_iload_n (pc' := 13) d_AR_copyOfRange_12 rfl rfl rfl ?_
      refine mm_callS (pc' := 16) (as := [.ref v, .int (nI i), .int (nI j)]) (st := []) d_AR_copyOfRange_13 rfl cs_AR_339 (sp_AR_copyOfRangeByte hw hv ht hcap hfit hij hj) rfl rfl (Nat.le_of_ble_eq_true rfl) (Nat.le_of_ble_eq_true rfl) (Nat.le_refl _) (Nat.le_refl _) (fun r1 h1 hq => ?_)
      obtain ⟨g, rfl, hq⟩ := hq
      exact mm_aret d_AR_copyOfRange_16 rfl (by first | exact Or.inl ⟨_, rfl⟩ | exact Or.inr ⟨_, rfl⟩) (Or.inr ⟨_, rfl⟩) ⟨g, rfl, hq⟩
set_option maxHeartbeats 1000000 in
theorem sp_ST_init_AV (hw : mm_wf h) {a v cap n : Nat} {ml : Int32} {f : Nat → Int32} (hb : bu_at h a v cap n ml f) {s : Nat} (hs : h.1 s = some (.inr (0, [.null, .int 0, .int 0, .int 0]))) (hK : mm_K ≤ s) : mm_S l G M_ST_init_AV [.ref s, .ref a, .null] h 1 n (fun r h' => r = none ∧ ∃ g, h' = mm_set (mm_new h (.inl (1, n, .inl g))) s (.inr (0, [.ref h.2, .int 0, .int 0, .int 0])) ∧ ∀ q, q < n → g q = f q) := by
  refine mm_start rfl (Nat.le_of_ble_eq_true rfl) ?_
  show mm_V l G M_ST_init_AV 1 n 0 [some (.ref s), some (.ref a), some (.null), none, none] [] h _
  obtain ⟨hh, hv, hnc, hc3, hfit⟩ := id hb
  refine mm_aload_n (pc' := 1) d_ST_init_AV_0 rfl rfl rfl ?_
  refine mm_objInit (pc' := 4) d_ST_init_AV_1 rfl oi_ST_1 (Nat.le_of_ble_eq_true rfl) (Nat.le_of_ble_eq_true rfl) ?_
  refine mm_aload_n (pc' := 5) d_ST_init_AV_4 rfl rfl rfl ?_
  refine mm_callU (pc' := 8) (as := []) (st := []) d_ST_init_AV_5 rfl cs_ST_552 hh rfl (sp_AB_getValue hh) rfl rfl (Nat.le_of_ble_eq_true rfl) (Nat.le_of_ble_eq_true rfl) (Nat.zero_le _) (Nat.zero_le _) (fun v h1 hq => ?_)
  obtain ⟨rfl, rfl⟩ := hq
  refine mm_ast3 (pc' := 9) d_ST_init_AV_8 rfl rfl (Nat.le_of_ble_eq_true rfl) ?_
  refine mm_aload_n (pc' := 10) d_ST_init_AV_9 rfl rfl rfl ?_
  refine mm_callU (pc' := 13) (as := []) (st := []) d_ST_init_AV_10 rfl cs_ST_549 hh rfl (sp_SB_length hh) rfl rfl (Nat.le_of_ble_eq_true rfl) (Nat.le_of_ble_eq_true rfl) (Nat.zero_le _) (Nat.zero_le _) (fun v h1 hq => ?_)
  obtain ⟨rfl, rfl⟩ := hq
  refine mm_ist4 (pc' := 15) d_ST_init_AV_13 rfl rfl (Nat.le_of_ble_eq_true rfl) ?_
  refine mm_aload_n (pc' := 16) d_ST_init_AV_15 rfl rfl rfl ?_
  refine mm_callU (pc' := 19) (as := []) (st := []) d_ST_init_AV_16 rfl cs_ST_1047 hh rfl (sp_AB_isLatin1 hh) rfl rfl (Nat.le_of_ble_eq_true rfl) (Nat.le_of_ble_eq_true rfl) (Nat.zero_le _) (Nat.zero_le _) (fun v h1 hq => ?_)
  obtain ⟨rfl, rfl⟩ := hq
  refine mm_if_eq (pc' := 22) (tgt := 41) d_ST_init_AV_19 rfl rfl (fun q => absurd q (by decide)) (fun _ => ?_)
  refine mm_aload_n (pc' := 23) d_ST_init_AV_22 rfl rfl rfl ?_
  refine mm_iconst (v := 0) (pc' := 24) d_ST_init_AV_23 rfl (by decide) ?_
  refine mm_putfield (pc' := 27) d_ST_init_AV_24 rfl pl_ST_init_AV_15 (fun _ => ⟨rfl, rfl⟩) hs (Or.inr hK) (Nat.le_of_ble_eq_true rfl) ?_
  rw [show ([.null, .int 0, .int 0, .int 0] : List Value).set 1 (.int 0) = [.null, .int 0, .int 0, .int 0] from rfl, mm_setSame hs]
  refine mm_aload_n (pc' := 28) d_ST_init_AV_27 rfl rfl rfl ?_
  refine mm_aload_n (pc' := 29) d_ST_init_AV_28 rfl rfl rfl ?_
  refine mm_iconst (v := 0) (pc' := 30) d_ST_init_AV_29 rfl (by decide) ?_
  refine mm_iload (pc' := 32) d_ST_init_AV_30 rfl rfl ?_
  refine mm_callS (pc' := 35) (as := [.ref v, .int (nI 0), .int (nI n)]) (st := [_]) d_ST_init_AV_32 rfl cs_ST_54 (sp_AR_copyOfRange hw hv (Or.inl rfl) hc3 hfit (Nat.zero_le _) hnc (Or.inl rfl)) rfl rfl (Nat.le_of_ble_eq_true rfl) (Nat.le_of_ble_eq_true rfl) (by decide) (Nat.le_refl _) (fun r1 h1 hq => ?_)
  obtain ⟨g, rfl, rfl, hg⟩ := hq
  refine mm_putfield (pc' := 38) d_ST_init_AV_35 rfl pl_ST_init_AV_9 (fun _ => ⟨rfl, rfl⟩) (by rw [mm_newNe (hw.lt hs)]; exact hs) (Or.inr hK) (Nat.le_of_ble_eq_true rfl) ?_
  refine mm_goto (tgt := 97) d_ST_init_AV_38 rfl ?_
  exact mm_vret d_ST_init_AV_97 rfl ⟨rfl, g, rfl, fun q hq => by rw [hg q (by omega), Nat.zero_add]⟩
set_option maxHeartbeats 1000000 in
theorem sp_ST_init_S (hw : mm_wf h) {a v cap n : Nat} {ml : Int32} {f : Nat → Int32} (hb : bu_at h a v cap n ml f) {s : Nat} (hs : h.1 s = some (.inr (0, [.null, .int 0, .int 0, .int 0]))) (hK : mm_K ≤ s) : mm_S l G M_ST_init_S [.ref s, .ref a] h 1 n (fun r h' => r = none ∧ ∃ g, h' = mm_set (mm_new h (.inl (1, n, .inl g))) s (.inr (0, [.ref h.2, .int 0, .int 0, .int 0])) ∧ ∀ q, q < n → g q = f q) := by
  refine mm_start rfl (Nat.le_of_ble_eq_true rfl) ?_
  show mm_V l G M_ST_init_S 1 n 0 [some (.ref s), some (.ref a)] [] h _
  refine mm_aload_n (pc' := 1) d_ST_init_S_0 rfl rfl rfl ?_
  refine mm_aload_n (pc' := 2) d_ST_init_S_1 rfl rfl rfl ?_
  refine mm_null (pc' := 3) d_ST_init_S_2 rfl ?_
  refine mm_callI (pc' := 6) (as := [.ref a, .null]) (st := []) d_ST_init_S_3 rfl cs_ST_489 rfl (sp_ST_init_AV hw hb hs hK) rfl rfl (Nat.le_of_ble_eq_true rfl) (Nat.le_of_ble_eq_true rfl) (Nat.le_refl _) (Nat.le_refl _) (fun r1 h1 hq => ?_)
  obtain ⟨rfl, hq⟩ := hq
  exact mm_vret d_ST_init_S_6 rfl ⟨rfl, hq⟩
theorem tx_mk {h : mm_H} {n : Nat} {g : Nat → Int32} (hw : mm_wf h) (hfit : ∀ j, j < n → fits .byte (.int (g j)) = true) : tx_nw h (mm_set (mm_new (mm_new h (.inr (0, [.null, .int 0, .int 0, .int 0]))) (.inl (1, n, .inl g))) h.2 (.inr (0, [.ref (h.2 + 1), .int 0, .int 0, .int 0]))) n g := by
  have e : (mm_new h (.inr (0, [.null, .int 0, .int 0, .int 0]))).2 = h.2 + 1 := rfl
  refine ⟨mm_setSelf, ?_, rfl, fun b hb => ?_, hw.new.new.set (e0 := .inr (0, [.null, .int 0, .int 0, .int 0])) ?_, hfit⟩
  · rw [mm_setNe (by omega), ← e, mm_newSelf]
  · rw [mm_setNe (by omega), mm_newNe (by rw [e]; omega), mm_newNe (by omega)]
  · rw [mm_newNe (by rw [e]; omega), mm_newSelf]
set_option maxHeartbeats 1000000 in
theorem sp_SB_toString (hw : mm_wf h) {a v cap n : Nat} {ml : Int32} {f : Nat → Int32} (hb : bu_at h a v cap n ml f) : mm_S l G M_SB_toString [.ref a] h 2 (4 + n) (fun r h' => r = some (.ref h.2) ∧ ∃ g, tx_nw h h' n g ∧ ∀ q, q < n → g q = f q) := by
  refine mm_start rfl (Nat.le_of_ble_eq_true rfl) ?_
  show mm_V l G M_SB_toString 2 (4 + n) 0 [some (.ref a)] [] h _
  obtain ⟨hh, hv, hnc, hc3, hfit⟩ := id hb
  refine mm_newo (pc' := 3) (n := 4) d_SB_toString_0 rfl nl_SB_18 rfl (Nat.le_of_ble_eq_true rfl) (by omega) ?_
  refine mm_dup (pc' := 4) d_SB_toString_3 rfl rfl ?_
  refine mm_aload_n (pc' := 5) d_SB_toString_4 rfl rfl rfl ?_
  refine mm_callI (pc' := 8) (as := [.ref a]) (st := [_]) d_SB_toString_5 rfl cs_SB_137 rfl (sp_ST_init_S hw.new (hb.new hw) mm_newSelf hw.2) rfl rfl (Nat.le_of_ble_eq_true rfl) (Nat.le_of_ble_eq_true rfl) (by decide) (by omega) (fun r1 h1 hq => ?_)
  obtain ⟨rfl, g, rfl, hg⟩ := hq
  exact mm_aret d_SB_toString_8 rfl (by first | exact Or.inl ⟨_, rfl⟩ | exact Or.inr ⟨_, rfl⟩) (Or.inr ⟨_, rfl⟩) ⟨rfl, g, tx_mk hw (fun j hj => by rw [hg j hj]; exact hfit j (by omega)), hg⟩
set_option maxHeartbeats 1000000 in
theorem sp_ST_init_aBB {s v : Nat} (hs : h.1 s = some (.inr (0, [.null, .int 0, .int 0, .int 0]))) (hK : mm_K ≤ s) : mm_S l G M_ST_init_aBB [.ref s, .ref v, .int 0] h 0 0 (fun r h' => r = none ∧ h' = mm_set h s (.inr (0, [.ref v, .int 0, .int 0, .int 0]))) := by
  refine mm_start rfl (Nat.le_of_ble_eq_true rfl) ?_
  show mm_V l G M_ST_init_aBB 0 0 0 [some (.ref s), some (.ref v), some (.int 0)] [] h _
  refine mm_aload_n (pc' := 1) d_ST_init_aBB_0 rfl rfl rfl ?_
  refine mm_objInit (pc' := 4) d_ST_init_aBB_1 rfl oi_ST_1 (Nat.le_of_ble_eq_true rfl) (Nat.le_of_ble_eq_true rfl) ?_
  refine mm_aload_n (pc' := 5) d_ST_init_aBB_4 rfl rfl rfl ?_
  refine mm_aload_n (pc' := 6) d_ST_init_aBB_5 rfl rfl rfl ?_
  refine mm_putfield (pc' := 9) d_ST_init_aBB_6 rfl pl_ST_init_aBB_9 (fun _ => ⟨rfl, rfl⟩) hs (Or.inr hK) (Nat.le_of_ble_eq_true rfl) ?_
  refine mm_aload_n (pc' := 10) d_ST_init_aBB_9 rfl rfl rfl ?_
  refine mm_iload_n (pc' := 11) d_ST_init_aBB_10 rfl rfl rfl ?_
  refine mm_putfield (pc' := 14) d_ST_init_aBB_11 rfl pl_ST_init_aBB_15 (fun _ => ⟨rfl, rfl⟩) mm_setSelf (Or.inr hK) (Nat.le_of_ble_eq_true rfl) ?_
  rw [mm_set2]
  exact mm_vret d_ST_init_aBB_14 rfl ⟨rfl, rfl⟩
set_option maxHeartbeats 1000000 in
theorem sp_L1_newString (hw : mm_wf h) {v t cap : Nat} {f : Nat → Int32} (hv : h.1 v = some (.inl (t, cap, .inl f))) (ht : t = 1 ∨ t = 9) (hcap : cap ≤ 300) (hfit : ∀ j, j < cap → fits .byte (.int (f j)) = true) {i n : Nat} (hin : i + n ≤ cap) (h1c : t = 1 ∨ ¬ (i = 0 ∧ n = cap)) : mm_S l G M_L1_newString [.ref v, .int (nI i), .int (nI n)] h 2 (4 + n) (fun r h' => (n = 0 ∧ r = some (.ref 1) ∧ h' = h) ∨ (n ≠ 0 ∧ r = some (.ref h.2) ∧ ∃ g, tx_nw h h' n g ∧ ∀ q, q < n → g q = f (i + q))) := by
  refine mm_start rfl (Nat.le_of_ble_eq_true rfl) ?_
  show mm_V l G M_L1_newString 2 (4 + n) 0 [some (.ref v), some (.int (nI i)), some (.int (nI n))] [] h _
  refine mm_iload_n (pc' := 1) d_L1_newString_0 rfl rfl rfl ?_
  refine mm_if_ne (pc' := 4) (tgt := 7) d_L1_newString_1 rfl rfl (fun hc => ?_) (fun hc => ?_)
  · have hn0 : n ≠ 0 := fun q => hc (by rw [q]; rfl)
    refine mm_newo (pc' := 10) (n := 4) d_L1_newString_7 rfl nl_L1_1 rfl (by decide) (by omega) ?_
    refine mm_dup (pc' := 11) d_L1_newString_10 rfl rfl ?_
    refine mm_aload_n (pc' := 12) d_L1_newString_11 rfl rfl rfl ?_
    refine mm_iload_n (pc' := 13) d_L1_newString_12 rfl rfl rfl ?_
    refine mm_iload_n (pc' := 14) d_L1_newString_13 rfl rfl rfl ?_
    refine mm_iload_n (pc' := 15) d_L1_newString_14 rfl rfl rfl ?_
    refine mm_iadd (pc' := 16) d_L1_newString_15 rfl ?_
    rw [nI_add]
    refine mm_callS (pc' := 19) (as := [.ref v, .int (nI i), .int (nI (i + n))]) (st := [_, _]) d_L1_newString_16 rfl cs_L1_232 (sp_AR_copyOfRange hw.new (by rw [mm_newNe (hw.lt hv)]; exact hv) ht hcap hfit (by omega) hin (by rcases h1c with q | q; exact Or.inl q; exact Or.inr (fun z => q ⟨z.1, by omega⟩))) rfl rfl (Nat.le_of_ble_eq_true rfl) (Nat.le_of_ble_eq_true rfl) (by decide) (by omega) (fun r1 h1 hq => ?_)
    obtain ⟨g, rfl, rfl, hg⟩ := hq
    simp only [Nat.add_sub_cancel_left] at hg ⊢
    refine mm_iconst (v := 0) (pc' := 20) d_L1_newString_19 rfl (by decide) ?_
    refine mm_callI (pc' := 23) (as := [.ref (h.2 + 1), .int 0]) (st := [_]) d_L1_newString_20 rfl cs_L1_112 rfl (sp_ST_init_aBB (s := h.2) (by rw [mm_newNe (show h.2 ≠ h.2 + 1 by omega), mm_newSelf]; rfl) hw.2) rfl rfl (Nat.le_of_ble_eq_true rfl) (Nat.le_of_ble_eq_true rfl) (Nat.zero_le _) (Nat.zero_le _) (fun r1 h1 hq => ?_)
    obtain ⟨rfl, rfl⟩ := hq
    exact mm_aret d_L1_newString_23 rfl (by first | exact Or.inl ⟨_, rfl⟩ | exact Or.inr ⟨_, rfl⟩) (Or.inr ⟨_, rfl⟩) (Or.inr ⟨hn0, rfl, g, tx_mk hw (fun j hj => by rw [hg j hj]; exact hfit _ (by omega)), hg⟩)
  · have hn0 : n = 0 := Nat.eq_zero_of_not_pos fun q => nI_ne0 q (by omega) hc
    refine mm_ldcS (pc' := 6) d_L1_newString_4 rfl ld_L1_151 ?_
    exact mm_aret d_L1_newString_6 rfl (by first | exact Or.inl ⟨_, rfl⟩ | exact Or.inr ⟨_, rfl⟩) (Or.inr ⟨_, rfl⟩) (Or.inl ⟨hn0, rfl, rfl⟩)
end J4
