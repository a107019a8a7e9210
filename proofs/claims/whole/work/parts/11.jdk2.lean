theorem d_AB_ensureCapacityInternal_0 : decode prog_16_method_9_code 0 = .ok (.aload_n 0, 1) := by decide +kernel
theorem d_AB_ensureCapacityInternal_1 : decode prog_16_method_9_code 1 = .ok (.getfield 15, 3) := by decide +kernel
theorem d_AB_ensureCapacityInternal_4 : decode prog_16_method_9_code 4 = .ok (.arraylength, 1) := by decide +kernel
theorem d_AB_ensureCapacityInternal_5 : decode prog_16_method_9_code 5 = .ok (.aload_n 0, 1) := by decide +kernel
theorem d_AB_ensureCapacityInternal_6 : decode prog_16_method_9_code 6 = .ok (.getfield 22, 3) := by decide +kernel
theorem d_AB_ensureCapacityInternal_9 : decode prog_16_method_9_code 9 = .ok (.ishr, 1) := by decide +kernel
theorem d_AB_ensureCapacityInternal_10 : decode prog_16_method_9_code 10 = .ok (.istore_n 2, 1) := by decide +kernel
theorem d_AB_ensureCapacityInternal_11 : decode prog_16_method_9_code 11 = .ok (.iload_n 1, 1) := by decide +kernel
theorem d_AB_ensureCapacityInternal_12 : decode prog_16_method_9_code 12 = .ok (.iload_n 2, 1) := by decide +kernel
theorem d_AB_ensureCapacityInternal_13 : decode prog_16_method_9_code 13 = .ok (.isub, 1) := by decide +kernel
theorem d_AB_ensureCapacityInternal_14 : decode prog_16_method_9_code 14 = .ok (.ifCond .le 24, 3) := by decide +kernel
theorem d_AB_ensureCapacityInternal_17 : decode prog_16_method_9_code 17 = .ok (.aload_n 0, 1) := by decide +kernel
theorem d_AB_ensureCapacityInternal_18 : decode prog_16_method_9_code 18 = .ok (.aload_n 0, 1) := by decide +kernel
theorem d_AB_ensureCapacityInternal_19 : decode prog_16_method_9_code 19 = .ok (.getfield 15, 3) := by decide +kernel
theorem d_AB_ensureCapacityInternal_22 : decode prog_16_method_9_code 22 = .ok (.aload_n 0, 1) := by decide +kernel
theorem d_AB_ensureCapacityInternal_23 : decode prog_16_method_9_code 23 = .ok (.iload_n 1, 1) := by decide +kernel
theorem d_AB_ensureCapacityInternal_24 : decode prog_16_method_9_code 24 = .ok (.invokevirtual 104, 3) := by decide +kernel
theorem d_AB_ensureCapacityInternal_27 : decode prog_16_method_9_code 27 = .ok (.aload_n 0, 1) := by decide +kernel
theorem d_AB_ensureCapacityInternal_28 : decode prog_16_method_9_code 28 = .ok (.getfield 22, 3) := by decide +kernel
theorem d_AB_ensureCapacityInternal_31 : decode prog_16_method_9_code 31 = .ok (.ishl, 1) := by decide +kernel
theorem d_AB_ensureCapacityInternal_32 : decode prog_16_method_9_code 32 = .ok (.invokestatic 108, 3) := by decide +kernel
theorem d_AB_ensureCapacityInternal_35 : decode prog_16_method_9_code 35 = .ok (.putfield 15, 3) := by decide +kernel
theorem d_AB_ensureCapacityInternal_38 : decode prog_16_method_9_code 38 = .ok (.return_, 1) := by decide +kernel
theorem d_AB_newCapacity_0 : decode prog_16_method_10_code 0 = .ok (.aload_n 0, 1) := by decide +kernel
theorem d_AB_newCapacity_1 : decode prog_16_method_10_code 1 = .ok (.getfield 15, 3) := by decide +kernel
theorem d_AB_newCapacity_4 : decode prog_16_method_10_code 4 = .ok (.arraylength, 1) := by decide +kernel
theorem d_AB_newCapacity_5 : decode prog_16_method_10_code 5 = .ok (.istore_n 2, 1) := by decide +kernel
theorem d_AB_newCapacity_6 : decode prog_16_method_10_code 6 = .ok (.iload_n 1, 1) := by decide +kernel
theorem d_AB_newCapacity_7 : decode prog_16_method_10_code 7 = .ok (.aload_n 0, 1) := by decide +kernel
theorem d_AB_newCapacity_8 : decode prog_16_method_10_code 8 = .ok (.getfield 22, 3) := by decide +kernel
theorem d_AB_newCapacity_11 : decode prog_16_method_10_code 11 = .ok (.ishl, 1) := by decide +kernel
theorem d_AB_newCapacity_12 : decode prog_16_method_10_code 12 = .ok (.istore_n 3, 1) := by decide +kernel
theorem d_AB_newCapacity_13 : decode prog_16_method_10_code 13 = .ok (.iload_n 3, 1) := by decide +kernel
theorem d_AB_newCapacity_14 : decode prog_16_method_10_code 14 = .ok (.iload_n 2, 1) := by decide +kernel
theorem d_AB_newCapacity_15 : decode prog_16_method_10_code 15 = .ok (.isub, 1) := by decide +kernel
theorem d_AB_newCapacity_16 : decode prog_16_method_10_code 16 = .ok (.istore 4, 2) := by decide +kernel
theorem d_AB_newCapacity_18 : decode prog_16_method_10_code 18 = .ok (.iload_n 2, 1) := by decide +kernel
theorem d_AB_newCapacity_19 : decode prog_16_method_10_code 19 = .ok (.iload 4, 2) := by decide +kernel
theorem d_AB_newCapacity_21 : decode prog_16_method_10_code 21 = .ok (.iload_n 2, 1) := by decide +kernel
theorem d_AB_newCapacity_22 : decode prog_16_method_10_code 22 = .ok (.iconst 2, 1) := by decide +kernel
theorem d_AB_newCapacity_23 : decode prog_16_method_10_code 23 = .ok (.aload_n 0, 1) := by decide +kernel
theorem d_AB_newCapacity_24 : decode prog_16_method_10_code 24 = .ok (.getfield 22, 3) := by decide +kernel
theorem d_AB_newCapacity_27 : decode prog_16_method_10_code 27 = .ok (.ishl, 1) := by decide +kernel
theorem d_AB_newCapacity_28 : decode prog_16_method_10_code 28 = .ok (.iadd, 1) := by decide +kernel
theorem d_AB_newCapacity_29 : decode prog_16_method_10_code 29 = .ok (.invokestatic 114, 3) := by decide +kernel
theorem d_AB_newCapacity_32 : decode prog_16_method_10_code 32 = .ok (.istore 5, 2) := by decide +kernel
theorem d_AB_newCapacity_34 : decode prog_16_method_10_code 34 = .ok (.iload 5, 2) := by decide +kernel
theorem d_AB_newCapacity_36 : decode prog_16_method_10_code 36 = .ok (.ldc 39, 2) := by decide +kernel
theorem d_AB_newCapacity_38 : decode prog_16_method_10_code 38 = .ok (.if_icmp .ne 13, 3) := by decide +kernel
theorem d_AB_newCapacity_51 : decode prog_16_method_10_code 51 = .ok (.iload 5, 2) := by decide +kernel
theorem d_AB_newCapacity_53 : decode prog_16_method_10_code 53 = .ok (.aload_n 0, 1) := by decide +kernel
theorem d_AB_newCapacity_54 : decode prog_16_method_10_code 54 = .ok (.getfield 22, 3) := by decide +kernel
theorem d_AB_newCapacity_57 : decode prog_16_method_10_code 57 = .ok (.ishr, 1) := by decide +kernel
theorem d_AB_newCapacity_58 : decode prog_16_method_10_code 58 = .ok (.ireturn, 1) := by decide +kernel
theorem d_AR_copyOf_aBI_0 : decode prog_30_method_121_code 0 = .ok (.iload_n 1, 1) := by decide +kernel
theorem d_AR_copyOf_aBI_1 : decode prog_30_method_121_code 1 = .ok (.aload_n 0, 1) := by decide +kernel
theorem d_AR_copyOf_aBI_2 : decode prog_30_method_121_code 2 = .ok (.arraylength, 1) := by decide +kernel
theorem d_AR_copyOf_aBI_3 : decode prog_30_method_121_code 3 = .ok (.if_icmp .ne 11, 3) := by decide +kernel
theorem d_AR_copyOf_aBI_14 : decode prog_30_method_121_code 14 = .ok (.iload_n 1, 1) := by decide +kernel
theorem d_AR_copyOf_aBI_15 : decode prog_30_method_121_code 15 = .ok (.newarray .byte, 2) := by decide +kernel
theorem d_AR_copyOf_aBI_17 : decode prog_30_method_121_code 17 = .ok (.astore_n 2, 1) := by decide +kernel
theorem d_AR_copyOf_aBI_18 : decode prog_30_method_121_code 18 = .ok (.aload_n 0, 1) := by decide +kernel
theorem d_AR_copyOf_aBI_19 : decode prog_30_method_121_code 19 = .ok (.iconst 0, 1) := by decide +kernel
theorem d_AR_copyOf_aBI_20 : decode prog_30_method_121_code 20 = .ok (.aload_n 2, 1) := by decide +kernel
theorem d_AR_copyOf_aBI_21 : decode prog_30_method_121_code 21 = .ok (.iconst 0, 1) := by decide +kernel
theorem d_AR_copyOf_aBI_22 : decode prog_30_method_121_code 22 = .ok (.aload_n 0, 1) := by decide +kernel
theorem d_AR_copyOf_aBI_23 : decode prog_30_method_121_code 23 = .ok (.arraylength, 1) := by decide +kernel
theorem d_AR_copyOf_aBI_24 : decode prog_30_method_121_code 24 = .ok (.iload_n 1, 1) := by decide +kernel
theorem d_AR_copyOf_aBI_25 : decode prog_30_method_121_code 25 = .ok (.invokestatic 304, 3) := by decide +kernel
theorem d_AR_copyOf_aBI_28 : decode prog_30_method_121_code 28 = .ok (.invokestatic 150, 3) := by decide +kernel
theorem d_AR_copyOf_aBI_31 : decode prog_30_method_121_code 31 = .ok (.aload_n 2, 1) := by decide +kernel
theorem d_AR_copyOf_aBI_32 : decode prog_30_method_121_code 32 = .ok (.areturn, 1) := by decide +kernel
/-! rows of bytes -/
def by_b (x : Nat) : Int32 := (nI x).toInt8.toInt32
theorem by_and : ∀ x, x < 256 → by_b x &&& 255 = nI x := by decide +kernel
theorem by_inj {x y : Nat} (hx : x < 256) (hy : y < 256) (h : by_b x = by_b y) : x = y := by
  have e := by_and x hx
  rw [h, by_and y hy] at e
  exact ((nI_eq (by omega) (by omega)).mp e).symm
theorem by_fit (x : Nat) : fits .byte (.int (by_b x)) = true := pk_fb (nI x)
theorem by_fit0 : fits .byte (.int 0) = true := by decide
theorem by_c {x : Nat} (h : x < 65536) : ((nI x).toUInt32 % 65536).toInt32 = nI x := by
  rw [pk_char, pk_tn (by omega), Nat.mod_eq_of_lt h]
theorem mm_setNew {h : mm_H} {e e' : mm_E} : mm_set (mm_new h e) h.2 e' = mm_new h e' := by
  apply Prod.ext
  · funext b
    show (if b = h.2 then some e' else if b = h.2 then some e else h.1 b) = if b = h.2 then some e' else h.1 b
    by_cases hb : b = h.2 <;> simp [hb]
  · rfl
/-- the heap's cells lie below its first free address -/
def mm_wf (h : mm_H) : Prop := (∀ (k : Nat) (e : mm_E), h.1 k = some e → k < h.2) ∧ mm_K ≤ h.2
theorem mm_wf.set {h : mm_H} {a : Nat} {e0 e : mm_E} (hw : mm_wf h) (h0 : h.1 a = some e0) : mm_wf (mm_set h a e) := ⟨fun k x hk => by
  by_cases hka : k = a
  · subst hka
    exact hw.1 _ _ h0
  · rw [mm_setNe hka] at hk
    exact hw.1 k x hk, hw.2⟩
theorem mm_wf.new {h : mm_H} {e : mm_E} (hw : mm_wf h) : mm_wf (mm_new h e) := ⟨fun k x hk => by
  show k < h.2 + 1
  by_cases hka : k = h.2
  · omega
  · rw [mm_newNe hka] at hk
    have := hw.1 k x hk
    omega, by show mm_K ≤ h.2 + 1; have := hw.2; omega⟩
theorem mm_wf.lt {h : mm_H} {a : Nat} {e : mm_E} (hw : mm_wf h) (h0 : h.1 a = some e) : a ≠ h.2 := by
  have := hw.1 a e h0
  omega
theorem nI_ni {n : Nat} (h : n < 2 ^ 31) : ¬ nI n < 0 := nI_pos h
section J2
variable {l : Launch} {G : mm_G} {h : mm_H}
set_option maxHeartbeats 1000000 in
theorem sp_AR_copyOf_aBI (hw : mm_wf h) {v cap : Nat} {f : Nat → Int32} (hv : h.1 v = some (.inl (1, cap, .inl f))) {m : Nat} (hm : m < 1000) (hcap : cap < 1000) (hne : m ≠ cap) (hfit : ∀ j, j < cap → fits .byte (.int (f j)) = true) : mm_S l G M_AR_copyOf_aBI [.ref v, .int (nI m)] h 1 m (fun r h' => ∃ g, r = some (.ref h.2) ∧ h' = mm_new h (.inl (1, m, .inl g)) ∧ (∀ j, j < m → j < cap → g j = f j) ∧ ∀ j, j < m → fits .byte (.int (g j)) = true) := by
  refine mm_start rfl (Nat.le_of_ble_eq_true rfl) ?_
  show mm_V l G M_AR_copyOf_aBI 1 m 0 [some (.ref v), some (.int (nI m)), none] [] h _
  refine mm_iload_n (pc' := 1) d_AR_copyOf_aBI_0 rfl rfl rfl ?_
  refine mm_aload_n (pc' := 2) d_AR_copyOf_aBI_1 rfl rfl rfl ?_
  refine mm_alen d_AR_copyOf_aBI_2 rfl (Nat.le_of_ble_eq_true rfl) hv rfl ?_
  refine mm_icmp_ne (pc' := 6) (tgt := 14) d_AR_copyOf_aBI_3 rfl rfl (fun _ => ?_) (fun q => absurd q (fun q => hne ((nI_eq (by omega) (by omega)).mp q)))
  refine mm_iload_n (pc' := 15) d_AR_copyOf_aBI_14 rfl rfl rfl ?_
  refine mm_newarr (t := 1) d_AR_copyOf_aBI_15 rfl (Nat.le_of_ble_eq_true rfl) rfl ar_byte rfl (nI_pos (by omega)) (nI_clamp (by omega)) (by show m * 1 ≤ _; omega) (Nat.le_of_ble_eq_true rfl) (Nat.le_refl _) ?_
  have hvn := hw.lt hv
  refine mm_ast2 (pc' := 18) d_AR_copyOf_aBI_17 rfl rfl (Nat.le_of_ble_eq_true rfl) ?_
  refine mm_aload_n (pc' := 19) d_AR_copyOf_aBI_18 rfl rfl rfl ?_
  refine mm_iconst (v := 0) (pc' := 20) d_AR_copyOf_aBI_19 rfl (by decide) ?_
  refine mm_aload_n (pc' := 21) d_AR_copyOf_aBI_20 rfl rfl rfl ?_
  refine mm_iconst (v := 0) (pc' := 22) d_AR_copyOf_aBI_21 rfl (by decide) ?_
  refine mm_aload_n (pc' := 23) d_AR_copyOf_aBI_22 rfl rfl rfl ?_
  refine mm_alen d_AR_copyOf_aBI_23 rfl (Nat.le_of_ble_eq_true rfl) (by rw [mm_newNe hvn]; exact hv) rfl ?_
  refine mm_iload_n (pc' := 25) d_AR_copyOf_aBI_24 rfl rfl rfl ?_
  refine mm_min d_AR_copyOf_aBI_25 rfl cs_AR_304 (Nat.le_of_ble_eq_true rfl) (Nat.le_of_ble_eq_true rfl) ?_
  have emin : (if nI m < nI cap then nI m else nI cap) = nI (min m cap) := by
    by_cases hlt : m < cap
    · rw [if_pos (nI_lt hlt (by omega)), Nat.min_eq_left (by omega)]
    · rw [if_neg (nI_nlt (by omega) (by omega)), Nat.min_eq_right (by omega)]
  have emin' : (if nI m < Int32.ofNat cap then nI m else Int32.ofNat cap) = nI (min m cap) := emin
  rw [emin']
  have hcl : (nI (min m cap)).toNatClampNeg = min m cap := nI_clamp (by omega)
  refine mm_copy (t0 := 1) (t1 := 1) (n0 := cap) (n1 := m) (f := f) (g := fun _ => 0) d_AR_copyOf_aBI_28 rfl ac_AR_150 (Nat.le_of_ble_eq_true rfl) (Nat.le_of_ble_eq_true rfl) rfl rfl (by rw [mm_newNe hvn]; exact hv) mm_newSelf (by decide) (by decide) (nI_pos (by omega)) (by rw [hcl]; show 0 + _ ≤ _; omega) (by rw [hcl]; show 0 + _ ≤ _; omega) (fun i hi => by rw [hcl] at hi; show fits .byte (.int (f (0 + i))) = true; rw [Nat.zero_add]; exact hfit i (by omega)) (Nat.le_of_ble_eq_true rfl) (Nat.le_of_ble_eq_true rfl) ?_
  rw [hcl, mm_setNew]
  refine mm_aload_n (pc' := 32) d_AR_copyOf_aBI_31 rfl rfl rfl ?_
  refine mm_aret d_AR_copyOf_aBI_32 rfl (by first | exact Or.inl ⟨_, rfl⟩ | exact Or.inr ⟨_, rfl⟩) (Or.inr ⟨_, rfl⟩) ⟨_, rfl, rfl, fun j h1 h2 => ?_, fun j hj => ?_⟩
  · show va_cpy f (fun _ => 0) 0 0 (min m cap) j = f j
    rw [pk_cpy_in (by omega) (by omega)]
    simp
  · show fits .byte (.int (va_cpy f (fun _ => 0) 0 0 (min m cap) j)) = true
    by_cases hj2 : j < min m cap
    · rw [pk_cpy_in (by omega) (by omega)]
      simpa using hfit j (by omega)
    · rw [pk_cpy_out (by omega)]
      exact by_fit0
set_option maxHeartbeats 1000000 in
theorem sp_AB_newCapacity {a v cap n : Nat} {ml : Int32} {f : Nat → Int32} (hh : h.1 a = some (.inr (1, [.ref v, .int 0, .int ml, .int (nI n)]))) (hv : h.1 v = some (.inl (1, cap, .inl f))) {k : Nat} (hk : k < 1000) (hcap : cap < 1000) (hkc : cap < k) : mm_S l G M_AB_newCapacity [.ref a, .int (nI k)] h 0 0 (fun r h' => r = some (.int (nI (cap + max (k - cap) (cap + 2)))) ∧ h' = h) := by
  refine mm_start rfl (Nat.le_of_ble_eq_true rfl) ?_
  show mm_V l G M_AB_newCapacity 0 0 0 [some (.ref a), some (.int (nI k)), none, none, none, none] [] h _
  refine mm_aload_n (pc' := 1) d_AB_newCapacity_0 rfl rfl rfl ?_
  refine mm_getfield (pc' := 4) d_AB_newCapacity_1 rfl fl_AB_15 hh rfl ?_
  refine mm_alen d_AB_newCapacity_4 rfl (Nat.le_of_ble_eq_true rfl) hv rfl ?_
  refine mm_ist2 (pc' := 6) d_AB_newCapacity_5 rfl rfl (Nat.le_of_ble_eq_true rfl) ?_
  refine mm_iload_n (pc' := 7) d_AB_newCapacity_6 rfl rfl rfl ?_
  refine mm_aload_n (pc' := 8) d_AB_newCapacity_7 rfl rfl rfl ?_
  refine mm_getfield (pc' := 11) d_AB_newCapacity_8 rfl fl_AB_22 hh rfl ?_
  rw [show Int32.ofNat cap = nI cap from rfl]
  refine mm_ishl d_AB_newCapacity_11 rfl ?_
  rw [by_sl0]
  refine mm_ist3 (pc' := 13) d_AB_newCapacity_12 rfl rfl (Nat.le_of_ble_eq_true rfl) ?_
  refine mm_iload_n (pc' := 14) d_AB_newCapacity_13 rfl rfl rfl ?_
  refine mm_iload_n (pc' := 15) d_AB_newCapacity_14 rfl rfl rfl ?_
  refine mm_isub d_AB_newCapacity_15 rfl ?_
  rw [pk_sub (by omega)]
  refine mm_ist4 (pc' := 18) d_AB_newCapacity_16 rfl rfl (Nat.le_of_ble_eq_true rfl) ?_
  refine mm_iload_n (pc' := 19) d_AB_newCapacity_18 rfl rfl rfl ?_
  refine mm_iload (pc' := 21) d_AB_newCapacity_19 rfl rfl ?_
  refine mm_iload_n (pc' := 22) d_AB_newCapacity_21 rfl rfl rfl ?_
  refine mm_iconst (v := 2) (pc' := 23) d_AB_newCapacity_22 rfl (by decide) ?_
  refine mm_aload_n (pc' := 24) d_AB_newCapacity_23 rfl rfl rfl ?_
  refine mm_getfield (pc' := 27) d_AB_newCapacity_24 rfl fl_AB_22 hh rfl ?_
  refine mm_ishl d_AB_newCapacity_27 rfl ?_
  rw [by_sl0]
  refine mm_iadd d_AB_newCapacity_28 rfl ?_
  rw [show (2 : Int32) = nI 2 from rfl, nI_add]
  have emax : (if nI (k - cap) < nI (cap + 2) then nI (cap + 2) else nI (k - cap)) = nI (max (k - cap) (cap + 2)) := by
    by_cases hlt : k - cap < cap + 2
    · rw [if_pos (nI_lt hlt (by omega)), Nat.max_eq_right (by omega)]
    · rw [if_neg (nI_nlt (by omega) (by omega)), Nat.max_eq_left (by omega)]
  have esum : nI cap + (if nI (k - cap) < nI (cap + 2) then nI (cap + 2) else nI (k - cap)) = nI (cap + max (k - cap) (cap + 2)) := by rw [emax, nI_add]
  have hmx : cap + max (k - cap) (cap + 2) < 4000 := by omega
  refine mm_callS (pc' := 32) (as := [.int (nI cap), .int (nI (k - cap)), .int (nI (cap + 2))]) (st := []) d_AB_newCapacity_29 rfl cs_AB_114 (sp_AS_newLength (by rw [esum]; exact nI_lt (a := 0) (by omega) (by omega)) (by rw [esum]; exact nI_nlt (a := 2147483639) (by omega) (by omega))) rfl rfl (Nat.le_of_ble_eq_true rfl) (Nat.le_of_ble_eq_true rfl) (Nat.le_of_ble_eq_true rfl) (Nat.le_of_ble_eq_true rfl) (fun v h1 hq => ?_)
  obtain ⟨rfl, rfl⟩ := hq
  rw [esum]
  refine mm_ist5 (pc' := 34) d_AB_newCapacity_32 rfl rfl (Nat.le_of_ble_eq_true rfl) ?_
  refine mm_iload (pc' := 36) d_AB_newCapacity_34 rfl rfl ?_
  refine mm_ldc (v := 2147483647) d_AB_newCapacity_36 rfl ld_AB_39 ?_
  refine mm_icmp_ne (pc' := 41) (tgt := 51) d_AB_newCapacity_38 rfl rfl (fun _ => ?_) (fun q => absurd q (fun q => (by omega : ¬ cap + max (k - cap) (cap + 2) = 2147483647) ((nI_eq (b := 2147483647) (by omega) (by omega)).mp q)))
  refine mm_iload (pc' := 53) d_AB_newCapacity_51 rfl rfl ?_
  refine mm_aload_n (pc' := 54) d_AB_newCapacity_53 rfl rfl rfl ?_
  refine mm_getfield (pc' := 57) d_AB_newCapacity_54 rfl fl_AB_22 hh rfl ?_
  refine mm_ishr d_AB_newCapacity_57 rfl ?_
  rw [by_sh0]
  exact mm_iret d_AB_newCapacity_58 rfl rfl ⟨rfl, rfl⟩
set_option maxHeartbeats 1000000 in
theorem sp_AB_ensureCapacityInternal (hw : mm_wf h) {a v cap n : Nat} {ml : Int32} {f : Nat → Int32} (hh : h.1 a = some (.inr (1, [.ref v, .int 0, .int ml, .int (nI n)]))) (hv : h.1 v = some (.inl (1, cap, .inl f))) {k : Nat} (hk : k < 1000) (hcap : cap ≤ 300) (hfit : ∀ j, j < cap → fits .byte (.int (f j)) = true) : mm_S l G M_AB_ensureCapacityInternal [.ref a, .int (nI k)] h 1 (if k ≤ cap then 0 else cap + max (k - cap) (cap + 2)) (fun r h' => r = none ∧ ((k ≤ cap ∧ h' = h) ∨ (cap < k ∧ ∃ g, h' = mm_set (mm_new h (.inl (1, cap + max (k - cap) (cap + 2), .inl g))) a (.inr (1, [.ref h.2, .int 0, .int ml, .int (nI n)])) ∧ (∀ j, j < cap → g j = f j) ∧ ∀ j, j < cap + max (k - cap) (cap + 2) → fits .byte (.int (g j)) = true))) := by
  refine mm_start rfl (Nat.le_of_ble_eq_true rfl) ?_
  show mm_V l G M_AB_ensureCapacityInternal 1 (if k ≤ cap then 0 else cap + max (k - cap) (cap + 2)) 0 [some (.ref a), some (.int (nI k)), none] [] h _
  refine mm_aload_n (pc' := 1) d_AB_ensureCapacityInternal_0 rfl rfl rfl ?_
  refine mm_getfield (pc' := 4) d_AB_ensureCapacityInternal_1 rfl fl_AB_15 hh rfl ?_
  refine mm_alen d_AB_ensureCapacityInternal_4 rfl (Nat.le_of_ble_eq_true rfl) hv rfl ?_
  refine mm_aload_n (pc' := 6) d_AB_ensureCapacityInternal_5 rfl rfl rfl ?_
  refine mm_getfield (pc' := 9) d_AB_ensureCapacityInternal_6 rfl fl_AB_22 hh rfl ?_
  rw [show Int32.ofNat cap = nI cap from rfl]
  refine mm_ishr d_AB_ensureCapacityInternal_9 rfl ?_
  rw [by_sh0]
  refine mm_ist2 (pc' := 11) d_AB_ensureCapacityInternal_10 rfl rfl (Nat.le_of_ble_eq_true rfl) ?_
  refine mm_iload_n (pc' := 12) d_AB_ensureCapacityInternal_11 rfl rfl rfl ?_
  refine mm_iload_n (pc' := 13) d_AB_ensureCapacityInternal_12 rfl rfl rfl ?_
  refine mm_isub (pc' := 14) d_AB_ensureCapacityInternal_13 rfl ?_
  refine mm_if_le (pc' := 17) (tgt := 38) d_AB_ensureCapacityInternal_14 rfl rfl (fun hc => ?_) (fun hc => ?_)
  · have hkc : k ≤ cap := Nat.le_of_not_lt fun q => by
      rw [pk_sub (by omega)] at hc
      exact nI_nle (by omega) (by omega) hc
    exact mm_vret d_AB_ensureCapacityInternal_38 rfl ⟨rfl, Or.inl ⟨hkc, rfl⟩⟩
  · have hkc : cap < k := Nat.lt_of_not_le fun q => hc (by
      by_cases he : k = cap
      · rw [he, pk_sub (Nat.le_refl _), Nat.sub_self]
        decide
      · exact Int32.le_of_lt (pk_sneg (by omega) (by omega)))
    refine mm_aload_n (pc' := 18) d_AB_ensureCapacityInternal_17 rfl rfl rfl ?_
    refine mm_aload_n (pc' := 19) d_AB_ensureCapacityInternal_18 rfl rfl rfl ?_
    refine mm_getfield (pc' := 22) d_AB_ensureCapacityInternal_19 rfl fl_AB_15 hh rfl ?_
    refine mm_aload_n (pc' := 23) d_AB_ensureCapacityInternal_22 rfl rfl rfl ?_
    refine mm_iload_n (pc' := 24) d_AB_ensureCapacityInternal_23 rfl rfl rfl ?_
    refine mm_callU (pc' := 27) (as := [.int (nI k)]) (st := [_, _]) d_AB_ensureCapacityInternal_24 rfl cs_AB_104 hh rfl (sp_AB_newCapacity hh hv hk (by omega) hkc) rfl rfl (Nat.le_of_ble_eq_true rfl) (Nat.le_of_ble_eq_true rfl) (Nat.le_of_ble_eq_true rfl) (Nat.le_of_ble_eq_true rfl) (fun v h1 hq => ?_)
    obtain ⟨rfl, rfl⟩ := hq
    refine mm_aload_n (pc' := 28) d_AB_ensureCapacityInternal_27 rfl rfl rfl ?_
    refine mm_getfield (pc' := 31) d_AB_ensureCapacityInternal_28 rfl fl_AB_22 hh rfl ?_
    refine mm_ishl d_AB_ensureCapacityInternal_31 rfl ?_
    rw [by_sl0]
    rw [if_neg (by omega : ¬ k ≤ cap)]
    refine mm_callS (as := [.ref v, .int (nI (cap + max (k - cap) (cap + 2)))]) (st := [_]) d_AB_ensureCapacityInternal_32 rfl cs_AB_108 (sp_AR_copyOf_aBI hw hv (by omega) (by omega) (by omega) hfit) rfl rfl (Nat.le_of_ble_eq_true rfl) (Nat.le_of_ble_eq_true rfl) (Nat.le_of_ble_eq_true rfl) (Nat.le_refl _) (fun v2 h2 hq => ?_)
    obtain ⟨g, rfl, rfl, hg1, hg2⟩ := hq
    have han := hw.lt hh
    refine mm_putfield d_AB_ensureCapacityInternal_35 rfl pl_AB_ensureCapacityInternal_15 (fun _ => ⟨rfl, rfl⟩) (by rw [mm_newNe han]; exact hh) (Or.inl (by decide)) (Nat.le_of_ble_eq_true rfl) ?_
    exact mm_vret d_AB_ensureCapacityInternal_38 rfl ⟨rfl, Or.inr ⟨hkc, g, rfl, fun j hj => hg1 j (by omega) hj, hg2⟩⟩
end J2
