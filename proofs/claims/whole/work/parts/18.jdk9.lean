theorem d_AC_init_0 : decode prog_27_method_1_code 0 = .ok (.aload_n 0, 1) := by decide +kernel
theorem d_AC_init_1 : decode prog_27_method_1_code 1 = .ok (.invokespecial 1, 3) := by decide +kernel
theorem d_AC_init_4 : decode prog_27_method_1_code 4 = .ok (.return_, 1) := by decide +kernel
theorem d_AL_add_O_0 : decode prog_29_method_25_code 0 = .ok (.aload_n 0, 1) := by decide +kernel
theorem d_AL_add_O_1 : decode prog_29_method_25_code 1 = .ok (.dup, 1) := by decide +kernel
theorem d_AL_add_O_2 : decode prog_29_method_25_code 2 = .ok (.getfield 63, 3) := by decide +kernel
theorem d_AL_add_O_5 : decode prog_29_method_25_code 5 = .ok (.iconst 1, 1) := by decide +kernel
theorem d_AL_add_O_6 : decode prog_29_method_25_code 6 = .ok (.iadd, 1) := by decide +kernel
theorem d_AL_add_O_7 : decode prog_29_method_25_code 7 = .ok (.putfield 63, 3) := by decide +kernel
theorem d_AL_add_O_10 : decode prog_29_method_25_code 10 = .ok (.aload_n 0, 1) := by decide +kernel
theorem d_AL_add_O_11 : decode prog_29_method_25_code 11 = .ok (.aload_n 1, 1) := by decide +kernel
theorem d_AL_add_O_12 : decode prog_29_method_25_code 12 = .ok (.aload_n 0, 1) := by decide +kernel
theorem d_AL_add_O_13 : decode prog_29_method_25_code 13 = .ok (.getfield 9, 3) := by decide +kernel
theorem d_AL_add_O_16 : decode prog_29_method_25_code 16 = .ok (.aload_n 0, 1) := by decide +kernel
theorem d_AL_add_O_17 : decode prog_29_method_25_code 17 = .ok (.getfield 48, 3) := by decide +kernel
theorem d_AL_add_O_20 : decode prog_29_method_25_code 20 = .ok (.invokevirtual 131, 3) := by decide +kernel
theorem d_AL_add_O_23 : decode prog_29_method_25_code 23 = .ok (.iconst 1, 1) := by decide +kernel
theorem d_AL_add_O_24 : decode prog_29_method_25_code 24 = .ok (.ireturn, 1) := by decide +kernel
theorem d_AL_add_OaOI_0 : decode prog_29_method_24_code 0 = .ok (.iload_n 3, 1) := by decide +kernel
theorem d_AL_add_OaOI_1 : decode prog_29_method_24_code 1 = .ok (.aload_n 2, 1) := by decide +kernel
theorem d_AL_add_OaOI_2 : decode prog_29_method_24_code 2 = .ok (.arraylength, 1) := by decide +kernel
theorem d_AL_add_OaOI_3 : decode prog_29_method_24_code 3 = .ok (.if_icmp .ne 8, 3) := by decide +kernel
theorem d_AL_add_OaOI_6 : decode prog_29_method_24_code 6 = .ok (.aload_n 0, 1) := by decide +kernel
theorem d_AL_add_OaOI_7 : decode prog_29_method_24_code 7 = .ok (.invokevirtual 129, 3) := by decide +kernel
theorem d_AL_add_OaOI_10 : decode prog_29_method_24_code 10 = .ok (.astore_n 2, 1) := by decide +kernel
theorem d_AL_add_OaOI_11 : decode prog_29_method_24_code 11 = .ok (.aload_n 2, 1) := by decide +kernel
theorem d_AL_add_OaOI_12 : decode prog_29_method_24_code 12 = .ok (.iload_n 3, 1) := by decide +kernel
theorem d_AL_add_OaOI_13 : decode prog_29_method_24_code 13 = .ok (.aload_n 1, 1) := by decide +kernel
theorem d_AL_add_OaOI_14 : decode prog_29_method_24_code 14 = .ok (.aastore, 1) := by decide +kernel
theorem d_AL_add_OaOI_15 : decode prog_29_method_24_code 15 = .ok (.aload_n 0, 1) := by decide +kernel
theorem d_AL_add_OaOI_16 : decode prog_29_method_24_code 16 = .ok (.iload_n 3, 1) := by decide +kernel
theorem d_AL_add_OaOI_17 : decode prog_29_method_24_code 17 = .ok (.iconst 1, 1) := by decide +kernel
theorem d_AL_add_OaOI_18 : decode prog_29_method_24_code 18 = .ok (.iadd, 1) := by decide +kernel
theorem d_AL_add_OaOI_19 : decode prog_29_method_24_code 19 = .ok (.putfield 48, 3) := by decide +kernel
theorem d_AL_add_OaOI_22 : decode prog_29_method_24_code 22 = .ok (.return_, 1) := by decide +kernel
theorem d_AL_elementData_0 : decode prog_29_method_18_code 0 = .ok (.aload_n 0, 1) := by decide +kernel
theorem d_AL_elementData_1 : decode prog_29_method_18_code 1 = .ok (.getfield 9, 3) := by decide +kernel
theorem d_AL_elementData_4 : decode prog_29_method_18_code 4 = .ok (.iload_n 1, 1) := by decide +kernel
theorem d_AL_elementData_5 : decode prog_29_method_18_code 5 = .ok (.aaload, 1) := by decide +kernel
theorem d_AL_elementData_6 : decode prog_29_method_18_code 6 = .ok (.areturn, 1) := by decide +kernel
theorem d_AL_get_0 : decode prog_29_method_20_code 0 = .ok (.iload_n 1, 1) := by decide +kernel
theorem d_AL_get_1 : decode prog_29_method_20_code 1 = .ok (.aload_n 0, 1) := by decide +kernel
theorem d_AL_get_2 : decode prog_29_method_20_code 2 = .ok (.getfield 48, 3) := by decide +kernel
theorem d_AL_get_5 : decode prog_29_method_20_code 5 = .ok (.invokestatic 118, 3) := by decide +kernel
theorem d_AL_get_8 : decode prog_29_method_20_code 8 = .ok (.pop, 1) := by decide +kernel
theorem d_AL_get_9 : decode prog_29_method_20_code 9 = .ok (.aload_n 0, 1) := by decide +kernel
theorem d_AL_get_10 : decode prog_29_method_20_code 10 = .ok (.iload_n 1, 1) := by decide +kernel
theorem d_AL_get_11 : decode prog_29_method_20_code 11 = .ok (.invokevirtual 123, 3) := by decide +kernel
theorem d_AL_get_14 : decode prog_29_method_20_code 14 = .ok (.areturn, 1) := by decide +kernel
theorem d_AL_grow__0 : decode prog_29_method_7_code 0 = .ok (.aload_n 0, 1) := by decide +kernel
theorem d_AL_grow__1 : decode prog_29_method_7_code 1 = .ok (.aload_n 0, 1) := by decide +kernel
theorem d_AL_grow__2 : decode prog_29_method_7_code 2 = .ok (.getfield 48, 3) := by decide +kernel
theorem d_AL_grow__5 : decode prog_29_method_7_code 5 = .ok (.iconst 1, 1) := by decide +kernel
theorem d_AL_grow__6 : decode prog_29_method_7_code 6 = .ok (.iadd, 1) := by decide +kernel
theorem d_AL_grow__7 : decode prog_29_method_7_code 7 = .ok (.invokevirtual 69, 3) := by decide +kernel
theorem d_AL_grow__10 : decode prog_29_method_7_code 10 = .ok (.areturn, 1) := by decide +kernel
theorem d_AL_grow_I_0 : decode prog_29_method_6_code 0 = .ok (.aload_n 0, 1) := by decide +kernel
theorem d_AL_grow_I_1 : decode prog_29_method_6_code 1 = .ok (.getfield 9, 3) := by decide +kernel
theorem d_AL_grow_I_4 : decode prog_29_method_6_code 4 = .ok (.arraylength, 1) := by decide +kernel
theorem d_AL_grow_I_5 : decode prog_29_method_6_code 5 = .ok (.istore_n 2, 1) := by decide +kernel
theorem d_AL_grow_I_6 : decode prog_29_method_6_code 6 = .ok (.iload_n 2, 1) := by decide +kernel
theorem d_AL_grow_I_7 : decode prog_29_method_6_code 7 = .ok (.ifCond .gt 13, 3) := by decide +kernel
theorem d_AL_grow_I_10 : decode prog_29_method_6_code 10 = .ok (.aload_n 0, 1) := by decide +kernel
theorem d_AL_grow_I_11 : decode prog_29_method_6_code 11 = .ok (.getfield 9, 3) := by decide +kernel
theorem d_AL_grow_I_14 : decode prog_29_method_6_code 14 = .ok (.getstatic 39, 3) := by decide +kernel
theorem d_AL_grow_I_17 : decode prog_29_method_6_code 17 = .ok (.if_acmp .eq 28, 3) := by decide +kernel
theorem d_AL_grow_I_45 : decode prog_29_method_6_code 45 = .ok (.aload_n 0, 1) := by decide +kernel
theorem d_AL_grow_I_46 : decode prog_29_method_6_code 46 = .ok (.bipush 10, 2) := by decide +kernel
theorem d_AL_grow_I_48 : decode prog_29_method_6_code 48 = .ok (.iload_n 1, 1) := by decide +kernel
theorem d_AL_grow_I_49 : decode prog_29_method_6_code 49 = .ok (.invokestatic 79, 3) := by decide +kernel
theorem d_AL_grow_I_52 : decode prog_29_method_6_code 52 = .ok (.anewarray 7, 3) := by decide +kernel
theorem d_AL_grow_I_55 : decode prog_29_method_6_code 55 = .ok (.dup_x1, 1) := by decide +kernel
theorem d_AL_grow_I_56 : decode prog_29_method_6_code 56 = .ok (.putfield 9, 3) := by decide +kernel
theorem d_AL_grow_I_59 : decode prog_29_method_6_code 59 = .ok (.areturn, 1) := by decide +kernel
theorem d_AL_init_0 : decode prog_29_method_2_code 0 = .ok (.aload_n 0, 1) := by decide +kernel
theorem d_AL_init_1 : decode prog_29_method_2_code 1 = .ok (.invokespecial 1, 3) := by decide +kernel
theorem d_AL_init_4 : decode prog_29_method_2_code 4 = .ok (.aload_n 0, 1) := by decide +kernel
theorem d_AL_init_5 : decode prog_29_method_2_code 5 = .ok (.getstatic 39, 3) := by decide +kernel
theorem d_AL_init_8 : decode prog_29_method_2_code 8 = .ok (.putfield 9, 3) := by decide +kernel
theorem d_AL_init_11 : decode prog_29_method_2_code 11 = .ok (.return_, 1) := by decide +kernel
theorem d_AL_size_0 : decode prog_29_method_8_code 0 = .ok (.aload_n 0, 1) := by decide +kernel
theorem d_AL_size_1 : decode prog_29_method_8_code 1 = .ok (.getfield 48, 3) := by decide +kernel
theorem d_AL_size_4 : decode prog_29_method_8_code 4 = .ok (.ireturn, 1) := by decide +kernel
theorem d_AX_init_0 : decode prog_28_method_1_code 0 = .ok (.aload_n 0, 1) := by decide +kernel
theorem d_AX_init_1 : decode prog_28_method_1_code 1 = .ok (.invokespecial 1, 3) := by decide +kernel
theorem d_AX_init_4 : decode prog_28_method_1_code 4 = .ok (.aload_n 0, 1) := by decide +kernel
theorem d_AX_init_5 : decode prog_28_method_1_code 5 = .ok (.iconst 0, 1) := by decide +kernel
theorem d_AX_init_6 : decode prog_28_method_1_code 6 = .ok (.putfield 7, 3) := by decide +kernel
theorem d_AX_init_9 : decode prog_28_method_1_code 9 = .ok (.return_, 1) := by decide +kernel
/-- an ArrayList at a, n elements f in its row v of cap places: none yet, or ten -/
def ls_at (h : mm_H) (a v n : Nat) (mc : Int32) (cap : Nat) (f : Nat → Option Nat) : Prop :=
  h.1 a = some (.inr (2, [.ref v, .int (nI n), .int mc])) ∧ n ≤ cap ∧ ((cap = 0 ∧ v = 17 ∧ h.1 17 = some (.inl (12, 0, .inr (.inr (.inr (.inr (fun _ => none))))))) ∨ (cap = 10 ∧ h.1 v = some (.inl (4, 10, .inr (.inr (.inr (.inr f)))))))
/-- an object that may lie in a row of Objects -/
def ls_ob (h : mm_H) (y : Nat) : Prop := ∃ (ci : Nat) (fs : List Value) (C : String) (T : u_T) (N : Nat), h.1 y = some (.inr (ci, fs)) ∧ mm_Cl[ci]? = some (C, T, N) ∧ (C, "java/lang/Object") ∈ mm_casts
section J9
variable {l : Launch} {G : mm_G} {h : mm_H}
set_option maxHeartbeats 1000000 in
theorem sp_AC_init {a : Nat} : mm_S l G M_AC_init [.ref a] h 0 0 (fun r h' => r = none ∧ h' = h) := by
  refine mm_start rfl (Nat.le_of_ble_eq_true rfl) ?_
  show mm_V l G M_AC_init 0 0 0 [some (.ref a)] [] h _
  refine mm_aload_n (pc' := 1) d_AC_init_0 rfl rfl rfl ?_
  refine mm_objInit (pc' := 4) d_AC_init_1 rfl oi_AC_1 (Nat.le_of_ble_eq_true rfl) (Nat.le_of_ble_eq_true rfl) ?_
  exact mm_vret d_AC_init_4 rfl ⟨rfl, rfl⟩
set_option maxHeartbeats 1000000 in
theorem sp_AX_init {a : Nat} (hh : h.1 a = some (.inr (2, [.null, .int 0, .int 0]))) : mm_S l G M_AX_init [.ref a] h 0 0 (fun r h' => r = none ∧ h' = h) := by
  refine mm_start rfl (Nat.le_of_ble_eq_true rfl) ?_
  show mm_V l G M_AX_init 0 0 0 [some (.ref a)] [] h _
  refine mm_aload_n (pc' := 1) d_AX_init_0 rfl rfl rfl ?_
  refine mm_callI (pc' := 4) (as := []) (st := []) d_AX_init_1 rfl cs_AX_1 rfl (sp_AC_init) rfl rfl (Nat.le_of_ble_eq_true rfl) (Nat.le_of_ble_eq_true rfl) (Nat.zero_le _) (Nat.zero_le _) (fun v h1 hq => ?_)
  obtain ⟨rfl, rfl⟩ := hq
  refine mm_aload_n (pc' := 5) d_AX_init_4 rfl rfl rfl ?_
  refine mm_iconst (v := 0) (pc' := 6) d_AX_init_5 rfl (by decide) ?_
  refine mm_putfield (pc' := 9) d_AX_init_6 rfl pl_AX_init_7 (fun _ => ⟨rfl, rfl⟩) hh (Or.inl (by decide)) (Nat.le_of_ble_eq_true rfl) ?_
  rw [show ([.null, .int 0, .int 0] : List Value).set 2 (.int 0) = [.null, .int 0, .int 0] from rfl, mm_setSame hh]
  exact mm_vret d_AX_init_9 rfl ⟨rfl, rfl⟩
set_option maxHeartbeats 1000000 in
theorem sp_AL_init {a : Nat} (hh : h.1 a = some (.inr (2, [.null, .int 0, .int 0]))) : mm_S l G M_AL_init [.ref a] h 0 0 (fun r h' => r = none ∧ h' = mm_set h a (.inr (2, [.ref 17, .int 0, .int 0]))) := by
  refine mm_start rfl (Nat.le_of_ble_eq_true rfl) ?_
  show mm_V l G M_AL_init 0 0 0 [some (.ref a)] [] h _
  refine mm_aload_n (pc' := 1) d_AL_init_0 rfl rfl rfl ?_
  refine mm_callI (pc' := 4) (as := []) (st := []) d_AL_init_1 rfl cs_AL_1 rfl (sp_AX_init hh) rfl rfl (Nat.le_of_ble_eq_true rfl) (Nat.le_of_ble_eq_true rfl) (Nat.zero_le _) (Nat.zero_le _) (fun v h1 hq => ?_)
  obtain ⟨rfl, rfl⟩ := hq
  refine mm_aload_n (pc' := 5) d_AL_init_4 rfl rfl rfl ?_
  refine mm_getstatic (pc' := 8) d_AL_init_5 rfl gl_AL_39 ?_
  refine mm_putfield (pc' := 11) d_AL_init_8 rfl pl_AL_init_9 (fun _ => ⟨rfl, rfl⟩) hh (Or.inl (by decide)) (Nat.le_of_ble_eq_true rfl) ?_
  exact mm_vret d_AL_init_11 rfl ⟨rfl, rfl⟩
set_option maxHeartbeats 1000000 in
theorem sp_AL_size {a v n cap : Nat} {mc : Int32} {f : Nat → Option Nat} (hb : ls_at h a v n mc cap f) : mm_S l G M_AL_size [.ref a] h 0 0 (fun r h' => r = some (.int (nI n)) ∧ h' = h) := by
  refine mm_start rfl (Nat.le_of_ble_eq_true rfl) ?_
  show mm_V l G M_AL_size 0 0 0 [some (.ref a)] [] h _
  have hh := hb.1
  refine mm_aload_n (pc' := 1) d_AL_size_0 rfl rfl rfl ?_
  refine mm_getfield (pc' := 4) d_AL_size_1 rfl fl_AL_48 hh rfl ?_
  exact mm_iret d_AL_size_4 rfl rfl ⟨rfl, rfl⟩
set_option maxHeartbeats 1000000 in
theorem sp_AL_elementData {a v n cap : Nat} {mc : Int32} {f : Nat → Option Nat} (hb : ls_at h a v n mc cap f) {i y : Nat} (hi : i < n) (hy : f i = some y) : mm_S l G M_AL_elementData [.ref a, .int (nI i)] h 0 0 (fun r h' => r = some (.ref y) ∧ h' = h) := by
  refine mm_start rfl (Nat.le_of_ble_eq_true rfl) ?_
  show mm_V l G M_AL_elementData 0 0 0 [some (.ref a), some (.int (nI i))] [] h _
  have hh := hb.1
  have hv : h.1 v = some (.inl (4, 10, .inr (.inr (.inr (.inr f))))) ∧ n ≤ 10 := by
    obtain ⟨-, hnc, ⟨h0, -⟩ | ⟨h10, hv⟩⟩ := hb
    · omega
    · exact ⟨hv, by omega⟩
  obtain ⟨hv, hn10⟩ := hv
  refine mm_aload_n (pc' := 1) d_AL_elementData_0 rfl rfl rfl ?_
  refine mm_getfield (pc' := 4) d_AL_elementData_1 rfl fl_AL_9 hh rfl ?_
  refine mm_iload_n (pc' := 5) d_AL_elementData_4 rfl rfl rfl ?_
  refine mm_aald (pc' := 6) (t := 4) d_AL_elementData_5 rfl (Nat.le_of_ble_eq_true rfl) rfl hv (vp_in_nI (by omega) (by omega)) ?_
  rw [nI_clamp (by omega), hy]
  exact mm_aret d_AL_elementData_6 rfl (by first | exact Or.inl ⟨_, rfl⟩ | exact Or.inr ⟨_, rfl⟩) (Or.inr ⟨_, rfl⟩) ⟨rfl, rfl⟩
set_option maxHeartbeats 1000000 in
theorem sp_AL_get {a v n cap : Nat} {mc : Int32} {f : Nat → Option Nat} (hb : ls_at h a v n mc cap f) {i y : Nat} (hi : i < n) (hy : f i = some y) : mm_S l G M_AL_get [.ref a, .int (nI i)] h 0 0 (fun r h' => r = some (.ref y) ∧ h' = h) := by
  refine mm_start rfl (Nat.le_of_ble_eq_true rfl) ?_
  show mm_V l G M_AL_get 0 0 0 [some (.ref a), some (.int (nI i))] [] h _
  have hh := hb.1
  have hv : h.1 v = some (.inl (4, 10, .inr (.inr (.inr (.inr f))))) ∧ n ≤ 10 := by
    obtain ⟨-, hnc, ⟨h0, -⟩ | ⟨h10, hv⟩⟩ := hb
    · omega
    · exact ⟨hv, by omega⟩
  obtain ⟨hv, hn10⟩ := hv
  refine mm_iload_n (pc' := 1) d_AL_get_0 rfl rfl rfl ?_
  refine mm_aload_n (pc' := 2) d_AL_get_1 rfl rfl rfl ?_
  refine mm_getfield (pc' := 5) d_AL_get_2 rfl fl_AL_48 hh rfl ?_
  refine mm_callS (pc' := 8) (as := [.int (nI i), .int (nI n)]) (st := []) d_AL_get_5 rfl cs_AL_118 (sp_OS_checkIndex (nI_pos (by omega)) (nI_lt hi (by omega))) rfl rfl (Nat.le_of_ble_eq_true rfl) (Nat.le_of_ble_eq_true rfl) (Nat.zero_le _) (Nat.zero_le _) (fun v h1 hq => ?_)
  obtain ⟨rfl, rfl⟩ := hq
  refine mm_pop (pc' := 9) d_AL_get_8 rfl rfl ?_
  refine mm_aload_n (pc' := 10) d_AL_get_9 rfl rfl rfl ?_
  refine mm_iload_n (pc' := 11) d_AL_get_10 rfl rfl rfl ?_
  refine mm_callV (pc' := 14) (as := [.int (nI i)]) (st := []) d_AL_get_11 rfl cs_AL_123 hh rfl (sp_AL_elementData hb hi hy) rfl rfl (Nat.le_of_ble_eq_true rfl) (Nat.le_of_ble_eq_true rfl) (Nat.zero_le _) (Nat.zero_le _) (fun v h1 hq => ?_)
  obtain ⟨rfl, rfl⟩ := hq
  exact mm_aret d_AL_get_14 rfl (by first | exact Or.inl ⟨_, rfl⟩ | exact Or.inr ⟨_, rfl⟩) (Or.inr ⟨_, rfl⟩) ⟨rfl, rfl⟩
set_option maxHeartbeats 1000000 in
theorem sp_AL_grow_I {a : Nat} {mc : Int32} (hh : h.1 a = some (.inr (2, [.ref 17, .int 0, .int mc]))) (hv : h.1 17 = some (.inl (12, 0, .inr (.inr (.inr (.inr (fun _ => none))))))) (hw : mm_wf h) : mm_S l G M_AL_grow_I [.ref a, .int 1] h 1 10 (fun r h' => r = some (.ref h.2) ∧ h' = mm_set (mm_new h (.inl (4, 10, .inr (.inr (.inr (.inr (fun _ => none))))))) a (.inr (2, [.ref h.2, .int 0, .int mc]))) := by
  refine mm_start rfl (Nat.le_of_ble_eq_true rfl) ?_
  show mm_V l G M_AL_grow_I 1 10 0 [some (.ref a), some (.int 1), none, none] [] h _
  refine mm_aload_n (pc' := 1) d_AL_grow_I_0 rfl rfl rfl ?_
  refine mm_getfield (pc' := 4) d_AL_grow_I_1 rfl fl_AL_9 hh rfl ?_
  refine mm_alen (pc' := 5) d_AL_grow_I_4 rfl (Nat.le_of_ble_eq_true rfl) hv rfl ?_
  refine mm_ist2 (pc' := 6) d_AL_grow_I_5 rfl rfl (Nat.le_of_ble_eq_true rfl) ?_
  refine mm_iload_n (pc' := 7) d_AL_grow_I_6 rfl rfl rfl ?_
  refine mm_if_gt (pc' := 10) (tgt := 20) d_AL_grow_I_7 rfl rfl (fun q => absurd q (by decide)) (fun _ => ?_)
  refine mm_aload_n (pc' := 11) d_AL_grow_I_10 rfl rfl rfl ?_
  refine mm_getfield (pc' := 14) d_AL_grow_I_11 rfl fl_AL_9 hh rfl ?_
  refine mm_getstatic (pc' := 17) d_AL_grow_I_14 rfl gl_AL_39 ?_
  refine mm_acmp_eqT (tgt := 45) d_AL_grow_I_17 rfl ?_
  refine mm_aload_n (pc' := 46) d_AL_grow_I_45 rfl rfl rfl ?_
  refine mm_bipush (v := 10) (pc' := 48) d_AL_grow_I_46 rfl (by decide) ?_
  refine mm_iload_n (pc' := 49) d_AL_grow_I_48 rfl rfl rfl ?_
  refine mm_max (pc' := 52) d_AL_grow_I_49 rfl cs_AL_79 (Nat.le_of_ble_eq_true rfl) (Nat.le_of_ble_eq_true rfl) ?_
  rw [show (if (10 : Int32) < 1 then (1 : Int32) else 10) = 10 from by decide]
  refine mm_anewarr (pc' := 55) (t := 4) (N := 10) d_AL_grow_I_52 rfl (Nat.le_of_ble_eq_true rfl) rfl cl_AL_7 (by decide) (by decide) (by decide) (by decide) (Nat.le_of_ble_eq_true rfl) (Nat.le_of_ble_eq_true rfl) ?_
  refine mm_dup_x1 (pc' := 56) d_AL_grow_I_55 rfl rfl rfl ?_
  refine mm_putfield (pc' := 59) d_AL_grow_I_56 rfl pl_AL_grow_I_9 (fun _ => ⟨rfl, rfl⟩) (by rw [mm_newNe (hw.lt hh)]; exact hh) (Or.inl (by decide)) (Nat.le_of_ble_eq_true rfl) ?_
  exact mm_aret d_AL_grow_I_59 rfl (by first | exact Or.inl ⟨_, rfl⟩ | exact Or.inr ⟨_, rfl⟩) (Or.inr ⟨_, rfl⟩) ⟨rfl, rfl⟩
set_option maxHeartbeats 1000000 in
theorem sp_AL_grow_ {a : Nat} {mc : Int32} (hh : h.1 a = some (.inr (2, [.ref 17, .int 0, .int mc]))) (hv : h.1 17 = some (.inl (12, 0, .inr (.inr (.inr (.inr (fun _ => none))))))) (hw : mm_wf h) : mm_S l G M_AL_grow_ [.ref a] h 1 10 (fun r h' => r = some (.ref h.2) ∧ h' = mm_set (mm_new h (.inl (4, 10, .inr (.inr (.inr (.inr (fun _ => none))))))) a (.inr (2, [.ref h.2, .int 0, .int mc]))) := by
  refine mm_start rfl (Nat.le_of_ble_eq_true rfl) ?_
  show mm_V l G M_AL_grow_ 1 10 0 [some (.ref a)] [] h _
  refine mm_aload_n (pc' := 1) d_AL_grow__0 rfl rfl rfl ?_
  refine mm_aload_n (pc' := 2) d_AL_grow__1 rfl rfl rfl ?_
  refine mm_getfield (pc' := 5) d_AL_grow__2 rfl fl_AL_48 hh rfl ?_
  refine mm_iconst (v := 1) (pc' := 6) d_AL_grow__5 rfl (by decide) ?_
  refine mm_iadd (pc' := 7) d_AL_grow__6 rfl ?_
  rw [show (0 : Int32) + 1 = 1 from by decide]
  refine mm_callV (pc' := 10) (as := [.int 1]) (st := []) d_AL_grow__7 rfl cs_AL_69 hh rfl (sp_AL_grow_I hh hv hw) rfl rfl (Nat.le_of_ble_eq_true rfl) (Nat.le_of_ble_eq_true rfl) (Nat.le_of_ble_eq_true rfl) (Nat.le_of_ble_eq_true rfl) (fun v h1 hq => ?_)
  obtain ⟨rfl, hqe⟩ := hq
  exact mm_aret d_AL_grow__10 rfl (by first | exact Or.inl ⟨_, rfl⟩ | exact Or.inr ⟨_, rfl⟩) (Or.inr ⟨_, rfl⟩) ⟨rfl, hqe⟩
set_option maxHeartbeats 1000000 in
theorem sp_AL_add_OaOI (hw : mm_wf h) {a v n cap : Nat} {mc : Int32} {f : Nat → Option Nat} (hb : ls_at h a v n mc cap f) {y : Nat} (hy : ls_ob h y) (hn : n < 10) : mm_S l G M_AL_add_OaOI [.ref a, .ref y, .ref v, .int (nI n)] h 1 (if cap = 0 then 10 else 0) (fun r h' => r = none ∧ ∃ v' f', ls_at h' a v' (n + 1) mc 10 f' ∧ bu_fr h h' a v v' ∧ (∀ j, j < n → f' j = f j) ∧ f' n = some y) := by
  refine mm_start rfl (Nat.le_of_ble_eq_true rfl) ?_
  show mm_V l G M_AL_add_OaOI 1 (if cap = 0 then 10 else 0) 0 [some (.ref a), some (.ref y), some (.ref v), some (.int (nI n))] [] h _
  have hh := hb.1
  obtain ⟨ci, fs, C, T, N, hyo, hcl, hca⟩ := hy
  obtain ⟨-, hnc, ⟨h0, hv17, hv⟩ | ⟨h10, hv⟩⟩ := id hb
  · subst h0
    subst hv17
    have hn0 : n = 0 := by omega
    subst hn0
    rw [if_pos rfl]
    refine mm_iload_n (pc' := 1) d_AL_add_OaOI_0 rfl rfl rfl ?_
    refine mm_aload_n (pc' := 2) d_AL_add_OaOI_1 rfl rfl rfl ?_
    refine mm_alen (pc' := 3) d_AL_add_OaOI_2 rfl (Nat.le_of_ble_eq_true rfl) hv rfl ?_
    refine mm_icmp_ne (pc' := 6) (tgt := 11) d_AL_add_OaOI_3 rfl rfl (fun q => absurd rfl q) (fun _ => ?_)
    refine mm_aload_n (pc' := 7) d_AL_add_OaOI_6 rfl rfl rfl ?_
    refine mm_callV (pc' := 10) (as := []) (st := []) d_AL_add_OaOI_7 rfl cs_AL_129 hh rfl (sp_AL_grow_ hh hv hw) rfl rfl (Nat.le_of_ble_eq_true rfl) (Nat.le_of_ble_eq_true rfl) (Nat.le_of_ble_eq_true rfl) (Nat.le_of_ble_eq_true rfl) (fun v h1 hq => ?_)
    obtain ⟨rfl, rfl⟩ := hq
    refine mm_ast2 (pc' := 11) d_AL_add_OaOI_10 rfl rfl (Nat.le_of_ble_eq_true rfl) ?_
    have hva : h.2 ≠ a := fun q => hw.lt hh q.symm
    have hya : y ≠ h.2 := fun q => hw.lt hyo q
    have hnewv : (mm_set (mm_new h (.inl (4, 10, .inr (.inr (.inr (.inr (fun _ => none))))))) a (.inr (2, [.ref h.2, .int 0, .int mc]))).1 h.2 = some (.inl (4, 10, .inr (.inr (.inr (.inr (fun _ => none)))))) := by rw [mm_setNe hva, mm_newSelf]
    have hyo2 : ∃ fs2, (mm_set (mm_new h (.inl (4, 10, .inr (.inr (.inr (.inr (fun _ => none))))))) a (.inr (2, [.ref h.2, .int 0, .int mc]))).1 y = some (.inr (ci, fs2)) := by
      by_cases hyy : y = a
      · subst hyy
        rw [hh] at hyo
        cases hyo
        exact ⟨_, mm_setSelf⟩
      · exact ⟨fs, by rw [mm_setNe hyy, mm_newNe hya]; exact hyo⟩
    obtain ⟨fs2, hyo2⟩ := hyo2
    refine mm_aload_n (pc' := 12) d_AL_add_OaOI_11 rfl rfl rfl ?_
    refine mm_iload_n (pc' := 13) d_AL_add_OaOI_12 rfl rfl rfl ?_
    refine mm_aload_n (pc' := 14) d_AL_add_OaOI_13 rfl rfl rfl ?_
    refine mm_aast (pc' := 15) (t := 4) d_AL_add_OaOI_14 rfl (Nat.le_of_ble_eq_true rfl) rfl hnewv (vp_in_nI (by omega) (by omega)) hyo2 hcl (Or.inr hca) ?_
    rw [nI_clamp (by omega)]
    refine mm_aload_n (pc' := 16) d_AL_add_OaOI_15 rfl rfl rfl ?_
    refine mm_iload_n (pc' := 17) d_AL_add_OaOI_16 rfl rfl rfl ?_
    refine mm_iconst (v := 1) (pc' := 18) d_AL_add_OaOI_17 rfl (by decide) ?_
    refine mm_iadd (pc' := 19) d_AL_add_OaOI_18 rfl ?_
    rw [nI_1]
    refine mm_putfield (pc' := 22) d_AL_add_OaOI_19 rfl pl_AL_add_OaOI_48 (fun _ => ⟨rfl, rfl⟩) (by rw [mm_setNe hva.symm]; exact mm_setSelf) (Or.inl (by decide)) (Nat.le_of_ble_eq_true rfl) ?_
    refine mm_vret d_AL_add_OaOI_22 rfl ⟨rfl, h.2, va_up (fun _ => none) 0 (some y), ⟨mm_setSelf, by decide, Or.inr ⟨rfl, ?_⟩⟩, ⟨?_, Nat.le_succ _, Or.inr (Nat.le_refl _), fun b h1 h2 h3 => ?_⟩, fun j hj => absurd hj (by omega), va_up_self _ _ _⟩
    · rw [mm_setNe hva, mm_setSelf]
    · have w1 : mm_wf (mm_set (mm_new h (.inl (4, 10, .inr (.inr (.inr (.inr (fun _ => none))))))) a (.inr (2, [.ref h.2, .int 0, .int mc]))) := hw.new.set (e0 := .inr (2, [.ref 17, .int 0, .int mc])) (by rw [mm_newNe hva.symm]; exact hh)
      exact (w1.set hnewv).set (e0 := .inr (2, [.ref h.2, .int 0, .int mc])) (by rw [mm_setNe hva.symm]; exact mm_setSelf)
    · rw [mm_setNe h1, mm_setNe (by omega), mm_setNe h1, mm_newNe (by omega)]
  · subst h10
    refine mm_iload_n (pc' := 1) d_AL_add_OaOI_0 rfl rfl rfl ?_
    refine mm_aload_n (pc' := 2) d_AL_add_OaOI_1 rfl rfl rfl ?_
    refine mm_alen (pc' := 3) d_AL_add_OaOI_2 rfl (Nat.le_of_ble_eq_true rfl) hv rfl ?_
    refine mm_icmp_ne (pc' := 6) (tgt := 11) d_AL_add_OaOI_3 rfl rfl (fun _ => ?_) (fun q => absurd q (fun q => absurd ((nI_eq (b := 10) (by omega) (by omega)).mp q) (by omega)))
    have hva := mm_oi hh hv
    refine mm_aload_n (pc' := 12) d_AL_add_OaOI_11 rfl rfl rfl ?_
    refine mm_iload_n (pc' := 13) d_AL_add_OaOI_12 rfl rfl rfl ?_
    refine mm_aload_n (pc' := 14) d_AL_add_OaOI_13 rfl rfl rfl ?_
    refine mm_aast (pc' := 15) (t := 4) d_AL_add_OaOI_14 rfl (Nat.le_of_ble_eq_true rfl) rfl hv (vp_in_nI (by omega) (by omega)) hyo hcl (Or.inr hca) ?_
    rw [nI_clamp (by omega)]
    refine mm_aload_n (pc' := 16) d_AL_add_OaOI_15 rfl rfl rfl ?_
    refine mm_iload_n (pc' := 17) d_AL_add_OaOI_16 rfl rfl rfl ?_
    refine mm_iconst (v := 1) (pc' := 18) d_AL_add_OaOI_17 rfl (by decide) ?_
    refine mm_iadd (pc' := 19) d_AL_add_OaOI_18 rfl ?_
    rw [nI_1]
    refine mm_putfield (pc' := 22) d_AL_add_OaOI_19 rfl pl_AL_add_OaOI_48 (fun _ => ⟨rfl, rfl⟩) (by rw [mm_setNe hva.symm]; exact hh) (Or.inl (by decide)) (Nat.le_of_ble_eq_true rfl) ?_
    refine mm_vret d_AL_add_OaOI_22 rfl ⟨rfl, v, va_up f n (some y), ⟨mm_setSelf, by omega, Or.inr ⟨rfl, by rw [mm_setNe hva, mm_setSelf]⟩⟩, ⟨(hw.set hv).set (e0 := .inr (2, [.ref v, .int (nI n), .int mc])) (by rw [mm_setNe hva.symm]; exact hh), Nat.le_refl _, Or.inl rfl, fun b h1 h2 h3 => by rw [mm_setNe h1, mm_setNe h2]⟩, fun j hj => va_up_ne _ _ (by omega), va_up_self _ _ _⟩
set_option maxHeartbeats 1000000 in
theorem sp_AL_add_O (hw : mm_wf h) {a v n cap : Nat} {mc : Int32} {f : Nat → Option Nat} (hb : ls_at h a v n mc cap f) {y : Nat} (hy : ls_ob h y) (hn : n < 10) : mm_S l G M_AL_add_O [.ref a, .ref y] h 1 (if cap = 0 then 10 else 0) (fun r h' => r = some (.int 1) ∧ ∃ v' f', ls_at h' a v' (n + 1) (mc + 1) 10 f' ∧ bu_fr h h' a v v' ∧ (∀ j, j < n → f' j = f j) ∧ f' n = some y) := by
  refine mm_start rfl (Nat.le_of_ble_eq_true rfl) ?_
  show mm_V l G M_AL_add_O 1 (if cap = 0 then 10 else 0) 0 [some (.ref a), some (.ref y)] [] h _
  have hh := hb.1
  refine mm_aload_n (pc' := 1) d_AL_add_O_0 rfl rfl rfl ?_
  refine mm_dup (pc' := 2) d_AL_add_O_1 rfl rfl ?_
  refine mm_getfield (pc' := 5) d_AL_add_O_2 rfl fl_AL_63 hh rfl ?_
  refine mm_iconst (v := 1) (pc' := 6) d_AL_add_O_5 rfl (by decide) ?_
  refine mm_iadd (pc' := 7) d_AL_add_O_6 rfl ?_
  refine mm_putfield (pc' := 10) d_AL_add_O_7 rfl pl_AL_add_O_63 (fun _ => ⟨rfl, rfl⟩) hh (Or.inl (by decide)) (Nat.le_of_ble_eq_true rfl) ?_
  have hw1 := hw.set (e := .inr (2, ([.ref v, .int (nI n), .int mc] : List Value).set 2 (.int (mc + 1)))) hh
  have hb1 : ls_at (mm_set h a (.inr (2, ([.ref v, .int (nI n), .int mc] : List Value).set 2 (.int (mc + 1))))) a v n (mc + 1) cap f := by
    refine ⟨mm_setSelf, hb.2.1, ?_⟩
    rcases hb.2.2 with ⟨h0, h1, h2⟩ | ⟨h0, h1⟩
    · exact Or.inl ⟨h0, h1, by rw [mm_setNe (mm_oi hh h2)]; exact h2⟩
    · exact Or.inr ⟨h0, by rw [mm_setNe (mm_oi hh h1)]; exact h1⟩
  have hy1 : ls_ob (mm_set h a (.inr (2, ([.ref v, .int (nI n), .int mc] : List Value).set 2 (.int (mc + 1))))) y := by
    obtain ⟨ci, fs, C, T, N, hyo, hcl, hca⟩ := hy
    by_cases hya : y = a
    · subst hya
      rw [hh] at hyo
      cases hyo
      exact ⟨2, _, C, T, N, mm_setSelf, hcl, hca⟩
    · exact ⟨ci, fs, C, T, N, by rw [mm_setNe hya]; exact hyo, hcl, hca⟩
  refine mm_aload_n (pc' := 11) d_AL_add_O_10 rfl rfl rfl ?_
  refine mm_aload_n (pc' := 12) d_AL_add_O_11 rfl rfl rfl ?_
  refine mm_aload_n (pc' := 13) d_AL_add_O_12 rfl rfl rfl ?_
  refine mm_getfield (pc' := 16) d_AL_add_O_13 rfl fl_AL_9 mm_setSelf rfl ?_
  refine mm_aload_n (pc' := 17) d_AL_add_O_16 rfl rfl rfl ?_
  refine mm_getfield (pc' := 20) d_AL_add_O_17 rfl fl_AL_48 mm_setSelf rfl ?_
  refine mm_callV (pc' := 23) (as := [.ref y, .ref v, .int (nI n)]) (st := []) d_AL_add_O_20 rfl cs_AL_131 mm_setSelf rfl (sp_AL_add_OaOI hw1 hb1 hy1 hn) rfl rfl (Nat.le_of_ble_eq_true rfl) (Nat.le_of_ble_eq_true rfl) (Nat.le_refl _) (Nat.le_refl _) (fun r1 h1 hq => ?_)
  obtain ⟨rfl, v', f', q1, q2, q3⟩ := hq
  refine mm_iconst (v := 1) (pc' := 24) d_AL_add_O_23 rfl (by decide) ?_
  exact mm_iret d_AL_add_O_24 rfl rfl ⟨rfl, v', f', q1, (bu_fr.set1 hw hh).tr q2, q3⟩
end J9
