theorem d_AB_append_C_0 : decode prog_16_method_31_code 0 = .ok (.aload_n 0, 1) := by decide +kernel
theorem d_AB_append_C_1 : decode prog_16_method_31_code 1 = .ok (.aload_n 0, 1) := by decide +kernel
theorem d_AB_append_C_2 : decode prog_16_method_31_code 2 = .ok (.getfield 79, 3) := by decide +kernel
theorem d_AB_append_C_5 : decode prog_16_method_31_code 5 = .ok (.iconst 1, 1) := by decide +kernel
theorem d_AB_append_C_6 : decode prog_16_method_31_code 6 = .ok (.iadd, 1) := by decide +kernel
theorem d_AB_append_C_7 : decode prog_16_method_31_code 7 = .ok (.invokevirtual 100, 3) := by decide +kernel
theorem d_AB_append_C_10 : decode prog_16_method_31_code 10 = .ok (.aload_n 0, 1) := by decide +kernel
theorem d_AB_append_C_11 : decode prog_16_method_31_code 11 = .ok (.invokevirtual 83, 3) := by decide +kernel
theorem d_AB_append_C_14 : decode prog_16_method_31_code 14 = .ok (.ifCond .eq 31, 3) := by decide +kernel
theorem d_AB_append_C_17 : decode prog_16_method_31_code 17 = .ok (.iload_n 1, 1) := by decide +kernel
theorem d_AB_append_C_18 : decode prog_16_method_31_code 18 = .ok (.invokestatic 191, 3) := by decide +kernel
theorem d_AB_append_C_21 : decode prog_16_method_31_code 21 = .ok (.ifCond .eq 24, 3) := by decide +kernel
theorem d_AB_append_C_24 : decode prog_16_method_31_code 24 = .ok (.aload_n 0, 1) := by decide +kernel
theorem d_AB_append_C_25 : decode prog_16_method_31_code 25 = .ok (.getfield 15, 3) := by decide +kernel
theorem d_AB_append_C_28 : decode prog_16_method_31_code 28 = .ok (.aload_n 0, 1) := by decide +kernel
theorem d_AB_append_C_29 : decode prog_16_method_31_code 29 = .ok (.dup, 1) := by decide +kernel
theorem d_AB_append_C_30 : decode prog_16_method_31_code 30 = .ok (.getfield 79, 3) := by decide +kernel
theorem d_AB_append_C_33 : decode prog_16_method_31_code 33 = .ok (.dup_x1, 1) := by decide +kernel
theorem d_AB_append_C_34 : decode prog_16_method_31_code 34 = .ok (.iconst 1, 1) := by decide +kernel
theorem d_AB_append_C_35 : decode prog_16_method_31_code 35 = .ok (.iadd, 1) := by decide +kernel
theorem d_AB_append_C_36 : decode prog_16_method_31_code 36 = .ok (.putfield 79, 3) := by decide +kernel
theorem d_AB_append_C_39 : decode prog_16_method_31_code 39 = .ok (.iload_n 1, 1) := by decide +kernel
theorem d_AB_append_C_40 : decode prog_16_method_31_code 40 = .ok (.i2b, 1) := by decide +kernel
theorem d_AB_append_C_41 : decode prog_16_method_31_code 41 = .ok (.bastore, 1) := by decide +kernel
theorem d_AB_append_C_42 : decode prog_16_method_31_code 42 = .ok (.goto 33, 3) := by decide +kernel
theorem d_AB_append_C_75 : decode prog_16_method_31_code 75 = .ok (.aload_n 0, 1) := by decide +kernel
theorem d_AB_append_C_76 : decode prog_16_method_31_code 76 = .ok (.areturn, 1) := by decide +kernel
theorem d_AB_charAt_0 : decode prog_16_method_14_code 0 = .ok (.aload_n 0, 1) := by decide +kernel
theorem d_AB_charAt_1 : decode prog_16_method_14_code 1 = .ok (.getfield 22, 3) := by decide +kernel
theorem d_AB_charAt_4 : decode prog_16_method_14_code 4 = .ok (.istore_n 2, 1) := by decide +kernel
theorem d_AB_charAt_5 : decode prog_16_method_14_code 5 = .ok (.aload_n 0, 1) := by decide +kernel
theorem d_AB_charAt_6 : decode prog_16_method_14_code 6 = .ok (.getfield 15, 3) := by decide +kernel
theorem d_AB_charAt_9 : decode prog_16_method_14_code 9 = .ok (.astore_n 3, 1) := by decide +kernel
theorem d_AB_charAt_10 : decode prog_16_method_14_code 10 = .ok (.aload_n 0, 1) := by decide +kernel
theorem d_AB_charAt_11 : decode prog_16_method_14_code 11 = .ok (.getfield 79, 3) := by decide +kernel
theorem d_AB_charAt_14 : decode prog_16_method_14_code 14 = .ok (.aload_n 3, 1) := by decide +kernel
theorem d_AB_charAt_15 : decode prog_16_method_14_code 15 = .ok (.arraylength, 1) := by decide +kernel
theorem d_AB_charAt_16 : decode prog_16_method_14_code 16 = .ok (.iload_n 2, 1) := by decide +kernel
theorem d_AB_charAt_17 : decode prog_16_method_14_code 17 = .ok (.ishr, 1) := by decide +kernel
theorem d_AB_charAt_18 : decode prog_16_method_14_code 18 = .ok (.invokestatic 138, 3) := by decide +kernel
theorem d_AB_charAt_21 : decode prog_16_method_14_code 21 = .ok (.istore 4, 2) := by decide +kernel
theorem d_AB_charAt_23 : decode prog_16_method_14_code 23 = .ok (.iload_n 1, 1) := by decide +kernel
theorem d_AB_charAt_24 : decode prog_16_method_14_code 24 = .ok (.iload 4, 2) := by decide +kernel
theorem d_AB_charAt_26 : decode prog_16_method_14_code 26 = .ok (.invokestatic 144, 3) := by decide +kernel
theorem d_AB_charAt_29 : decode prog_16_method_14_code 29 = .ok (.iload_n 2, 1) := by decide +kernel
theorem d_AB_charAt_30 : decode prog_16_method_14_code 30 = .ok (.ifCond .ne 12, 3) := by decide +kernel
theorem d_AB_charAt_33 : decode prog_16_method_14_code 33 = .ok (.aload_n 3, 1) := by decide +kernel
theorem d_AB_charAt_34 : decode prog_16_method_14_code 34 = .ok (.iload_n 1, 1) := by decide +kernel
theorem d_AB_charAt_35 : decode prog_16_method_14_code 35 = .ok (.baload, 1) := by decide +kernel
theorem d_AB_charAt_36 : decode prog_16_method_14_code 36 = .ok (.sipush 255, 3) := by decide +kernel
theorem d_AB_charAt_39 : decode prog_16_method_14_code 39 = .ok (.iand, 1) := by decide +kernel
theorem d_AB_charAt_40 : decode prog_16_method_14_code 40 = .ok (.i2c, 1) := by decide +kernel
theorem d_AB_charAt_41 : decode prog_16_method_14_code 41 = .ok (.ireturn, 1) := by decide +kernel
theorem d_AB_init_0 : decode prog_16_method_2_code 0 = .ok (.aload_n 0, 1) := by decide +kernel
theorem d_AB_init_1 : decode prog_16_method_2_code 1 = .ok (.invokespecial 3, 3) := by decide +kernel
theorem d_AB_init_4 : decode prog_16_method_2_code 4 = .ok (.getstatic 18, 3) := by decide +kernel
theorem d_AB_init_7 : decode prog_16_method_2_code 7 = .ok (.ifCond .eq 18, 3) := by decide +kernel
theorem d_AB_init_10 : decode prog_16_method_2_code 10 = .ok (.aload_n 0, 1) := by decide +kernel
theorem d_AB_init_11 : decode prog_16_method_2_code 11 = .ok (.iload_n 1, 1) := by decide +kernel
theorem d_AB_init_12 : decode prog_16_method_2_code 12 = .ok (.newarray .byte, 2) := by decide +kernel
theorem d_AB_init_14 : decode prog_16_method_2_code 14 = .ok (.putfield 15, 3) := by decide +kernel
theorem d_AB_init_17 : decode prog_16_method_2_code 17 = .ok (.aload_n 0, 1) := by decide +kernel
theorem d_AB_init_18 : decode prog_16_method_2_code 18 = .ok (.iconst 0, 1) := by decide +kernel
theorem d_AB_init_19 : decode prog_16_method_2_code 19 = .ok (.putfield 22, 3) := by decide +kernel
theorem d_AB_init_22 : decode prog_16_method_2_code 22 = .ok (.goto 16, 3) := by decide +kernel
theorem d_AB_init_38 : decode prog_16_method_2_code 38 = .ok (.return_, 1) := by decide +kernel
theorem d_AB_setLength_0 : decode prog_16_method_13_code 0 = .ok (.iload_n 1, 1) := by decide +kernel
theorem d_AB_setLength_1 : decode prog_16_method_13_code 1 = .ok (.ifCond .ge 12, 3) := by decide +kernel
theorem d_AB_setLength_13 : decode prog_16_method_13_code 13 = .ok (.aload_n 0, 1) := by decide +kernel
theorem d_AB_setLength_14 : decode prog_16_method_13_code 14 = .ok (.iload_n 1, 1) := by decide +kernel
theorem d_AB_setLength_15 : decode prog_16_method_13_code 15 = .ok (.invokevirtual 100, 3) := by decide +kernel
theorem d_AB_setLength_18 : decode prog_16_method_13_code 18 = .ok (.aload_n 0, 1) := by decide +kernel
theorem d_AB_setLength_19 : decode prog_16_method_13_code 19 = .ok (.getfield 79, 3) := by decide +kernel
theorem d_AB_setLength_22 : decode prog_16_method_13_code 22 = .ok (.iload_n 1, 1) := by decide +kernel
theorem d_AB_setLength_23 : decode prog_16_method_13_code 23 = .ok (.if_icmp .ge 40, 3) := by decide +kernel
theorem d_AB_setLength_63 : decode prog_16_method_13_code 63 = .ok (.aload_n 0, 1) := by decide +kernel
theorem d_AB_setLength_64 : decode prog_16_method_13_code 64 = .ok (.getfield 79, 3) := by decide +kernel
theorem d_AB_setLength_67 : decode prog_16_method_13_code 67 = .ok (.iload_n 1, 1) := by decide +kernel
theorem d_AB_setLength_68 : decode prog_16_method_13_code 68 = .ok (.if_icmp .le 8, 3) := by decide +kernel
theorem d_AB_setLength_71 : decode prog_16_method_13_code 71 = .ok (.aload_n 0, 1) := by decide +kernel
theorem d_AB_setLength_72 : decode prog_16_method_13_code 72 = .ok (.iconst 1, 1) := by decide +kernel
theorem d_AB_setLength_73 : decode prog_16_method_13_code 73 = .ok (.putfield 73, 3) := by decide +kernel
theorem d_AB_setLength_76 : decode prog_16_method_13_code 76 = .ok (.aload_n 0, 1) := by decide +kernel
theorem d_AB_setLength_77 : decode prog_16_method_13_code 77 = .ok (.iload_n 1, 1) := by decide +kernel
theorem d_AB_setLength_78 : decode prog_16_method_13_code 78 = .ok (.putfield 79, 3) := by decide +kernel
theorem d_AB_setLength_81 : decode prog_16_method_13_code 81 = .ok (.return_, 1) := by decide +kernel
theorem d_SB_append_C_0 : decode prog_23_method_14_code 0 = .ok (.aload_n 0, 1) := by decide +kernel
theorem d_SB_append_C_1 : decode prog_23_method_14_code 1 = .ok (.iload_n 1, 1) := by decide +kernel
theorem d_SB_append_C_2 : decode prog_23_method_14_code 2 = .ok (.invokespecial 50, 3) := by decide +kernel
theorem d_SB_append_C_5 : decode prog_23_method_14_code 5 = .ok (.pop, 1) := by decide +kernel
theorem d_SB_append_C_6 : decode prog_23_method_14_code 6 = .ok (.aload_n 0, 1) := by decide +kernel
theorem d_SB_append_C_7 : decode prog_23_method_14_code 7 = .ok (.areturn, 1) := by decide +kernel
theorem d_SB_charAt_0 : decode prog_23_method_88_code 0 = .ok (.aload_n 0, 1) := by decide +kernel
theorem d_SB_charAt_1 : decode prog_23_method_88_code 1 = .ok (.iload_n 1, 1) := by decide +kernel
theorem d_SB_charAt_2 : decode prog_23_method_88_code 2 = .ok (.invokespecial 329, 3) := by decide +kernel
theorem d_SB_charAt_5 : decode prog_23_method_88_code 5 = .ok (.ireturn, 1) := by decide +kernel
theorem d_SB_init_0 : decode prog_23_method_1_code 0 = .ok (.aload_n 0, 1) := by decide +kernel
theorem d_SB_init_1 : decode prog_23_method_1_code 1 = .ok (.bipush 16, 2) := by decide +kernel
theorem d_SB_init_3 : decode prog_23_method_1_code 3 = .ok (.invokespecial 1, 3) := by decide +kernel
theorem d_SB_init_6 : decode prog_23_method_1_code 6 = .ok (.return_, 1) := by decide +kernel
theorem d_SB_setLength_0 : decode prog_23_method_89_code 0 = .ok (.aload_n 0, 1) := by decide +kernel
theorem d_SB_setLength_1 : decode prog_23_method_89_code 1 = .ok (.iload_n 1, 1) := by decide +kernel
theorem d_SB_setLength_2 : decode prog_23_method_89_code 2 = .ok (.invokespecial 333, 3) := by decide +kernel
theorem d_SB_setLength_5 : decode prog_23_method_89_code 5 = .ok (.return_, 1) := by decide +kernel
theorem mm_set2 {h : mm_H} {a : Nat} {e e' : mm_E} : mm_set (mm_set h a e) a e' = mm_set h a e' := by
  apply Prod.ext
  · funext b
    show (if b = a then some e' else if b = a then some e else h.1 b) = if b = a then some e' else h.1 b
    by_cases hb : b = a <;> simp [hb]
  · rfl
/-- a contract with less said of the end -/
theorem mm_post {l : Launch} {G : mm_G} {M : mm_M} {as : List Value} {h : mm_H} {kc ks : Nat} {Q Q' : Option Value → mm_H → Prop} (k : mm_S l G M as h kc ks Q) (hq : ∀ r h', Q r h' → Q' r h') : mm_S l G M as h kc ks Q' := by
  intro p e ha hc hk s m args below hf hap hP hK
  obtain ⟨n, o, h1, h2, h3, ⟨⟨v, h', q1, q2, q3⟩, q4⟩, q5⟩ := k p e ha hc hk s m args below hf hap hP hK
  exact ⟨n, o, h1, h2, h3, ⟨⟨v, h', q1, hq v h' q2, q3⟩, q4⟩, q5⟩
theorem by_idem (x : Nat) : (by_b x).toInt8.toInt32 = by_b x := by
  rw [← vp_nar_byte]
  exact pk_vb (nI x)
/-- a StringBuilder at a, its row of cap bytes at v, n of them used -/
def bu_at (h : mm_H) (a v cap n : Nat) (ml : Int32) (f : Nat → Int32) : Prop :=
  h.1 a = some (.inr (1, [.ref v, .int 0, .int ml, .int (nI n)])) ∧ h.1 v = some (.inl (1, cap, .inl f)) ∧ n ≤ cap ∧ cap ≤ 300 ∧ ∀ j, j < cap → fits .byte (.int (f j)) = true
/-- of what was there nothing but a and its row v has changed; its row is now v' -/
def bu_fr (h h' : mm_H) (a v v' : Nat) : Prop := mm_wf h' ∧ h.2 ≤ h'.2 ∧ (v' = v ∨ h.2 ≤ v') ∧ ∀ b, b ≠ a → b ≠ v → b < h.2 → h'.1 b = h.1 b
theorem mm_oi {h : mm_H} {a v : Nat} {x : Nat × List Value} {y : Nat × vp_A} (ha : h.1 a = some (.inr x)) (hv : h.1 v = some (.inl y)) : v ≠ a := fun q => by
  rw [q, ha] at hv
  cases hv
theorem bu_fr.rf {h : mm_H} {a v : Nat} (hw : mm_wf h) : bu_fr h h a v v := ⟨hw, Nat.le_refl _, Or.inl rfl, fun _ _ _ _ => rfl⟩
theorem bu_fr.tr {h h1 h2 : mm_H} {a v v1 v2 : Nat} (h01 : bu_fr h h1 a v v1) (h12 : bu_fr h1 h2 a v1 v2) : bu_fr h h2 a v v2 := by
  refine ⟨h12.1, Nat.le_trans h01.2.1 h12.2.1, ?_, fun b hb1 hb2 hb3 => ?_⟩
  · rcases h12.2.2.1 with q | q
    · rw [q]
      exact h01.2.2.1
    · exact Or.inr (Nat.le_trans h01.2.1 q)
  · have hbv : b ≠ v1 := by
      rcases h01.2.2.1 with q | q
      · rw [q]
        exact hb2
      · omega
    rw [h12.2.2.2 b hb1 hbv (Nat.lt_of_lt_of_le hb3 h01.2.1), h01.2.2.2 b hb1 hb2 hb3]
/-- a change of the object, then of its row -/
theorem bu_fr.set2 {h : mm_H} {a v : Nat} {ea ev ea' ev' : mm_E} (hw : mm_wf h) (ha : h.1 a = some ea) (hv : h.1 v = some ev) (hne : v ≠ a) : bu_fr h (mm_set (mm_set h a ea') v ev') a v v :=
  ⟨(hw.set ha).set (by rw [mm_setNe hne]; exact hv), Nat.le_refl _, Or.inl rfl, fun b h1 h2 _ => by rw [mm_setNe h2, mm_setNe h1]⟩
theorem bu_fr.set1 {h : mm_H} {a v : Nat} {ea ea' : mm_E} (hw : mm_wf h) (ha : h.1 a = some ea) : bu_fr h (mm_set h a ea') a v v :=
  ⟨hw.set ha, Nat.le_refl _, Or.inl rfl, fun b h1 h2 _ => by rw [mm_setNe h1]⟩
def bu_gr (cap k : Nat) : Nat := if k ≤ cap then cap else max k (2 * cap + 2)
def bu_ks (cap k : Nat) : Nat := if k ≤ cap then 0 else max k (2 * cap + 2)
section J3
variable {l : Launch} {G : mm_G} {h : mm_H}
theorem sq_ensure (hw : mm_wf h) {a v cap n : Nat} {ml : Int32} {f : Nat → Int32} (hb : bu_at h a v cap n ml f) {k : Nat} (hk : k ≤ 140) : mm_S l G M_AB_ensureCapacityInternal [.ref a, .int (nI k)] h 1 (bu_ks cap k) (fun r h' => r = none ∧ ∃ v' f', bu_at h' a v' (bu_gr cap k) n ml f' ∧ bu_fr h h' a v v' ∧ (∀ j, j < cap → f' j = f j)) := by
  obtain ⟨hh, hv, hnc, hc3, hfit⟩ := id hb
  have e : bu_ks cap k = if k ≤ cap then 0 else cap + max (k - cap) (cap + 2) := by
    unfold bu_ks
    split
    · rfl
    · omega
  rw [e]
  refine mm_post (sp_AB_ensureCapacityInternal hw hh hv (by omega) hc3 hfit) fun r h' hq => ?_
  obtain ⟨rfl, hq | ⟨hlt, g, rfl, hg1, hg2⟩⟩ := hq
  · obtain ⟨hle, rfl⟩ := hq
    refine ⟨rfl, v, f, ?_, bu_fr.rf hw, fun _ _ => rfl⟩
    unfold bu_gr
    rw [if_pos hle]
    exact hb
  · have eg : bu_gr cap k = cap + max (k - cap) (cap + 2) := by
      unfold bu_gr
      rw [if_neg (by omega)]
      omega
    have hva : h.2 ≠ a := fun q => hw.lt hh q.symm
    refine ⟨rfl, h.2, g, ⟨mm_setSelf, ?_, by rw [eg]; omega, by rw [eg]; omega, by rw [eg]; exact hg2⟩, ⟨hw.new.set (e0 := .inr (1, [.ref v, .int 0, .int ml, .int (nI n)])) (by rw [mm_newNe hva.symm]; exact hh), Nat.le_succ _, Or.inr (Nat.le_refl _), fun b h1 h2 h3 => ?_⟩, hg1⟩
    · rw [mm_setNe hva, mm_newSelf, eg]
    · rw [mm_setNe h1, mm_newNe (by omega)]
set_option maxHeartbeats 1000000 in
theorem sp_AB_append_C (hw : mm_wf h) {a v cap n : Nat} {ml : Int32} {f : Nat → Int32} (hb : bu_at h a v cap n ml f) {x : Nat} (hx : x < 256) (hn : n < 140) : mm_S l G M_AB_append_C [.ref a, .int (nI x)] h 1 (bu_ks cap (n + 1)) (fun r h' => r = some (.ref a) ∧ ∃ v' f', bu_at h' a v' (bu_gr cap (n + 1)) (n + 1) ml f' ∧ bu_fr h h' a v v' ∧ (∀ j, j < n → f' j = f j) ∧ f' n = by_b x) := by
  refine mm_start rfl (Nat.le_of_ble_eq_true rfl) ?_
  show mm_V l G M_AB_append_C 1 (bu_ks cap (n + 1)) 0 [some (.ref a), some (.int (nI x))] [] h _
  obtain ⟨hh, hv, hnc, hc3, hfit⟩ := id hb
  refine mm_aload_n (pc' := 1) d_AB_append_C_0 rfl rfl rfl ?_
  refine mm_aload_n (pc' := 2) d_AB_append_C_1 rfl rfl rfl ?_
  refine mm_getfield (pc' := 5) d_AB_append_C_2 rfl fl_AB_79 hh rfl ?_
  refine mm_iconst (v := 1) (pc' := 6) d_AB_append_C_5 rfl (by decide) ?_
  refine mm_iadd (pc' := 7) d_AB_append_C_6 rfl ?_
  rw [nI_1]
  refine mm_callU (pc' := 10) (as := [.int (nI (n + 1))]) (st := []) d_AB_append_C_7 rfl cs_AB_100 hh rfl (sq_ensure hw hb (by omega)) rfl rfl (Nat.le_of_ble_eq_true rfl) (Nat.le_of_ble_eq_true rfl) (Nat.le_refl _) (Nat.le_refl _) (fun r1 h1 hq => ?_)
  obtain ⟨rfl, v1, f1, hb1, hf1, hff⟩ := hq
  obtain ⟨hh1, hv1, hnc1, hc31, hfit1⟩ := id hb1
  refine mm_aload_n (pc' := 11) d_AB_append_C_10 rfl rfl rfl ?_
  refine mm_callU (pc' := 14) (as := []) (st := []) d_AB_append_C_11 rfl cs_AB_83 hh1 rfl (sp_AB_isLatin1 hh1) rfl rfl (Nat.le_of_ble_eq_true rfl) (Nat.le_of_ble_eq_true rfl) (Nat.le_of_ble_eq_true rfl) (Nat.le_of_ble_eq_true rfl) (fun v h2 hq => ?_)
  obtain ⟨rfl, rfl⟩ := hq
  refine mm_if_eq (pc' := 17) (tgt := 45) d_AB_append_C_14 rfl rfl (fun q => absurd q (by decide)) (fun _ => ?_)
  refine mm_iload_n (pc' := 18) d_AB_append_C_17 rfl rfl rfl ?_
  refine mm_callS (pc' := 21) (as := [.int (nI x)]) (st := []) d_AB_append_C_18 rfl cs_AB_191 (sp_L1_canEncode_C (nI_nlt (a := 255) (b := x) (by omega) (by omega))) rfl rfl (Nat.le_of_ble_eq_true rfl) (Nat.le_of_ble_eq_true rfl) (Nat.le_of_ble_eq_true rfl) (Nat.le_of_ble_eq_true rfl) (fun v h2 hq => ?_)
  obtain ⟨rfl, rfl⟩ := hq
  refine mm_if_eq (pc' := 24) (tgt := 45) d_AB_append_C_21 rfl rfl (fun q => absurd q (by decide)) (fun _ => ?_)
  refine mm_aload_n (pc' := 25) d_AB_append_C_24 rfl rfl rfl ?_
  refine mm_getfield (pc' := 28) d_AB_append_C_25 rfl fl_AB_15 hh1 rfl ?_
  refine mm_aload_n (pc' := 29) d_AB_append_C_28 rfl rfl rfl ?_
  refine mm_dup (pc' := 30) d_AB_append_C_29 rfl rfl ?_
  refine mm_getfield (pc' := 33) d_AB_append_C_30 rfl fl_AB_79 hh1 rfl ?_
  refine mm_dup_x1 (pc' := 34) d_AB_append_C_33 rfl rfl rfl ?_
  refine mm_iconst (v := 1) (pc' := 35) d_AB_append_C_34 rfl (by decide) ?_
  refine mm_iadd (pc' := 36) d_AB_append_C_35 rfl ?_
  refine mm_putfield (pc' := 39) d_AB_append_C_36 rfl pl_AB_append_C_79 (fun _ => ⟨rfl, rfl⟩) hh1 (Or.inl (by decide)) (Nat.le_of_ble_eq_true rfl) ?_
  refine mm_iload_n (pc' := 40) d_AB_append_C_39 rfl rfl rfl ?_
  refine mm_i2b (pc' := 41) d_AB_append_C_40 rfl rfl ?_
  have hva := mm_oi hh1 hv1
  have hcl : (nI n).toNatClampNeg = n := nI_clamp (by omega)
  have hle : n + 1 ≤ bu_gr cap (n + 1) := by
    unfold bu_gr
    split <;> omega
  refine mm_bast (pc' := 42) (t := 1) d_AB_append_C_41 rfl (Nat.le_of_ble_eq_true rfl) rfl (by rw [mm_setNe hva]; exact hv1) (vp_in_nI (by omega) (by omega)) ?_
  rw [hcl, show ((nI x).toInt8.toInt32).toInt8.toInt32 = by_b x from by_idem x]
  refine mm_goto (tgt := 75) d_AB_append_C_42 rfl ?_
  refine mm_aload_n (pc' := 76) d_AB_append_C_75 rfl rfl rfl ?_
  refine mm_aret d_AB_append_C_76 rfl (by first | exact Or.inl ⟨_, rfl⟩ | exact Or.inr ⟨_, rfl⟩) (Or.inr ⟨_, rfl⟩) ⟨rfl, v1, _, ⟨?_, mm_setSelf, hle, hc31, fun j hj => ?_⟩, hf1.tr (bu_fr.set2 hf1.1 hh1 hv1 hva), fun j hj => ?_, ?_⟩
  · rw [mm_setNe hva.symm, mm_setSelf, nI_succ]
    rfl
  · by_cases hjn : j = n
    · rw [hjn, pk_us]
      exact by_fit x
    · rw [pk_un hjn]
      exact hfit1 j hj
  · rw [pk_un (by omega)]
    exact hff j (by omega)
  · exact pk_us
set_option maxHeartbeats 1000000 in
theorem sp_SB_append_C (hw : mm_wf h) {a v cap n : Nat} {ml : Int32} {f : Nat → Int32} (hb : bu_at h a v cap n ml f) {x : Nat} (hx : x < 256) (hn : n < 140) : mm_S l G M_SB_append_C [.ref a, .int (nI x)] h 1 (bu_ks cap (n + 1)) (fun r h' => r = some (.ref a) ∧ ∃ v' f', bu_at h' a v' (bu_gr cap (n + 1)) (n + 1) ml f' ∧ bu_fr h h' a v v' ∧ (∀ j, j < n → f' j = f j) ∧ f' n = by_b x) := by
  refine mm_start rfl (Nat.le_of_ble_eq_true rfl) ?_
  show mm_V l G M_SB_append_C 1 (bu_ks cap (n + 1)) 0 [some (.ref a), some (.int (nI x))] [] h _
  refine mm_aload_n (pc' := 1) d_SB_append_C_0 rfl rfl rfl ?_
  refine mm_iload_n (pc' := 2) d_SB_append_C_1 rfl rfl rfl ?_
  refine mm_callP (pc' := 5) (as := [.int (nI x)]) (st := []) d_SB_append_C_2 rfl cs_SB_50 hb.1 rfl (sp_AB_append_C hw hb hx hn) rfl rfl (Nat.le_of_ble_eq_true rfl) (Nat.le_of_ble_eq_true rfl) (Nat.le_refl _) (Nat.le_refl _) (fun r1 h1 hq => ?_)
  obtain ⟨rfl, hq⟩ := hq
  refine mm_pop (pc' := 6) d_SB_append_C_5 rfl rfl ?_
  refine mm_aload_n (pc' := 7) d_SB_append_C_6 rfl rfl rfl ?_
  exact mm_aret d_SB_append_C_7 rfl (by first | exact Or.inl ⟨_, rfl⟩ | exact Or.inr ⟨_, rfl⟩) (Or.inr ⟨_, rfl⟩) ⟨rfl, hq⟩
set_option maxHeartbeats 1000000 in
theorem sp_AB_init (hw : mm_wf h) {a : Nat} (hh : h.1 a = some (.inr (1, [.null, .int 0, .int 0, .int 0]))) : mm_S l G M_AB_init [.ref a, .int 16] h 1 16 (fun r h' => r = none ∧ h' = mm_set (mm_new h (.inl (1, 16, .inl (fun _ => 0)))) a (.inr (1, [.ref h.2, .int 0, .int 0, .int 0]))) := by
  refine mm_start rfl (Nat.le_of_ble_eq_true rfl) ?_
  show mm_V l G M_AB_init 1 16 0 [some (.ref a), some (.int 16)] [] h _
  refine mm_aload_n (pc' := 1) d_AB_init_0 rfl rfl rfl ?_
  refine mm_objInit (pc' := 4) d_AB_init_1 rfl oi_AB_3 (Nat.le_of_ble_eq_true rfl) (Nat.le_of_ble_eq_true rfl) ?_
  refine mm_getstatic (pc' := 7) d_AB_init_4 rfl gl_AB_18 ?_
  refine mm_if_eq (pc' := 10) (tgt := 25) d_AB_init_7 rfl rfl (fun q => absurd q (by decide)) (fun _ => ?_)
  refine mm_aload_n (pc' := 11) d_AB_init_10 rfl rfl rfl ?_
  refine mm_iload_n (pc' := 12) d_AB_init_11 rfl rfl rfl ?_
  refine mm_newarr (pc' := 14) (t := 1) (N := 16) d_AB_init_12 rfl (Nat.le_of_ble_eq_true rfl) rfl ar_byte rfl (by decide) (by decide) (by decide) (Nat.le_of_ble_eq_true rfl) (Nat.le_of_ble_eq_true rfl) ?_
  have han := hw.lt hh
  refine mm_putfield (pc' := 17) d_AB_init_14 rfl pl_AB_init_15 (fun _ => ⟨rfl, rfl⟩) (by rw [mm_newNe han]; exact hh) (Or.inl (by decide)) (Nat.le_of_ble_eq_true rfl) ?_
  refine mm_aload_n (pc' := 18) d_AB_init_17 rfl rfl rfl ?_
  refine mm_iconst (v := 0) (pc' := 19) d_AB_init_18 rfl (by decide) ?_
  refine mm_putfield (pc' := 22) d_AB_init_19 rfl pl_AB_init_22 (fun _ => ⟨rfl, rfl⟩) mm_setSelf (Or.inl (by decide)) (Nat.le_of_ble_eq_true rfl) ?_
  refine mm_goto (tgt := 38) d_AB_init_22 rfl ?_
  refine mm_vret d_AB_init_38 rfl ⟨rfl, ?_⟩
  rw [mm_set2]
  rfl
set_option maxHeartbeats 1000000 in
theorem sp_SB_init (hw : mm_wf h) {a : Nat} (hh : h.1 a = some (.inr (1, [.null, .int 0, .int 0, .int 0]))) : mm_S l G M_SB_init [.ref a] h 1 16 (fun r h' => r = none ∧ h' = mm_set (mm_new h (.inl (1, 16, .inl (fun _ => 0)))) a (.inr (1, [.ref h.2, .int 0, .int 0, .int 0]))) := by
  refine mm_start rfl (Nat.le_of_ble_eq_true rfl) ?_
  show mm_V l G M_SB_init 1 16 0 [some (.ref a)] [] h _
  refine mm_aload_n (pc' := 1) d_SB_init_0 rfl rfl rfl ?_
  refine mm_bipush (v := 16) (pc' := 3) d_SB_init_1 rfl (by decide) ?_
  refine mm_callI (pc' := 6) (as := [.int 16]) (st := []) d_SB_init_3 rfl cs_SB_1 rfl (sp_AB_init hw hh) rfl rfl (Nat.le_of_ble_eq_true rfl) (Nat.le_of_ble_eq_true rfl) (Nat.le_of_ble_eq_true rfl) (Nat.le_of_ble_eq_true rfl) (fun v h1 hq => ?_)
  obtain ⟨rfl, rfl⟩ := hq
  exact mm_vret d_SB_init_6 rfl ⟨rfl, rfl⟩
set_option maxHeartbeats 1000000 in
theorem sp_AB_setLength (hw : mm_wf h) {a v cap n : Nat} {ml : Int32} {f : Nat → Int32} (hb : bu_at h a v cap n ml f) {k : Nat} (hk : k ≤ n) (hk2 : k ≤ 140) : mm_S l G M_AB_setLength [.ref a, .int (nI k)] h 1 0 (fun r h' => r = none ∧ ∃ ml', h' = mm_set h a (.inr (1, [.ref v, .int 0, .int ml', .int (nI k)]))) := by
  refine mm_start rfl (Nat.le_of_ble_eq_true rfl) ?_
  show mm_V l G M_AB_setLength 1 0 0 [some (.ref a), some (.int (nI k))] [] h _
  obtain ⟨hh, hv, hnc, hc3, hfit⟩ := id hb
  refine mm_iload_n (pc' := 1) d_AB_setLength_0 rfl rfl rfl ?_
  refine mm_if_ge (pc' := 4) (tgt := 13) d_AB_setLength_1 rfl rfl (fun _ => ?_) (fun q => absurd (nI_pos' (by omega)) q)
  refine mm_aload_n (pc' := 14) d_AB_setLength_13 rfl rfl rfl ?_
  refine mm_iload_n (pc' := 15) d_AB_setLength_14 rfl rfl rfl ?_
  refine mm_callU (pc' := 18) (as := [.int (nI k)]) (st := []) d_AB_setLength_15 rfl cs_AB_100 hh rfl (sp_AB_ensureCapacityInternal hw hh hv (by omega) hc3 hfit) rfl rfl (Nat.le_of_ble_eq_true rfl) (Nat.le_of_ble_eq_true rfl) (Nat.le_refl _) (by rw [if_pos (by omega)]; exact Nat.le_refl _) (fun r1 h1 hq => ?_)
  obtain ⟨rfl, hq | ⟨hlt, -⟩⟩ := hq
  rotate_left
  · omega
  obtain ⟨-, rfl⟩ := hq
  refine mm_aload_n (pc' := 19) d_AB_setLength_18 rfl rfl rfl ?_
  refine mm_getfield (pc' := 22) d_AB_setLength_19 rfl fl_AB_79 hh rfl ?_
  refine mm_iload_n (pc' := 23) d_AB_setLength_22 rfl rfl rfl ?_
  refine mm_icmp_ge (pc' := 26) (tgt := 63) d_AB_setLength_23 rfl rfl (fun _ => ?_) (fun q => absurd (nI_le hk (by omega)) q)
  refine mm_aload_n (pc' := 64) d_AB_setLength_63 rfl rfl rfl ?_
  refine mm_getfield (pc' := 67) d_AB_setLength_64 rfl fl_AB_79 hh rfl ?_
  refine mm_iload_n (pc' := 68) d_AB_setLength_67 rfl rfl rfl ?_
  refine mm_icmp_le (pc' := 71) (tgt := 76) d_AB_setLength_68 rfl rfl (fun hc => ?_) (fun hc => ?_)
  · refine mm_aload_n (pc' := 77) d_AB_setLength_76 rfl rfl rfl ?_
    refine mm_iload_n (pc' := 78) d_AB_setLength_77 rfl rfl rfl ?_
    refine mm_putfield (pc' := 81) d_AB_setLength_78 rfl pl_AB_setLength_79 (fun _ => ⟨rfl, rfl⟩) hh (Or.inl (by decide)) (Nat.le_of_ble_eq_true rfl) ?_
    exact mm_vret d_AB_setLength_81 rfl ⟨rfl, _, rfl⟩
  · refine mm_aload_n (pc' := 72) d_AB_setLength_71 rfl rfl rfl ?_
    refine mm_iconst (v := 1) (pc' := 73) d_AB_setLength_72 rfl (by decide) ?_
    refine mm_putfield (pc' := 76) d_AB_setLength_73 rfl pl_AB_setLength_73 (fun _ => ⟨rfl, rfl⟩) hh (Or.inl (by decide)) (Nat.le_of_ble_eq_true rfl) ?_
    refine mm_aload_n (pc' := 77) d_AB_setLength_76 rfl rfl rfl ?_
    refine mm_iload_n (pc' := 78) d_AB_setLength_77 rfl rfl rfl ?_
    refine mm_putfield (pc' := 81) d_AB_setLength_78 rfl pl_AB_setLength_79 (fun _ => ⟨rfl, rfl⟩) mm_setSelf (Or.inl (by decide)) (Nat.le_of_ble_eq_true rfl) ?_
    rw [mm_set2]
    exact mm_vret d_AB_setLength_81 rfl ⟨rfl, _, rfl⟩
set_option maxHeartbeats 1000000 in
theorem sp_SB_setLength (hw : mm_wf h) {a v cap n : Nat} {ml : Int32} {f : Nat → Int32} (hb : bu_at h a v cap n ml f) {k : Nat} (hk : k ≤ n) (hk2 : k ≤ 140) : mm_S l G M_SB_setLength [.ref a, .int (nI k)] h 1 0 (fun r h' => r = none ∧ ∃ ml', h' = mm_set h a (.inr (1, [.ref v, .int 0, .int ml', .int (nI k)]))) := by
  refine mm_start rfl (Nat.le_of_ble_eq_true rfl) ?_
  show mm_V l G M_SB_setLength 1 0 0 [some (.ref a), some (.int (nI k))] [] h _
  refine mm_aload_n (pc' := 1) d_SB_setLength_0 rfl rfl rfl ?_
  refine mm_iload_n (pc' := 2) d_SB_setLength_1 rfl rfl rfl ?_
  refine mm_callP (pc' := 5) (as := [.int (nI k)]) (st := []) d_SB_setLength_2 rfl cs_SB_333 hb.1 rfl (sp_AB_setLength hw hb hk hk2) rfl rfl (Nat.le_of_ble_eq_true rfl) (Nat.le_of_ble_eq_true rfl) (Nat.le_of_ble_eq_true rfl) (Nat.le_of_ble_eq_true rfl) (fun r1 h1 hq => ?_)
  obtain ⟨rfl, hq⟩ := hq
  exact mm_vret d_SB_setLength_5 rfl ⟨rfl, hq⟩
set_option maxHeartbeats 1000000 in
theorem sp_AB_charAt (hw : mm_wf h) {a v cap n : Nat} {ml : Int32} {f : Nat → Int32} (hb : bu_at h a v cap n ml f) {i : Nat} (hi : i < n) {x : Nat} (hx : x < 256) (hfx : f i = by_b x) : mm_S l G M_AB_charAt [.ref a, .int (nI i)] h 0 0 (fun r h' => r = some (.int (nI x)) ∧ h' = h) := by
  refine mm_start rfl (Nat.le_of_ble_eq_true rfl) ?_
  show mm_V l G M_AB_charAt 0 0 0 [some (.ref a), some (.int (nI i)), none, none, none] [] h _
  obtain ⟨hh, hv, hnc, hc3, hfit⟩ := id hb
  refine mm_aload_n (pc' := 1) d_AB_charAt_0 rfl rfl rfl ?_
  refine mm_getfield (pc' := 4) d_AB_charAt_1 rfl fl_AB_22 hh rfl ?_
  refine mm_ist2 (pc' := 5) d_AB_charAt_4 rfl rfl (Nat.le_of_ble_eq_true rfl) ?_
  refine mm_aload_n (pc' := 6) d_AB_charAt_5 rfl rfl rfl ?_
  refine mm_getfield (pc' := 9) d_AB_charAt_6 rfl fl_AB_15 hh rfl ?_
  refine mm_ast3 (pc' := 10) d_AB_charAt_9 rfl rfl (Nat.le_of_ble_eq_true rfl) ?_
  refine mm_aload_n (pc' := 11) d_AB_charAt_10 rfl rfl rfl ?_
  refine mm_getfield (pc' := 14) d_AB_charAt_11 rfl fl_AB_79 hh rfl ?_
  refine mm_aload_n (pc' := 15) d_AB_charAt_14 rfl rfl rfl ?_
  refine mm_alen (pc' := 16) d_AB_charAt_15 rfl (Nat.le_of_ble_eq_true rfl) hv rfl ?_
  refine mm_iload_n (pc' := 17) d_AB_charAt_16 rfl rfl rfl ?_
  rw [show Int32.ofNat cap = nI cap from rfl]
  refine mm_ishr (pc' := 18) d_AB_charAt_17 rfl ?_
  rw [by_sh0]
  refine mm_min (pc' := 21) d_AB_charAt_18 rfl cs_AB_138 (Nat.le_of_ble_eq_true rfl) (Nat.le_of_ble_eq_true rfl) ?_
  have emin : (if nI cap < nI n then nI cap else nI n) = nI n := if_neg (nI_nlt hnc (by omega))
  rw [emin]
  refine mm_ist4 (pc' := 23) d_AB_charAt_21 rfl rfl (Nat.le_of_ble_eq_true rfl) ?_
  refine mm_iload_n (pc' := 24) d_AB_charAt_23 rfl rfl rfl ?_
  refine mm_iload (pc' := 26) d_AB_charAt_24 rfl rfl ?_
  refine mm_callS (pc' := 29) (as := [.int (nI i), .int (nI n)]) (st := []) d_AB_charAt_26 rfl cs_AB_144 (sp_ST_checkIndex (nI_pos (by omega)) (nI_lt hi (by omega))) rfl rfl (Nat.le_of_ble_eq_true rfl) (Nat.le_of_ble_eq_true rfl) (Nat.le_of_ble_eq_true rfl) (Nat.le_of_ble_eq_true rfl) (fun v h1 hq => ?_)
  obtain ⟨rfl, rfl⟩ := hq
  refine mm_iload_n (pc' := 30) d_AB_charAt_29 rfl rfl rfl ?_
  refine mm_if_ne (pc' := 33) (tgt := 42) d_AB_charAt_30 rfl rfl (fun q => absurd rfl q) (fun _ => ?_)
  refine mm_aload_n (pc' := 34) d_AB_charAt_33 rfl rfl rfl ?_
  refine mm_iload_n (pc' := 35) d_AB_charAt_34 rfl rfl rfl ?_
  refine mm_bald (pc' := 36) (t := 1) d_AB_charAt_35 rfl (Nat.le_of_ble_eq_true rfl) rfl hv (vp_in_nI (by omega) (by omega)) ?_
  rw [nI_clamp (by omega), hfx]
  refine mm_sipush (v := 255) (pc' := 39) d_AB_charAt_36 rfl (by decide) ?_
  refine mm_iand (pc' := 40) d_AB_charAt_39 rfl ?_
  rw [by_and x hx]
  refine mm_i2c (pc' := 41) d_AB_charAt_40 rfl (by_c (by omega)) ?_
  exact mm_iret d_AB_charAt_41 rfl (pk_charN (by omega)).1 ⟨rfl, rfl⟩
set_option maxHeartbeats 1000000 in
theorem sp_SB_charAt (hw : mm_wf h) {a v cap n : Nat} {ml : Int32} {f : Nat → Int32} (hb : bu_at h a v cap n ml f) {i : Nat} (hi : i < n) {x : Nat} (hx : x < 256) (hfx : f i = by_b x) : mm_S l G M_SB_charAt [.ref a, .int (nI i)] h 0 0 (fun r h' => r = some (.int (nI x)) ∧ h' = h) := by
  refine mm_start rfl (Nat.le_of_ble_eq_true rfl) ?_
  show mm_V l G M_SB_charAt 0 0 0 [some (.ref a), some (.int (nI i))] [] h _
  refine mm_aload_n (pc' := 1) d_SB_charAt_0 rfl rfl rfl ?_
  refine mm_iload_n (pc' := 2) d_SB_charAt_1 rfl rfl rfl ?_
  refine mm_callP (pc' := 5) (as := [.int (nI i)]) (st := []) d_SB_charAt_2 rfl cs_SB_329 hb.1 rfl (sp_AB_charAt hw hb hi hx hfx) rfl rfl (Nat.le_of_ble_eq_true rfl) (Nat.le_of_ble_eq_true rfl) (Nat.le_of_ble_eq_true rfl) (Nat.le_of_ble_eq_true rfl) (fun r1 h1 hq => ?_)
  obtain ⟨rfl, rfl⟩ := hq
  exact mm_iret d_SB_charAt_5 rfl (pk_charN (by omega)).1 ⟨rfl, rfl⟩
end J3
