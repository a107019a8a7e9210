/-! The law, from its first instruction -/
set_option maxRecDepth 100000 in
set_option maxHeartbeats 4000000 in
theorem sv_L_law {l : Launch} {G : mm_G} {h : mm_H} {A : ab_H} {p0 : Option Nat} {kc ks : Nat} {Q : Int32 → ab_H → Prop} (hV : Vw G h A) (hw : wp_L_law p0 A kc ks Q) : mm_V l G M_L_law kc ks 0 [some (va_rf p0), none, none, none] [] h (wQI G Q) := by
  unfold wp_L_law at hw
  refine wr_new hV hw (pc' := 3) d_L_law_0 rfl nl_L_7 rfl (fun b81 h A kc ks hV hw => ?_)
  refine mm_dup (pc' := 4) d_L_law_3 rfl (wr_cat _) ?_
  refine wr_cIx (pc' := 7) (as := []) (st := [va_rf (some b81)]) d_L_law_4 rfl cs_L_9 rfl (W := fun b c s Q' => wp_S_init b  A c s Q') hV hw (fun b c s Q' hw => sd_S_init hV hw) rfl rfl (Nat.le_of_ble_eq_true rfl) (Nat.le_trans (wr_hR wr_h0) (Nat.le_of_ble_eq_true rfl)) (fun h A kc ks hV hw => ?_)
  refine wr_ast1 (pc' := 8) d_L_law_7 rfl (wr_2 _) (Nat.le_of_ble_eq_true rfl) ?_
  refine wr_new hV hw (pc' := 11) d_L_law_8 rfl nl_L_10 rfl (fun b82 h A kc ks hV hw => ?_)
  refine mm_dup (pc' := 12) d_L_law_11 rfl (wr_cat _) ?_
  refine wr_cIx (pc' := 15) (as := []) (st := [va_rf (some b82)]) d_L_law_12 rfl cs_L_12 rfl (W := fun b c s Q' => wp_M_init b  A c s Q') hV hw (fun b c s Q' hw => sd_M_init hV hw) rfl rfl (Nat.le_of_ble_eq_true rfl) (Nat.le_trans (wr_hR wr_h0) (Nat.le_of_ble_eq_true rfl)) (fun h A kc ks hV hw => ?_)
  refine wr_ast2 (pc' := 16) d_L_law_15 rfl (wr_2 _) (Nat.le_of_ble_eq_true rfl) ?_
  refine mm_iconst (v := 0) (pc' := 17) d_L_law_16 rfl (by decide) ?_
  refine mm_ist3 (pc' := 18) d_L_law_17 rfl (wr_2 _) (Nat.le_of_ble_eq_true rfl) ?_
  obtain ⟨n, hw⟩ := hw
  exact mm_drop (mm_le.s (mm_le.s (mm_le.s (mm_le.s mm_le.e)))) (sq_L_law_18  n _ _ _ _ _ _ _ hV hw)
theorem law_2 (l : Launch) (G : mm_G) (hx : G.2.2.2.2.length ≤ 2560) : mm_V l G M_L_law 408000 6670000 0 [some (va_rf (some 0)), none, none, none] [] (h00 G.2.2.2.2) (wQI G (fun v _ => v = iI 1)) := by
  have hV := Vw_0 G
  have hK : ∀ k, k < 8 → A00 G.2.2.2.2 k = ab_old G.2.2.2.2 k := fun k hk => if_pos (Nat.lt_of_lt_of_le hk (show 8 ≤ mm_K by decide))
  have hL : Li (A00 G.2.2.2.2) := ⟨hK 1 (by omega), hK 2 (by omega), hK 3 (by omega), hK 4 (by omega), hK 5 (by omega), hK 6 (by omega), hK 7 (by omega)⟩
  exact sv_L_law hV (c_law (inp := 0) hL (hK 0 (by omega)) hx (Nat.le_refl _) (Nat.le_refl _) (fun B => rfl))
