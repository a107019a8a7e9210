section MMZ
variable {l : Launch} {G : mm_G} {M : mm_M} {kc ks pc pc' : Nat} {L : List (Option Value)} {st : List Value} {h : mm_H} {Q : Option Value → mm_H → Prop} {index : Nat}
theorem mm_max {x y : Int32} (hd : decode M.2.1 pc = .ok (.invokestatic index, 3)) (hp : pc + 3 = pc') (hw : mm_CB M.1.cls index M_MA_max 2 ∧ Cond.static M_MA_max.1 ∈ mm_all) (hfr : 1 ≤ M.2.2.2.2) (h8 : (st.map fun v => v.category).sum ≤ 8) (kk : mm_V l G M kc ks pc' L (.int (if x < y then y else x) :: st) h Q) : mm_V l G M kc ks pc L (.int y :: .int x :: st) h Q := by
  intro p e R s m args below meth c H locs cells slots ls hX hR hS hl hc hs
  subst hp
  have kk' := kk p e R s m args below meth c H locs cells slots ls hX hR hS hl hc hs
  obtain ⟨x1, x2, x3, x4, x5, x6, x7, x8, x9, x10, x11⟩ := hX
  obtain ⟨⟨w1, w2, w3, -⟩, w5⟩ := hw
  have h9 : ((st.map (mm_v G)).map fun v => v.category).sum ≤ 8 := by rw [mm_vsum]; exact h8
  exact va_mmax x1 x2 (x3.trans hl.1.symm) x4 (x5 _ w1) (x5 _ w5) (x5 _ w2) (x5 _ w3) (Nat.le_trans hfr x10) (by omega) (by omega) (by omega) hd kk'
theorem mm_min {x y : Int32} (hd : decode M.2.1 pc = .ok (.invokestatic index, 3)) (hp : pc + 3 = pc') (hw : mm_CB M.1.cls index M_MA_min 2 ∧ Cond.static M_MA_min.1 ∈ mm_all) (hfr : 1 ≤ M.2.2.2.2) (h8 : (st.map fun v => v.category).sum ≤ 8) (kk : mm_V l G M kc ks pc' L (.int (if y < x then y else x) :: st) h Q) : mm_V l G M kc ks pc L (.int y :: .int x :: st) h Q := by
  intro p e R s m args below meth c H locs cells slots ls hX hR hS hl hc hs
  subst hp
  have kk' := kk p e R s m args below meth c H locs cells slots ls hX hR hS hl hc hs
  obtain ⟨x1, x2, x3, x4, x5, x6, x7, x8, x9, x10, x11⟩ := hX
  obtain ⟨⟨w1, w2, w3, -⟩, w5⟩ := hw
  have h9 : ((st.map (mm_v G)).map fun v => v.category).sum ≤ 8 := by rw [mm_vsum]; exact h8
  exact va_mmin x1 x2 (x3.trans hl.1.symm) x4 (x5 _ w1) (x5 _ w5) (x5 _ w2) (x5 _ w3) (Nat.le_trans hfr x10) (by omega) (by omega) (by omega) hd kk'
end MMZ
