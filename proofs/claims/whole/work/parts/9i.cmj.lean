/-! The class: serve -/
section SV5
variable {G A : ab_H} {T : Nat → Nat} {sv c : Nat} {S : St} {Y : List Nat}
theorem KrX.ch {A B : ab_H} {q pl hl : Nat} {r : Rq} {cid : Int} {v : Int} (h : KrX A q pl hl r cid) (hF : Fw A B [q]) (hq : ∀ mp pp bp, A q = some (oR (.inr (7, [va_rf (some pl), va_rf (some hl), va_rf (some mp), va_rf (some pp), va_rf (some bp), .int (iI cid)]))) → B q = some (oR (.inr (7, [va_rf (some pl), va_rf (some hl), va_rf (some mp), va_rf (some pp), va_rf (some bp), .int (iI v)])))) : KrX B q pl hl r v := by
  obtain ⟨mp, pp, bp, ys, cp, zs, cz, t1, t2, t3, t4, t5, t6, t7, t8⟩ := h
  have hM : Mu A [q] := Mu.c t1 rfl (Mu.nil _)
  exact ⟨mp, pp, bp, ys, cp, zs, cz, hq mp pp bp t1, t2.fw hF hM, t3.fw hF hM, hF.k t4 t1 (fun e => by cases e), t5.fw hF hM, hF.k t6 t1 (fun e => by cases e), t7.fw hF hM, t8.fw hF hM⟩
theorem c_serve {kc ks cn : Nat} {R : List Nat} {Q : ab_H → Prop} (hc : c < 3) (h8 : ∀ x ∈ Y, x < 256) (hY : (jd Y).1 = 1) (hsd : S.2.2.1 < 9000) (h : Inx G A T sv S c (fun z => z = cn ∧ Cw A T c R Y z)) (k1 : 110 ≤ kc) (k2 : 2800 ≤ ks) (hQ : ∀ E T', Inv G E T' sv (srv S c Y) → Cnx E sv c cn → Q E) : wp_S_serve sv (some cn) A kc ks Q := by
  have hw := rqw_B h8 hY
  obtain ⟨ca, sa, ty, sl, kl, dl, i1, i2, ⟨v1, tv⟩, ⟨tc, cf, cn', g1, g2, ⟨g3, g4⟩, g5⟩, i5, i6, i7, i8, i9⟩ := h
  subst g3
  obtain ⟨rp, rd, ln, bd, rl, dc, rq, pl, hl, cap, e1, e2, e3, tt1, tt2, e4⟩ := g4
  have hx0 : Sx0 G A T sv c S ca sa ty sl kl dl cn' cf := ⟨i1, i2, ⟨v1, tv⟩, ⟨tc, g1, g2, g5⟩, i6, i7, i8, i9⟩
  have hx1 : Sx1 A T c cn' rp rd ln bd dc rq pl hl := ⟨tt1, tt2⟩
  obtain ⟨t0, t1, t2, t3, t4, t5⟩ := tt1
  obtain ⟨t6, t7, t8⟩ := tt2
  have hL : Li A := i2.1.f0 (Zf.le A T)
  obtain ⟨tk, qs, cq, kl1, kl2⟩ := i5
  obtain ⟨ts, sa1⟩ := i6
  obtain ⟨fsa, sa3, sa4⟩ := id sa1
  have cells : (∃ o, A rd = some o ∧ mtb o = true) ∧ (∃ o, A ln = some o ∧ mtb o = true) ∧ (∃ o, A bd = some o ∧ mtb o = true) ∧ (∃ o, A rq = some o ∧ mtb o = true) := by
    obtain ⟨X0, H0, D0, ph, wt, sd, sa', sr, tl, ck, p1, p2, p3, p4, p5⟩ := id e4
    obtain ⟨⟨c1, a1, a2⟩, ⟨c2, b1, b2⟩, -⟩ := p2
    obtain ⟨⟨mp0, pp0, bp0, u1, -⟩, -⟩ := p3
    exact ⟨⟨_, p1, rfl⟩, ⟨_, a1, rfl⟩, ⟨_, b1, rfl⟩, ⟨_, u1, rfl⟩⟩
  have hMu : Mu A [rd, ln, bd, rq, sv, rp, sa, kl, cn'] := fun w hw o ho => by
    obtain ⟨⟨o1, q1, r1⟩, ⟨o2, q2, r2⟩, ⟨o3, q3, r3⟩, ⟨o4, q4, r4⟩⟩ := cells
    simp only [List.mem_cons, List.not_mem_nil, or_false] at hw
    rcases hw with z | z | z | z | z | z | z | z | z <;> rw [z] at ho
    · rw [q1] at ho; cases ho; exact r1
    · rw [q2] at ho; cases ho; exact r2
    · rw [q3] at ho; cases ho; exact r3
    · rw [q4] at ho; cases ho; exact r4
    · rw [v1] at ho; cases ho; rfl
    · rw [e2] at ho; cases ho; rfl
    · rw [sa3] at ho; cases ho; rfl
    · rw [kl1] at ho; cases ho; rfl
    · rw [e1] at ho; cases ho; rfl
  obtain ⟨X, H, D, ph, wt, sd, sa', sr, tl, ck, p1, -⟩ := id e4
  unfold wp_S_serve
  refine wgR.i (x := some rd) e1 rfl (wC.i p1 (wX.i 9 80 (by omega) (by omega) ?_))
  refine c_handOver hL e4 (Nat.le_refl _) (Nat.le_refl _) (fun A1 rq2 pl2 hl2 n1 n2 n3 ph1 kx1 hcl F1 => ?_)
  have kx1 : KrX A1 rq pl hl (rqB Y) (-1) := kx1
  have nin : ∀ {y : Nat}, (T y = 1 ∨ T y = 3 ∨ T y = 10 * c + 11 ∨ T y = 10 * c + 10) → y ∉ [rd, ln, bd, rq] := fun {y} q1 => by
    simp only [List.mem_cons, List.not_mem_nil, or_false, not_or]
    exact ⟨fun e => by rw [e] at q1; omega, fun e => by rw [e] at q1; omega, fun e => by rw [e] at q1; omega, fun e => by rw [e] at q1; omega⟩
  have v1' := F1 _ _ v1 (nin (Or.inl tv))
  have s1' := F1 _ _ sa3 (nin (Or.inr (Or.inl ts)))
  have r1' := F1 _ _ e2 (nin (Or.inr (Or.inr (Or.inl t1))))
  have c1' := F1 _ _ e1 (nin (Or.inr (Or.inr (Or.inr t0))))
  refine wgI.i v1' rfl (wpu v1' (Nat.le_of_ble_eq_true rfl) (fun A2 v2 F2 => ?_))
  rw [show iI ((S.2.2.1 : Nat) : Int) + 1 = iI ((S.2.2.1 + 1 : Nat) : Int) from iI_add _ 1] at v2
  have v2 : A2 sv = some (oSv ca sa ty sl kl dl S.2.2.2.2.2.2.2 (S.2.2.1 + 1)) := v2
  have F02 : Fw A A2 [rd, ln, bd, rq, sv, rp, sa] := (F1.mo (fun z hz => by simp only [List.mem_cons, List.not_mem_nil, or_false] at hz ⊢; omega)).tr F2 (fun z hz => Or.inl (by simp at hz ⊢; omega))
  have kp2 := sv_kp i1 hx1 n1 n2 n3 F2 v1' rfl (Or.inl tv)
  have ph2 : Ph A2 rd ln bd rl dc rq2 pl2 hl2 [] := Ph.kp (Or.inl ph1) (kp7 kp2)
  have kx2 := kx1.kp kp2 (by simp) (by simp) (by simp)
  have s2 : SaAt A2 sa S.2.2.2.1 := ⟨fsa, F2.k s1' v1' (fun e => by cases e), sa4⟩
  have r2 := F2.k r1' v1' (fun e => by cases e)
  have c2 := F2.k c1' v1' (fun e => by cases e)
  have hT2 : Tf A T A2 T (dk c ++ [1, 3, 6]) := Tf.w i1 F02 (fun w hw => Or.inr (by
    have dm : ∀ {i : Nat}, (10 * c + 10 ≤ i ∧ i ≤ 10 * c + 18) ∨ i = 1 ∨ i = 3 ∨ i = 6 → i ∈ dk c ++ [1, 3, 6] := fun {i} hi => by
      rw [List.mem_append, dk_m]
      simp only [List.mem_cons, List.not_mem_nil, or_false]
      exact hi
    obtain ⟨⟨rq0, v4, v5, v6, v7, v8, v9, v10, z1⟩, ⟨L, k3, z2, z3⟩, ⟨D', k4, z4, z5⟩, -⟩ := ph2.rs
    obtain ⟨mp, pp, bp, ys, cp, zs, cz, w1, -⟩ := id kx2
    obtain ⟨fs4, m44, -⟩ := id s2
    simp only [List.mem_cons, List.not_mem_nil, or_false] at hw
    rcases hw with z | z | z | z | z | z | z
    · rw [z]; exact ⟨dm (by omega), _, z1, rfl⟩
    · rw [z]; exact ⟨dm (by omega), _, z2, rfl⟩
    · rw [z]; exact ⟨dm (by omega), _, z4, rfl⟩
    · rw [z]; exact ⟨dm (by omega), _, w1, rfl⟩
    · rw [z]; exact ⟨dm (by omega), _, v2, rfl⟩
    · rw [z]; exact ⟨dm (by omega), _, r2, rfl⟩
    · rw [z]; exact ⟨dm (by omega), _, m44, rfl⟩))
  have nm : ∀ {i : Nat}, ¬ ((10 * c + 10 ≤ i ∧ i ≤ 10 * c + 18) ∨ i = 1 ∨ i = 3 ∨ i = 6) → i ∉ dk c ++ [1, 3, 6] := fun {i} hi hz => by
    rw [List.mem_append, dk_m] at hz
    simp only [List.mem_cons, List.not_mem_nil, or_false] at hz
    exact hi hz
  obtain ⟨bs, cs, sl1, sl2⟩ := (i9.tf hT2 i1 (nm (by omega)) (nm (by omega)) (fun i hi => nm (by omega))).at
  have hL2 : Li A2 := (i2.1.f0 (hT2.z (nm (by omega)))).f0 (Zf.le A2 T)
  unfold srv at hQ
  -- nothing matches
  have no : chs (rqB Y) S.2.2.2.1 S.2.2.2.2.2.2.1 = none → wq_S_serve_44 sv (some cn') Q (some rq) A2 (kc - 9) (ks - 80) := fun hch => by
    rw [hch] at hQ
    dsimp only at hQ
    unfold wq_S_serve_44
    refine wC.i c2 (wXV.i 6 400 (by omega) (by omega) (c_respond (code := 404) c2 r2 e3 hL2.1 (by simp) (by omega) (Nat.le_refl _) (Nat.le_refl _) (fun A3 cap' z1 z2 F3 => ?_)))
    have kp3 := sv_kp i1 hx1 n1 n2 n3 F3 r2 rfl (Or.inr (Or.inr (Or.inr (Or.inr t1))))
    obtain ⟨f, h1, h2⟩ := s2
    exact sv_fin (cid := -1) hc hw hx0 hx1 tk kl1 kl2 e1 hMu n1 n2 n3 hcl z1 z2 (rsp_le (by simp)) (F3.k v2 r2 (fun e => by cases e)) ⟨f, F3.k h1 r2 (fun e => by cases e), h2⟩ (ph2.kp (kp7 kp3)) (kx2.kp kp3 (by simp) (by simp) (by simp)) (F02.tr F3 (fun z hz => Or.inl (by simp at hz ⊢; omega))) (by omega) (by omega) hQ
  refine wC.i v2 (c_near v2 rfl rfl s2 sl1 sl2 kx2.kr hw (fun z => ?_) (fun x b z hb hbm => ?_))
  · rw [if_pos rfl]
    exact no (by unfold chs; rw [z])
  rw [if_neg (fun e => by cases e)]
  obtain ⟨tp, tx, ml, ms, cp, so, b1, b2, b3, b4, b5, b6, b7, b8, b9, b10, b11, b12⟩ := id hb
  refine wgR.i (x := some ml) b1 rfl (wgR.i (x := so) b1 rfl (wC.i v2 (c_miss v2 rfl s2 b6 b7 b8 kx2.kr hw ?_)))
  have hml := miss_le (r := rqB Y) S.2.2.2.1 (sbS x) b7.2.1
  by_cases hm : scn S.2.2.2.1 (sbS x) + mss (rqB Y) (sbM x) = 0
  · rw [hm, if_pos (by decide)]
    have hch : chs (rqB Y) S.2.2.2.1 S.2.2.2.2.2.2.1 = some x := by
      unfold chs
      rw [z]
      dsimp only
      exact if_pos hm
    rw [hch] at hQ
    dsimp only at hQ
    refine wgI.i b1 rfl ?_
    obtain ⟨mp, pp, bp, ys, cp', zs, cz, w1, -⟩ := id kx2
    refine wpu w1 (Nat.le_of_ble_eq_true rfl) (fun A3 w3 F3 => ?_)
    have q3 : ∀ {y : Nat} {o : ab_O}, A2 y = some o → (∀ v, o ≠ oR (.inr (7, v))) → A3 y = some o := fun {y o} hy hn => F3.k hy w1 (hn _)
    have kx3 : KrX A3 rq pl hl (rqB Y) (sbI x : Int) := kx2.ch F3 (fun mp' pp' bp' hz => by
      rw [w1] at hz
      cases hz
      exact w3)
    have v3 := q3 v2 (fun v e => by cases e)
    have b13 := q3 b1 (fun v e => by cases e)
    refine wgR.i (x := so) b13 rfl (wC.i v3 ?_)
    have s3 : SaAt A3 sa S.2.2.2.1 := by
      obtain ⟨f, h1, h2⟩ := s2
      exact ⟨f, q3 h1 (fun v e => by cases e), h2⟩
    have so3 : ScAt A3 so (sbS x) := by
      generalize sbS x = yy at *
      cases yy with
      | none => exact b8
      | some y0 =>
        obtain ⟨bb, h1, h2, h3⟩ := b8
        exact ⟨bb, h1, q3 h2 (fun v e => by cases e), h3⟩
    obtain ⟨f3, s33, -⟩ := id s3
    refine c_moveOn v3 rfl s3 so3 (fun A4 s4 F4 => ?_)
    have q4 : ∀ {y : Nat} {o : ab_O}, A2 y = some o → (∀ v, o ≠ oR (.inr (7, v))) → (∀ v, o ≠ oR (.inl v)) → A4 y = some o := fun {y o} hy h1 h2 => F4.k (q3 hy h1) s33 (h2 _)
    have b14 := q4 b1 (fun v e => by cases e) (fun v e => by cases e)
    have v4 := q4 v2 (fun v e => by cases e) (fun v e => by cases e)
    have tp4 := q4 b2 (fun v e => by cases e) (fun v e => by cases e)
    have tx4 := q4 b3 (fun v e => by cases e) (fun v e => by cases e)
    have kp3 : Kp A2 A3 [rd, ln, bd, dc, rq2, pl2, hl2] := Kp.w F3 (Mu.c w1 rfl (Mu.nil _)) (fun y hy hz => by
      simp only [List.mem_cons, List.not_mem_nil, or_false] at hy hz
      have := i1.n n1
      have := i1.n n2
      have := i1.n n3
      subst hz
      rcases hy with z | z | z | z | z | z | z <;> rw [z] at t6 <;> omega)
    have kp4 := sv_kp i1 hx1 n1 n2 n3 F4 s33 rfl (Or.inr (Or.inl ts))
    have ph4 := (ph2.kp kp3).kp (kp7 kp4)
    have kx4 := kx3.kp kp4 (by simp) (by simp) (by simp)
    refine wgI.i b14 rfl (wgR.i (x := some tp) b14 rfl (wgI.i v4 rfl (wC.i tp4 (wX.i 90 2200 (by omega) (by omega) ?_))))
    refine c_fill tp4 tx4 b4 b5 kx4.kr hw (by omega) (Nat.le_refl _) (Nat.le_refl _) (fun u A5 u5 F5 => ?_)
    have c5 := F5.e (q4 c2 (fun v e => by cases e) (fun v e => by cases e))
    have r5 := F5.e (q4 r2 (fun v e => by cases e) (fun v e => by cases e))
    refine wC.i c5 (wXV.i 6 400 (by omega) (by omega) (c_respond c5 r5 e3 u5 (fil_le _ _ _) (by omega) (Nat.le_refl _) (Nat.le_refl _) (fun A6 cap' z1 z2 F6 => ?_)))
    have kp6 := sv_kp i1 hx1 n1 n2 n3 F6 r5 rfl (Or.inr (Or.inr (Or.inr (Or.inr t1))))
    obtain ⟨f4, s44, s45⟩ := s4
    have F04 : Fw A A4 [rd, ln, bd, rq, sv, rp, sa] := (F02.tr F3 (fun z hz => Or.inl (by simp at hz ⊢; omega))).tr F4 (fun z hz => Or.inl (by simp at hz ⊢; omega))
    have ph5 : Ph A5 rd ln bd rl dc rq2 pl2 hl2 [] := ph4.kp (fun y o hy _ => F5.e hy)
    have kx5 := kx4.kp (W := [rq, pl, hl]) (fun y o hy _ => F5.e hy) (by simp) (by simp) (by simp)
    exact sv_fin (cid := (sbI x : Int)) hc hw hx0 hx1 tk kl1 kl2 e1 hMu n1 n2 n3 hcl z1 z2 (rsp_le (fil_le _ _ _)) (F6.k (F5.e v4) r5 (fun e => by cases e)) ⟨f4, F6.k (F5.e s44) r5 (fun e => by cases e), s45⟩ (ph5.kp (kp7 kp6)) (kx5.kp kp6 (by simp) (by simp) (by simp)) ((F04.tr F5 (by simp)).tr F6 (fun z hz => Or.inl (by simp at hz ⊢; omega))) (by omega) (by omega) hQ
  · rw [if_neg (by simp (disch := omega) only [iI_lit, iI_add, iI_sub, iI_mul, iI_neg, iI_lt, iI_le, iI_eq] <;> omega)]
    refine no ?_
    unfold chs
    rw [z]
    dsimp only
    exact if_neg hm
end SV5
