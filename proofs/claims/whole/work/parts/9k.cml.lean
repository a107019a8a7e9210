/-! The class: a byte arrives -/
section STP
variable {G A B : ab_H} {T T' : Nat → Nat} {sv c cn : Nat} {S : St} {I : List Nat}
theorem Cnx.u {cn' : Nat} (h : Cnx A sv c cn) (g : Cnx A sv c cn') : cn = cn' := by
  obtain ⟨ca, sa, ty, sl, kl, dl, nx, sd, cf, y1, y2, y3⟩ := h
  obtain ⟨ca', sa', ty', sl', kl', dl', nx', sd', cf', w1, w2, w3⟩ := g
  have : ca = ca' := by
    rw [w1] at y1
    have := Option.some.inj y1
    simp [va_rf] at this
    exact this.1.symm
  subst this
  have : cf = cf' := by
    rw [w2] at y2
    have := Option.some.inj y2
    simp at this
    exact this.symm
  subst this
  rw [w3] at y3
  exact (Option.some.inj y3).symm
theorem Inv.cx (h : Inv G A T sv S) (hc : c < 3) : ∃ cn, Cnx A sv c cn ∧ CnAt A T c cn (S.1 c) := by
  obtain ⟨ca, sa, ty, sl, kl, dl, i1, i2, ⟨v1, tv⟩, ⟨tc, cf, g1, g2⟩, -⟩ := h
  obtain ⟨cn, y1, y2⟩ := g2 c hc
  exact ⟨cn, ⟨ca, sa, ty, sl, kl, dl, _, _, cf, v1, g1, y1⟩, y2⟩
theorem Inv.cnat (h : Inv G A T sv S) (hx : Cnx A sv c cn) (hc : c < 3) : CnAt A T c cn (S.1 c) := by
  obtain ⟨cn', y1, y2⟩ := h.cx hc
  rw [hx.u y1]
  exact y2
theorem Inv.cxf (h : Inv G A T sv S) (hx : Cnx A sv c cn) (hF : Tf A T B T' (dk c)) : Cnx B sv c cn := by
  obtain ⟨ca, sa, ty, sl, kl, dl, i1, i2, ⟨v1, tv⟩, ⟨tc, cf, g1, g2⟩, -⟩ := h
  obtain ⟨ca', sa', ty', sl', kl', dl', nx', sd', cf', w1, w2, w3⟩ := hx
  have : ca = ca' := by
    rw [w1] at v1
    have := Option.some.inj v1
    simp [va_rf] at this
    exact this.1.symm
  subst this
  have nd : ∀ i, i < 10 → i ∉ dk c := fun i hi z => by
    have := dk_m.mp z
    omega
  exact ⟨ca, sa', ty', sl', kl', dl', nx', sd', cf', hF.c tv (nd 1 (by omega)) w1, hF.c tc (nd 2 (by omega)) w2, w3⟩
theorem Tf.wf {W V : List Nat} (hT : Hm A T) (hF : Fw A B (W ++ V)) (hW : ∀ w ∈ W, T w ∈ I ∧ ∃ o, B w = some o ∧ mtb o = true) (hV : ∀ v ∈ V, T v ∈ I) (h1 : ∀ x, x ∉ V → T' x = T x) (h0 : ∀ v ∈ V, T' v = 0) : Tf A T B T' I := by
  refine ⟨fun x o hx hn => hF x o hx (fun z => ?_), fun x o hx hn => h1 x (fun z => hn (hV x z)), fun x hx => ?_⟩
  · rcases List.mem_append.mp z with y | y
    · exact hn (hW x y).1
    · exact hn (hV x y)
  · by_cases q : x ∈ V
    · exact absurd (h0 x q) hx
    · rw [h1 x q] at hx
      by_cases q2 : x ∈ W
      · exact (hW x q2).2
      · obtain ⟨o, y1, y2⟩ := hT x hx
        exact ⟨o, hF x o y1 (fun z => by rcases List.mem_append.mp z with y | y; exact q2 y; exact q y), y2⟩
theorem Inv.inx {P : Nat → Prop} (h : Inv G A T sv S) (hx : Cnx A sv c cn) (hF : Tf A T B T (dk c)) (hc : c < 3) (hP : P cn) : Inx G B T sv S c P := by
  obtain ⟨ca, sa, ty, sl, kl, dl, i1, i2, i3, ⟨tc, cf, g1, g2⟩, i5, i6, i7, i8, i9⟩ := h
  have nd : ∀ i, ¬ (10 * c + 10 ≤ i ∧ i ≤ 10 * c + 18) → i ∉ dk c := fun i hi z => hi (dk_m.mp z)
  obtain ⟨cn', y1, y2⟩ := g2 c hc
  have hcn : cn = cn' := hx.u ⟨ca, sa, ty, sl, kl, dl, _, _, cf, i3.1, g1, y1⟩
  subst hcn
  exact ⟨ca, sa, ty, sl, kl, dl, hF.2.2, i2.tf hF (nd 0 (by omega)) (nd 8 (by omega)), ⟨hF.c i3.2 (nd 1 (by omega)) i3.1, i3.2⟩, ⟨tc, cf, cn, hF.c tc (nd 2 (by omega)) g1, y1, hP, fun d hd hn => by
    obtain ⟨cn2, w1, w2⟩ := g2 d hd
    exact ⟨cn2, w1, w2.tf hF i1 (nd 0 (by omega)) (fun i hi => nd _ (by omega))⟩⟩, i5.tf hF i1 (nd 0 (by omega)) (nd 6 (by omega)), i6.tf hF i1 (nd 3 (by omega)), i7.tf hF i1 (nd 4 (by omega)), i8.tf hF i1 (nd 0 (by omega)) (nd 7 (by omega)), i9.tf hF i1 (nd 0 (by omega)) (nd 5 (by omega)) (fun i hi => nd i (by omega))⟩
theorem c_step {b kc ks kt st : Nat} {K : ab_H → Nat → Nat → Prop} (hc : c < 3) (h : Inv G A T sv S) (hx : Cnx A sv c cn) (ho : (S.1 c).1 = false) (h8 : ∀ y ∈ (S.1 c).2.1, y < 256) (hsd : S.2.2.1 < 9000) (hb : b < 256) (k1 : 20 ≤ kt) (k2 : 700 ≤ st) (k3 : exq (S.1 c).2.1 b → 600 ≤ kt ∧ 7000 ≤ st) (k4 : (jd ((S.1 c).2.1 ++ [b])).1 = 1 → kt + 110 ≤ kc ∧ st + 2800 ≤ ks) (k5 : kt + 6 ≤ kc) (k6 : st + 400 ≤ ks)
    (hK : ∀ E T' kc' ks', Inv G E T' sv (arr S c b) → Cnx E sv c cn → ((jd ((S.1 c).2.1 ++ [b])).1 = 0 → kc' = kc - kt ∧ ks' = ks - st) → ((jd ((S.1 c).2.1 ++ [b])).1 = 1 → kc' = kc - kt - 110 ∧ ks' = ks - st - 2800) → K E kc' ks') :
    wgR A (some cn) 4 0 (fun r2 => wC A r2 5 (fun b5 => wX kc ks (wp_R_take b5 (iI b) A) (fun x4 A kc ks => if x4 = (1 : Int32) then (wC A (some sv) 3 (fun b => wXV kc ks (wp_S_serve b (some cn) A) K)) else (if x4 = 0 then K A kc ks else (wC A (some cn) 4 (fun b => wXV kc ks (wp_C_refuse b x4 A) K)))))) := by
  have hA : Hm A T := by
    obtain ⟨_, _, _, _, _, _, i1, -⟩ := h
    exact i1
  have hL := h.li
  have hsv : ∃ fs, A sv = some (oR (.inr (3, fs))) ∧ T sv = 1 := by
    obtain ⟨_, _, _, _, _, _, _, _, ⟨v1, tv⟩, -⟩ := h
    exact ⟨_, v1, tv⟩
  obtain ⟨fsv, sv1, tsv⟩ := hsv
  obtain ⟨rp, rd, ln, bd, rl, dc, cap, e1, e2, e3, e4, ⟨t0, t1, t2, t3, t4, t5⟩, e5, e6⟩ := h.cnat hx hc
  obtain ⟨rq, pl, hl, t6, t7, t8, ph⟩ := e6 ho
  rw [ho] at e1
  obtain ⟨⟨rq0, v4, v5, v6, v7, v8, v9, v10, r1⟩, -⟩ := id e5
  have nW : ∀ {y : Nat} {C : ab_H} {o : ab_O}, Fw A C [rd, ln, bd, dc, rq, pl, hl] → A y = some o → (T y < 10 * c + 12 ∨ 10 * c + 19 ≤ T y) → C y = some o := fun {y C o} hF hy ht => hF y o hy (by
    simp only [List.mem_cons, List.not_mem_nil, or_false, not_or]
    exact ⟨fun e => by rw [e] at ht; omega, fun e => by rw [e] at ht; omega, fun e => by rw [e] at ht; omega, fun e => by rw [e] at ht; omega, fun e => by rw [e] at ht; omega, fun e => by rw [e] at ht; omega, fun e => by rw [e] at ht; omega⟩)
  have tfw : ∀ {C : ab_H}, Fw A C [rd, ln, bd, dc, rq, pl, hl] → Rs C rd ln bd rl dc → (∃ o, C rq = some o ∧ mtb o = true) → (∃ o, C pl = some o ∧ mtb o = true) → (∃ o, C hl = some o ∧ mtb o = true) → Tf A T C T (dk c) := fun {C} hF hR q1 q2 q3 => Tf.w hA hF (fun w hw => Or.inr (by
    obtain ⟨⟨rq0, v4, v5, v6, v7, v8, v9, v10, z1⟩, ⟨L, k3, z2, z3⟩, ⟨D', k4, z4, z5⟩, -, ⟨Z', k5, z6, z7⟩, -⟩ := hR
    simp only [List.mem_cons, List.not_mem_nil, or_false] at hw
    rcases hw with z | z | z | z | z | z | z
    · rw [z]; exact ⟨dk_m.mpr (by omega), _, z1, rfl⟩
    · rw [z]; exact ⟨dk_m.mpr (by omega), _, z2, rfl⟩
    · rw [z]; exact ⟨dk_m.mpr (by omega), _, z4, rfl⟩
    · rw [z]; exact ⟨dk_m.mpr (by omega), _, z6, rfl⟩
    · rw [z]; exact ⟨dk_m.mpr (by omega), q1⟩
    · rw [z]; exact ⟨dk_m.mpr (by omega), q2⟩
    · rw [z]; exact ⟨dk_m.mpr (by omega), q3⟩))
  refine wgR.i (x := some rd) e1 rfl (wC.i r1 (wX.i kt st (by omega) (by omega) ?_))
  have hjc := jd_c ((S.1 c).2.1 ++ [b])
  unfold arr at hK
  refine c_take hL ph hb k1 k2 k3 ⟨fun j C fC pC => ?_, fun j C fC pC => ?_, fun j0 j1 C fC rC => ?_⟩
  · dsimp only
    rw [if_neg (show ¬ (0 : Int32) = 1 by decide), if_pos rfl]
    rw [if_pos j] at hK
    obtain ⟨q1, q2, q3, -⟩ := pC.cl
    have hT := tfw fC pC.rs q1 q2 q3
    refine hK C T _ _ (h.cn hc hT (fun cn' _ hz => ?_)) (h.cxf hx hT) (fun _ => ⟨rfl, rfl⟩) (fun z => absurd (z.symm.trans j) (by decide))
    have hcn : cn = cn' := hx.u hz
    subst hcn
    exact ⟨rp, rd, ln, bd, rl, dc, cap, by rw [ho]; exact nW fC e1 (by omega), nW fC e2 (by omega), e3, e4, ⟨t0, t1, t2, t3, t4, t5⟩, pC.rs, fun _ => ⟨rq, pl, hl, t6, t7, t8, pC⟩⟩
  · dsimp only
    rw [if_pos rfl]
    rw [if_neg (by rw [j]; decide), if_pos j] at hK
    obtain ⟨kk1, kk2⟩ := k4 j
    have cells : Rs C rd ln bd rl dc ∧ (∃ o, C rq = some o ∧ mtb o = true) ∧ (∃ o, C pl = some o ∧ mtb o = true) ∧ (∃ o, C hl = some o ∧ mtb o = true) := by
      obtain ⟨X0, H0, D0, ph', wt, sd, sa', sr, tl, ck, p1, p2, p3, p4, p5⟩ := id pC
      obtain ⟨⟨mp0, pp0, bp0, u1, -⟩, ⟨ys, cp, u2, -⟩, ⟨zs, cz, u3, -⟩, -⟩ := p3
      exact ⟨p2.rs p1, ⟨_, u1, rfl⟩, ⟨_, u2, rfl⟩, ⟨_, u3, rfl⟩⟩
    have hT := tfw fC cells.1 cells.2.1 cells.2.2.1 cells.2.2.2
    have hI : Inx G C T sv S c (fun z => z = cn ∧ Cw C T c (S.1 c).2.2 ((S.1 c).2.1 ++ [b]) z) := h.inx hx hT hc ⟨rfl, rp, rd, ln, bd, rl, dc, rq, pl, hl, cap, nW fC e1 (by omega), nW fC e2 (by omega), e3, ⟨t0, t1, t2, t3, t4, t5⟩, ⟨t6, t7, t8⟩, pC⟩
    refine wC.i (nW fC sv1 (by omega)) (wXV.i 110 2800 (by omega) (by omega) (c_serve hc (fun y hy => ?_) j hsd hI (Nat.le_refl _) (Nat.le_refl _) (fun E T' w1 w2 => hK E T' _ _ w1 w2 (fun z => absurd (z.symm.trans j) (by decide)) (fun _ => ⟨rfl, rfl⟩))))
    rcases List.mem_append.mp hy with z | z
    · exact h8 y z
    · rw [List.mem_singleton.mp z]
      exact hb
  · rw [if_neg j0, if_neg j1] at hK
    have hr : 0 ≤ (jd ((S.1 c).2.1 ++ [b])).1 ∧ (jd ((S.1 c).2.1 ++ [b])).1 < 1000 := by omega
    obtain ⟨m, hm⟩ := Int.eq_ofNat_of_zero_le hr.1
    rw [hm] at hK j0 j1 hr ⊢
    rw [show (m : Int).toNat = m from rfl] at hK
    rw [if_neg (by simp (disch := omega) only [iI_lit, iI_add, iI_sub, iI_mul, iI_neg, iI_lt, iI_le, iI_eq] <;> omega), if_neg (by simp (disch := omega) only [iI_lit, iI_add, iI_sub, iI_mul, iI_neg, iI_lt, iI_le, iI_eq] <;> omega)]
    have hT : Tf A T C (tg (tg (tg T rq 0) pl 0) hl 0) (dk c) := Tf.wf (W := [rd, ln, bd, dc]) (V := [rq, pl, hl]) hA fC (fun w hw => by
      obtain ⟨⟨rq0, v4, v5, v6, v7, v8, v9, v10, z1⟩, ⟨L, k3, z2, z3⟩, ⟨D', k4, z4, z5⟩, -, ⟨Z', k5, z6, z7⟩, -⟩ := rC
      simp only [List.mem_cons, List.not_mem_nil, or_false] at hw
      rcases hw with z | z | z | z
      · rw [z]; exact ⟨dk_m.mpr (by omega), _, z1, rfl⟩
      · rw [z]; exact ⟨dk_m.mpr (by omega), _, z2, rfl⟩
      · rw [z]; exact ⟨dk_m.mpr (by omega), _, z4, rfl⟩
      · rw [z]; exact ⟨dk_m.mpr (by omega), _, z6, rfl⟩) (fun v hv => by
      simp only [List.mem_cons, List.not_mem_nil, or_false] at hv
      rcases hv with z | z | z <;> rw [z] <;> exact dk_m.mpr (by omega)) (fun y hy => by
      simp only [List.mem_cons, List.not_mem_nil, or_false, not_or] at hy
      rw [tg_n hy.2.2, tg_n hy.2.1, tg_n hy.1]) (fun v hv => by
      simp only [List.mem_cons, List.not_mem_nil, or_false] at hv
      unfold tg
      rcases hv with z | z | z <;> subst z <;> simp)
    have ol : ∀ {y n : Nat}, T y = n → n < 10 * c + 16 → tg (tg (tg T rq 0) pl 0) hl 0 y = n := fun {y n} hn q1 => by
      rw [tg_n (tg_ne hn t8 (by omega)), tg_n (tg_ne hn t7 (by omega)), tg_n (tg_ne hn t6 (by omega))]
      exact hn
    have hR : CnR C (tg (tg (tg T rq 0) pl 0) hl 0) c cn := ⟨rp, rd, ln, bd, rl, dc, cap, (S.1 c).2.2, false, nW fC e1 (by omega), nW fC e2 (by omega), e3, ⟨ol t0 (by omega), ol t1 (by omega), ol t2 (by omega), ol t3 (by omega), ol t4 (by omega), ol t5 (by omega)⟩, rC⟩
    have hLC : Li C := by
      have : Li (Zf A T) := by
        obtain ⟨_, _, _, _, _, _, _, i2, -⟩ := h
        exact i2.1
      exact (this.f0 (hT.z (fun z => by have := dk_m.mp z; omega))).f0 (Zf.le _ _)
    refine wC.i (nW fC e1 (by omega)) (wXV.i 6 400 (by omega) (by omega) (c_cnRef hLC hT.2.2 hR (by omega) (Nat.le_refl _) (Nat.le_refl _) (fun E w1 w2 => ?_)))
    have hTE := hT.tr w2
    refine hK E _ _ _ (h.cn hc hTE (fun cn' _ hz => ?_)) (h.cxf hx hTE) (fun z => absurd z j0) (fun z => absurd z j1)
    have hcn : cn = cn' := hx.u hz
    subst hcn
    exact w1
end STP
