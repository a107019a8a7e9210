/-! The class: a connection is opened, refused -/
def tg (T : Nat → Nat) (q n : Nat) : Nat → Nat := fun x => if x = q then n else T x
theorem tg_s {T : Nat → Nat} {q n : Nat} : tg T q n q = n := if_pos rfl
theorem tg_n {T : Nat → Nat} {q n x : Nat} (h : x ≠ q) : tg T q n x = T x := if_neg h
def dk (c : Nat) : List Nat := [10 * c + 10, 10 * c + 11, 10 * c + 12, 10 * c + 13, 10 * c + 14, 10 * c + 15, 10 * c + 16, 10 * c + 17, 10 * c + 18]
theorem dk_m {c i : Nat} : i ∈ dk c ↔ 10 * c + 10 ≤ i ∧ i ≤ 10 * c + 18 := by
  unfold dk
  simp only [List.mem_cons, List.not_mem_nil, or_false]
  omega
section CON
variable {G A B : ab_H} {T T' : Nat → Nat} {I : List Nat}
theorem Tf.g {q n : Nat} (h : Tf A T B T' I) (hq : A q = none ∨ T q ∈ I) (hn : n ≠ 0 → ∃ o, B q = some o ∧ mtb o = true) : Tf A T B (tg T' q n) I := by
  refine ⟨h.1, fun x o hx hi => ?_, fun x hx => ?_⟩
  · have : x ≠ q := fun e => by
      subst e
      rcases hq with z | z
      · rw [z] at hx
        cases hx
      · exact hi z
    rw [tg_n this]
    exact h.2.1 x o hx hi
  · by_cases e : x = q
    · subst e
      rw [tg_s] at hx
      exact hn hx
    · rw [tg_n e] at hx
      exact h.2.2 x hx
theorem tg_ne {x y a b : Nat} (h : T x = a) (g : T y = b) (hab : a ≠ b) : x ≠ y := fun e => hab (by rw [← h, ← g, e])
variable {c cn kc ks : Nat} {x : Cn} {Q : ab_H → Prop}
theorem c_renew (hL : Li A) (hA : Hm A T) (h : CnAt A T c cn x) (h1 : 7 ≤ kc) (h2 : 14 ≤ ks) (hQ : ∀ B T', CnAt B T' c cn (false, [], []) → Tf A T B T' (dk c) → Q B) : wp_C_renew cn A kc ks Q := by
  obtain ⟨rp, rd, ln, bd, rl, dc, cap, e1, e2, e3, e4, ⟨t0, t1, t2, t3, t4, t5⟩, e5, -⟩ := h
  have e55 := e5
  obtain ⟨⟨rq0, v4, v5, v6, v7, v8, v9, v10, r1⟩, ⟨L, c1, a1, a2⟩, ⟨D, c2, b1, b2⟩, d, ⟨Z, c3, d1, d2⟩, f⟩ := e55
  unfold wp_C_renew
  refine wgR.i (x := some rd) e1 rfl (wC.i r1 (wXV.i 6 14 (by omega) (by omega) (c_begin hL e5 (Nat.le_refl _) (Nat.le_refl _) (fun B rq pl hl n1 n2 n3 p0 fB => ?_))))
  have m : ∀ {y : Nat} {o : ab_O}, A y = some o → T y ≠ 10 * c + 12 → T y ≠ 10 * c + 13 → T y ≠ 10 * c + 14 → B y = some o := fun {y o} hy q1 q2 q3 => fB y o hy (by
    simp only [List.mem_cons, List.not_mem_nil, or_false, not_or]
    exact ⟨fun e => q1 (by rw [e]; exact t2), fun e => q2 (by rw [e]; exact t3), fun e => q3 (by rw [e]; exact t4)⟩)
  have cB := m e1 (by omega) (by omega) (by omega)
  have rB := m e2 (by omega) (by omega) (by omega)
  refine wgR.i (x := some rp) cB rfl (sb_set rB (k := 0) rfl (Nat.zero_le _) (by omega) (by omega) (fun C g1 fC => ?_))
  rw [List.take_zero] at g1
  have cC := fC.n cB (tg_ne t0 t1 (by omega))
  refine wpu cC (Nat.le_of_ble_eq_true rfl) (fun E g2 fE => ?_)
  have g2 : E cn = some (oCn rd rp false) := g2
  have hF : Fw A E [rd, ln, bd, rp, cn] := ((fB.mo (fun z hz => by simp at hz ⊢; omega)).tr fC (fun z hz => Or.inl (by simp at hz ⊢; omega))).tr fE (fun z hz => Or.inl (by simp at hz ⊢; omega))
  have rE := fE.n g1 (tg_ne t1 t0 (by omega))
  obtain ⟨L0, sr, p1, p2, p3, p4⟩ := p0
  have p22 := p2
  have p33 := p3
  obtain ⟨⟨cc1, l1, l2⟩, ⟨cc2, k1, k2⟩, o1, ⟨Z3, cc3, o2, o3⟩, o4⟩ := p22
  obtain ⟨⟨mp, pp, bp, u1⟩, ⟨cp, u2⟩, ⟨cz, u3⟩, u4⟩ := p33
  have up : ∀ {y : Nat} {o : ab_O}, B y = some o → y ≠ rp → y ≠ cn → E y = some o := fun {y o} hy q1 q2 => fE.n (fC.n hy q1) q2
  have nrp : ∀ {y : Nat}, A y = none → y ≠ rp := fun {y} hy e => by rw [e, e2] at hy; cases hy
  have ncn : ∀ {y : Nat}, A y = none → y ≠ cn := fun {y} hy e => by rw [e, e1] at hy; cases hy
  have pE : Ph E rd ln bd rl dc rq pl hl [] := Ph.kp (Or.inl ⟨L0, sr, p1, p2, p3, p4⟩) (fun y o hy hw => by
    rcases hw with z | z
    · exact up hy (ne_of hy rB (fun e => by rw [e] at z; cases z)) (ne_of hy cB (fun e => by rw [e] at z; cases z))
    · simp only [List.mem_cons, List.not_mem_nil, or_false] at z
      rcases z with z | z | z | z | z | z | z
      · exact up hy (by rw [z]; exact tg_ne t2 t1 (by omega)) (by rw [z]; exact tg_ne t2 t0 (by omega))
      · exact up hy (by rw [z]; exact tg_ne t3 t1 (by omega)) (by rw [z]; exact tg_ne t3 t0 (by omega))
      · exact up hy (by rw [z]; exact tg_ne t4 t1 (by omega)) (by rw [z]; exact tg_ne t4 t0 (by omega))
      · exact up hy (by rw [z]; exact tg_ne t5 t1 (by omega)) (by rw [z]; exact tg_ne t5 t0 (by omega))
      · exact up hy (by rw [z]; exact nrp n1) (by rw [z]; exact ncn n1)
      · exact up hy (by rw [z]; exact nrp n2) (by rw [z]; exact ncn n2)
      · exact up hy (by rw [z]; exact nrp n3) (by rw [z]; exact ncn n3))
  have F0 : Tf A T E T (dk c) := Tf.w hA hF (fun w hw => Or.inr (by
    simp only [List.mem_cons, List.not_mem_nil, or_false] at hw
    rcases hw with z | z | z | z | z
    · rw [z]; exact ⟨dk_m.mpr (by omega), _, up p1 (tg_ne t2 t1 (by omega)) (tg_ne t2 t0 (by omega)), rfl⟩
    · rw [z]; exact ⟨dk_m.mpr (by omega), _, up l1 (tg_ne t3 t1 (by omega)) (tg_ne t3 t0 (by omega)), rfl⟩
    · rw [z]; exact ⟨dk_m.mpr (by omega), _, up k1 (tg_ne t4 t1 (by omega)) (tg_ne t4 t0 (by omega)), rfl⟩
    · rw [z]; exact ⟨dk_m.mpr (by omega), _, rE, rfl⟩
    · rw [z]; exact ⟨dk_m.mpr (by omega), _, g2, rfl⟩))
  have F3 : Tf A T E (tg (tg (tg T rq (10 * c + 16)) pl (10 * c + 17)) hl (10 * c + 18)) (dk c) := ((F0.g (Or.inl n1) (fun _ => ⟨_, up u1 (nrp n1) (ncn n1), rfl⟩)).g (Or.inl n2) (fun _ => ⟨_, up u2 (nrp n2) (ncn n2), rfl⟩)).g (Or.inl n3) (fun _ => ⟨_, up u3 (nrp n3) (ncn n3), rfl⟩)
  have kt : ∀ {y n : Nat} {o : ab_O}, A y = some o → T y = n → tg (tg (tg T rq (10 * c + 16)) pl (10 * c + 17)) hl (10 * c + 18) y = n := fun {y n o} hy hn => by
    rw [tg_n (ne_no hy n3), tg_n (ne_no hy n2), tg_n (ne_no hy n1)]
    exact hn
  have q1 : rq ≠ pl := ne_of u1 u2 (fun e => by cases e)
  have q2 : rq ≠ hl := ne_of u1 u3 (fun e => by cases e)
  refine hQ E _ ⟨rp, rd, ln, bd, rl, dc, cap, g2, rE, e3, by simp, ⟨kt e1 t0, kt e2 t1, kt r1 t2, kt a1 t3, kt b1 t4, kt d1 t5⟩, pE.rs, fun _ => ⟨rq, pl, hl, ?_, ?_, tg_s, pE⟩⟩ F3
  · rw [tg_n q2, tg_n q1, tg_s]
  · rw [tg_n u4, tg_s]
def CnR (A : ab_H) (T : Nat → Nat) (c cn : Nat) : Prop := ∃ rp rd ln bd rl dc cap R fl, A cn = some (oCn rd rp fl) ∧ A rp = some (oB R cap) ∧ cap ≤ 200 ∧ (T cn = 10 * c + 10 ∧ T rp = 10 * c + 11 ∧ T rd = 10 * c + 12 ∧ T ln = 10 * c + 13 ∧ T bd = 10 * c + 14 ∧ T dc = 10 * c + 15) ∧ Rs A rd ln bd rl dc
theorem c_cnRef {code : Nat} (hL : Li A) (hA : Hm A T) (h : CnR A T c cn) (hcd : code < 1000) (h1 : 6 ≤ kc) (h2 : 400 ≤ ks) (hQ : ∀ B, CnAt B T c cn (true, [], rsp code []) → Tf A T B T (dk c) → Q B) : wp_C_refuse cn (iI code) A kc ks Q := by
  obtain ⟨rp, rd, ln, bd, rl, dc, cap, R, fl, e1, e2, e3, ⟨t0, t1, t2, t3, t4, t5⟩, e5⟩ := h
  refine c_refuse hL e1 e2 e3 hcd h1 h2 (fun B cap' g1 g2 g3 f => ?_)
  have F0 : Tf A T B T (dk c) := Tf.w hA f (fun w hw => Or.inr (by
    simp only [List.mem_cons, List.not_mem_nil, or_false] at hw
    rcases hw with z | z
    · rw [z]; exact ⟨dk_m.mpr (by omega), _, g3, rfl⟩
    · rw [z]; exact ⟨dk_m.mpr (by omega), _, g1, rfl⟩))
  have d1 := dc_le4 code
  refine hQ B ⟨rp, rd, ln, bd, rl, dc, cap', g3, g1, g2, ?_, ⟨t0, t1, t2, t3, t4, t5⟩, e5.kp (W := [rd, ln, bd, dc]) (fun y o hy hw => f y o hy (fun z => ?_)) (by simp) (by simp) (by simp) (by simp), fun z => by cases z⟩ F0
  · show (rsp code []).length ≤ 99
    unfold rsp
    have := dc_le4 ([] : List Nat).length
    simp only [List.length_append, List.length_cons, List.length_nil] at this ⊢
    omega
  · simp only [List.mem_cons, List.not_mem_nil, or_false] at z hw
    rcases z with z | z
    · subst z
      rcases hw with w | w | w | w | w
      · rw [e1] at hy
        cases hy
        cases w
      · exact tg_ne t0 t2 (by omega) w
      · exact tg_ne t0 t3 (by omega) w
      · exact tg_ne t0 t4 (by omega) w
      · exact tg_ne t0 t5 (by omega) w
    · subst z
      rcases hw with w | w | w | w | w
      · rw [e2] at hy
        cases hy
        cases w
      · exact tg_ne t1 t2 (by omega) w
      · exact tg_ne t1 t3 (by omega) w
      · exact tg_ne t1 t4 (by omega) w
      · exact tg_ne t1 t5 (by omega) w
end CON
section OPN
variable {G A B : ab_H} {T T' : Nat → Nat} {sv c kc ks : Nat} {S : St} {x : Cn}
/-- a step of one connection -/
theorem Inv.cn (h : Inv G A T sv S) (hc : c < 3) (hF : Tf A T B T' (dk c)) (hx : ∀ cn, CnAt A T c cn (S.1 c) → (∃ ca sa ty sl kl dl nx sd cf, A sv = some (oSv ca sa ty sl kl dl nx sd) ∧ A ca = some (oR (.inl (5, 3, .inr (.inr (.inr (.inr cf)))))) ∧ cf c = some cn) → CnAt B T' c cn x) : Inv G B T' sv (upC S.1 c x, S.2) := by
  obtain ⟨ca, sa, ty, sl, kl, dl, i1, i2, i3, i4, i5, i6, i7, i8, i9⟩ := h
  have nd : ∀ i, ¬ (10 * c + 10 ≤ i ∧ i ≤ 10 * c + 18) → i ∉ dk c := fun i hi z => hi (dk_m.mp z)
  refine ⟨ca, sa, ty, sl, kl, dl, hF.2.2, i2.tf hF (nd 0 (by omega)) (nd 8 (by omega)), ⟨hF.c i3.2 (nd 1 (by omega)) i3.1, hF.t2 i1 i3.2 (by omega) (nd 1 (by omega))⟩, i4.up hF i1 (nd 0 (by omega)) (nd 2 (by omega)) (fun i j1 j2 j3 => nd i (by omega)) (fun cf cn g1 g2 => ?_), i5.tf hF i1 (nd 0 (by omega)) (nd 6 (by omega)), i6.tf hF i1 (nd 3 (by omega)), i7.tf hF i1 (nd 4 (by omega)), i8.tf hF i1 (nd 0 (by omega)) (nd 7 (by omega)), i9.tf hF i1 (nd 0 (by omega)) (nd 5 (by omega)) (fun i hi => nd i (by omega))⟩
  obtain ⟨j1, cf', j2, j3⟩ := i4
  obtain ⟨cn', j4, j5⟩ := j3 c hc
  have : cf' = cf := by
    rw [g1] at j2
    have := Option.some.inj j2
    simp at this
    exact this.symm
  subst this
  rw [g2] at j4
  cases j4
  exact hx cn j5 ⟨ca, sa, ty, sl, kl, dl, _, _, cf', i3.1, g1, g2⟩
theorem c_open {c : Int} {Q : Int32 → ab_H → Prop} (hc : rng c) (h : Inv G A T sv S) (h1 : 7 ≤ kc) (h2 : 14 ≤ ks) (hQ : ∀ B T', Inv G B T' sv (a_open c S).1 → Q (iI (a_open c S).2) B) : wp_S_open sv (iI c) A kc ks Q := by
  have hh := h
  have hL := h.li
  obtain ⟨ca, sa, ty, sl, kl, dl, g1, -, ⟨g3, -⟩, ⟨-, cf, g4, g5⟩, -⟩ := h
  unfold a_open at hQ
  unfold wp_S_open
  refine c_isCon hc (fun z => ?_) (fun k e hk => ?_)
  · rw [if_pos (by decide)]
    rw [if_neg z] at hQ
    exact hQ A T hh
  · subst e
    rw [if_neg (by decide)]
    rw [if_pos (by omega), show (k : Int).toNat = k from rfl] at hQ
    obtain ⟨cn, e1, e2⟩ := g5 k hk
    refine wgR.i (x := some ca) g3 rfl (wAO.i g4 hk (by omega) ?_)
    rw [e1]
    have e22 := e2
    obtain ⟨rp, rd, ln, bd, rl, dc, cap, e3, -⟩ := e22
    refine wC.i e3 (wXV.i 7 14 (by omega) (by omega) (c_renew hL g1 e2 (Nat.le_refl _) (Nat.le_refl _) (fun B T' b1 b2 => ?_)))
    refine hQ B T' (hh.cn hk b2 (fun cn' _ hz => ?_))
    obtain ⟨ca', sa', ty', sl', kl', dl', nx', sd', cf', y1, y2, y3⟩ := hz
    have : ca' = ca := by
      rw [g3] at y1
      have := Option.some.inj y1
      simp [va_rf] at this
      exact this.1.symm
    subst this
    have : cf' = cf := by
      rw [g4] at y2
      have := Option.some.inj y2
      simp at this
      exact this.symm
    subst this
    rw [e1] at y3
    cases y3
    exact b1
end OPN
