/-! The class: serve, its end -/
section SV3
variable {G A : ab_H} {T : Nat → Nat} {sv c : Nat} {S : St} {Y : List Nat}
variable {ca sa ty sl kl dl cn rp rd ln bd rl dc rq pl hl rq2 pl2 hl2 : Nat} {cf : Nat → Option Nat} {qs : List Nat} {cq : Nat}
/-- where the cells of a server are, and whose -/
def Sx0 (G A : ab_H) (T : Nat → Nat) (sv c : Nat) (S : St) (ca sa ty sl kl dl cn : Nat) (cf : Nat → Option Nat) : Prop := Hm A T ∧ LiG G A T ∧ (A sv = some (oSv ca sa ty sl kl dl S.2.2.2.2.2.2.2 S.2.2.1) ∧ T sv = 1) ∧ (T ca = 2 ∧ A ca = some (oR (.inl (5, 3, .inr (.inr (.inr (.inr cf)))))) ∧ cf c = some cn ∧ ∀ d, d < 3 → d ≠ c → ∃ cn', cf d = some cn' ∧ CnAt A T d cn' (S.1 d)) ∧ Ist A T sa S.2.2.2.1 ∧ Ity A T ty S.2.2.2.2.1 ∧ Idl A T dl S.2.2.2.2.2.1 ∧ Isl A T sl S.2.2.2.2.2.2.1
def Sx1 (A : ab_H) (T : Nat → Nat) (c cn rp rd ln bd dc rq pl hl : Nat) : Prop := (T cn = 10 * c + 10 ∧ T rp = 10 * c + 11 ∧ T rd = 10 * c + 12 ∧ T ln = 10 * c + 13 ∧ T bd = 10 * c + 14 ∧ T dc = 10 * c + 15) ∧ (T rq = 10 * c + 16 ∧ T pl = 10 * c + 17 ∧ T hl = 10 * c + 18)
theorem nw_t {rq2 pl2 hl2 : Nat} (i1 : Hm A T) (h1 : Sx1 A T c cn rp rd ln bd dc rq pl hl) (n1 : A rq2 = none) (n2 : A pl2 = none) (n3 : A hl2 = none) (o4 : rq2 ≠ pl2) (o5 : rq2 ≠ hl2) (o6 : pl2 ≠ hl2) : ∃ T', T' = tg (tg (tg (tg (tg (tg T rq 0) pl 0) hl 0) rq2 (10 * c + 16)) pl2 (10 * c + 17)) hl2 (10 * c + 18) ∧ (∀ y, T y ≠ 0 → T y ≠ 10 * c + 16 → T y ≠ 10 * c + 17 → T y ≠ 10 * c + 18 → T' y = T y) ∧ T' rq = 0 ∧ T' pl = 0 ∧ T' hl = 0 ∧ T' rq2 = 10 * c + 16 ∧ T' pl2 = 10 * c + 17 ∧ T' hl2 = 10 * c + 18 := by
  obtain ⟨-, t6, t7, t8⟩ := h1
  have ne : ∀ {x y : Nat}, T x ≠ 0 → A y = none → x ≠ y := fun {x y} hx hy e => hx (by rw [e]; exact i1.n hy)
  refine ⟨_, rfl, fun y h0 q1 q2 q3 => ?_, ?_, ?_, ?_, ?_, ?_, tg_s⟩
  · rw [tg_n (ne h0 n3), tg_n (ne h0 n2), tg_n (ne h0 n1), tg_n (fun e => q3 (by rw [e]; exact t8)), tg_n (fun e => q2 (by rw [e]; exact t7)), tg_n (fun e => q1 (by rw [e]; exact t6))]
  · rw [tg_n (ne (by omega) n3), tg_n (ne (by omega) n2), tg_n (ne (by omega) n1), tg_n (tg_ne t6 t8 (by omega)), tg_n (tg_ne t6 t7 (by omega)), tg_s]
  · rw [tg_n (ne (by omega) n3), tg_n (ne (by omega) n2), tg_n (ne (by omega) n1), tg_n (tg_ne t7 t8 (by omega)), tg_s]
  · rw [tg_n (ne (by omega) n3), tg_n (ne (by omega) n2), tg_n (ne (by omega) n1), tg_s]
  · rw [tg_n o5, tg_n o4, tg_s]
  · rw [tg_n o6, tg_s]
/-- the last heap -/
theorem sv_last {E : ab_H} {M : List Nat} {cap' : Nat} {cid : Int} {st' : Nat → Nat} (hc : c < 3) (hw : rqw (rqB Y)) (h0 : Sx0 G A T sv c S ca sa ty sl kl dl cn cf) (h1 : Sx1 A T c cn rp rd ln bd dc rq pl hl) (tk : T kl = 6) (kl2 : KsAt (Zf A T) qs S.2.1) (n1 : A rq2 = none) (n2 : A pl2 = none) (n3 : A hl2 = none) (z2 : cap' ≤ 200) (z3 : M.length ≤ 99) (m1 : E cn = some (oCn rd rp (jd Y).2.1)) (m2 : E rp = some (oB M cap')) (m3 : E sv = some (oSv ca sa ty sl kl dl S.2.2.2.2.2.2.2 (S.2.2.1 + 1))) (m4 : SaAt E sa st') (m5 : E kl = some (oL ((if qs.length = 5 then qs.drop 1 else qs) ++ [rq]) 10)) (m6 : Ph E rd ln bd rl dc rq2 pl2 hl2 []) (m7 : KrX E rq pl hl (rqB Y) cid) (m8 : Fw A E [rd, ln, bd, rq, sv, rp, sa, kl, cn]) : ∃ T', Inv G E T' sv (upC S.1 c ((jd Y).2.1, [], M), kpt S.2.1 (Y, cid), S.2.2.1 + 1, st', S.2.2.2.2) ∧ Cnx E sv c cn := by
  obtain ⟨i1, i2, ⟨v1, tv⟩, ⟨tc, g1, g2, g5⟩, i6, i7, i8, i9⟩ := h0
  have ts := i6.1
  obtain ⟨o1, o2, o3, o4, o5, o6⟩ := m6.cl
  obtain ⟨T', eT, old, fz1, fz2, fz3, nw1, nw2, nw3⟩ := nw_t i1 h1 n1 n2 n3 o4 o5 o6
  obtain ⟨⟨t0, t1, t2, t3, t4, t5⟩, ⟨t6, t7, t8⟩⟩ := h1
  have dm : ∀ {i : Nat}, (10 * c + 10 ≤ i ∧ i ≤ 10 * c + 18) ∨ i = 1 ∨ i = 3 ∨ i = 6 → i ∈ dk c ++ [1, 3, 6] := fun {i} hi => by
    rw [List.mem_append, dk_m]
    simp only [List.mem_cons, List.not_mem_nil, or_false]
    exact hi
  have nm : ∀ {i : Nat}, ¬ ((10 * c + 10 ≤ i ∧ i ≤ 10 * c + 18) ∨ i = 1 ∨ i = 3 ∨ i = 6) → i ∉ dk c ++ [1, 3, 6] := fun {i} hi hz => by
    rw [List.mem_append, dk_m] at hz
    simp only [List.mem_cons, List.not_mem_nil, or_false] at hz
    exact hi hz
  have hT : Tf A T E T' (dk c ++ [1, 3, 6]) := by
    have m66 := m6.rs
    obtain ⟨⟨rq0, v4, v5, v6, v7, v8, v9, v10, r1⟩, ⟨L, k3, r2, r3⟩, ⟨D', k4, r4, r5⟩, r6, ⟨Z', k5, r7, r8⟩, r9⟩ := m66
    obtain ⟨mp, pp, bp, ys, cp, zs, cz, w1, -⟩ := id m7
    obtain ⟨fs4, m44, -⟩ := id m4
    have hT0 : Tf A T E T (dk c ++ [1, 3, 6]) := Tf.w i1 m8 (fun w hw => Or.inr (by
      simp only [List.mem_cons, List.not_mem_nil, or_false] at hw
      rcases hw with z | z | z | z | z | z | z | z | z
      · rw [z]; exact ⟨dm (by omega), _, r1, rfl⟩
      · rw [z]; exact ⟨dm (by omega), _, r2, rfl⟩
      · rw [z]; exact ⟨dm (by omega), _, r4, rfl⟩
      · rw [z]; exact ⟨dm (by omega), _, w1, rfl⟩
      · rw [z]; exact ⟨dm (by omega), _, m3, rfl⟩
      · rw [z]; exact ⟨dm (by omega), _, m2, rfl⟩
      · rw [z]; exact ⟨dm (by omega), _, m44, rfl⟩
      · rw [z]; exact ⟨dm (by omega), _, m5, rfl⟩
      · rw [z]; exact ⟨dm (by omega), _, m1, rfl⟩))
    rw [eT]
    exact (((((hT0.g (q := rq) (n := 0) (Or.inr (dm (by omega))) (fun z => absurd rfl z)).g (q := pl) (n := 0) (Or.inr (dm (by omega))) (fun z => absurd rfl z)).g (q := hl) (n := 0) (Or.inr (dm (by omega))) (fun z => absurd rfl z)).g (q := rq2) (n := 10 * c + 16) (Or.inl n1) (fun _ => o1)).g (q := pl2) (n := 10 * c + 17) (Or.inl n2) (fun _ => o2)).g (q := hl2) (n := 10 * c + 18) (Or.inl n3) (fun _ => o3)
  clear eT
  have ol : ∀ {y n : Nat}, T y = n → n ≠ 0 → n < 10 * c + 16 → T' y = n := fun {y n} hn q0 q1 => by
    rw [old y (by omega) (by omega) (by omega) (by omega)]
    exact hn
  have nm0 : 0 ∉ dk c ++ [1, 3, 6] := nm (by omega)
  have z0 := hT.z nm0
  have kz := m7.kp (Kp.z (W := [rq, pl, hl]) hT.2.2 (fun x hx => by
    simp only [List.mem_cons, List.not_mem_nil, or_false] at hx
    rcases hx with z | z | z <;> rw [z] <;> assumption)) (by simp) (by simp) (by simp)
  refine ⟨T', ⟨ca, sa, ty, sl, kl, dl, hT.2.2, i2.tf hT nm0 (nm (by omega)), ⟨m3, ol tv (by decide) (by omega)⟩, ⟨ol tc (by decide) (by omega), cf, hT.c tc (nm (by omega)) g1, fun d hd => ?_⟩, ⟨ol tk (by decide) (by omega), _, 10, m5, ks_app (kl2.f0 z0) kz.kr hw⟩, ⟨ol ts (by decide) (by omega), m4⟩, i7.tf hT i1 (nm (by omega)), i8.tf hT i1 nm0 (nm (by omega)), i9.tf hT i1 nm0 (nm (by omega)) (fun i hi => nm (by omega))⟩, ⟨ca, sa, ty, sl, kl, dl, _, _, cf, m3, hT.c tc (nm (by omega)) g1, g2⟩⟩
  by_cases e : d = c
  · subst e
    refine ⟨cn, g2, ?_⟩
    show CnAt E T' d cn (upC S.1 d ((jd Y).2.1, [], M) d)
    unfold upC
    rw [if_pos rfl]
    exact ⟨rp, rd, ln, bd, rl, dc, cap', m1, m2, z2, z3, ⟨ol t0 (by omega) (by omega), ol t1 (by omega) (by omega), ol t2 (by omega) (by omega), ol t3 (by omega) (by omega), ol t4 (by omega) (by omega), ol t5 (by omega) (by omega)⟩, m6.rs, fun _ => ⟨rq2, pl2, hl2, nw1, nw2, nw3, m6⟩⟩
  · obtain ⟨cn2, y1, y2⟩ := g5 d hd e
    refine ⟨cn2, y1, ?_⟩
    show CnAt E T' d cn2 (upC S.1 c ((jd Y).2.1, [], M) d)
    unfold upC
    rw [if_neg e]
    exact y2.tf hT i1 nm0 (fun i hi => nm (by omega))
end SV3
