/-! The class: serve, the journal and the connection -/
section SV4
variable {G A : ab_H} {T : Nat → Nat} {sv c : Nat} {S : St} {Y : List Nat}
variable {ca sa ty sl kl dl cn rp rd ln bd rl dc rq pl hl rq2 pl2 hl2 : Nat} {cf : Nat → Option Nat} {qs : List Nat} {cq : Nat}
theorem sv_kp {Z Z' : ab_H} {a : Nat} {o : ab_O} (i1 : Hm A T) (h1 : Sx1 A T c cn rp rd ln bd dc rq pl hl) (n1 : A rq2 = none) (n2 : A pl2 = none) (n3 : A hl2 = none) (hF : Fw Z Z' [a]) (ha : Z a = some o) (ho : mtb o = true) (ht : T a = 1 ∨ T a = 3 ∨ T a = 6 ∨ T a = 10 * c + 10 ∨ T a = 10 * c + 11) : Kp Z Z' [rd, ln, bd, dc, rq2, pl2, hl2, rq, pl, hl] := Kp.w hF (Mu.c ha ho (Mu.nil _)) (fun x hx hxa => by
    obtain ⟨⟨t0, t1, t2, t3, t4, t5⟩, ⟨t6, t7, t8⟩⟩ := h1
    simp only [List.mem_cons, List.not_mem_nil, or_false] at hx hxa
    subst hxa
    have := i1.n n1
    have := i1.n n2
    have := i1.n n3
    rcases hx with z | z | z | z | z | z | z | z | z | z <;> rw [z] at ht <;> omega)
theorem Kp.mo {Z Z' : ab_H} {W V : List Nat} (h : Kp Z Z' W) (hV : ∀ x ∈ V, x ∈ W) : Kp Z Z' V := fun x o hx hw => h x o hx (by
  rcases hw with z | z
  · exact Or.inl z
  · exact Or.inr (hV x z))
theorem kp7 {Z Z' : ab_H} (h : Kp Z Z' [rd, ln, bd, dc, rq2, pl2, hl2, rq, pl, hl]) : Kp Z Z' [rd, ln, bd, dc, rq2, pl2, hl2] := h.mo (fun x hx => by
  simp only [List.mem_cons, List.not_mem_nil, or_false] at hx ⊢
  omega)
theorem sv_fin {Z : ab_H} {M : List Nat} {cap' : Nat} {cid : Int} {st' : Nat → Nat} {kc ks : Nat} {Q : ab_H → Prop} (hc : c < 3) (hw : rqw (rqB Y)) (h0 : Sx0 G A T sv c S ca sa ty sl kl dl cn cf) (h1 : Sx1 A T c cn rp rd ln bd dc rq pl hl) (tk : T kl = 6) (kl1 : A kl = some (oL qs cq)) (kl2 : KsAt (Zf A T) qs S.2.1) (e1 : A cn = some (oCn rd rp false)) (hMu : Mu A [rd, ln, bd, rq, sv, rp, sa, kl, cn]) (n1 : A rq2 = none) (n2 : A pl2 = none) (n3 : A hl2 = none) (hcl : (jd Y).2.1 = clH (rqB Y).2.2.2.1) (z1 : Z rp = some (oB M cap')) (z2 : cap' ≤ 200) (z3 : M.length ≤ 99) (z4 : Z sv = some (oSv ca sa ty sl kl dl S.2.2.2.2.2.2.2 (S.2.2.1 + 1))) (z5 : SaAt Z sa st') (z6 : Ph Z rd ln bd rl dc rq2 pl2 hl2 []) (z7 : KrX Z rq pl hl (rqB Y) cid) (z8 : Fw A Z [rd, ln, bd, rq, sv, rp, sa]) (j1 : 1 ≤ kc) (j2 : 10 ≤ ks) (hE : ∀ E T', Inv G E T' sv (upC S.1 c ((jd Y).2.1, [], M), kpt S.2.1 (Y, cid), S.2.2.1 + 1, st', S.2.2.2.2) → Cnx E sv c cn → Q E) : wq_S_serve_92 sv (some cn) Q (some rq) Z kc ks := by
  have i1 := h0.1
  have hL : Li A := h0.2.1.1.f0 (Zf.le A T)
  have tv := h0.2.2.1.2
  have ts := h0.2.2.2.2.1.1
  have h11 := h1
  obtain ⟨⟨t0, t1, t2, t3, t4, t5⟩, ⟨t6, t7, t8⟩⟩ := h11
  unfold wq_S_serve_92
  have nW : ∀ {y : Nat}, (T y = 6 ∨ T y = 10 * c + 10) → y ∉ [rd, ln, bd, rq, sv, rp, sa] := fun {y} hy hm => by
    simp only [List.mem_cons, List.not_mem_nil, or_false] at hm
    rcases hm with z | z | z | z | z | z | z <;> rw [z] at hy <;> omega
  have zk := z8 _ _ kl1 (nW (Or.inl tk))
  have zc := z8 _ _ e1 (nW (Or.inr t0))
  obtain ⟨mp, pp, bp, ys, cp, zs, cz, x1, -⟩ := id z7
  refine wC.i z4 (wXV.i 1 10 (by omega) (by omega) (c_keep z4 rfl zk (by rw [kl2.1]; exact kl2.2.1) x1 (Nat.le_refl _) (Nat.le_refl _) (fun U y1 y2 => ?_)))
  have kpU := sv_kp i1 h1 n1 n2 n3 y2 zk rfl (Or.inr (Or.inr (Or.inl tk)))
  have uP := z6.kp (kp7 kpU)
  have uK := z7.kp kpU (by simp) (by simp) (by simp)
  have uc := y2.n zc (tg_ne t0 tk (by omega))
  have ur := y2.n z1 (tg_ne t1 tk (by omega))
  have uv := y2.n z4 (tg_ne tv tk (by omega))
  have us : SaAt U sa st' := by
    obtain ⟨f, h1, h2⟩ := z5
    exact ⟨f, y2.n h1 (tg_ne ts tk (by omega)), h2⟩
  have uF : Fw A U [rd, ln, bd, rq, sv, rp, sa, kl, cn] := (z8.mo (fun z hz => by simp only [List.mem_cons, List.not_mem_nil, or_false] at hz ⊢; omega)).tr y2 (fun z hz => Or.inl (by simp at hz ⊢; omega))
  obtain ⟨mp, pp, bp, ys, cp, zs, cz, x1', -⟩ := id uK
  refine wC.i x1' (c_close (hL.fw uF hMu) uK.kr hw ?_)
  rw [← hcl]
  cases hb : (jd Y).2.1 with
  | false =>
    rw [if_pos (by decide)]
    obtain ⟨T', hI, hX⟩ := sv_last (M := M) hc hw h0 h1 tk kl2 n1 n2 n3 z2 z3 (by rw [hb]; exact uc) ur uv us y1 uP uK uF
    exact hE U T' hI hX
  | true =>
    rw [if_neg (by decide)]
    refine wpu uc (Nat.le_of_ble_eq_true rfl) (fun E q1 q2 => ?_)
    have kpE := sv_kp i1 h1 n1 n2 n3 q2 uc rfl (Or.inr (Or.inr (Or.inr (Or.inl t0))))
    have us2 : SaAt E sa st' := by
      obtain ⟨f, h1, h2⟩ := us
      exact ⟨f, q2.n h1 (tg_ne ts t0 (by omega)), h2⟩
    obtain ⟨T', hI, hX⟩ := sv_last (M := M) hc hw h0 h1 tk kl2 n1 n2 n3 z2 z3 (by rw [hb]; exact q1) (q2.n ur (tg_ne t1 t0 (by omega))) (q2.n uv (tg_ne tv t0 (by omega))) us2 (q2.n y1 (tg_ne tk t0 (by omega))) (uP.kp (kp7 kpE)) (uK.kp kpE (by simp) (by simp) (by simp)) (uF.tr q2 (fun z hz => Or.inl (by simp at hz ⊢; omega)))
    exact hE E T' hI hX
end SV4
