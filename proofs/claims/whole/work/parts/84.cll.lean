/-! The class: the reader takes a byte -/
theorem hvl_mem {T : List Nat} {x : Nat} (h : x ∈ hvl T) : x ∈ T := by
  unfold hvl at h
  rw [trm_rtr] at h
  have h2 : x ∈ List.drop (spn (T.drop (fi 58 T + 1))) (T.drop (fi 58 T + 1)) := by
    rw [← rtr_pre] at h
    exact List.mem_of_mem_take h
  exact List.mem_of_mem_drop (List.mem_of_mem_drop h2)
theorem hvl_le (T : List Nat) : (hvl T).length ≤ T.length := by
  unfold hvl
  rw [trm_rtr]
  refine Nat.le_trans (rtr_le _) ?_
  rw [List.length_drop, List.length_drop]
  omega
section T1S
variable {A : ab_H} {rd ln bd rl dc rq pl hl b kc ks : Nat} {B : List Nat} {Q : Int32 → ab_H → Prop}
theorem c_ph1 (hL : Li A) (h : Ph1 A rd ln bd rl dc rq pl hl B) (hb : b < 256) (h1 : 20 ≤ kc) (h2 : 700 ≤ ks) (hQ : Tk3 A rd ln bd rl dc rq pl hl (B ++ [b]) Q) : wp_R_takeInHeaders rd (iI b) A kc ks Q := by
  obtain ⟨P, an, ic, hs, X, H, L, sr, p1, p2, p3, p4, p5, p6, p7, rfl⟩ := h
  obtain ⟨q0, q1, q2⟩ := hQ
  rw [List.append_assoc] at q0 q1 q2
  unfold wp_R_takeInHeaders
  refine wC.i p1 (wX.i 1 400 (by omega) (by omega) ?_)
  have hcd : lnc 32 431 L sr b ≤ 0 → (jd (P ++ (L ++ cr sr ++ [b]))).1 = -(lnc 32 431 L sr b) := fun z => p6.code p4 p5 z
  have hlnr : lnc 32 431 L sr b ≤ 0 → lnc 32 431 L sr b = 0 ∨ lnc 32 431 L sr b = -400 ∨ lnc 32 431 L sr b = -431 := fun z => by
    unfold lnc at z ⊢
    (repeat' split) <;> (rename_i y; simp_all) <;> omega
  refine c_takeInLine (most := 32) (over := 431) p1 p2 p5 (by decide) (by decide) (by decide) hb (Nat.le_refl _) (Nat.le_refl _) (fun z s1 s2 => ?_) (fun z => ?_) (fun s1 s2 C e1 f1 => ?_) (fun s1 s2 s3 C e1 f1 => ?_)
  · subst s1 s2
    rw [if_pos rfl]
    refine wC.i p1 (wX.i 3 64 (by omega) (by omega) ?_)
    refine c_endLine p1 p2 (Nat.le_refl _) (Nat.le_refl _) (fun s A2 n2 g2 e2 b2 f2 => ?_)
    obtain ⟨⟨c1, a1, a2⟩, -⟩ := p2
    have hMu : Mu A [rd, ln] := Mu.c p1 rfl (Mu.c a1 rfl (Mu.nil _))
    have F2 : Fw A A2 [rd, ln, bd, dc, rq, pl, hl] := f2.mo (fun x hx => by simp at hx ⊢; omega)
    have l2 := hL.fw f2 hMu
    have r2 : RqX A2 rq pl hl X H := by
      obtain ⟨⟨mp, pp, bp, t1, t2, t3⟩, ⟨ys, cp, t4, t5⟩, ⟨zs, cz, t6, t7⟩, t8⟩ := p3
      have nin : ∀ {x : Nat} {o : ab_O}, A x = some o → (∀ v, o ≠ oR (.inr (5, v))) → o ≠ oB L c1 → A2 x = some o := fun {x o} hx h1 h2 => f2 x o hx (by
        simp only [List.mem_cons, List.not_mem_nil, or_false, not_or]
        exact ⟨ne_of hx p1 (h1 _), ne_of hx a1 h2⟩)
      exact ⟨⟨mp, pp, bp, nin t1 (fun v e => by cases e) (fun e => by cases e), t2.fw f2 hMu, t3.fw f2 hMu⟩, ⟨ys, cp, nin t4 (fun v e => by cases e) (fun e => by cases e), t5.fw f2 hMu⟩, ⟨zs, cz, nin t6 (fun v e => by cases e) (fun e => by cases e), t7.fw f2 hMu⟩, t8⟩
    have eB : L ++ cr true ++ [10] = L ++ [13, 10] := by simp [cr]
    rw [eB] at q0 q1 q2
    refine st_emp g2 ?_
    by_cases qT : L = []
    · subst qT
      rw [decide_eq_true rfl, if_neg (by decide)]
      refine wC.i e2 ?_
      have j2 := p6.fin
      rw [List.nil_append] at q0 q1 q2
      unfold wp_R_endHeaders
      refine wgI.i e2 rfl ?_
      cases ic with
      | false =>
        rw [if_pos (by decide)]
        refine wpu e2 (Nat.le_of_ble_eq_true rfl) (fun A3 e3 f3 => ?_)
        have e3 : A3 rd = some (oRd ln bd rl rq 2 false (decide (0 ≤ an ∨ false = true)) false an.toNat 0 0) := e3
        have b3 := b2.o f3 e2 (by decide)
        have r3 := r2.r5 f3 e2
        have F3 := fww F2 (fwr f3)
        have jp := j2.plain []
        rw [List.append_nil] at jp
        have han := p6.2.2.1
        refine wgI.i e3 rfl ?_
        by_cases y : an.toNat = 0
        · rw [if_pos (by simp (disch := omega) only [iI_lit, iI_add, iI_sub, iI_mul, iI_neg, iI_lt, iI_le, iI_eq] <;> omega)]
          obtain ⟨k1, k2, k3⟩ := jp.2 y.symm
          exact q1 k1 A3 F3 ⟨X, H, [], 2, _, _, _, _, _, _, e3, b3, r3, k3, k2⟩
        · rw [if_neg (by simp (disch := omega) only [iI_lit, iI_add, iI_sub, iI_mul, iI_neg, iI_lt, iI_le, iI_eq] <;> omega)]
          exact q0 (jp.1 (by simp; omega)) A3 F3 (Or.inr (Or.inr (Or.inl ⟨_, an, hs, X, H, [], _, e3, b3, r3, j2, by simp; omega, by simp⟩)))
      | true =>
        rw [if_neg (by decide)]
        refine wpu e2 (Nat.le_of_ble_eq_true rfl) (fun A3 e3 f3 => ?_)
        have han := p7 rfl
        have e3 : A3 rd = some (oRd ln bd rl rq 3 false (decide (0 ≤ an ∨ true = true)) true an.toNat 0 0) := e3
        rw [show an.toNat = 0 by omega] at e3
        have b3 := b2.o f3 e2 (by decide)
        have r3 := r2.r5 f3 e2
        have j3 := j2.chunks
        have jc := j3.dig (ds := []) ⟨by simp, fun x hx => (by cases hx)⟩
        rw [List.append_nil] at jc
        exact q0 jc A3 (fww F2 (fwr f3)) (Or.inr (Or.inr (Or.inr (Or.inl ⟨_, 100, 0, [], hs, X, H, [], false, _, e3, b3, r3, j3, ⟨by simp, fun x hx => (by cases hx)⟩, (fun e => by cases e), by simp [cr]⟩))))
    · rw [decide_eq_false qT, if_pos (by decide)]
      obtain ⟨k1, k2, k3⟩ := p6.line p4 p5 qT
      have hsl := p6.2.1
      have hHl := p6.2.2.2.2.2
      obtain ⟨⟨mp, pp, bp, t1, t2, t3⟩, ⟨ys, cp, t4, t5⟩, ⟨zs, cz, t6, t7⟩, t8⟩ := r2
      refine wgR.i (x := some rq) e2 rfl (wgR.i (x := some hl) t1 rfl (al_size t6 ?_))
      have hzl := t7.1
      by_cases y4 : hs.length = 4
      · rw [if_neg (by simp (disch := omega) only [iI_lit, iI_add, iI_sub, iI_mul, iI_neg, iI_lt, iI_le, iI_eq] <;> omega)]
        have := k1 y4
        rw [this] at q2
        exact q2 (by decide) (by decide) A2 F2 (b2.rs e2)
      rw [if_pos (by simp (disch := omega) only [iI_lit, iI_add, iI_sub, iI_mul, iI_neg, iI_lt, iI_le, iI_eq] <;> omega)]
      have hLb : ∀ x ∈ L, x < 256 := fun x hx => by have := p4 x hx; omega
      refine wX.i 10 200 (by omega) (by omega) (c_headerOf g2 hLb (by omega) (Nat.le_refl _) (Nat.le_refl _) (fun z => ?_) (fun z pb A3 n3 pt3 f3 => ?_))
      · rw [if_pos rfl]
        have hc : hcode L an ic = 400 := by
          unfold hcode
          rw [z, if_neg (by decide)]
        have := k2 y4 (by rw [hc]; decide)
        rw [this, hc] at q2
        exact q2 (by decide) (by decide) A2 F2 (b2.rs e2)
      · rw [if_neg (fun e => by cases e)]
        refine wgR.i (x := some rq) (f3.e e2) rfl (wgR.i (x := some hl) (f3.e t1) rfl ?_)
        have ptb := pt3
        obtain ⟨sn, sv, y1, y2, y3⟩ := pt3
        refine al_add (f3.e t6) y1 (Or.inr (Or.inl rfl)) (by omega) (by omega) (by omega) (fun A5 ks5 e5 f5 _ => ?_)
        have hM5 : Mu A3 [hl] := Mu.c (f3.e t6) rfl (Mu.nil _)
        have rd5 := f5.k (f3.e e2) (f3.e t6) (fun e => by cases e)
        have b5 := (b2.e f3).l f5 (f3.e t6)
        have F5 : Fw A A5 [rd, ln, bd, dc, rq, pl, hl] := (F2.tr f3 (by simp)).tr f5 (fun x hx => Or.inl (by simp at hx ⊢; omega))
        have l5 := (l2.fw f3 (Mu.nil _)).fw f5 hM5
        have pt5 := ptb.fw f5 hM5
        have r5 : RqX A5 rq pl hl X (H ++ [(hnm L, hvl L)]) := ⟨⟨mp, pp, bp, f5.k (f3.e t1) (f3.e t6) (fun e => by cases e), (t2.fw f3 (Mu.nil _)).fw f5 hM5, (t3.fw f3 (Mu.nil _)).fw f5 hM5⟩, ⟨ys, cp, f5.n (f3.e t4) t8, (t5.fw f3 (Mu.nil _)).fw f5 hM5⟩, ⟨zs ++ [pb], 10, e5, ((t7.fw f3 (Mu.nil _)).fw f5 hM5).snoc pt5⟩, t8⟩
        refine wC.i rd5 ?_
        refine c_lookForSize l5 pt5 (fun x hx => hLb x (hvl_mem hx)) (by have := hvl_le L; omega) rd5 p7 z (fun w C tl ck wt e f => ?_) (fun w C e g f => ?_)
        · have hr := hcode_r L an ic
          have := k2 y4 w
          rw [this] at q2
          exact q2 w (by omega) C (fww F5 (fwr f)) ((b5.o f rd5 (by decide)).rs e)
        · have j := k3 y4 w
          exact q0 j.nil C (fww F5 (fwr f)) (Or.inr (Or.inl ⟨_, _, _, _, X, _, [], false, e, b5.o f rd5 (by decide), r5.r5 f rd5, fun x hx => (by cases hx), by simp, j, g, by simp [cr]⟩))
  · have hr := hlnr (by omega)
    have hc := hcd (by omega)
    rw [if_neg (by simp (disch := omega) only [iI_lit, iI_add, iI_sub, iI_mul, iI_neg, iI_lt, iI_le, iI_eq] <;> omega)]
    rw [hc] at q2
    exact q2 (by omega) (by omega) A (Fw.rf _ _) (p2.rs p1)
  · subst s1 s2
    rw [if_neg (by decide)]
    have hz : lnc 32 431 L false 13 = 0 := by
      unfold lnc
      rw [if_neg (by decide), if_pos rfl]
    refine q0 ?_ C (fwr f1) (Or.inr (Or.inl ⟨P, an, ic, hs, X, H, L, true, e1, p2.o f1 p1 (by decide), p3.r5 f1 p1, p4, p5, p6, p7, by simp [cr]⟩))
    rw [hcd (by omega), hz]
    rfl
  · subst s1
    rw [if_neg (by decide)]
    obtain ⟨⟨c1, a1, a2⟩, -⟩ := p2
    have hz : lnc 32 431 L false b = 0 := by
      unfold lnc
      rw [if_neg (by decide), if_neg (by omega), if_neg (by omega), if_neg (by omega)]
    refine q0 ?_ C (fwl f1) (Or.inr (Or.inl ⟨P, an, ic, hs, X, H, L ++ [b], false, f1.k p1 a1 (fun e => by cases e), e1, p3.b f1 a1, fun x hx => ?_, by rw [List.length_append]; simp; omega, p6, p7, by simp [cr]⟩))
    · rw [hcd (by omega), hz]
      rfl
    · rcases List.mem_append.mp hx with y | y
      · exact p4 x y
      · rw [List.mem_singleton.mp y]
        exact s2
theorem Rb.body {A : ab_H} {L D : List Nat} {K : Option Nat → ab_H → Nat → Nat → Prop} (h : Rb A ln bd rl dc L D) (hb : b < 256) (hD : D.length < 60) (h1 : 1 ≤ kc) (h2 : 400 ≤ ks) (hK : ∀ C ks', Rb C ln bd rl dc L (D ++ [b]) → Fw A C [bd] → (∃ c, A bd = some (oB D c)) → K (some bd) C (kc - 1) ks') : wj_SB_append_C A kc ks (some bd) (wch (iI b)) K := by
  obtain ⟨⟨c1, a1, a2⟩, ⟨c2, b1, b2⟩, d, ⟨Z, c3, e1, e2⟩, f1, f2, f3, f4, f5⟩ := h
  rw [wch_i (by omega) (by omega)]
  exact sb_chr b1 (n := b) rfl hb (by omega) b2 h1 (by omega) (fun C c' ks' g1 g2 g3 g4 g5 => hK C ks' ⟨⟨c1, g2.n a1 f1, a2⟩, ⟨c', g1, g3⟩, g2.k d b1 (fun e => by cases e), ⟨Z, c3, g2.n e1 (Ne.symm f3), e2⟩, f1, f2, f3, f4, by rw [List.length_append]; simp; omega⟩ g2 ⟨c2, b1⟩)
theorem c_ph2 (h : Ph2 A rd ln bd rl dc rq pl hl B) (hb : b < 256) (h1 : 20 ≤ kc) (h2 : 700 ≤ ks) (hQ : Tk3 A rd ln bd rl dc rq pl hl (B ++ [b]) Q) : wp_R_takeInBody rd (iI b) A kc ks Q := by
  obtain ⟨P, an, hs, X, H, D, tl, p1, p2, p3, p4, p5, rfl⟩ := h
  obtain ⟨q0, q1, q2⟩ := hQ
  rw [List.append_assoc] at q0 q1 q2
  have han := p4.2.1
  have jp := p4.plain (D ++ [b])
  rw [List.length_append] at jp
  have hDl : (D ++ [b]).length = D.length + 1 := by simp
  unfold wp_R_takeInBody
  refine wgR.i (x := some bd) p1 rfl (p2.body hb (by omega) (by omega) (by omega) (fun A1 ks1 b1 f1 e1 => ?_))
  obtain ⟨c1, e1⟩ := e1
  have rd1 := f1.k p1 e1 (fun e => by cases e)
  refine wgI.i rd1 rfl (wpu rd1 (Nat.le_of_ble_eq_true rfl) (fun A2 e2 f2 => ?_))
  rw [show iI ((an.toNat - D.length : Nat) : Int) - 1 = iI ((an.toNat - (D ++ [b]).length : Nat) : Int) from (iI_sub _ 1).trans (by congr 1; omega)] at e2
  have e2 : A2 rd = some (oRd ln bd rl rq 2 false tl false (an.toNat - (D ++ [b]).length) 0 0) := e2
  have b2 := b1.o f2 rd1 (by decide)
  have r2 := (p3.b f1 e1).r5 f2 rd1
  have F2 := fww (fwb (rd := rd) (ln := ln) (dc := dc) (rq := rq) (pl := pl) (hl := hl) f1) (fwr f2)
  refine wgI.i e2 rfl ?_
  by_cases y : D.length + 1 = an.toNat
  · rw [if_pos (by simp (disch := omega) only [iI_lit, iI_add, iI_sub, iI_mul, iI_neg, iI_lt, iI_le, iI_eq] <;> omega)]
    obtain ⟨k1, k2, k3⟩ := jp.2 y
    exact q1 k1 A2 F2 ⟨X, H, D ++ [b], 2, _, _, _, _, _, _, e2, b2, r2, k3, k2⟩
  · rw [if_neg (by simp (disch := omega) only [iI_lit, iI_add, iI_sub, iI_mul, iI_neg, iI_lt, iI_le, iI_eq] <;> omega)]
    exact q0 (jp.1 (by simp; omega)) A2 F2 (Or.inr (Or.inr (Or.inl ⟨P, an, hs, X, H, D ++ [b], tl, e2, b2, r2, p4, by omega, rfl⟩)))
theorem lhx_c {c : Nat} (hc : c < 256) : lhx c = true ↔ 0 ≤ hxv (c : Int) ∧ ¬ (65 ≤ (c : Int) ∧ (c : Int) ≤ 90) := by
  unfold lhx hxv
  rw [decide_eq_true_eq]
  by_cases q1 : 48 ≤ (c : Int) ∧ (c : Int) ≤ 57
  · rw [if_pos q1]
    omega
  · rw [if_neg q1]
    by_cases q2 : 97 ≤ (c : Int) ∧ (c : Int) ≤ 102
    · rw [if_pos q2]
      omega
    · rw [if_neg q2]
      by_cases q3 : 65 ≤ (c : Int) ∧ (c : Int) ≤ 70
      · rw [if_pos q3]
        omega
      · rw [if_neg q3]
        omega
theorem hvd_lt {ds : List Nat} (h : dgs ds) : hvd ds < 256 := by
  obtain ⟨h1, h2⟩ := h
  have hl : ∀ x, lhx x = true → lhv x < 16 := fun x hx => ((lhx_i (c := x)).1 hx).2.2
  match ds, h1, h2 with
  | [], _, _ => decide
  | [a], _, h2 =>
    have := hl a (h2 a (by simp))
    unfold hvd
    simp
    omega
  | [a, b], _, h2 =>
    have := hl a (h2 a (by simp))
    have := hl b (h2 b (by simp))
    unfold hvd
    simp
    omega
theorem c_ph3 (h : Ph3 A rd ln bd rl dc rq pl hl B) (hb : b < 256) (hQ : Tk3 A rd ln bd rl dc rq pl hl (B ++ [b]) Q) : wp_R_takeInChunkSize rd (iI b) A Q := by
  obtain ⟨P, n, tot, body, hs, X, H, ds, sr, tl, p1, p2, p3, p4, p5, p6, rfl⟩ := h
  obtain ⟨q0, q1, q2⟩ := hQ
  rw [List.append_assoc] at q0 q1 q2
  have hdl := p5.1
  have hv := hvd_lt p5
  have ht4 := p4.2.1.2.2
  unfold wp_R_takeInChunkSize
  refine wgI.i p1 rfl ?_
  cases sr with
  | false =>
    rw [if_pos (by decide)]
    have eB : ds ++ cr false ++ [b] = ds ++ [b] := by simp [cr]
    rw [eB] at q0 q1 q2
    have n44 : (b ≠ 13 ∨ ds = []) → wq_R_takeInChunkSize_44 rd (iI b) Q A := fun hor => by
      unfold wq_R_takeInChunkSize_44
      have hx := hxv_r (b : Int)
      have hlc := lhx_c hb
      have bad : (ds.length < 2 → lhx b = false) → Q 400 A := fun z => by
        have := p4.bad p5 z hor
        rw [this] at q2
        exact q2 (by decide) (by decide) A (Fw.rf _ _) (p2.rs p1)
      refine c_hex (by omega) (by omega) ?_
      by_cases y1 : hxv (b : Int) < 0
      · rw [if_pos (by simp (disch := omega) only [iI_lit, iI_add, iI_sub, iI_mul, iI_neg, iI_lt, iI_le, iI_eq] <;> omega)]
        exact bad (fun _ => by cases hz : lhx b; rfl; have := (hlc.mp hz).1; omega)
      rw [if_neg (by simp (disch := omega) only [iI_lit, iI_add, iI_sub, iI_mul, iI_neg, iI_lt, iI_le, iI_eq] <;> omega)]
      refine c_isCapital (by omega) (by omega) ?_
      by_cases y2 : 65 ≤ (b : Int) ∧ (b : Int) ≤ 90
      · rw [decide_eq_true y2, if_neg (by decide)]
        exact bad (fun _ => by cases hz : lhx b; rfl; exact absurd y2 (hlc.mp hz).2)
      rw [decide_eq_false y2, if_pos (by decide)]
      refine wgI.i p1 rfl ?_
      by_cases y3 : ds.length < 2
      · rw [if_pos (by simp (disch := omega) only [iI_lit, iI_add, iI_sub, iI_mul, iI_neg, iI_lt, iI_le, iI_eq] <;> omega)]
        have hlb : lhx b = true := hlc.mpr ⟨by omega, y2⟩
        have hli := (lhx_i (c := b)).1 hlb
        refine wgI.i p1 rfl (wpu p1 (Nat.le_of_ble_eq_true rfl) (fun A1 e1 f1 => ?_))
        rw [show (16 : Int32) * iI (hvd ds) + iI (hxv (b : Int)) = iI ((hvd (ds ++ [b]) : Nat) : Int) from by rw [hvd_snoc, hli.1, show (16 : Int32) = iI 16 from rfl, iI_mul, iI_add]; congr 1] at e1
        have e1 : A1 rd = some (oRd ln bd rl rq 3 false tl true (hvd (ds ++ [b])) ds.length tot) := e1
        refine wgI.i e1 rfl (wpu e1 (Nat.le_of_ble_eq_true rfl) (fun A2 e2 f2 => ?_))
        rw [show iI (ds.length : Int) + 1 = iI (((ds ++ [b]).length : Nat) : Int) from by rw [List.length_append]; exact iI_add _ 1] at e2
        have e2 : A2 rd = some (oRd ln bd rl rq 3 false tl true (hvd (ds ++ [b])) (ds ++ [b]).length tot) := e2
        have hdg : dgs (ds ++ [b]) := ⟨by rw [List.length_append]; simp; omega, fun x hx => by
          rcases List.mem_append.mp hx with y | y
          · exact p5.2 x y
          · rw [List.mem_singleton.mp y]
            exact hlb⟩
        exact q0 (p4.dig hdg) A2 (fww (fwr f1) (fwr f2)) (Or.inr (Or.inr (Or.inr (Or.inl ⟨P, n, tot, body, hs, X, H, ds ++ [b], false, tl, e2, (p2.o f1 p1 (by decide)).o f2 e1 (by decide), (p3.r5 f1 p1).r5 f2 e1, p4, hdg, (fun e => by cases e), by simp [cr]⟩))))
      · rw [if_neg (by simp (disch := omega) only [iI_lit, iI_add, iI_sub, iI_mul, iI_neg, iI_lt, iI_le, iI_eq] <;> omega)]
        exact bad (fun z => absurd z y3)
    by_cases y1 : b = 13
    · rw [if_pos (by simp (disch := omega) only [iI_lit, iI_add, iI_sub, iI_mul, iI_neg, iI_lt, iI_le, iI_eq] <;> omega)]
      refine wgI.i p1 rfl ?_
      by_cases y2 : ds = []
      · rw [if_pos (by rw [y2]; decide)]
        exact n44 (Or.inr y2)
      · have hdp : 0 < ds.length := List.length_pos_iff.mpr y2
        rw [if_neg (by simp (disch := omega) only [iI_lit, iI_add, iI_sub, iI_mul, iI_neg, iI_lt, iI_le, iI_eq] <;> omega)]
        subst y1
        exact wpu p1 (Nat.le_of_ble_eq_true rfl) (fun A1 e1 f1 => q0 (p4.ret p5 y2) A1 (fwr f1) (Or.inr (Or.inr (Or.inr (Or.inl ⟨P, n, tot, body, hs, X, H, ds, true, tl, e1, p2.o f1 p1 (by decide), p3.r5 f1 p1, p4, p5, fun _ => y2, by simp [cr]⟩)))))
    · rw [if_neg (by simp (disch := omega) only [iI_lit, iI_add, iI_sub, iI_mul, iI_neg, iI_lt, iI_le, iI_eq] <;> omega)]
      exact n44 (Or.inl y1)
  | true =>
    rw [if_neg (by decide)]
    have hds := p6 rfl
    have eB : ds ++ cr true ++ [b] = ds ++ [13, b] := by simp [cr]
    rw [eB] at q0 q1 q2
    by_cases y1 : b = 10
    · rw [if_pos (by simp (disch := omega) only [iI_lit, iI_add, iI_sub, iI_mul, iI_neg, iI_lt, iI_le, iI_eq] <;> omega)]
      subst y1
      refine wC.i p1 ?_
      unfold wp_R_endChunkSize
      refine wpu p1 (Nat.le_of_ble_eq_true rfl) (fun A1 e1 f1 => wpu e1 (Nat.le_of_ble_eq_true rfl) (fun A2 e2 f2 => ?_))
      have e2 : A2 rd = some (oRd ln bd rl rq 3 false tl true (hvd ds) 0 tot) := e2
      refine wgI.i e2 rfl (wgI.i e2 rfl (wpu e2 (Nat.le_of_ble_eq_true rfl) (fun A3 e3 f3 => ?_)))
      rw [show iI (tot : Int) + iI (hvd ds) = iI ((tot + hvd ds : Nat) : Int) from iI_add _ _] at e3
      have e3 : A3 rd = some (oRd ln bd rl rq 3 false tl true (hvd ds) 0 (tot + hvd ds)) := e3
      have b3 := ((p2.o f1 p1 (by decide)).o f2 e1 (by decide)).o f3 e2 (by decide)
      have r3 := ((p3.r5 f1 p1).r5 f2 e1).r5 f3 e2
      have F3 : Fw A A3 [rd, ln, bd, dc, rq, pl, hl] := fww (fww (fwr f1) (fwr f2)) (fwr f3)
      refine wgI.i e3 rfl ?_
      by_cases y2 : tot + hvd ds ≤ 40
      · rw [if_pos (by simp (disch := omega) only [iI_lit, iI_add, iI_sub, iI_mul, iI_neg, iI_lt, iI_le, iI_eq] <;> omega)]
        refine wgI.i e3 rfl ?_
        have n49 : ∀ g : Bool, g = decide (0 < hvd ds) → wq_R_endChunkSize_49 rd Q (some rd) (iI (bI g)) A3 := fun g hg => by
          unfold wq_R_endChunkSize_49
          refine wB.i (wpu e3 (Nat.le_of_ble_eq_true rfl) (fun A4 e4 f4 => ?_))
          have e4 : A4 rd = some (oRd ln bd rl rq 3 false tl g (hvd ds) 0 (tot + hvd ds)) := e4
          refine wgI.i e4 rfl ?_
          have b4 := b3.o f4 e3 (by decide)
          have r4 := r3.r5 f4 e3
          have F4 := fww F3 (fwr f4)
          have jd0 := p4.data (D := []) p5 hds y2 (by simp)
          rw [List.append_nil] at jd0
          cases g with
          | false =>
            rw [if_pos (by decide)]
            have hv0 : hvd ds = 0 := by
              have := of_decide_eq_false hg.symm
              omega
            unfold wq_R_endChunkSize_65
            refine wpu e4 (Nat.le_of_ble_eq_true rfl) (fun A5 e5 f5 => ?_)
            have e5 : A5 rd = some (oRd ln bd rl rq 5 false tl false (hvd ds) 0 (tot + hvd ds)) := e5
            rw [hg] at e5
            exact q0 jd0 A5 (fww F4 (fwr f5)) (Or.inr (Or.inr (Or.inr (Or.inr (Or.inr ⟨P, n, tot, body, hs, X, H, ds, [], false, tl, by rw [e5, hv0]; rfl, by rw [List.append_nil]; exact b4.o f5 e4 (by decide), r4.r5 f5 e4, p4, p5, hds, y2, by rw [hv0]; rfl, by simp [cr]⟩)))))
          | true =>
            rw [if_neg (by decide)]
            have hv0 : 0 < hvd ds := of_decide_eq_true hg.symm
            unfold wq_R_endChunkSize_65
            refine wpu e4 (Nat.le_of_ble_eq_true rfl) (fun A5 e5 f5 => ?_)
            have e5 : A5 rd = some (oRd ln bd rl rq 4 false tl true (hvd ds) 0 (tot + hvd ds)) := e5
            exact q0 jd0 A5 (fww F4 (fwr f5)) (Or.inr (Or.inr (Or.inr (Or.inr (Or.inl ⟨P, n, tot, body, hs, X, H, ds, [], tl, e5, by rw [List.append_nil]; exact b4.o f5 e4 (by decide), r4.r5 f5 e4, p4, p5, hds, y2, hv0, by simp⟩)))))
        by_cases y3 : 0 < hvd ds
        · rw [if_neg (by simp (disch := omega) only [iI_lit, iI_add, iI_sub, iI_mul, iI_neg, iI_lt, iI_le, iI_eq] <;> omega)]
          exact n49 true (decide_eq_true y3).symm
        · rw [if_pos (by simp (disch := omega) only [iI_lit, iI_add, iI_sub, iI_mul, iI_neg, iI_lt, iI_le, iI_eq] <;> omega)]
          exact n49 false (decide_eq_false y3).symm
      · rw [if_neg (by simp (disch := omega) only [iI_lit, iI_add, iI_sub, iI_mul, iI_neg, iI_lt, iI_le, iI_eq] <;> omega)]
        have := p4.large p5 hds (by omega)
        rw [this] at q2
        exact q2 (by decide) (by decide) A3 F3 (b3.rs e3)
    · rw [if_neg (by simp (disch := omega) only [iI_lit, iI_add, iI_sub, iI_mul, iI_neg, iI_lt, iI_le, iI_eq] <;> omega)]
      have := p4.rbad p5 hds y1
      rw [this] at q2
      exact q2 (by decide) (by decide) A (Fw.rf _ _) (p2.rs p1)
theorem c_ph4 (h : Ph4 A rd ln bd rl dc rq pl hl B) (hb : b < 256) (h1 : 20 ≤ kc) (h2 : 700 ≤ ks) (hQ : Tk3 A rd ln bd rl dc rq pl hl (B ++ [b]) Q) : wp_R_takeInChunk rd (iI b) A kc ks Q := by
  obtain ⟨P, n, tot, body, hs, X, H, ds, D, tl, p1, p2, p3, p4, p5, p6, p7, p8, rfl⟩ := h
  obtain ⟨q0, q1, q2⟩ := hQ
  have eB : P ++ (ds ++ [13, 10] ++ D) ++ [b] = P ++ (ds ++ [13, 10] ++ (D ++ [b])) := by simp
  rw [eB] at q0 q1 q2
  have hDl : (D ++ [b]).length = D.length + 1 := by simp
  have hbl : (body ++ D).length ≤ 40 := by
    rw [List.length_append, ← p4.2.1.2.1]
    omega
  have j0 := p4.data (D := D ++ [b]) p5 p6 p7 (by rw [hDl]; omega)
  unfold wp_R_takeInChunk
  refine wgR.i (x := some bd) p1 rfl (p2.body hb (by omega) (by omega) (by omega) (fun A1 ks1 b1 f1 e1 => ?_))
  obtain ⟨c1, e1⟩ := e1
  rw [List.append_assoc] at b1
  have rd1 := f1.k p1 e1 (fun e => by cases e)
  refine wgI.i rd1 rfl (wpu rd1 (Nat.le_of_ble_eq_true rfl) (fun A2 e2 f2 => ?_))
  rw [show iI ((hvd ds - D.length : Nat) : Int) - 1 = iI ((hvd ds - (D ++ [b]).length : Nat) : Int) from (iI_sub _ 1).trans (by congr 1; omega)] at e2
  have e2 : A2 rd = some (oRd ln bd rl rq 4 false tl true (hvd ds - (D ++ [b]).length) 0 (tot + hvd ds)) := e2
  have b2 := b1.o f2 rd1 (by decide)
  have r2 := (p3.b f1 e1).r5 f2 rd1
  have F2 := fww (fwb (rd := rd) (ln := ln) (dc := dc) (rq := rq) (pl := pl) (hl := hl) f1) (fwr f2)
  refine wgI.i e2 rfl ?_
  by_cases y : D.length + 1 = hvd ds
  · rw [if_neg (by simp (disch := omega) only [iI_lit, iI_add, iI_sub, iI_mul, iI_neg, iI_lt, iI_le, iI_eq] <;> omega)]
    refine wpu e2 (Nat.le_of_ble_eq_true rfl) (fun A3 e3 f3 => ?_)
    have e3 : A3 rd = some (oRd ln bd rl rq 5 false tl true (hvd ds - (D ++ [b]).length) 0 (tot + hvd ds)) := e3
    rw [show hvd ds - (D ++ [b]).length = 0 by omega, show true = decide (0 < hvd ds) from (decide_eq_true (by omega)).symm] at e3
    exact q0 j0 A3 (fww F2 (fwr f3)) (Or.inr (Or.inr (Or.inr (Or.inr (Or.inr ⟨P, n, tot, body, hs, X, H, ds, D ++ [b], false, tl, e3, b2.o f3 e2 (by decide), r2.r5 f3 e2, p4, p5, p6, p7, by omega, by simp [cr]⟩)))))
  · rw [if_pos (by simp (disch := omega) only [iI_lit, iI_add, iI_sub, iI_mul, iI_neg, iI_lt, iI_le, iI_eq] <;> omega)]
    exact q0 j0 A2 F2 (Or.inr (Or.inr (Or.inr (Or.inr (Or.inl ⟨P, n, tot, body, hs, X, H, ds, D ++ [b], tl, e2, b2, r2, p4, p5, p6, p7, by omega, rfl⟩)))))
theorem c_ph5 (h : Ph5 A rd ln bd rl dc rq pl hl B) (hb : b < 256) (hQ : Tk3 A rd ln bd rl dc rq pl hl (B ++ [b]) Q) : wp_R_takeInChunkEnd rd (iI b) A Q := by
  obtain ⟨P, n, tot, body, hs, X, H, ds, D, sr, tl, p1, p2, p3, p4, p5, p6, p7, p8, rfl⟩ := h
  obtain ⟨q0, q1, q2⟩ := hQ
  unfold wp_R_takeInChunkEnd
  refine wgI.i p1 rfl ?_
  cases sr with
  | false =>
    rw [if_pos (by decide)]
    have eB : P ++ (ds ++ [13, 10] ++ (D ++ cr false)) ++ [b] = P ++ (ds ++ [13, 10] ++ (D ++ [b])) := by simp [cr]
    rw [eB] at q0 q1 q2
    have n19 : ∀ g : Bool, g = decide (b = 13) → wq_R_takeInChunkEnd_19 rd (iI b) Q (some rd) (iI (bI g)) A := fun g hg => by
      unfold wq_R_takeInChunkEnd_19
      refine wB.i (wpu p1 (Nat.le_of_ble_eq_true rfl) (fun A1 e1 f1 => ?_))
      have e1 : A1 rd = some (oRd ln bd rl rq 5 g tl (decide (0 < hvd ds)) 0 0 (tot + hvd ds)) := e1
      refine wgI.i e1 rfl ?_
      cases g with
      | false =>
        rw [if_pos (by decide)]
        have := p4.dbad p5 p6 p7 p8 (of_decide_eq_false hg.symm)
        rw [this] at q2
        exact q2 (by decide) (by decide) A1 (fwr f1) ((p2.o f1 p1 (by decide)).rs e1)
      | true =>
        rw [if_neg (by decide)]
        have hb13 : b = 13 := of_decide_eq_true hg.symm
        subst hb13
        exact q0 (p4.dret p5 p6 p7 p8) A1 (fwr f1) (Or.inr (Or.inr (Or.inr (Or.inr (Or.inr ⟨P, n, tot, body, hs, X, H, ds, D, true, tl, e1, p2.o f1 p1 (by decide), p3.r5 f1 p1, p4, p5, p6, p7, p8, rfl⟩)))))
    by_cases y : b = 13
    · rw [if_pos (by simp (disch := omega) only [iI_lit, iI_add, iI_sub, iI_mul, iI_neg, iI_lt, iI_le, iI_eq] <;> omega)]
      exact n19 true (decide_eq_true y).symm
    · rw [if_neg (by simp (disch := omega) only [iI_lit, iI_add, iI_sub, iI_mul, iI_neg, iI_lt, iI_le, iI_eq] <;> omega)]
      exact n19 false (decide_eq_false y).symm
  | true =>
    rw [if_neg (by decide)]
    have eB : P ++ (ds ++ [13, 10] ++ (D ++ cr true)) ++ [b] = P ++ (ds ++ [13, 10] ++ (D ++ [13, b])) := by simp [cr]
    rw [eB] at q0 q1 q2
    by_cases y : b = 10
    · rw [if_pos (by simp (disch := omega) only [iI_lit, iI_add, iI_sub, iI_mul, iI_neg, iI_lt, iI_le, iI_eq] <;> omega)]
      subst y
      refine wpu p1 (Nat.le_of_ble_eq_true rfl) (fun A1 e1 f1 => wpu e1 (Nat.le_of_ble_eq_true rfl) (fun A2 e2 f2 => ?_))
      have e2 : A2 rd = some (oRd ln bd rl rq 3 false tl (decide (0 < hvd ds)) 0 0 (tot + hvd ds)) := e2
      have b2 := (p2.o f1 p1 (by decide)).o f2 e1 (by decide)
      have r2 := (p3.r5 f1 p1).r5 f2 e1
      have F2 : Fw A A2 [rd, ln, bd, dc, rq, pl, hl] := fww (fwr f1) (fwr f2)
      refine wgI.i e2 rfl ?_
      by_cases y2 : 0 < hvd ds
      · rw [decide_eq_true y2, if_neg (by decide)]
        rw [decide_eq_true y2] at e2
        have j3 := p4.next p5 p6 p7 y2 p8
        have j0 := j3.dig (ds := []) ⟨by simp, fun x hx => (by cases hx)⟩
        rw [List.append_nil] at j0
        exact q0 j0 A2 F2 (Or.inr (Or.inr (Or.inr (Or.inl ⟨_, n - 1, tot + hvd ds, body ++ D, hs, X, H, [], false, tl, e2, b2, r2, j3, ⟨by simp, fun x hx => (by cases hx)⟩, (fun e => by cases e), by simp [cr]⟩))))
      · rw [decide_eq_false y2, if_pos (by decide)]
        have hD : D = [] := List.length_eq_zero_iff.mp (by omega)
        subst hD
        obtain ⟨k1, k2, k3⟩ := p4.last p5 p6 (by omega) (by omega)
        rw [List.nil_append] at q1
        rw [List.append_nil] at b2
        exact q1 k1 A2 F2 ⟨X, H, body, 3, _, _, _, _, _, _, e2, b2, r2, k3, k2⟩
    · rw [if_neg (by simp (disch := omega) only [iI_lit, iI_add, iI_sub, iI_mul, iI_neg, iI_lt, iI_le, iI_eq] <;> omega)]
      have := p4.drbad p5 p6 p7 p8 y
      rw [this] at q2
      exact q2 (by decide) (by decide) A (Fw.rf _ _) (p2.rs p1)
theorem c_take (hL : Li A) (h : Ph A rd ln bd rl dc rq pl hl B) (hb : b < 256) (h1 : 20 ≤ kc) (h2 : 700 ≤ ks) (hE : exq B b → 600 ≤ kc ∧ 7000 ≤ ks) (hQ : Tk3 A rd ln bd rl dc rq pl hl (B ++ [b]) Q) : wp_R_take rd (iI b) A kc ks Q := by
  unfold wp_R_take
  rcases h with h | h | h | h | h | h
  · obtain ⟨L, sr, p1, -⟩ := id h
    refine wgI.i p1 rfl ?_
    rw [if_pos (by decide)]
    exact wC.i p1 (wX.i kc ks (Nat.le_refl _) (Nat.le_refl _) (c_ph0 hL h hb h1 h2 hE hQ))
  · obtain ⟨P, an, ic, hs, X, H, L, sr, p1, -⟩ := id h
    refine wgI.i p1 rfl ?_
    rw [if_neg (by decide), if_pos (by decide)]
    exact wC.i p1 (wX.i kc ks (Nat.le_refl _) (Nat.le_refl _) (c_ph1 hL h hb h1 h2 hQ))
  · obtain ⟨P, an, hs, X, H, D, tl, p1, -⟩ := id h
    refine wgI.i p1 rfl ?_
    rw [if_neg (by decide), if_neg (by decide), if_pos (by decide)]
    exact wC.i p1 (wX.i kc ks (Nat.le_refl _) (Nat.le_refl _) (c_ph2 h hb h1 h2 hQ))
  · obtain ⟨P, n, tot, body, hs, X, H, ds, sr, tl, p1, -⟩ := id h
    refine wgI.i p1 rfl ?_
    rw [if_neg (by decide), if_neg (by decide), if_neg (by decide), if_pos (by decide)]
    exact wC.i p1 (c_ph3 h hb hQ)
  · obtain ⟨P, n, tot, body, hs, X, H, ds, D, tl, p1, -⟩ := id h
    refine wgI.i p1 rfl ?_
    rw [if_neg (by decide), if_neg (by decide), if_neg (by decide), if_neg (by decide), if_pos (by decide)]
    exact wC.i p1 (wX.i kc ks (Nat.le_refl _) (Nat.le_refl _) (c_ph4 h hb h1 h2 hQ))
  · obtain ⟨P, n, tot, body, hs, X, H, ds, D, sr, tl, p1, -⟩ := id h
    refine wgI.i p1 rfl ?_
    rw [if_neg (by decide), if_neg (by decide), if_neg (by decide), if_neg (by decide), if_neg (by decide)]
    exact wC.i p1 (c_ph5 h hb hQ)
end T1S
