/-! The class: what a reader has read -/
section PHS
variable (A : ab_H) (rd ln bd rl dc rq pl hl : Nat) (B : List Nat)
def Ph0 : Prop := ∃ (L : List Nat) (sr : Bool), A rd = some (oRd ln bd rl rq 0 sr false false 0 0 0) ∧ Rb A ln bd rl dc L [] ∧ Rq0 A rq pl hl ∧ plL L ∧ L.length ≤ 40 ∧ B = L ++ cr sr
def Ph1 : Prop := ∃ (P : List Nat) (an : Int) (ic : Bool) (hs : List (Nat × Nat)) (X : List Nat) (H : List (List Nat × List Nat)) (L : List Nat) (sr : Bool), A rd = some (oRd ln bd rl rq 1 sr (decide (0 ≤ an ∨ ic = true)) ic an.toNat 0 0) ∧ Rb A ln bd rl dc L [] ∧ RqX A rq pl hl X H ∧ plL L ∧ L.length ≤ 32 ∧ J1 P an ic hs X H ∧ (ic = true → an < 0) ∧ B = P ++ (L ++ cr sr)
def Ph2 : Prop := ∃ (P : List Nat) (an : Int) (hs : List (Nat × Nat)) (X : List Nat) (H : List (List Nat × List Nat)) (D : List Nat) (tl : Bool), A rd = some (oRd ln bd rl rq 2 false tl false (an.toNat - D.length) 0 0) ∧ Rb A ln bd rl dc [] D ∧ RqX A rq pl hl X H ∧ J2 P an false hs X H ∧ D.length < an.toNat ∧ B = P ++ D
def Ph3 : Prop := ∃ (P : List Nat) (n tot : Nat) (body : List Nat) (hs : List (Nat × Nat)) (X : List Nat) (H : List (List Nat × List Nat)) (ds : List Nat) (sr tl : Bool), A rd = some (oRd ln bd rl rq 3 sr tl true (hvd ds) ds.length tot) ∧ Rb A ln bd rl dc [] body ∧ RqX A rq pl hl X H ∧ J3 P n tot body hs X H ∧ dgs ds ∧ (sr = true → ds ≠ []) ∧ B = P ++ (ds ++ cr sr)
def Ph4 : Prop := ∃ (P : List Nat) (n tot : Nat) (body : List Nat) (hs : List (Nat × Nat)) (X : List Nat) (H : List (List Nat × List Nat)) (ds D : List Nat) (tl : Bool), A rd = some (oRd ln bd rl rq 4 false tl true (hvd ds - D.length) 0 (tot + hvd ds)) ∧ Rb A ln bd rl dc [] (body ++ D) ∧ RqX A rq pl hl X H ∧ J3 P n tot body hs X H ∧ dgs ds ∧ ds ≠ [] ∧ tot + hvd ds ≤ 40 ∧ D.length < hvd ds ∧ B = P ++ (ds ++ [13, 10] ++ D)
def Ph5 : Prop := ∃ (P : List Nat) (n tot : Nat) (body : List Nat) (hs : List (Nat × Nat)) (X : List Nat) (H : List (List Nat × List Nat)) (ds D : List Nat) (sr tl : Bool), A rd = some (oRd ln bd rl rq 5 sr tl (decide (0 < hvd ds)) 0 0 (tot + hvd ds)) ∧ Rb A ln bd rl dc [] (body ++ D) ∧ RqX A rq pl hl X H ∧ J3 P n tot body hs X H ∧ dgs ds ∧ ds ≠ [] ∧ tot + hvd ds ≤ 40 ∧ D.length = hvd ds ∧ B = P ++ (ds ++ [13, 10] ++ (D ++ cr sr))
def Ph : Prop := Ph0 A rd ln bd rl dc rq pl hl B ∨ Ph1 A rd ln bd rl dc rq pl hl B ∨ Ph2 A rd ln bd rl dc rq pl hl B ∨ Ph3 A rd ln bd rl dc rq pl hl B ∨ Ph4 A rd ln bd rl dc rq pl hl B ∨ Ph5 A rd ln bd rl dc rq pl hl B
/-- a whole request stands there -/
def Cp (r : Rq) (cl : Bool) : Prop := ∃ (X : List Nat) (H : List (List Nat × List Nat)) (D : List Nat) (ph wt sd sa : Nat) (sr tl ck : Bool), A rd = some (oRd ln bd rl rq ph sr tl ck wt sd sa) ∧ Rb A ln bd rl dc [] D ∧ RqX A rq pl hl X H ∧ r = (rlM X, rlP X, rlQ X, H, D) ∧ cl = clH H
end PHS
section TK
variable {A : ab_H} {rd ln bd rl dc rq pl hl b kc ks : Nat} {B : List Nat} {Q : Int32 → ab_H → Prop}
/-- what a byte leads to -/
def Tk3 (A : ab_H) (rd ln bd rl dc rq pl hl : Nat) (B : List Nat) (Q : Int32 → ab_H → Prop) : Prop :=
  ((jd B).1 = 0 → ∀ C, Fw A C [rd, ln, bd, dc, rq, pl, hl] → Ph C rd ln bd rl dc rq pl hl B → Q 0 C) ∧ ((jd B).1 = 1 → ∀ C, Fw A C [rd, ln, bd, dc, rq, pl, hl] → Cp C rd ln bd rl dc rq pl hl (rqB B) (jd B).2.1 → Q 1 C) ∧ ((jd B).1 ≠ 0 → (jd B).1 ≠ 1 → ∀ C, Fw A C [rd, ln, bd, dc, rq, pl, hl] → Rs C rd ln bd rl dc → Q (iI (jd B).1) C)
theorem fwr {A C : ab_H} (h : Fw A C [rd]) : Fw A C [rd, ln, bd, dc, rq, pl, hl] := h.mo (fun x hx => by simp at hx ⊢; exact Or.inl hx)
theorem fwl {A C : ab_H} (h : Fw A C [ln]) : Fw A C [rd, ln, bd, dc, rq, pl, hl] := h.mo (fun x hx => by simp at hx ⊢; exact Or.inr (Or.inl hx))
theorem fwb {A C : ab_H} (h : Fw A C [bd]) : Fw A C [rd, ln, bd, dc, rq, pl, hl] := h.mo (fun x hx => by simp at hx ⊢; exact Or.inr (Or.inr (Or.inl hx)))
theorem fww {A C E : ab_H} {W : List Nat} (h : Fw A C W) (g : Fw C E W) : Fw A E W := h.tr g (fun x hx => Or.inl hx)
theorem Rb.g3 {A C : ab_H} {L D : List Nat} {fs : List Value} {ys : List Nat} {cp : Nat} (h : Rb A ln bd rl dc L D) (hF : Fw A C [dc, pl, rq]) (hp : A pl = some (oL ys cp)) (hr : A rq = some (oR (.inr (7, fs)))) (hd : Dc C dc) : Rb C ln bd rl dc L D := by
  obtain ⟨⟨c1, a1, a2⟩, ⟨c2, b1, b2⟩, d, ⟨Z, c3, e1, e2⟩, f1, f2, f3, f4, f5⟩ := h
  have nin : ∀ {x : Nat} {o : ab_O}, A x = some o → x ≠ dc → o ≠ oL ys cp → o ≠ oR (.inr (7, fs)) → C x = some o := fun {x o} hx h1 h2 h3 => hF x o hx (by
    simp only [List.mem_cons, List.not_mem_nil, or_false, not_or]
    exact ⟨h1, ne_of hx hp h2, ne_of hx hr h3⟩)
  exact ⟨⟨c1, nin a1 f2 (fun e => by cases e) (fun e => by cases e), a2⟩, ⟨c2, nin b1 f3 (fun e => by cases e) (fun e => by cases e), b2⟩, nin d (ne_of d e1 (fun e => by cases e)) (fun e => by cases e) (fun e => by cases e), hd, f1, f2, f3, f4, f5⟩
/-- the first line ends here -/
def exq (B : List Nat) (b : Nat) : Prop := lef1 B = 0 ∧ 0 < lef1 (B ++ [b])
theorem exq_i {L : List Nat} (hp : plL L) (hl : L.length ≤ 40) : exq (L ++ cr true) 10 := by
  refine ⟨?_, ?_⟩
  · unfold lef1
    rw [lef_pl L _ 0 hp (by omega)]
    rfl
  · have : lef1 (L ++ cr true ++ [10]) = (L.length : Int) + 2 := ln_step (sr := true) (b := 10) hp hl
    rw [this]
    omega
theorem c_ph0 (hL : Li A) (h : Ph0 A rd ln bd rl dc rq pl hl B) (hb : b < 256) (h1 : 20 ≤ kc) (h2 : 700 ≤ ks) (hE : exq B b → 600 ≤ kc ∧ 7000 ≤ ks) (hQ : Tk3 A rd ln bd rl dc rq pl hl (B ++ [b]) Q) : wp_R_takeInRequestLine rd (iI b) A kc ks Q := by
  obtain ⟨L, sr, p1, p2, p3, p4, p5, rfl⟩ := h
  obtain ⟨q0, q1, q2⟩ := hQ
  unfold wp_R_takeInRequestLine
  refine wC.i p1 (wX.i 1 400 (by omega) (by omega) ?_)
  have hcode : lnc 40 414 L sr b ≤ 0 → (jd (L ++ cr sr ++ [b])).1 = -(lnc 40 414 L sr b) := fun z => l1_code p4 p5 z
  have hlnr : lnc 40 414 L sr b ≤ 0 → lnc 40 414 L sr b = 0 ∨ lnc 40 414 L sr b = -400 ∨ lnc 40 414 L sr b = -414 := fun z => by
    unfold lnc at z ⊢
    (repeat' split) <;> (rename_i y; simp_all) <;> omega
  refine c_takeInLine (most := 40) (over := 414) p1 p2 p5 (by decide) (by decide) (by decide) hb (Nat.le_refl _) (Nat.le_refl _) (fun z s1 s2 => ?_) (fun z => ?_) (fun s1 s2 C e1 f1 => ?_) (fun s1 s2 s3 C e1 f1 => ?_)
  · subst s1 s2
    obtain ⟨h1, h2⟩ := hE (exq_i p4 p5)
    rw [if_pos rfl]
    refine wpu p1 (Nat.le_of_ble_eq_true rfl) (fun A1 e1 f1 => ?_)
    have e1 : A1 rd = some (oRd ln bd rl rq 1 true false false 0 0 0) := e1
    have b1 := p2.o f1 p1 (by decide)
    refine wgR.i (x := some rl) e1 rfl (wC.i e1 (wX.i 3 64 (by omega) (by omega) ?_))
    refine c_endLine e1 b1 (Nat.le_refl _) (Nat.le_refl _) (fun s A2 n2 g2 e2 b2 f2 => ?_)
    refine wgR.i (x := some rq) e2 rfl (wC.i b2.2.2.1 (wX.i 530 5900 (by omega) (by omega) ?_))
    have r2 : Rq0 A2 rq pl hl := by
      have r1 := p3.r5 f1 p1
      obtain ⟨⟨mp, pp, bp, t1⟩, ⟨cp, t4⟩, ⟨cz, t6⟩, t8⟩ := r1
      obtain ⟨⟨c1, a1, a2⟩, -⟩ := b1
      have nin : ∀ {x : Nat} {o : ab_O}, A1 x = some o → o ≠ oRd ln bd rl rq 1 true false false 0 0 0 → o ≠ oB L c1 → A2 x = some o := fun {x o} hx h1 h2 => f2 x o hx (by
        simp only [List.mem_cons, List.not_mem_nil, or_false, not_or]
        exact ⟨ne_of hx e1 h1, ne_of hx a1 h2⟩)
      exact ⟨⟨mp, pp, bp, nin t1 (fun e => by cases e) (fun e => by cases e)⟩, ⟨cp, nin t4 (fun e => by cases e) (fun e => by cases e)⟩, ⟨cz, nin t6 (fun e => by cases e) (fun e => by cases e)⟩, t8⟩
    obtain ⟨⟨mp, pp, bp, t1⟩, ⟨cp, t4⟩, ⟨cz, t6⟩, t8⟩ := r2
    obtain ⟨Z, cd, d1, d2⟩ := b2.2.2.2.1
    have F12 : Fw A A2 [rd, ln, bd, dc, rq, pl, hl] := fww (fwr f1) (f2.mo (fun x hx => by simp at hx ⊢; omega))
    have l2 : Li A2 := by
      obtain ⟨⟨c1, a1, a2⟩, -⟩ := b1
      exact (hL.fw f1 (Mu.c p1 rfl (Mu.nil _))).fw f2 (Mu.c e1 rfl (Mu.c a1 rfl (Mu.nil _)))
    have hLb : ∀ x ∈ L, x < 256 := fun x hx => by have := p4 x hx; omega
    refine c_read (hl := hl) (mp := mp) (pp := pp) (bp := bp) (cid := -1) g2 l2.1 l2.2.1 b2.2.2.1 d1 d2 t1 t4 hLb p5 (Nat.le_refl _) (Nat.le_refl _) (fun z C f3 dc3 => ?_) (fun z C b1' b3' ys cp' f3 dc3 r3 pt1 pt3 pl3 pts3 => ?_)
    · rw [if_pos rfl]
      have hj := l1_bad p4 p5 z
      rw [hj] at q2
      have F3 : Fw A C [rd, ln, bd, dc, rq, pl, hl] := fww F12 (f3.mo (fun x hx => by simp at hx ⊢; omega))
      refine q2 (by decide) (by decide) C F3 ?_
      have b3 := b2.g3 f3 t4 t1 dc3
      have rd3 : C rd = some (oRd ln bd rl rq 1 false false false 0 0 0) := f3 rd _ e2 (by
        simp only [List.mem_cons, List.not_mem_nil, or_false, not_or]
        exact ⟨ne_of e2 d1 (fun e => by cases e), ne_of e2 t4 (fun e => by cases e), ne_of e2 t1 (fun e => by cases e)⟩)
      exact b3.rs rd3
    · rw [if_neg (by decide)]
      have F3 : Fw A C [rd, ln, bd, dc, rq, pl, hl] := fww F12 (f3.mo (fun x hx => by simp at hx ⊢; omega))
      have b3 := b2.g3 f3 t4 t1 dc3
      have rd3 : C rd = some (oRd ln bd rl rq 1 false false false 0 0 0) := f3 rd _ e2 (by
        simp only [List.mem_cons, List.not_mem_nil, or_false, not_or]
        exact ⟨ne_of e2 d1 (fun e => by cases e), ne_of e2 t4 (fun e => by cases e), ne_of e2 t1 (fun e => by cases e)⟩)
      have hl3 : C hl = some (oL [] cz) := f3 hl _ t6 (by
        simp only [List.mem_cons, List.not_mem_nil, or_false, not_or]
        exact ⟨ne_of t6 d1 (fun e => by cases e), Ne.symm t8, ne_of t6 t1 (fun e => by cases e)⟩)
      have j1 := J1_init p4 p5 z
      have eB : L ++ cr true ++ [10] = L ++ [13, 10] := by simp [cr]
      rw [eB] at q0
      refine q0 j1.nil C F3 (Or.inr (Or.inl ⟨L ++ [13, 10], -1, false, [], L, [], [], false, (by rw [show decide ((0 : Int) ≤ -1 ∨ false = true) = false from by decide]; exact rd3), b3, ⟨⟨b1', b3', bp, r3, pt1, pt3⟩, ⟨ys, cp', pl3, pts3⟩, ⟨[], cz, hl3, PtsAt.nil _⟩, t8⟩, fun x hx => (by cases hx), by simp, j1, fun e => (by cases e), by simp [cr]⟩))
  · have hr := hlnr (by omega)
    have hc := hcode (by omega)
    rw [if_neg (by simp (disch := omega) only [iI_lit, iI_add, iI_sub, iI_mul, iI_neg, iI_lt, iI_le, iI_eq] <;> omega)]
    rw [hc] at q2
    exact q2 (by omega) (by omega) A (Fw.rf _ _) (p2.rs p1)
  · subst s1 s2
    rw [if_neg (by decide)]
    refine q0 ?_ C (fwr f1) (Or.inl ⟨L, true, e1, p2.o f1 p1 (by decide), p3.r5 f1 p1, p4, p5, by simp [cr]⟩)
    have hz : lnc 40 414 L false 13 = 0 := by
      unfold lnc
      rw [if_neg (by decide), if_pos rfl]
    rw [hcode (by omega), hz]
    rfl
  · subst s1
    rw [if_neg (by decide)]
    obtain ⟨⟨c1, a1, a2⟩, -⟩ := p2
    have hz : lnc 40 414 L false b = 0 := by
      unfold lnc
      rw [if_neg (by decide), if_neg (by omega), if_neg (by omega), if_neg (by omega)]
    refine q0 ?_ C (fwl f1) (Or.inl ⟨L ++ [b], false, f1.k p1 a1 (fun e => by cases e), e1, p3.b f1 a1, fun x hx => ?_, by rw [List.length_append]; simp; omega, by simp [cr]⟩)
    · rw [hcode (by omega), hz]
      rfl
    · rcases List.mem_append.mp hx with y | y
      · exact p4 x y
      · rw [List.mem_singleton.mp y]
        exact s2
end TK
