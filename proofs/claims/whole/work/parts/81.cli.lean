/-! The class: the reader -/
abbrev oRd (ln bd rl rq : Nat) (ph : Nat) (sr tl ck : Bool) (wt sd sa : Nat) : ab_O := oR (.inr (5, [va_rf (some ln), va_rf (some bd), va_rf (some rl), va_rf (some rq), .int (iI ph), .int (iI (bI sr)), .int (iI (bI tl)), .int (iI (bI ck)), .int (iI wt), .int (iI sd), .int (iI sa)]))
/-- the texts that the law's code names -/
def Li (A : ab_H) : Prop := A 1 = some (oS []) ∧ A 2 = some (oS [32, 72, 49]) ∧ A 3 = some (oS w_len) ∧ A 4 = some (oS w_chk) ∧ A 5 = some (oS w_yes) ∧ A 6 = some (oS w_con) ∧ A 7 = some (oS w_clo)
theorem Li.fw {A B : ab_H} {W : List Nat} (h : Li A) (hF : Fw A B W) (hW : Mu A W) : Li B := by
  obtain ⟨a, b, c, d, e, f, g⟩ := h
  exact ⟨hF.im a rfl hW, hF.im b rfl hW, hF.im c rfl hW, hF.im d rfl hW, hF.im e rfl hW, hF.im f rfl hW, hF.im g rfl hW⟩
/-- a reader's rows, however far it is -/
def Rs (A : ab_H) (rd ln bd rl dc : Nat) : Prop := (∃ rq v4 v5 v6 v7 v8 v9 v10, A rd = some (oR (.inr (5, [va_rf (some ln), va_rf (some bd), va_rf (some rl), va_rf (some rq), .int v4, .int v5, .int v6, .int v7, .int v8, .int v9, .int v10])))) ∧ (∃ L c, A ln = some (oB L c) ∧ c ≤ 200 ∧ L.length ≤ 60) ∧ (∃ D c, A bd = some (oB D c) ∧ c ≤ 200 ∧ D.length ≤ 60) ∧ A rl = some (oR (.inr (6, [va_rf (some dc)]))) ∧ Dc A dc ∧ ln ≠ bd ∧ ln ≠ dc ∧ bd ≠ dc
/-- the request that is read, from its second line on -/
def RqX (A : ab_H) (rq pl hl : Nat) (X : List Nat) (H : List (List Nat × List Nat)) : Prop := (∃ mp pp bp, A rq = some (oR (.inr (7, [va_rf (some pl), va_rf (some hl), va_rf (some mp), va_rf (some pp), va_rf (some bp), .int (-1)]))) ∧ PtAt A mp ([], rlM X) ∧ PtAt A pp ([], rlP X)) ∧ (∃ ys cp, A pl = some (oL ys cp) ∧ PtsAt A ys (rlQ X)) ∧ (∃ zs cz, A hl = some (oL zs cz) ∧ PtsAt A zs H) ∧ pl ≠ hl
def Rq0 (A : ab_H) (rq pl hl : Nat) : Prop := (∃ mp pp bp, A rq = some (oR (.inr (7, [va_rf (some pl), va_rf (some hl), va_rf (some mp), va_rf (some pp), va_rf (some bp), .int (-1)])))) ∧ (∃ cp, A pl = some (oL [] cp)) ∧ (∃ cz, A hl = some (oL [] cz)) ∧ pl ≠ hl
theorem RqX.n {A B : ab_H} {a rq pl hl : Nat} {o : ab_O} {X : List Nat} {H : List (List Nat × List Nat)} (h : RqX A rq pl hl X H) (hF : Fw A B [a]) (ha : A a = some o) (ho : mtb o = true) (h1 : a ≠ rq) (h2 : a ≠ pl) (h3 : a ≠ hl) : RqX B rq pl hl X H := by
  obtain ⟨⟨mp, pp, bp, e1, e2, e3⟩, ⟨ys, cp, e4, e5⟩, ⟨zs, cz, e6, e7⟩, e8⟩ := h
  have hM : Mu A [a] := Mu.c ha ho (Mu.nil A)
  exact ⟨⟨mp, pp, bp, hF.n e1 (Ne.symm h1), e2.fw hF hM, e3.fw hF hM⟩, ⟨ys, cp, hF.n e4 (Ne.symm h2), e5.fw hF hM⟩, ⟨zs, cz, hF.n e6 (Ne.symm h3), e7.fw hF hM⟩, e8⟩
theorem RqX.e {A B : ab_H} {rq pl hl : Nat} {X : List Nat} {H : List (List Nat × List Nat)} (h : RqX A rq pl hl X H) (hF : Fw A B []) : RqX B rq pl hl X H := by
  obtain ⟨⟨mp, pp, bp, e1, e2, e3⟩, ⟨ys, cp, e4, e5⟩, ⟨zs, cz, e6, e7⟩, e8⟩ := h
  exact ⟨⟨mp, pp, bp, hF.e e1, e2.fw hF (Mu.nil A), e3.fw hF (Mu.nil A)⟩, ⟨ys, cp, hF.e e4, e5.fw hF (Mu.nil A)⟩, ⟨zs, cz, hF.e e6, e7.fw hF (Mu.nil A)⟩, e8⟩
theorem Rq0.n {A B : ab_H} {a rq pl hl : Nat} (h : Rq0 A rq pl hl) (hF : Fw A B [a]) (h1 : a ≠ rq) (h2 : a ≠ pl) (h3 : a ≠ hl) : Rq0 B rq pl hl := by
  obtain ⟨⟨mp, pp, bp, e1⟩, ⟨cp, e4⟩, ⟨cz, e6⟩, e8⟩ := h
  exact ⟨⟨mp, pp, bp, hF.n e1 (Ne.symm h1)⟩, ⟨cp, hF.n e4 (Ne.symm h2)⟩, ⟨cz, hF.n e6 (Ne.symm h3)⟩, e8⟩
theorem Rq0.e {A B : ab_H} {rq pl hl : Nat} (h : Rq0 A rq pl hl) (hF : Fw A B []) : Rq0 B rq pl hl := by
  obtain ⟨⟨mp, pp, bp, e1⟩, ⟨cp, e4⟩, ⟨cz, e6⟩, e8⟩ := h
  exact ⟨⟨mp, pp, bp, hF.e e1⟩, ⟨cp, hF.e e4⟩, ⟨cz, hF.e e6⟩, e8⟩
theorem RqX.b {A B : ab_H} {a rq pl hl c : Nat} {bs X : List Nat} {H : List (List Nat × List Nat)} (h : RqX A rq pl hl X H) (hF : Fw A B [a]) (ha : A a = some (oB bs c)) : RqX B rq pl hl X H := by
  have hh := h
  obtain ⟨⟨mp, pp, bp, e1, e2, e3⟩, ⟨ys, cp, e4, e5⟩, ⟨zs, cz, e6, e7⟩, e8⟩ := h
  exact hh.n hF ha rfl (ne_of ha e1 (fun e => by cases e)) (ne_of ha e4 (fun e => by cases e)) (ne_of ha e6 (fun e => by cases e))
theorem RqX.r5 {A B : ab_H} {a rq pl hl : Nat} {fs : List Value} {X : List Nat} {H : List (List Nat × List Nat)} (h : RqX A rq pl hl X H) (hF : Fw A B [a]) (ha : A a = some (oR (.inr (5, fs)))) : RqX B rq pl hl X H := by
  have hh := h
  obtain ⟨⟨mp, pp, bp, e1, e2, e3⟩, ⟨ys, cp, e4, e5⟩, ⟨zs, cz, e6, e7⟩, e8⟩ := h
  exact hh.n hF ha rfl (ne_of ha e1 (fun e => by cases e)) (ne_of ha e4 (fun e => by cases e)) (ne_of ha e6 (fun e => by cases e))
theorem Rq0.b {A B : ab_H} {a rq pl hl c : Nat} {bs : List Nat} (h : Rq0 A rq pl hl) (hF : Fw A B [a]) (ha : A a = some (oB bs c)) : Rq0 B rq pl hl := by
  have hh := h
  obtain ⟨⟨mp, pp, bp, e1⟩, ⟨cp, e4⟩, ⟨cz, e6⟩, e8⟩ := h
  exact hh.n hF (ne_of ha e1 (fun e => by cases e)) (ne_of ha e4 (fun e => by cases e)) (ne_of ha e6 (fun e => by cases e))
theorem Rq0.r5 {A B : ab_H} {a rq pl hl : Nat} {fs : List Value} (h : Rq0 A rq pl hl) (hF : Fw A B [a]) (ha : A a = some (oR (.inr (5, fs)))) : Rq0 B rq pl hl := by
  have hh := h
  obtain ⟨⟨mp, pp, bp, e1⟩, ⟨cp, e4⟩, ⟨cz, e6⟩, e8⟩ := h
  exact hh.n hF (ne_of ha e1 (fun e => by cases e)) (ne_of ha e4 (fun e => by cases e)) (ne_of ha e6 (fun e => by cases e))
/-- the builders of a reader -/
def Rb (A : ab_H) (ln bd rl dc : Nat) (L D : List Nat) : Prop := (∃ c, A ln = some (oB L c) ∧ c ≤ 200) ∧ (∃ c, A bd = some (oB D c) ∧ c ≤ 200) ∧ A rl = some (oR (.inr (6, [va_rf (some dc)]))) ∧ Dc A dc ∧ ln ≠ bd ∧ ln ≠ dc ∧ bd ≠ dc ∧ L.length ≤ 60 ∧ D.length ≤ 60
theorem Rb.e {A B : ab_H} {ln bd rl dc : Nat} {L D : List Nat} (h : Rb A ln bd rl dc L D) (hF : Fw A B []) : Rb B ln bd rl dc L D := by
  obtain ⟨⟨c1, a1, a2⟩, ⟨c2, b1, b2⟩, d, ⟨Z, c3, e1, e2⟩, f⟩ := h
  exact ⟨⟨c1, hF.e a1, a2⟩, ⟨c2, hF.e b1, b2⟩, hF.e d, ⟨Z, c3, hF.e e1, e2⟩, f⟩
theorem Rb.o {A B : ab_H} {a ln bd rl dc ci : Nat} {fs : List Value} {L D : List Nat} (h : Rb A ln bd rl dc L D) (hF : Fw A B [a]) (ha : A a = some (oR (.inr (ci, fs)))) (hc : ci ≠ 6) : Rb B ln bd rl dc L D := by
  obtain ⟨⟨c1, a1, a2⟩, ⟨c2, b1, b2⟩, d, ⟨Z, c3, e1, e2⟩, f⟩ := h
  exact ⟨⟨c1, hF.k a1 ha (fun e => by cases e), a2⟩, ⟨c2, hF.k b1 ha (fun e => by cases e), b2⟩, hF.k d ha (fun e => by cases e; exact hc rfl), ⟨Z, c3, hF.k e1 ha (fun e => by cases e), e2⟩, f⟩
theorem Rb.l {A B : ab_H} {a ln bd rl dc cp : Nat} {ys L D : List Nat} (h : Rb A ln bd rl dc L D) (hF : Fw A B [a]) (ha : A a = some (oL ys cp)) : Rb B ln bd rl dc L D := by
  obtain ⟨⟨c1, a1, a2⟩, ⟨c2, b1, b2⟩, d, ⟨Z, c3, e1, e2⟩, f⟩ := h
  exact ⟨⟨c1, hF.k a1 ha (fun e => by cases e), a2⟩, ⟨c2, hF.k b1 ha (fun e => by cases e), b2⟩, hF.k d ha (fun e => by cases e), ⟨Z, c3, hF.k e1 ha (fun e => by cases e), e2⟩, f⟩
theorem Rb.rs {A : ab_H} {rd ln bd rl dc rq ph wt sd sa : Nat} {sr tl ck : Bool} {L D : List Nat} (h : Rb A ln bd rl dc L D) (hr : A rd = some (oRd ln bd rl rq ph sr tl ck wt sd sa)) : Rs A rd ln bd rl dc := by
  obtain ⟨⟨c1, a1, a2⟩, ⟨c2, b1, b2⟩, d, e, f1, f2, f3, f4, f5⟩ := h
  exact ⟨⟨rq, _, _, _, _, _, _, _, hr⟩, ⟨L, c1, a1, a2, f4⟩, ⟨D, c2, b1, b2, f5⟩, d, e, f1, f2, f3⟩
section TL
variable {A : ab_H} {rd ln bd rl dc rq ph wt sd sa b kc ks : Nat} {sr tl ck : Bool} {L D : List Nat} {Q : Int32 → ab_H → Prop}
theorem c_takeInLine {most over : Nat} (hr : A rd = some (oRd ln bd rl rq ph sr tl ck wt sd sa)) (hb : Rb A ln bd rl dc L D) (hL : L.length ≤ most) (hm : most ≤ 40) (ho : over < 1000) (ho0 : 0 < over) (hb2 : b < 256) (h1 : 1 ≤ kc) (h2 : 400 ≤ ks)
    (hE : lnc most over L sr b > 0 → sr = true → b = 10 → Q 2 A) (hN : lnc most over L sr b < 0 → Q (iI (-(lnc most over L sr b))) A) (hR : sr = false → b = 13 → ∀ B, B rd = some (oRd ln bd rl rq ph true tl ck wt sd sa) → Fw A B [rd] → Q 0 B) (hC : sr = false → 32 ≤ b ∧ b ≤ 126 → L.length < most → ∀ B, Rb B ln bd rl dc (L ++ [b]) D → Fw A B [ln] → Q 0 B) : wp_R_takeInLine rd (iI b) (iI most) (iI over) A kc ks Q := by
  unfold lnc at hE hN
  unfold wp_R_takeInLine
  refine wgI.i hr rfl ?_
  cases sr with
  | true =>
    rw [if_neg (by decide)]
    rw [if_pos rfl] at hE hN
    by_cases q : b = 10
    · rw [if_pos (by simp (disch := omega) only [iI_lit, iI_add, iI_sub, iI_mul, iI_neg, iI_lt, iI_le, iI_eq] <;> omega)]
      rw [if_pos q] at hE
      exact hE (by omega) rfl q
    · rw [if_neg (by simp (disch := omega) only [iI_lit, iI_add, iI_sub, iI_mul, iI_neg, iI_lt, iI_le, iI_eq] <;> omega)]
      rw [if_neg q] at hN
      exact hN (by decide)
  | false =>
    rw [if_pos (by decide)]
    rw [if_neg (by decide)] at hN
    by_cases q : b = 13
    · rw [if_pos (by simp (disch := omega) only [iI_lit, iI_add, iI_sub, iI_mul, iI_neg, iI_lt, iI_le, iI_eq] <;> omega)]
      exact wpu hr (Nat.le_of_ble_eq_true rfl) (fun B e f => hR rfl q B e f)
    rw [if_neg (by simp (disch := omega) only [iI_lit, iI_add, iI_sub, iI_mul, iI_neg, iI_lt, iI_le, iI_eq] <;> omega)]
    rw [if_neg q] at hN
    refine c_isPlain (by omega) (by omega) ?_
    by_cases q2 : b < 32 ∨ 126 < b
    · rw [decide_eq_false (by omega), if_pos (by decide)]
      rw [if_pos q2] at hN
      exact hN (by decide)
    rw [decide_eq_true (by omega), if_neg (by decide)]
    rw [if_neg q2] at hN
    obtain ⟨⟨c1, a1, a2⟩, ⟨c2, b1, b2⟩, d, ⟨Z, c3, e1, e2⟩, f1, f2, f3, f4, f5⟩ := hb
    refine wgR.i (x := some ln) hr rfl (sb_len a1 ?_)
    by_cases q3 : L.length < most
    · rw [if_pos (by simp (disch := omega) only [iI_lit, iI_add, iI_sub, iI_mul, iI_neg, iI_lt, iI_le, iI_eq] <;> omega)]
      refine wgR.i (x := some ln) hr rfl ?_
      rw [wch_i (by omega) (by omega)]
      refine sb_chr a1 (n := b) rfl hb2 (by omega) a2 h1 (by omega) (fun B c' ks' g1 g2 g3 g4 g5 => hC rfl (by omega) q3 B ⟨⟨c', g1, g3⟩, ⟨c2, g2.n b1 (Ne.symm f1), b2⟩, g2.k d a1 (fun e => by cases e), ⟨Z, c3, g2.n e1 (Ne.symm f2), e2⟩, f1, f2, f3, by rw [List.length_append]; simp; omega, f5⟩ g2)
    · rw [if_neg (by simp (disch := omega) only [iI_lit, iI_add, iI_sub, iI_mul, iI_neg, iI_lt, iI_le, iI_eq] <;> omega)]
      rw [if_pos (by omega)] at hN
      have := hN (by omega)
      rw [show -(-(over : Int)) = (over : Int) by omega] at this
      exact this
theorem c_endLine {Q : Option Nat → ab_H → Prop} (hr : A rd = some (oRd ln bd rl rq ph sr tl ck wt sd sa)) (hb : Rb A ln bd rl dc L D) (h1 : 3 ≤ kc) (h2 : 64 ≤ ks)
    (hQ : ∀ s B, A s = none → B s = some (oS L) → B rd = some (oRd ln bd rl rq ph false tl ck wt sd sa) → Rb B ln bd rl dc [] D → Fw A B [rd, ln] → Q (some s) B) : wp_R_endLine rd A kc ks Q := by
  obtain ⟨⟨c1, a1, a2⟩, ⟨c2, b1, b2⟩, d, ⟨Z, c3, e1, e2⟩, f1, f2, f3, f4, f5⟩ := hb
  unfold wp_R_endLine
  refine wgR.i (x := some ln) hr rfl ?_
  refine sb_str2 a1 (by omega) (by omega) (fun s A1 n1 g1 F1 => ?_)
  refine wgR.i (x := some ln) (F1.e hr) rfl ?_
  refine sb_set (F1.e a1) (k := 0) rfl (Nat.zero_le _) (by omega) (by omega) (fun A2 g2 F2 => ?_)
  have r2 := F2.k (F1.e hr) (F1.e a1) (fun e => by cases e)
  refine wpu r2 (Nat.le_of_ble_eq_true rfl) (fun A3 g3 F3 => ?_)
  refine hQ s A3 n1 (F3.k (F2.k g1 (F1.e a1) (fun e => by cases e)) r2 (fun e => by cases e)) g3 ⟨⟨c1, F3.k g2 r2 (fun e => by cases e), a2⟩, ⟨c2, F3.k (F2.n (F1.e b1) (Ne.symm f1)) r2 (fun e => by cases e), b2⟩, F3.k (F2.k (F1.e d) (F1.e a1) (fun e => by cases e)) r2 (fun e => by cases e), ⟨Z, c3, F3.k (F2.n (F1.e e1) (Ne.symm f2)) r2 (fun e => by cases e), e2⟩, f1, f2, f3, by simp, f5⟩ ?_
  exact (((F1.mo (by simp) : Fw A A1 [rd, ln]).tr F2 (fun x hx => Or.inl (by simp at hx ⊢; exact Or.inr hx))).tr F3 (fun x hx => Or.inl (by simp at hx ⊢; exact Or.inl hx)))
end TL
