/-! The class: matchers -/
section MTC
variable {A : ab_H} {s kc ks : Nat} {W : List Nat}
theorem c_endRow {a w g pc : Nat} {st en an lv rp : Int64} {gd : Int32} {Q : ab_H → Prop} (h : A a = some (oPt w g pc st en an lv rp gd)) (hQ : ∀ B, B a = some (oPt w g (pc + 1) st (en ||| wsl 1 (iI pc)) an lv rp gd) → Fw A B [a] → Q B) : wp_N_endRow a A Q := by
  unfold wp_N_endRow
  refine wgJ.i h rfl (wgI.i h rfl (wpu h (Nat.le_of_ble_eq_true rfl) (fun A1 e1 f1 => ?_)))
  have e1 : A1 a = some (oPt w g pc st (en ||| wsl 1 (iI pc)) an lv rp gd) := e1
  refine wgI.i e1 rfl (wpu e1 (Nat.le_of_ble_eq_true rfl) (fun A2 e2 f2 => ?_))
  rw [show iI (pc : Int) + 1 = iI ((pc + 1 : Nat) : Int) from iI_add _ 1] at e2
  exact hQ A2 e2 (fww (W := [a]) f1 f2)
def Fg (A B : ab_H) (a : Nat) : Prop := ∃ w g pc st en an lv rp gd, B a = some (oPt w g pc st en an lv rp gd) ∧ A g = none
theorem c_Ninit {a : Nat} {Q : ab_H → Prop} (h : A a = some (oR (.inr (10, mm_df 10)))) (hs : A s = some (oS W)) (hW : stl W) (h1 : 1 ≤ kc) (h2 : 40 ≤ ks) (hQ0 : tks W.length W = none → ∀ B w g pc st en an lv rp, B a = some (oPt w g pc st en an lv rp 0) → Fw A B [a] → Q B) (hQ1 : ∀ L, tks W.length W = some L → ∀ B, PtnAt B a W L → Fw A B [a] → Fg A B a → Q B) : wp_N_init a (some s) A kc ks Q := by
  obtain ⟨w1, w2⟩ := hW
  have h : A a = some (oR (.inr (10, [.null, .null, .int 0, .long 0, .long 0, .long 0, .long 0, .long 0, .int 0]))) := h
  refine ⟨⟨a, rfl⟩, wpu h (Nat.le_of_ble_eq_true rfl) (fun A1 e1 f1 => wpu e1 (Nat.le_of_ble_eq_true rfl) (fun A2 e2 f2 => ?_))⟩
  have s2 := f2.k (f1.k hs h (fun e => by cases e)) e1 (fun e => by cases e)
  refine st_len s2 ?_
  refine ⟨by rw [show (0 : Int32) = iI 0 from rfl, iI_lt (by omega) (by omega) (by omega) (by omega)]; omega, by rw [iI_clamp (by omega) (by omega)]; omega, h1, by rw [iI_clamp (by omega) (by omega)]; omega, fun g hg ng => ?_⟩
  rw [iI_clamp (by omega) (by omega), show (W.length : Int).toNat = W.length from rfl]
  have G1 : Fw A2 (ab_u A2 g (oR (.inl (0, W.length, .inl (fun _ => 0))))) [] := Fw.w ng
  have eg : ab_u A2 g (oR (.inl (0, W.length, .inl (fun _ => 0)))) g = some (oR (.inl (0, W.length, .inl (fun _ => 0)))) := ab_us
  generalize ab_u A2 g (oR (.inl (0, W.length, .inl (fun _ => 0)))) = A3 at *
  refine wpu (G1.e e2) (Nat.le_of_ble_eq_true rfl) (fun A4 e4 f4 => ?_)
  have e4 : A4 a = some (oPt s g 0 1 0 0 0 0 0) := e4
  have g4 := f4.k eg (G1.e e2) (fun e => by cases e)
  have s4 := f4.k (G1.e s2) (G1.e e2) (fun e => by cases e)
  have hB : PB A4 a s g W [] (fun _ => 0) := by
    refine ⟨1, 0, 0, 0, 0, e4, s4, g4, Bs.o.cg (fun j _ => ?_), Bs.z.cg (fun j _ => ?_), Bs.z.cg (fun j _ => ?_), Bs.z.cg (fun j _ => ?_), Bs.z.cg (fun j _ => ?_)⟩
    · unfold isS
      simp
    · unfold isN
      simp
    · unfold isD
      simp
    · unfold isL
      simp
    · unfold isR
      simp
  have ng0 : A g = none := by
    cases hz : A g with
    | none => rfl
    | some o =>
      exfalso
      by_cases y : g = a
      · rw [y, e2] at ng
        cases ng
      · rw [f2.n (f1.n hz y) y] at ng
        cases ng
  have F4 : Fw A A4 [a] := ((fww f1 f2 : Fw A A2 [a]).tr G1 (by simp)).tr f4 (fun x hx => Or.inl hx)
  have fa : ∀ {B : ab_H}, Fw A4 B [a, g] → Fw A B [a] := fun hf => F4.tr hf (fun x hx => by
    simp only [List.mem_cons, List.not_mem_nil, or_false] at hx
    rcases hx with e | e
    · exact Or.inl (by simp [e])
    · exact Or.inr (by rw [e]; exact ng0))
  refine wC.i e4 (c_readPieces w1 w2 hB (fun z B f ⟨T', gf', b⟩ => ?_) (fun L z B gf' b sg hL f => ?_))
  · obtain ⟨st, en, an, lv, rp, q1, -⟩ := b
    refine ⟨Or.inl rfl, wpu q1 (Nat.le_of_ble_eq_true rfl) (fun B1 t1 k1 => ?_)⟩
    have t1 : B1 a = some (oPt s g T'.length st en an lv rp 0) := t1
    refine wC.i t1 (c_endRow t1 (fun B2 t2 k2 => hQ0 z B2 s g _ st _ an lv rp t2 ((fa f).tr (fww k1 k2) (fun x hx => Or.inl hx))))
  · obtain ⟨st, en, an, lv, rp, q1, q2, q3, q4, q5, q6, q7, q8⟩ := b
    refine ⟨Or.inr rfl, wpu q1 (Nat.le_of_ble_eq_true rfl) (fun B1 t1 k1 => ?_)⟩
    have t1 : B1 a = some (oPt s g L.length st en an lv rp 1) := t1
    refine wC.i t1 (c_endRow t1 (fun B2 t2 k2 => hQ1 L z B2 ⟨s, g, gf', st, _, an, lv, rp, _, t2, k2.k (k1.k q2 q1 (fun e => by cases e)) t1 (fun e => by cases e), k2.k (k1.k q3 q1 (fun e => by cases e)) t1 (fun e => by cases e), q4, (q5.or (Bs.bit (i := L.length) (by omega))).cg (fun j _ => ?_), q6, q7, q8, ⟨sg.1, fun c j hj => ?_⟩, by omega⟩ ((fa f).tr (fww k1 k2) (fun x hx => Or.inl hx)) ⟨s, g, _, _, _, _, _, _, _, t2, ng0⟩))
    · unfold isE isN
      rcases Nat.lt_trichotomy j L.length with y | y | y
      · rw [tk_lt y, decide_eq_false (show ¬ j = L.length by omega), Bool.or_false]
      · rw [y, tk_at, decide_eq_true (show L.length = L.length from rfl), Bool.or_true]
        rfl
      · rw [tk_gt y, tk_no (by omega), decide_eq_false (show ¬ j = L.length by omega)]
        rfl
    · rw [sg.2 c j hj]
      unfold isA isD sgn
      cases hL2 : L[j]? with
      | none => simp
      | some t =>
        cases t with
        | none => simp
        | some x =>
          dsimp only
          by_cases y : x.1.getD 0 0 = 46
          · rw [decide_eq_true y]
            unfold pcT
            rw [if_pos y]
            simp
          · rw [decide_eq_false y, decide_eq_true (show x.1.getD 0 0 ≠ 46 from y), Bool.true_and]
            simp
/-- a matcher as the class holds it -/
def MtAt (A : ab_H) (m : Nat) (x : Mt) : Prop := ∃ sn st pr, A m = some (oR (.inr (9, [.int (iI x.1), .int (iI x.2.1), va_rf (some sn), va_rf (some st), va_rf pr]))) ∧ A sn = some (oS (if x.1 = 3 then low (x.2.2.2.take x.2.2.1.toNat) else x.2.2.2.take x.2.2.1.toNat)) ∧ A st = some (oS (x.2.2.2.drop (x.2.2.1 + 1).toNat)) ∧ (x.2.1 = 2 → ∃ b L, pr = some b ∧ tks (x.2.2.2.drop (x.2.2.1 + 1).toNat).length (x.2.2.2.drop (x.2.2.1 + 1).toNat) = some L ∧ PtnAt A b (x.2.2.2.drop (x.2.2.1 + 1).toNat) L)
theorem c_Hinit {a pt wy sn st : Nat} {pr : Option Nat} {Q : ab_H → Prop} (h : A a = some (oR (.inr (9, mm_df 9)))) (hQ : ∀ B, B a = some (oR (.inr (9, [.int (iI pt), .int (iI wy), va_rf (some sn), va_rf (some st), va_rf pr]))) → Fw A B [a] → Q B) : wp_H_init a (iI pt) (iI wy) (some sn) (some st) pr A Q := by
  have h : A a = some (oR (.inr (9, [.int 0, .int 0, .null, .null, .null]))) := h
  exact ⟨⟨a, rfl⟩, wpu h (Nat.le_of_ble_eq_true rfl) (fun A1 e1 f1 => wpu e1 (Nat.le_of_ble_eq_true rfl) (fun A2 e2 f2 => wpu e2 (Nat.le_of_ble_eq_true rfl) (fun A3 e3 f3 => wpu e3 (Nat.le_of_ble_eq_true rfl) (fun A4 e4 f4 => wpu e4 (Nat.le_of_ble_eq_true rfl) (fun A5 e5 f5 => hQ A5 e5 (fww (W := [a]) (fww (W := [a]) (fww (W := [a]) (fww (W := [a]) f1 f2) f3) f4) f5))))))⟩
theorem c_withText {pt wy sn st : Nat} {N : List Nat} {Q : Option Nat → ab_H → Prop} (hsn : A sn = some (oS N)) (hst : A st = some (oS W)) (hW : stl W) (h1 : 3 ≤ kc) (h2 : 60 ≤ ks) (hwy : wy ≤ 4) (hQ0 : wy = 2 → tks W.length W = none → ∀ B, Fw A B [] → Q none B) (hQ1 : (wy = 2 → (tks W.length W).isSome = true) → ∀ m B pr, B m = some (oR (.inr (9, [.int (iI pt), .int (iI wy), va_rf (some sn), va_rf (some st), va_rf pr]))) → Fw A B [] → (wy = 2 → ∃ b L, pr = some b ∧ tks W.length W = some L ∧ PtnAt B b W L) → (∀ b, pr = some b → Fg A B b) → Q (some m) B) : wp_H_withText (iI pt) (iI wy) (some sn) (some st) A kc ks Q := by
  unfold wp_H_withText
  by_cases q : wy = 2
  · rw [if_pos (by simp (disch := omega) only [iI_lit, iI_add, iI_sub, iI_mul, iI_neg, iI_lt, iI_le, iI_eq] <;> omega)]
    refine wnw (by omega) (by omega) (fun b A1 _ n1 e1 f1 => wD.i (wXV.i 1 40 (by omega) (by omega) ?_))
    refine c_Ninit e1 (f1.e hst) hW (Nat.le_refl _) (Nat.le_refl _) (fun z B w g pc st' en an lv rp e f => ?_) (fun L z B p f ⟨hw', hg', hpc', hst', hen', han', hlv', hrp', hgd', hx1, hx2⟩ => ?_)
    · refine wC.i e (wgI.i e rfl ⟨Or.inl rfl, ?_⟩)
      dsimp only
      rw [if_pos rfl]
      exact hQ0 q z B (f1.tr f (fun x hx => Or.inr (by simp at hx; rw [hx]; exact n1)))
    · have pp := p
      obtain ⟨w, g, gf, st', en, an, lv, rp, fa, t1, -⟩ := p
      refine wC.i t1 (wgI.i t1 rfl ⟨Or.inr rfl, ?_⟩)
      dsimp only
      rw [if_neg (by decide)]
      have F1 : Fw A B [] := f1.tr f (fun x hx => Or.inr (by simp at hx; rw [hx]; exact n1))
      refine wnw (by omega) (by omega) (fun m B1 _ n2 e2 f2 => wD.i (c_Hinit e2 (fun B2 e3 f3 => hQ1 (fun _ => by rw [z]; rfl) m B2 (some b) e3 ?_ (fun _ => ⟨b, L, rfl, z, ?_⟩) (fun b' hb' => by cases hb'; exact ⟨_, _, _, _, _, _, _, _, _, f3.k (f2.e hx1) e2 (fun e => by cases e), by
        cases hz : A hg' with
        | none => rfl
        | some o =>
          rw [f1.e hz] at hx2
          cases hx2⟩))))
      · have n2' : A m = none := by
          cases hz : A m with
          | none => rfl
          | some o =>
            rw [F1.e hz] at n2
            cases n2
        exact (F1.tr f2 (by simp)).tr f3 (fun x hx => Or.inr (by simp at hx; rw [hx]; exact n2'))
      · obtain ⟨w, g, gf, st', en, an, lv, rp, fa, t1, t2, t3, t4⟩ := pp
        exact ⟨w, g, gf, st', en, an, lv, rp, fa, f3.k (f2.e t1) e2 (fun e => by cases e), f3.k (f2.e t2) e2 (fun e => by cases e), f3.k (f2.e t3) e2 (fun e => by cases e), t4⟩
  · rw [if_neg (by simp (disch := omega) only [iI_lit, iI_add, iI_sub, iI_mul, iI_neg, iI_lt, iI_le, iI_eq] <;> omega)]
    refine wnw (by omega) (by omega) (fun m B1 _ n2 e2 f2 => wD.i (c_Hinit e2 (fun B2 e3 f3 => hQ1 (fun z => absurd z q) m B2 none e3 ?_ (fun z => absurd z q) (fun b hb => by cases hb))))
    exact f2.tr f3 (fun x hx => Or.inr (by simp at hx; rw [hx]; exact n2))
end MTC
