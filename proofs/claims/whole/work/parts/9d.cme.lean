/-! The class: stub -/
section STB
variable {G A : ab_H} {T : Nat → Nat} {sv kc ks : Nat} {S : St} {Q : Int32 → ab_H → Prop}
theorem nn_f {A B : ab_H} {x : Nat} (h : B x = none) (hF : Fw A B []) : A x = none := by
  cases hz : A x with
  | none => rfl
  | some o =>
    rw [hF.e hz] at h
    cases h
theorem nn_1 {A B : ab_H} {x a : Nat} {o : ab_O} (h : B x = none) (hF : Fw A B [a]) (ha : B a = some o) : A x = none := by
  cases hz : A x with
  | none => rfl
  | some o' =>
    by_cases e : x = a
    · rw [e, ha] at h
      cases h
    · rw [hF.n hz e] at h
      cases h
theorem c_stub {p w : Int} (hp : rng p) (hw : rng w) (h : Inv G A T sv S) (hnx : S.2.2.2.2.2.2.2 < 90000) (hid : ∀ x ∈ S.2.2.2.2.2.2.1, sbI x < S.2.2.2.2.2.2.2) (k1 : 8 ≤ kc) (k2 : 80 ≤ ks) (h0 : ¬ a_sok p w S → ∀ B T', Inv G B T' sv S → Q (iI (-1)) B) (h1 : a_sok p w S → ∀ B T', Inv G B T' sv (a_sS p w S) → Q (iI S.2.2.2.2.2.2.2) B) : wp_S_stub sv (iI p) (iI w) A kc ks Q := by
  have hh := h
  obtain ⟨ca, sa, ty, sl, kl, dl, i1, i2, i3, i4, i5, i6, i7, i8, i9⟩ := h
  have i77 := i7
  have i88 := i8
  have i99 := i9
  obtain ⟨t7, x1, x2, cap, x3, x4⟩ := i77
  obtain ⟨t8, ds, cd, d1, d2⟩ := i88
  obtain ⟨t9, st9, bs, cs, s1, s2, s3, s4⟩ := i99
  obtain ⟨v1, tv⟩ := i3
  obtain ⟨p1, p2⟩ := hp
  obtain ⟨w1, w2⟩ := hw
  have no : ¬ a_sok p w S → Q (iI (-1)) A := fun z => h0 z A T hh
  unfold wp_S_stub
  by_cases q1 : p < 0
  · rw [if_pos (by simp (disch := omega) only [iI_lit, iI_add, iI_sub, iI_mul, iI_neg, iI_lt, iI_le, iI_eq] <;> omega)]
    exact no (fun z => by have := z.1; omega)
  rw [if_neg (by simp (disch := omega) only [iI_lit, iI_add, iI_sub, iI_mul, iI_neg, iI_lt, iI_le, iI_eq] <;> omega)]
  by_cases q2 : 9 < p
  · rw [if_pos (by simp (disch := omega) only [iI_lit, iI_add, iI_sub, iI_mul, iI_neg, iI_lt, iI_le, iI_eq] <;> omega)]
    exact no (fun z => by have := z.2.1; omega)
  rw [if_neg (by simp (disch := omega) only [iI_lit, iI_add, iI_sub, iI_mul, iI_neg, iI_lt, iI_le, iI_eq] <;> omega)]
  by_cases q3 : w < 100
  · rw [if_pos (by simp (disch := omega) only [iI_lit, iI_add, iI_sub, iI_mul, iI_neg, iI_lt, iI_le, iI_eq] <;> omega)]
    exact no (fun z => by have := z.2.2.1; omega)
  rw [if_neg (by simp (disch := omega) only [iI_lit, iI_add, iI_sub, iI_mul, iI_neg, iI_lt, iI_le, iI_eq] <;> omega)]
  by_cases q4 : 599 < w
  · rw [if_pos (by simp (disch := omega) only [iI_lit, iI_add, iI_sub, iI_mul, iI_neg, iI_lt, iI_le, iI_eq] <;> omega)]
    exact no (fun z => by have := z.2.2.2.1; omega)
  rw [if_neg (by simp (disch := omega) only [iI_lit, iI_add, iI_sub, iI_mul, iI_neg, iI_lt, iI_le, iI_eq] <;> omega)]
  refine wgR.i (x := some sl) v1 rfl (al_size s1 ?_)
  by_cases q5 : bs.length < 8
  · rw [if_pos (by simp (disch := omega) only [iI_lit, iI_add, iI_sub, iI_mul, iI_neg, iI_lt, iI_le, iI_eq] <;> omega)]
    obtain ⟨pt, rfl⟩ := Int.eq_ofNat_of_zero_le (show 0 ≤ p by omega)
    obtain ⟨wy, rfl⟩ := Int.eq_ofNat_of_zero_le (show 0 ≤ w by omega)
    have hok : a_sok pt wy S := ⟨by omega, by omega, by omega, by omega, by omega⟩
    refine wgI.i v1 rfl (wgI.i v1 rfl (wpu v1 (Nat.le_of_ble_eq_true rfl) (fun A1 e1 f1 => ?_)))
    rw [show iI ((S.2.2.2.2.2.2.2 : Nat) : Int) + 1 = iI ((S.2.2.2.2.2.2.2 + 1 : Nat) : Int) from iI_add _ 1] at e1
    have e1 : A1 sv = some (oSv ca sa ty sl kl dl (S.2.2.2.2.2.2.2 + 1) S.2.2.1) := e1
    refine wgR.i (x := some sl) e1 rfl (wnw (by omega) (by omega) (fun b A2 _ n2 e2 f2 => ?_))
    have n2A : A b = none := nn_1 n2 f1 e1
    have v2 := f2.e e1
    have ty2 := f2.e (f1.k x3 v1 (fun e => by cases e))
    refine wgR.i (x := some ty) v2 rfl (sb_str2 ty2 (by omega) (by omega) (fun s A3 n3 e3 f3 => ?_))
    have n3A : A s = none := nn_1 (nn_f n3 f2) f1 e1
    refine wgR.i (x := some dl) (f3.e v2) rfl (wD.i (wXV.i 1 1 (by omega) (by omega) ?_))
    have b3 := f3.e e2
    refine c_Binit b3 (Nat.le_refl _) (Nat.le_refl _) (fun A4 tp n4 e4 e4t f4 => ?_)
    have n4A : A tp = none := nn_1 (nn_f (nn_f n4 f3) f2) f1 e1
    have up4 : ∀ {y : Nat} {o : ab_O}, A y = some o → y ≠ sv → A4 y = some o := fun {y o} hy hn => f4.n (f3.e (f2.e (f1.n hy hn))) (ne_no hy n2A)
    have v4 := f4.k (f3.e v2) b3 (fun e => by cases e)
    have sl4 := up4 s1 (ne_of s1 v1 (fun e => by cases e))
    refine al_add sl4 e4 (by decide) (by omega) (by omega) (by omega) (fun A5 ks5 e5 f5 k5 => ?_)
    refine wnw (by omega) (by omega) (fun dn A6 _ n6 e6 f6 => al_init e6 (fun A7 e7 f7 => ?_))
    have n65 : A4 dn = none := nn_1 n6 f5 e5
    have n6A : A dn = none := nn_1 (nn_f (nn_f (nn_1 n65 f4 e4) f3) f2) f1 e1
    have up7 : ∀ {y : Nat} {o : ab_O}, A5 y = some o → A7 y = some o := fun {y o} hy => f7.n (f6.e hy) (ne_no hy n6)
    have v7 := up7 (f5.k v4 sl4 (fun e => by cases e))
    refine wpu v7 (Nat.le_of_ble_eq_true rfl) (fun A8 e8 f8 => ?_)
    have e8 : A8 sv = some (oSv ca sa ty sl kl dn (S.2.2.2.2.2.2.2 + 1) S.2.2.1) := e8
    have ty8 := f8.k (up7 (f5.k (up4 x3 (ne_of x3 v1 (fun e => by cases e))) sl4 (fun e => by cases e))) v7 (fun e => by cases e)
    refine wgR.i (x := some ty) e8 rfl (sb_set ty8 (k := 0) rfl (by omega) (by omega) (by omega) (fun A9 e9 f9 => ?_))
    rw [List.take_zero] at e9
    have v9 := f9.k e8 ty8 (fun e => by cases e)
    have sl9 := f9.k (f8.k (up7 e5) v7 (fun e => by cases e)) ty8 (fun e => by cases e)
    have dn9 := f9.k (f8.k e7 v7 (fun e => by cases e)) ty8 (fun e => by cases e)
    have up9 : ∀ {y : Nat} {o : ab_O}, A4 y = some o → y ≠ sl → y ≠ sv → y ≠ ty → A9 y = some o := fun {y o} hy m1 m2 m3 => f9.n (f8.n (up7 (f5.n hy m1)) m2) m3
    have bsl : b ≠ sl := fun e => by rw [e, s1] at n2A; cases n2A
    have bsv : b ≠ sv := fun e => by rw [e, v1] at n2A; cases n2A
    have bty : b ≠ ty := fun e => by rw [e, x3] at n2A; cases n2A
    have b9 := up9 e4 bsl bsv bty
    have tp9 := up9 e4t (fun e => by rw [e, s1] at n4A; cases n4A) (fun e => by rw [e, v1] at n4A; cases n4A) (fun e => by rw [e, x3] at n4A; cases n4A)
    have s9 := up9 (f4.k e3 b3 (fun e => by cases e)) (fun e => by rw [e, s1] at n3A; cases n3A) (fun e => by rw [e, v1] at n3A; cases n3A) (fun e => by rw [e, x3] at n3A; cases n3A)
    have nsl : dl ≠ sl := tg_ne t8 t9 (by omega)
    have nsv : dl ≠ sv := tg_ne t8 tv (by omega)
    have nty : dl ≠ ty := tg_ne t8 t7 (by omega)
    have dl9 := up9 (up4 d1 nsv) nsl nsv nty
    have hF : Fw A A9 [sv, sl, ty] := fun y o hy hn => by
      simp only [List.mem_cons, List.not_mem_nil, or_false, not_or] at hn
      exact up9 (up4 hy hn.1) hn.2.1 hn.1 hn.2.2
    have hT0 : Tf A T A9 T [1, 4, 5, 7] := Tf.w i1 hF (fun y hy => Or.inr (by
      simp only [List.mem_cons, List.not_mem_nil, or_false] at hy
      rcases hy with z | z | z
      · rw [z]; exact ⟨by rw [tv]; simp, _, v9, rfl⟩
      · rw [z]; exact ⟨by rw [t9]; simp, _, sl9, rfl⟩
      · rw [z]; exact ⟨by rw [t7]; simp, _, e9, rfl⟩))
    have hT : Tf A T A9 (tg (tg (tg T b (50 + S.2.2.2.2.2.2.2)) dl 0) dn 7) [1, 4, 5, 7] := ((hT0.g (Or.inl n2A) (fun _ => ⟨_, b9, rfl⟩)).g (Or.inr (by rw [t8]; simp)) (fun z => absurd rfl z)).g (Or.inl n6A) (fun _ => ⟨_, dn9, rfl⟩)
    have bdl : b ≠ dl := fun e => by rw [e, d1] at n2A; cases n2A
    have bdn : b ≠ dn := ne_of b9 dn9 (fun e => by cases e)
    have dld : dl ≠ dn := fun e => by rw [← e, d1] at n6A; cases n6A
    have kt : ∀ {y n : Nat} {o : ab_O}, A y = some o → T y = n → y ≠ dl → tg (tg (tg T b (50 + S.2.2.2.2.2.2.2)) dl 0) dn 7 y = n := fun {y n o} hy hn hd => by
      rw [tg_n (ne_no hy n6A), tg_n hd, tg_n (ne_no hy n2A)]
      exact hn
    have tb : tg (tg (tg T b (50 + S.2.2.2.2.2.2.2)) dl 0) dn 7 b = 50 + S.2.2.2.2.2.2.2 := by rw [tg_n bdn, tg_n bdl, tg_s]
    have tdl : tg (tg (tg T b (50 + S.2.2.2.2.2.2.2)) dl 0) dn 7 dl = 0 := by rw [tg_n dld, tg_s]
    have ttp : tg (tg (tg T b (50 + S.2.2.2.2.2.2.2)) dl 0) dn 7 tp = 0 := by
      rw [tg_n (ne_of tp9 dn9 (fun e => by cases e)), tg_n (ne_of tp9 dl9 (fun e => by cases e)), tg_n (ne_of tp9 b9 (fun e => by cases e))]
      exact i1.n n4A
    have tts : tg (tg (tg T b (50 + S.2.2.2.2.2.2.2)) dl 0) dn 7 s = 0 := by
      rw [tg_n (ne_of s9 dn9 (fun e => by cases e)), tg_n (ne_of s9 dl9 (fun e => by cases e)), tg_n (ne_of s9 b9 (fun e => by cases e))]
      exact i1.n n3A
    have tsv := kt v1 tv (Ne.symm nsv)
    have tsl := kt s1 t9 (Ne.symm nsl)
    have tty := kt x3 t7 (Ne.symm nty)
    have tdn : tg (tg (tg T b (50 + S.2.2.2.2.2.2.2)) dl 0) dn 7 dn = 7 := tg_s
    generalize tg (tg (tg T b (50 + S.2.2.2.2.2.2.2)) dl 0) dn 7 = T' at *
    have z0 := hT.z (by decide)
    refine h1 hok A9 T' ⟨ca, sa, ty, sl, kl, dn, hT.2.2, i2.tf hT (by decide) (by decide), ⟨v9, tsv⟩, i4.tf hT i1 (by decide) (by decide) (fun i j1 j2 => by simp; omega), i5.tf hT i1 (by decide) (by decide), i6.tf hT i1 (by decide), ⟨tty, by simp [a_sS], fun y hy => (by cases hy), cap, e9, x4⟩, ⟨tdn, [], 0, dn9, rfl, by simp [a_sS], fun j q y h => by simp at h⟩, ⟨tsl, ?_, bs ++ [b], 10, sl9, ?_, ?_, fun j b' y g1 g2 => ?_⟩⟩
    · show List.Pairwise _ (S.2.2.2.2.2.2.1 ++ [_])
      rw [List.pairwise_append]
      refine ⟨st9, List.pairwise_singleton _ _, fun y hy z hz => ?_⟩
      rw [List.mem_singleton.mp hz]
      exact hid y hy
    · show _ = (S.2.2.2.2.2.2.1 ++ [_]).length
      rw [List.length_append, List.length_append, s2]
      rfl
    · show (S.2.2.2.2.2.2.1 ++ [_]).length ≤ 8
      rw [List.length_append]
      simp
      omega
    · have g2 : (S.2.2.2.2.2.2.1 ++ [(S.2.2.2.2.2.2.2, (pt : Int).toNat, (wy : Int).toNat, S.2.2.2.2.2.1, S.2.2.2.2.1, none)])[j]? = some y := g2
      rcases Nat.lt_or_ge j bs.length with v | v
      · rw [List.getElem?_append_left v] at g1
        rw [List.getElem?_append_left (by omega)] at g2
        exact (s4 j b' y g1 g2).tf hT i1 (by decide) (by simp; omega)
      · rw [List.getElem?_append_right v] at g1
        rw [List.getElem?_append_right (by omega), ← s2] at g2
        cases hz : j - bs.length with
        | zero =>
          rw [hz] at g1 g2
          simp at g1 g2
          subst g1 g2
          refine ⟨tb, tp, s, dl, ds, cd, none, b9, Zf.i tp9 ttp, Zf.i s9 tts, pl_stl x1 x2, fun y hy => by have := x2 y hy; omega, Zf.i dl9 tdl, d2.f0 z0, rfl, ?_, ?_, ?_, ?_⟩
          · show S.2.2.2.2.2.2.2 < 100000
            omega
          · show pt ≤ 9
            omega
          · show 100 ≤ wy
            omega
          · show wy ≤ 599
            omega
        | succ i =>
          rw [hz] at g1
          simp at g1
  · rw [if_neg (by simp (disch := omega) only [iI_lit, iI_add, iI_sub, iI_mul, iI_neg, iI_lt, iI_le, iI_eq] <;> omega)]
    exact no (fun z => by have := z.2.2.2.2; omega)
end STB
