/-! The class: a new server -/
section SIN
variable {G A : ab_H} {sv kc ks : Nat} {Q : ab_H → Prop}
abbrev oS8 (ca : Nat) (v1 v2 v3 v4 v5 : Value) : ab_O := oR (.inr (3, [va_rf (some ca), v1, v2, v3, v4, v5, .int 0, .int 0]))
/-- its connections stand -/
def Sk (G A : ab_H) (T : Nat → Nat) (sv ca k : Nat) (v1 v2 v3 v4 v5 : Value) : Prop := Hm A T ∧ LiG G A T ∧ (A sv = some (oS8 ca v1 v2 v3 v4 v5) ∧ T sv = 1) ∧ T ca = 2 ∧ ∃ cf, A ca = some (oR (.inl (5, 3, .inr (.inr (.inr (.inr cf)))))) ∧ ∀ d, d < k → ∃ cn, cf d = some cn ∧ CnAt A T d cn (false, [], [])
theorem c_Send38 {T : Nat → Nat} {ca : Nat} (h : Sk G A T sv ca 3 .null .null .null .null .null) (h1 : 6 ≤ kc) (h2 : 32 ≤ ks) (hQ : ∀ B T', Inv G B T' sv S0 → Q B) : wq_S_init_38 sv Q A kc ks := by
  obtain ⟨i1, i2, ⟨v0, tv⟩, tc, cf, g1, g2⟩ := h
  unfold wq_S_init_38
  refine ⟨by decide, by decide, by omega, show 3 ≤ ks by omega, fun sa _ n1 => ?_⟩
  show wp (ab_u A sa (oR (.inl (0, 3, .inl (fun _ => 0))))) (some sv) 3 1 (va_rf (some sa)) _
  have f1 : Fw A (ab_u A sa (oR (.inl (0, 3, .inl (fun _ => 0))))) [] := Fw.w n1
  have e1 : ab_u A sa (oR (.inl (0, 3, .inl (fun _ => 0)))) sa = some (oR (.inl (0, 3, .inl (fun _ => 0)))) := ab_us
  generalize ab_u A sa (oR (.inl (0, 3, .inl (fun _ => 0)))) = A1 at *
  have v1 := f1.e v0
  refine wpu v1 (Nat.le_of_ble_eq_true rfl) (fun A2 v2 f2 => ?_)
  have sa2 := f2.k e1 v1 (fun e => by cases e)
  have F2 : Fw A A2 [sv] := (f1.mo (by simp)).tr f2 (fun x hx => Or.inl hx)
  have v2 : A2 sv = some (oS8 ca (va_rf (some sa)) .null .null .null .null) := v2
  refine wnw (by omega) (show 4 ≤ ks - 3 by omega) (fun ty A3 _ n3 e3 f3 => sb_init e3 (by omega) (show 16 ≤ ks - 3 - 4 by omega) (fun A4 e4 f4 => ?_))
  have F34 : Fw A2 A4 [] := f3.tr f4 (fun x hx => Or.inr (by simp at hx; rw [hx]; exact n3))
  have n3A := nn_1 n3 F2 v2
  have v4 := F34.e v2
  refine wpu v4 (Nat.le_of_ble_eq_true rfl) (fun A5 v5 f5 => ?_)
  have v5 : A5 sv = some (oS8 ca (va_rf (some sa)) (va_rf (some ty)) .null .null .null) := v5
  have sa5 := f5.k (F34.e sa2) v4 (fun e => by cases e)
  have ty5 := f5.k e4 v4 (fun e => by cases e)
  have F5 : Fw A A5 [sv] := (F2.tr F34 (by simp)).tr f5 (fun x hx => Or.inl hx)
  refine wnw (by omega) (show 3 ≤ ks - 3 - 4 - 16 by omega) (fun sl A6 _ n6 e6 f6 => al_init e6 (fun A7 e7 f7 => ?_))
  have F67 : Fw A5 A7 [] := f6.tr f7 (fun x hx => Or.inr (by simp at hx; rw [hx]; exact n6))
  have n6A := nn_1 n6 F5 v5
  have v7 := F67.e v5
  refine wpu v7 (Nat.le_of_ble_eq_true rfl) (fun A8 v8 f8 => ?_)
  have v8 : A8 sv = some (oS8 ca (va_rf (some sa)) (va_rf (some ty)) (va_rf (some sl)) .null .null) := v8
  have sa8 := f8.k (F67.e sa5) v7 (fun e => by cases e)
  have ty8 := f8.k (F67.e ty5) v7 (fun e => by cases e)
  have sl8 := f8.k e7 v7 (fun e => by cases e)
  have F8 : Fw A A8 [sv] := (F5.tr F67 (by simp)).tr f8 (fun x hx => Or.inl hx)
  refine wnw (by omega) (show 3 ≤ ks - 3 - 4 - 16 - 3 by omega) (fun kl A9 _ n9 e9 f9 => al_init e9 (fun Aa ea fa => ?_))
  have F9a : Fw A8 Aa [] := f9.tr fa (fun x hx => Or.inr (by simp at hx; rw [hx]; exact n9))
  have n9A := nn_1 n9 F8 v8
  have va := F9a.e v8
  refine wpu va (Nat.le_of_ble_eq_true rfl) (fun Ab vb fb => ?_)
  have vb : Ab sv = some (oS8 ca (va_rf (some sa)) (va_rf (some ty)) (va_rf (some sl)) (va_rf (some kl)) .null) := vb
  have sab := fb.k (F9a.e sa8) va (fun e => by cases e)
  have tyb := fb.k (F9a.e ty8) va (fun e => by cases e)
  have slb := fb.k (F9a.e sl8) va (fun e => by cases e)
  have klb := fb.k ea va (fun e => by cases e)
  have Fb : Fw A Ab [sv] := (F8.tr F9a (by simp)).tr fb (fun x hx => Or.inl hx)
  refine wnw (by omega) (show 3 ≤ ks - 3 - 4 - 16 - 3 - 3 by omega) (fun dl Ac _ nc ec fc => al_init ec (fun Ad ed fd => ?_))
  have Fcd : Fw Ab Ad [] := fc.tr fd (fun x hx => Or.inr (by simp at hx; rw [hx]; exact nc))
  have ncA := nn_1 nc Fb vb
  have vd := Fcd.e vb
  refine wpu vd (Nat.le_of_ble_eq_true rfl) (fun E ve fe => ?_)
  have ve : E sv = some (oSv ca sa ty sl kl dl 0 0) := ve
  have saE := fe.k (Fcd.e sab) vd (fun e => by cases e)
  have tyE := fe.k (Fcd.e tyb) vd (fun e => by cases e)
  have slE := fe.k (Fcd.e slb) vd (fun e => by cases e)
  have klE := fe.k (Fcd.e klb) vd (fun e => by cases e)
  have dlE := fe.k ed vd (fun e => by cases e)
  have FE : Fw A E [sv] := (Fb.tr Fcd (by simp)).tr fe (fun x hx => Or.inl hx)
  have slkl : sl ≠ kl := ne_no sl8 n9
  have sldl : sl ≠ dl := ne_no slb nc
  have kldl : kl ≠ dl := ne_no klb nc
  have hT0 : Tf A T E T [1] := Tf.w i1 FE (fun x hx => Or.inr (by simp at hx; rw [hx]; exact ⟨by rw [tv]; simp, _, ve, rfl⟩))
  have hT : Tf A T E (tg (tg (tg (tg (tg T sa 3) ty 4) sl 5) kl 6) dl 7) [1] := ((((hT0.g (Or.inl n1) (fun _ => ⟨_, saE, rfl⟩)).g (Or.inl n3A) (fun _ => ⟨_, tyE, rfl⟩)).g (Or.inl n6A) (fun _ => ⟨_, slE, rfl⟩)).g (Or.inl n9A) (fun _ => ⟨_, klE, rfl⟩)).g (Or.inl ncA) (fun _ => ⟨_, dlE, rfl⟩)
  have t3 : tg (tg (tg (tg (tg T sa 3) ty 4) sl 5) kl 6) dl 7 sa = 3 := by rw [tg_n (ne_of saE dlE (fun e => by cases e)), tg_n (ne_of saE klE (fun e => by cases e)), tg_n (ne_of saE slE (fun e => by cases e)), tg_n (ne_of saE tyE (fun e => by cases e)), tg_s]
  have t4 : tg (tg (tg (tg (tg T sa 3) ty 4) sl 5) kl 6) dl 7 ty = 4 := by rw [tg_n (ne_of tyE dlE (fun e => by cases e)), tg_n (ne_of tyE klE (fun e => by cases e)), tg_n (ne_of tyE slE (fun e => by cases e)), tg_s]
  have t5 : tg (tg (tg (tg (tg T sa 3) ty 4) sl 5) kl 6) dl 7 sl = 5 := by rw [tg_n sldl, tg_n slkl, tg_s]
  have t6 : tg (tg (tg (tg (tg T sa 3) ty 4) sl 5) kl 6) dl 7 kl = 6 := by rw [tg_n kldl, tg_s]
  have t7 : tg (tg (tg (tg (tg T sa 3) ty 4) sl 5) kl 6) dl 7 dl = 7 := tg_s
  have t1 : tg (tg (tg (tg (tg T sa 3) ty 4) sl 5) kl 6) dl 7 sv = 1 := by rw [tg_n (ne_of ve dlE (fun e => by cases e)), tg_n (ne_of ve klE (fun e => by cases e)), tg_n (ne_of ve slE (fun e => by cases e)), tg_n (ne_of ve tyE (fun e => by cases e)), tg_n (ne_of ve saE (fun e => by cases e))]; exact tv
  generalize tg (tg (tg (tg (tg T sa 3) ty 4) sl 5) kl 6) dl 7 = T' at *
  refine hQ E T' ⟨ca, sa, ty, sl, kl, dl, hT.2.2, i2.tf hT (by decide) (by decide), ⟨ve, t1⟩, ⟨hT.t2 i1 tc (by omega) (by decide), cf, hT.c tc (by decide) g1, fun d hd => ?_⟩, ⟨t6, [], 0, klE, rfl, by simp [S0], fun j q y h => by simp at h⟩, ⟨t3, _, saE, fun k _ => ⟨rfl, Nat.zero_le _⟩⟩, ⟨t4, by simp [S0], fun y hy => (by cases hy), 16, tyE, by omega⟩, ⟨t7, [], 0, dlE, rfl, by simp [S0], fun j q y h => by simp at h⟩, ⟨t5, List.Pairwise.nil, [], 0, slE, rfl, by simp [S0], fun j q y h => by simp at h⟩⟩
  obtain ⟨cn, y1, y2⟩ := g2 d hd
  exact ⟨cn, y1, y2.tf hT i1 (by decide) (fun i hi => by simp; omega)⟩
theorem cl_Sin (hQ : ∀ B T', Inv G B T' sv S0 → Q B) : ∀ (j k : Nat) (A : ab_H) (T : Nat → Nat) (ca kc ks : Nat), k + j = 3 → Sk G A T sv ca k .null .null .null .null .null → 15 * j + 6 ≤ kc → 109 * j + 32 ≤ ks → wq_S_init_14 sv Q (j + 1) (iI k) A kc ks := by
  intro j
  induction j with
  | zero =>
    intro k A T ca kc ks hk h h1 h2
    show wb_S_init_14 _ _ _ _ _ _ _
    unfold wb_S_init_14
    rw [if_pos (by simp (disch := omega) only [iI_lit, iI_add, iI_sub, iI_mul, iI_neg, iI_lt, iI_le, iI_eq] <;> omega)]
    rw [show k = 3 by omega] at h
    exact c_Send38 h (by omega) (by omega) hQ
  | succ j ih =>
    intro k A T ca kc ks hk h h1 h2
    obtain ⟨i1, i2, ⟨v0, tv⟩, tc, cf, g1, g2⟩ := h
    show wb_S_init_14 _ _ _ _ _ _ _
    unfold wb_S_init_14
    rw [if_neg (by simp (disch := omega) only [iI_lit, iI_add, iI_sub, iI_mul, iI_neg, iI_lt, iI_le, iI_eq] <;> omega)]
    refine wgR.i (x := some ca) v0 rfl (wnw (by omega) (by omega) (fun a A1 _ n1 e1 f1 => wD.i (wXV.i 14 106 (by omega) (by omega) ?_)))
    have hL : Li A := i2.1.f0 (Zf.le A T)
    refine c_newCon (c := k) i1 f1 n1 (hL.f0 f1) e1 (Nat.le_refl _) (Nat.le_refl _) (fun B T' b1 b2 b3 => ?_)
    have nd : ∀ i, ¬ (10 * k + 10 ≤ i ∧ i ≤ 10 * k + 18) → i ∉ dk k := fun i hi z => hi (dk_m.mp z)
    have caB := b2.c tc (nd 2 (by omega)) g1
    have tcB := b2.t2 i1 tc (by omega) (nd 2 (by omega))
    obtain ⟨rp, rd, ln, bd, rl, dc, cap, w1, -⟩ := id b1
    refine wSO.i caB (by omega) (by omega) w1 (fun C c1 c2 => ?_)
    have hT2 : Tf B T' C T' [2] := Tf.w b2.2.2 c2 (fun x hx => Or.inr (by simp at hx; rw [hx]; exact ⟨by rw [tcB]; simp, _, c1, rfl⟩))
    have hT : Tf A T C T' (dk k ++ [2]) := (b2.mo (fun i hi => List.mem_append_left _ hi)).tr (hT2.mo (fun i hi => List.mem_append_right _ hi))
    have nd2 : ∀ i, ¬ (10 * k + 10 ≤ i ∧ i ≤ 10 * k + 18) → i ≠ 2 → i ∉ dk k ++ [2] := fun i hi h2 z => by
      rcases List.mem_append.mp z with y | y
      · exact hi (dk_m.mp y)
      · simp at y
        exact h2 y
    rw [show iI (k : Int) + 1 = iI ((k + 1 : Nat) : Int) from iI_add _ 1]
    refine ih (k + 1) C T' ca _ _ (by omega) ⟨hT.2.2, i2.tf hT (nd2 0 (by omega) (by omega)) (nd2 8 (by omega) (by omega)), ⟨hT.c tv (nd2 1 (by omega) (by omega)) v0, hT.t2 i1 tv (by omega) (nd2 1 (by omega) (by omega))⟩, tcB, _, c1, fun d hd => ?_⟩ (by omega) (by omega)
    by_cases e : d = k
    · subst e
      refine ⟨a, ?_, b1.tf hT2 b2.2.2 (by decide) (fun i hi => by simp; omega)⟩
      unfold va_up
      rw [if_pos rfl]
    · obtain ⟨cn, y1, y2⟩ := g2 d (by omega)
      refine ⟨cn, ?_, y2.tf hT i1 (nd2 0 (by omega) (by omega)) (fun i hi => nd2 _ (by omega) (by omega))⟩
      unfold va_up
      rw [if_neg e]
      exact y1
theorem c_Sinit {inp : Nat} {o : ab_O} (hL : Li A) (h : A sv = some (oR (.inr (3, mm_df 3)))) (hi : A inp = some o) (ho : mtb o = true) (his : inp ≠ sv) (h1 : 60 ≤ kc) (h2 : 400 ≤ ks) (hQ : ∀ B T', Inv (fun x => if x = inp then some o else none) B T' sv S0 → Q B) : wp_S_init sv A kc ks Q := by
  have h : A sv = some (oR (.inr (3, [.null, .null, .null, .null, .null, .null, .int 0, .int 0]))) := h
  refine ⟨⟨sv, rfl⟩, by decide, by decide, by omega, show 3 ≤ ks by omega, fun ca _ n1 => ?_⟩
  show wp (ab_u A ca (oR (.inl (5, 3, .inr (.inr (.inr (.inr (fun _ => none)))))))) (some sv) 3 0 (va_rf (some ca)) _
  have f1 : Fw A (ab_u A ca (oR (.inl (5, 3, .inr (.inr (.inr (.inr (fun _ => none)))))))) [] := Fw.w n1
  have e1 : ab_u A ca (oR (.inl (5, 3, .inr (.inr (.inr (.inr (fun _ => none))))))) ca = some (oR (.inl (5, 3, .inr (.inr (.inr (.inr (fun _ => none))))))) := ab_us
  generalize ab_u A ca (oR (.inl (5, 3, .inr (.inr (.inr (.inr (fun _ => none))))))) = A1 at *
  have v1 := f1.e h
  refine wpu v1 (Nat.le_of_ble_eq_true rfl) (fun A2 v2 f2 => ?_)
  have v2 : A2 sv = some (oS8 ca .null .null .null .null .null) := v2
  have ca2 := f2.k e1 v1 (fun e => by cases e)
  have F2 : Fw A A2 [sv] := (f1.mo (by simp)).tr f2 (fun x hx => Or.inl hx)
  have casv : ca ≠ sv := ne_of ca2 v2 (fun e => by cases e)
  have inca : inp ≠ ca := ne_no hi n1
  have i2 := F2.n hi his
  have hH : Hm A2 (tg (tg (tg (fun _ => 0) sv 1) ca 2) inp 8) := fun x hx => by
    by_cases e0 : x = inp
    · rw [e0]; exact ⟨_, i2, ho⟩
    rw [tg_n e0] at hx
    by_cases e : x = ca
    · rw [e]; exact ⟨_, ca2, rfl⟩
    · rw [tg_n e] at hx
      by_cases e2 : x = sv
      · rw [e2]; exact ⟨_, v2, rfl⟩
      · rw [tg_n e2] at hx
        exact absurd rfl hx
  have hL2 : Li A2 := hL.fw F2 (Mu.c h rfl (Mu.nil _))
  obtain ⟨l1, l2, l3, l4, l5, l6, l7⟩ := hL2
  exact ⟨_, cl_Sin hQ 3 0 A2 _ ca _ _ (by omega) ⟨hH, ⟨⟨Zf.i l1 (hH.z l1 rfl), Zf.i l2 (hH.z l2 rfl), Zf.i l3 (hH.z l3 rfl), Zf.i l4 (hH.z l4 rfl), Zf.i l5 (hH.z l5 rfl), Zf.i l6 (hH.z l6 rfl), Zf.i l7 (hH.z l7 rfl)⟩, fun x o' hx => by
    dsimp only at hx
    by_cases e : x = inp
    · rw [if_pos e] at hx
      cases hx
      rw [e]
      exact ⟨i2, tg_s⟩
    · rw [if_neg e] at hx
      cases hx⟩, ⟨v2, by rw [tg_n (Ne.symm his), tg_n (Ne.symm casv), tg_s]⟩, by rw [tg_n (Ne.symm inca), tg_s], _, ca2, fun d hd => absurd hd (by omega)⟩ (show 15 * 3 + 6 ≤ kc - 1 by omega) (show 109 * 3 + 32 ≤ ks - 3 by omega)⟩
end SIN
