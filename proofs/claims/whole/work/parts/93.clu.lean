/-! The class: a matcher is made, and holds -/
def amk (p w : Int) (ty : List Nat) : Prop := 0 ≤ p ∧ p ≤ 4 ∧ 0 ≤ w ∧ w ≤ (if p = 2 ∨ p = 3 then 4 else 2) ∧ ((p = 2 ∨ p = 3) → fi 32 ty ≠ 0 ∧ (3 ≤ w ↔ fi 32 ty = ty.length))
def amn (p : Int) (ty : List Nat) : Int := if p = 2 ∨ p = 3 then (fi 32 ty : Int) else -1
def amW (p : Int) (ty : List Nat) : List Nat := ty.drop (amn p ty + 1).toNat
def amP (p w : Int) (ty : List Nat) : Prop := w = 2 → (tks (amW p ty).length (amW p ty)).isSome = true
section MOF
variable {A : ab_H} {s kc ks : Nat} {ty : List Nat} {Q : Option Nat → ab_H → Prop}
theorem low_stl {X : List Nat} (h : stl X) : stl (low X) := by
  refine ⟨by unfold low; rw [List.length_map]; exact h.1, fun x hx => ?_⟩
  unfold low at hx
  obtain ⟨y, hy, rfl⟩ := List.mem_map.mp hx
  exact lowc_r (h.2 y hy)
def MtF (A B : ab_H) (m : Nat) : Prop := ∃ v1 v2 v3 v4 pr, B m = some (oR (.inr (9, [v1, v2, v3, v4, va_rf pr]))) ∧ ∀ b, pr = some b → Fg A B b
theorem c_of {p w : Int} (hp : rng p) (hw : rng w) (hLi : Li A) (hs : A s = some (oS ty)) (hty : stl ty) (h1 : 12 ≤ kc) (h2 : 300 ≤ ks) (hQ0 : ¬ (amk p w ty ∧ amP p w ty) → ∀ B, Fw A B [] → Q none B) (hQ1 : amk p w ty → amP p w ty → ∀ m B, MtAt B m (p.toNat, w.toNat, amn p ty, ty) → Fw A B [] → MtF A B m → Q (some m) B) : wp_H_of (iI p) (iI w) (some s) A kc ks Q := by
  obtain ⟨p1, p2⟩ := hp
  obtain ⟨w1, w2⟩ := hw
  obtain ⟨t1, t2⟩ := hty
  have hfl := fi_le 32 ty
  have no : ¬ (amk p w ty ∧ amP p w ty) → Q none A := fun h => hQ0 h A (Fw.rf _ _)
  unfold wp_H_of
  by_cases q1 : p < 0
  · rw [if_pos (by simp (disch := omega) only [iI_lit, iI_add, iI_sub, iI_mul, iI_neg, iI_lt, iI_le, iI_eq] <;> omega)]
    exact no (fun h => by have := h.1.1; omega)
  rw [if_neg (by simp (disch := omega) only [iI_lit, iI_add, iI_sub, iI_mul, iI_neg, iI_lt, iI_le, iI_eq] <;> omega)]
  by_cases q2 : 4 < p
  · rw [if_pos (by simp (disch := omega) only [iI_lit, iI_add, iI_sub, iI_mul, iI_neg, iI_lt, iI_le, iI_eq] <;> omega)]
    exact no (fun h => by have := h.1.2.1; omega)
  rw [if_neg (by simp (disch := omega) only [iI_lit, iI_add, iI_sub, iI_mul, iI_neg, iI_lt, iI_le, iI_eq] <;> omega)]
  by_cases q3 : w < 0
  · rw [if_pos (by simp (disch := omega) only [iI_lit, iI_add, iI_sub, iI_mul, iI_neg, iI_lt, iI_le, iI_eq] <;> omega)]
    exact no (fun h => by have := h.1.2.2.1; omega)
  rw [if_neg (by simp (disch := omega) only [iI_lit, iI_add, iI_sub, iI_mul, iI_neg, iI_lt, iI_le, iI_eq] <;> omega)]
  by_cases q4 : 4 < w
  · rw [if_neg (by simp (disch := omega) only [iI_lit, iI_add, iI_sub, iI_mul, iI_neg, iI_lt, iI_le, iI_eq] <;> omega)]
    exact no (fun h => by have := h.1.2.2.2.1; split at this <;> omega)
  rw [if_pos (by simp (disch := omega) only [iI_lit, iI_add, iI_sub, iI_mul, iI_neg, iI_lt, iI_le, iI_eq] <;> omega)]
  obtain ⟨pt, rfl⟩ : ∃ x : Nat, p = x := ⟨p.toNat, by omega⟩
  obtain ⟨wy, rfl⟩ : ∃ x : Nat, w = x := ⟨w.toNat, by omega⟩
  rw [show (pt : Int).toNat = pt from rfl, show (wy : Int).toNat = wy from rfl] at hQ1
  -- the text goes in
  have wt : ∀ (sn st : Nat) (B : ab_H) (kc' ks' : Nat), Fw A B [] → B sn = some (oS (if pt = 3 then low (ty.take (amn pt ty).toNat) else ty.take (amn pt ty).toNat)) → B st = some (oS (amW pt ty)) → amk pt wy ty → 3 ≤ kc' → 60 ≤ ks' → wp_H_withText (iI pt) (iI wy) (some sn) (some st) B kc' ks' Q := fun sn st B kc' ks' F b1 b2 hok k1 k2 => by
    refine c_withText b1 b2 ⟨by unfold amW; rw [List.length_drop]; omega, fun x hx => t2 x (List.mem_of_mem_drop hx)⟩ k1 k2 (by omega) (fun z y C f => hQ0 (fun h => ?_) C (F.tr f (by simp))) (fun z m C pr e f y yg => hQ1 hok (fun v => z (by omega)) m C ⟨sn, st, pr, e, f.e b1, f.e b2, y⟩ (F.tr f (by simp)) ⟨_, _, _, _, pr, e, fun b hb => by
      obtain ⟨w', g', x1, x2, x3, x4, x5, x6, x7, x8, x9⟩ := yg b hb
      refine ⟨w', g', x1, x2, x3, x4, x5, x6, x7, x8, ?_⟩
      cases hz : A g' with
      | none => rfl
      | some o =>
        rw [F.e hz] at x9
        cases x9⟩)
    have := h.2 (by omega)
    rw [y] at this
    cases this
  have n35 : ∀ g : Bool, (g = true ↔ ((pt : Int) = 2 ∨ (pt : Int) = 3)) → wq_H_of_35 (iI pt) (iI wy) (some s) Q (iI (bI g)) A kc ks := fun g hg => by
    have n51 : ∀ t : Bool, (t = true ↔ wy ≤ 2) → wq_H_of_51 (iI pt) (iI wy) (some s) Q (iI (bI g)) (iI (bI t)) A kc ks := fun t ht => by
      unfold wq_H_of_51
      by_cases y : (pt : Int) = 2 ∨ (pt : Int) = 3
      · rw [hg.mpr y, if_neg (by decide)]
        have en : amn pt ty = (fi 32 ty : Int) := by
          unfold amn
          rw [if_pos y]
        refine st_ix hs (j := 32) rfl (by decide) (st_emp hs ?_)
        by_cases y0 : ty = []
        · rw [decide_eq_true y0, if_neg (by decide)]
          exact no (fun h => (h.1.2.2.2.2 y).1 (by rw [y0]; rfl))
        rw [decide_eq_false y0, if_pos (by decide)]
        by_cases y1 : fi 32 ty = 0
        · have hpos : 0 < ty.length := List.length_pos_iff.mpr y0
          rw [if_pos (show fi 32 ty < ty.length by omega), if_pos (by simp (disch := omega) only [iI_lit, iI_add, iI_sub, iI_mul, iI_neg, iI_lt, iI_le, iI_eq] <;> omega)]
          exact no (fun h => (h.1.2.2.2.2 y).1 y1)
        have nx : ∀ u : Bool, (u = true ↔ fi 32 ty < ty.length) → wq_H_of_107 (iI pt) (iI wy) (some s) Q (iI (bI t)) (iI (if fi 32 ty < ty.length then (fi 32 ty : Int) else -1)) (iI (bI t)) (iI (bI u)) A kc ks := fun u hu => by
          unfold wq_H_of_107
          by_cases e : t = u
          · rw [if_pos (by rw [e])]
            have hok : amk pt wy ty := ⟨by omega, by omega, by omega, by rw [if_pos y]; omega, fun _ => ⟨y1, by
              have h3 : (wy ≤ 2) ↔ fi 32 ty < ty.length := by rw [← ht, e, hu]
              omega⟩⟩
            have n148 : ∀ (u6 s0 : Nat) (B : ab_H) (kc' ks' : Nat), Fw A B [] → B u6 = some (oS (ty.take (fi 32 ty))) → B s0 = some (oS (amW pt ty)) → 8 ≤ kc' → 200 ≤ ks' → wq_H_of_148 (iI pt) (iI wy) (some s) Q (some u6) (some s0) B kc' ks' := fun u6 s0 B kc' ks' F b1 b2 k1 k2 => by
              unfold wq_H_of_148
              by_cases z : pt = 3
              · rw [if_pos (by simp (disch := omega) only [iI_lit, iI_add, iI_sub, iI_mul, iI_neg, iI_lt, iI_le, iI_eq] <;> omega)]
                refine wX.i 3 84 (by omega) (by omega) (c_small b1 (fun x hx => t2 x (List.mem_of_mem_take hx)) (by rw [List.length_take]; omega) (Nat.le_refl _) (Nat.le_refl _) (fun s2 C g2 f2 => ?_))
                unfold wq_H_of_167
                refine wX.i 3 60 (by omega) (by omega) (wt s2 s0 C _ _ (F.tr f2 (by simp)) ?_ (f2.e b2) hok (Nat.le_refl _) (Nat.le_refl _))
                rw [if_pos z, en]
                exact g2
              · rw [if_neg (by simp (disch := omega) only [iI_lit, iI_add, iI_sub, iI_mul, iI_neg, iI_lt, iI_le, iI_eq] <;> omega)]
                unfold wq_H_of_167
                refine wX.i 3 60 (by omega) (by omega) (wt u6 s0 B _ _ F ?_ b2 hok (Nat.le_refl _) (Nat.le_refl _))
                rw [if_neg z, en]
                exact b1
            by_cases z : fi 32 ty < ty.length
            · have hu1 : u = true := hu.mpr z
              rw [e, hu1, if_neg (by decide), if_pos z]
              refine st_sub2 hs rfl rfl (Nat.zero_le _) hfl (by omega) (by omega) (fun s4 B1 g1 F1 => ?_)
              unfold wq_H_of_128
              rw [if_neg (by decide)]
              refine st_sub1 (i := fi 32 ty + 1) (F1.e hs) (iI_add _ 1) (by omega) (by omega) (by omega) (fun s3 B2 g2 F2 => ?_)
              refine n148 s4 s3 B2 _ _ (F1.tr F2 (by simp)) (F2.e g1) ?_ (by omega) (by omega)
              unfold amW
              rw [en, show ((fi 32 ty : Int) + 1).toNat = fi 32 ty + 1 by omega]
              exact g2
            · have hu1 : u = false := by
                cases u with
                | false => rfl
                | true => exact absurd (hu.mp rfl) z
              rw [e, hu1, if_pos (by decide)]
              unfold wq_H_of_128
              rw [if_pos (by decide)]
              refine n148 s 1 A _ _ (Fw.rf _ _) ?_ ?_ (by omega) (by omega)
              · rw [fi_all z, List.take_length]
                exact hs
              · unfold amW
                rw [en, List.drop_of_length_le (by omega)]
                exact hLi.1
          · rw [if_neg (fun z => e (by cases t <;> cases u <;> first | rfl | (exact absurd z (by decide))))]
            refine no (fun h => e ?_)
            have h3 := (h.1.2.2.2.2 y).2
            have h4 : t = true ↔ u = true := by
              rw [ht, hu]
              omega
            cases t <;> cases u <;> simp_all
        by_cases y2 : fi 32 ty < ty.length
        · rw [if_pos y2] at nx ⊢
          rw [if_neg (by simp (disch := omega) only [iI_lit, iI_add, iI_sub, iI_mul, iI_neg, iI_lt, iI_le, iI_eq] <;> omega), if_neg (by simp (disch := omega) only [iI_lit, iI_add, iI_sub, iI_mul, iI_neg, iI_lt, iI_le, iI_eq] <;> omega)]
          exact nx true ⟨fun _ => y2, fun _ => rfl⟩
        · rw [if_neg y2] at nx ⊢
          rw [if_neg (by decide), if_pos (by decide)]
          exact nx false ⟨(fun z => by cases z), fun z => absurd z y2⟩
      · have hgf : g = false := by cases g; rfl; exact absurd (hg.mp rfl) y
        have en : amn pt ty = -1 := by
          unfold amn
          rw [if_neg y]
        rw [hgf, if_pos (by decide)]
        cases t with
        | false =>
          rw [if_pos (by decide)]
          refine no (fun h => ?_)
          have h3 := h.1.2.2.2.1
          rw [if_neg y] at h3
          have := ht.mpr (by omega)
          cases this
        | true =>
          rw [if_neg (by decide)]
          have hwy := ht.mp rfl
          refine wX.i 3 60 (by omega) (by omega) (wt 1 s A _ _ (Fw.rf _ _) ?_ ?_ ⟨by omega, by omega, by omega, by rw [if_neg y]; omega, fun z => absurd z y⟩ (Nat.le_refl _) (Nat.le_refl _))
          · rw [en, if_neg (show ¬ pt = 3 by omega)]
            exact hLi.1
          · unfold amW
            rw [en]
            exact hs
    unfold wq_H_of_35
    by_cases y3 : wy = 3
    · rw [if_pos (by simp (disch := omega) only [iI_lit, iI_add, iI_sub, iI_mul, iI_neg, iI_lt, iI_le, iI_eq] <;> omega)]
      unfold wq_H_of_50
      exact n51 false ⟨(fun z => by cases z), fun z => by omega⟩
    rw [if_neg (by simp (disch := omega) only [iI_lit, iI_add, iI_sub, iI_mul, iI_neg, iI_lt, iI_le, iI_eq] <;> omega)]
    by_cases y4 : wy = 4
    · rw [if_pos (by simp (disch := omega) only [iI_lit, iI_add, iI_sub, iI_mul, iI_neg, iI_lt, iI_le, iI_eq] <;> omega)]
      unfold wq_H_of_50
      exact n51 false ⟨(fun z => by cases z), fun z => by omega⟩
    rw [if_neg (by simp (disch := omega) only [iI_lit, iI_add, iI_sub, iI_mul, iI_neg, iI_lt, iI_le, iI_eq] <;> omega)]
    exact n51 true ⟨fun _ => by omega, fun _ => rfl⟩
  by_cases y1 : pt = 2
  · rw [if_pos (by simp (disch := omega) only [iI_lit, iI_add, iI_sub, iI_mul, iI_neg, iI_lt, iI_le, iI_eq] <;> omega)]
    unfold wq_H_of_30
    exact n35 true ⟨fun _ => Or.inl (by omega), fun _ => rfl⟩
  rw [if_neg (by simp (disch := omega) only [iI_lit, iI_add, iI_sub, iI_mul, iI_neg, iI_lt, iI_le, iI_eq] <;> omega)]
  by_cases y2 : pt = 3
  · rw [if_pos (by simp (disch := omega) only [iI_lit, iI_add, iI_sub, iI_mul, iI_neg, iI_lt, iI_le, iI_eq] <;> omega)]
    unfold wq_H_of_30
    exact n35 true ⟨fun _ => Or.inr (by omega), fun _ => rfl⟩
  rw [if_neg (by simp (disch := omega) only [iI_lit, iI_add, iI_sub, iI_mul, iI_neg, iI_lt, iI_le, iI_eq] <;> omega)]
  exact n35 false ⟨(fun z => by cases z), fun z => by omega⟩
end MOF
section HLD
variable {A : ab_H} {m q : Nat} {x : Mt} {r : Rq} {cid : Int} {Q : Int32 → ab_H → Prop}
theorem c_holds (h : MtAt A m x) (hx : mwf x) (hxs : stl x.2.2.2) (hk : Kr A q r cid) (hw : rqw r) (hQ : Q (iI (bI (hld r x))) A) : wp_H_holds m (some q) A Q := by
  obtain ⟨pt, wy, nm, T⟩ := x
  obtain ⟨sn, st, pr, e1, e2, e3, e4⟩ := h
  obtain ⟨w1, w2, w3, w4⟩ := hx
  dsimp only at e1 e2 e3 e4 w1 w2 w3 w4 hxs
  have hWs : stl (T.drop (nm + 1).toNat) := ⟨by rw [List.length_drop]; have := hxs.1; omega, fun x hx => hxs.2 x (List.mem_of_mem_drop hx)⟩
  unfold hld at hQ
  dsimp only at hQ
  rw [rqf_g] at hQ
  have hN : A sn = some (oS (if pt = 3 then low (T.take nm.toNat) else T.take nm.toNat)) := e2
  have hkk := hk
  obtain ⟨pl, hl, mp, pp, bp, ys, cp, zs, cz, t1, -⟩ := hkk
  unfold wp_H_holds
  refine wgI.i e1 rfl (wgR.i (x := some sn) e1 rfl (wC.i t1 ?_))
  refine c_find hk hw hN w1 (fun z => ?_) (fun V y nm' z py => ?_)
  · rw [z] at hQ
    have n25 : wq_H_holds_25 m (some q) Q none A := by
      unfold wq_H_holds_25
      refine wgI.i e1 rfl ?_
      dsimp only at hQ
      by_cases q3 : wy = 3
      · rw [if_pos (by simp (disch := omega) only [iI_lit, iI_add, iI_sub, iI_mul, iI_neg, iI_lt, iI_le, iI_eq] <;> omega), if_pos rfl]
        rw [decide_eq_true q3] at hQ
        exact hQ
      · rw [if_neg (by simp (disch := omega) only [iI_lit, iI_add, iI_sub, iI_mul, iI_neg, iI_lt, iI_le, iI_eq] <;> omega)]
        rw [decide_eq_false q3] at hQ
        exact hQ
    refine wgI.i e1 rfl ?_
    by_cases q3 : wy = 3
    · rw [if_pos (by simp (disch := omega) only [iI_lit, iI_add, iI_sub, iI_mul, iI_neg, iI_lt, iI_le, iI_eq] <;> omega)]
      exact n25
    · rw [if_neg (by simp (disch := omega) only [iI_lit, iI_add, iI_sub, iI_mul, iI_neg, iI_lt, iI_le, iI_eq] <;> omega), if_pos rfl]
      exact n25
  · rw [z] at hQ
    have hVs := rqg_w hw z
    obtain ⟨pn, pv, k1, k2, k3⟩ := py
    dsimp only at hQ
    unfold hldV at hQ
    refine wgI.i e1 rfl ?_
    by_cases q3 : wy = 3
    · rw [if_pos (by simp (disch := omega) only [iI_lit, iI_add, iI_sub, iI_mul, iI_neg, iI_lt, iI_le, iI_eq] <;> omega)]
      unfold wq_H_holds_25
      refine wgI.i e1 rfl ?_
      rw [if_pos (by simp (disch := omega) only [iI_lit, iI_add, iI_sub, iI_mul, iI_neg, iI_lt, iI_le, iI_eq] <;> omega), if_neg (fun e => by cases e)]
      rw [if_neg (by omega), if_pos q3] at hQ
      exact hQ
    rw [if_neg (by simp (disch := omega) only [iI_lit, iI_add, iI_sub, iI_mul, iI_neg, iI_lt, iI_le, iI_eq] <;> omega), if_neg (fun e => by cases e)]
    refine wgI.i e1 rfl ?_
    by_cases q0 : wy = 0
    · rw [if_pos (by simp (disch := omega) only [iI_lit, iI_add, iI_sub, iI_mul, iI_neg, iI_lt, iI_le, iI_eq] <;> omega)]
      rw [if_neg (by omega), if_neg (by omega), if_neg (by omega), if_neg (by omega)] at hQ
      refine wgR.i (x := some pv) k1 rfl (wgR.i (x := some st) e1 rfl (st_eq k3 e3 (wB.i ?_)))
      exact hQ
    rw [if_neg (by simp (disch := omega) only [iI_lit, iI_add, iI_sub, iI_mul, iI_neg, iI_lt, iI_le, iI_eq] <;> omega)]
    by_cases q1 : wy = 1
    · rw [if_pos (by simp (disch := omega) only [iI_lit, iI_add, iI_sub, iI_mul, iI_neg, iI_lt, iI_le, iI_eq] <;> omega)]
      rw [if_neg (by omega), if_neg (by omega), if_neg (by omega), if_pos q1] at hQ
      exact wgR.i (x := some pv) k1 rfl (wgR.i (x := some st) e1 rfl (c_contains k3 e3 hVs hWs (wB.i hQ)))
    rw [if_neg (by simp (disch := omega) only [iI_lit, iI_add, iI_sub, iI_mul, iI_neg, iI_lt, iI_le, iI_eq] <;> omega)]
    by_cases q2 : wy = 2
    · rw [if_pos (by simp (disch := omega) only [iI_lit, iI_add, iI_sub, iI_mul, iI_neg, iI_lt, iI_le, iI_eq] <;> omega)]
      rw [if_neg (by omega), if_neg (by omega), if_pos q2] at hQ
      obtain ⟨b, L, b1, b2, b3⟩ := e4 q2
      rw [b2] at hQ
      dsimp only at hQ
      refine wgR.i (x := pr) e1 rfl ?_
      rw [if_neg (by rw [b1]; exact fun e => by cases e)]
      have bb := b3
      obtain ⟨w, g, gf, st', en, an, lv, rp, fa, o1, -⟩ := bb
      refine wgR.i (x := some b) (by rw [b1] at e1; exact e1) rfl (wgR.i (x := some pv) k1 rfl (wC.i o1 (c_fits b3 hWs k3 hVs ?_)))
      cases hd : fitk V L f0 with
      | false =>
        rw [if_pos (by decide)]
        rw [hd] at hQ
        exact hQ
      | true =>
        rw [if_neg (by decide)]
        rw [hd] at hQ
        exact hQ
    rw [if_neg (by simp (disch := omega) only [iI_lit, iI_add, iI_sub, iI_mul, iI_neg, iI_lt, iI_le, iI_eq] <;> omega)]
    rw [if_pos (by omega)] at hQ
    exact hQ
end HLD
