/-! The class reads a request line -/
theorem rlB_iff (X : List Nat) : rlB X = true ↔ (1 ≤ fi 32 X ∧ fi 32 X ≤ 7 ∧ fi 32 X < X.length) ∧ capAll (X.take (fi 32 X)) = true ∧ (X.drop (fi 32 X + 1)).getD 0 0 = 47 ∧ fi 32 X + 1 + fi 32 (X.drop (fi 32 X + 1)) + 3 = X.length ∧ (X.drop (fi 32 X + 1)).getD (fi 32 (X.drop (fi 32 X + 1)) + 1) 0 = 72 ∧ (X.drop (fi 32 X + 1)).getD (fi 32 (X.drop (fi 32 X + 1)) + 2) 0 = 49 ∧ rlT (rlG X) = true := by
  unfold rlB rlG
  simp only [Bool.and_eq_true, decide_eq_true_eq, and_assoc]
theorem fi_pre {c : Nat} {X Y : List Nat} (h : ¬ fi c X < X.length) : fi c (X ++ c :: Y) = X.length := by
  have : ∀ X : List Nat, fi c X = X.length → fi c (X ++ c :: Y) = X.length := by
    intro X
    induction X with
    | nil => intro _; rw [List.nil_append, fi_cons, if_pos rfl]; rfl
    | cons b X ih =>
      intro h
      rw [fi_cons] at h
      rw [List.cons_append, fi_cons]
      by_cases q : b = c
      · rw [if_pos q] at h
        simp at h
      · rw [if_neg q, List.length_cons] at h
        rw [if_neg q, ih (by omega), List.length_cons]
  exact this X (fi_all h)
theorem cps_fu : ∀ (n : Nat) (Z : List Nat) (c : Nat), Z.length < n → cps (n + 1) Z c = cps n Z c ∧ cpl (n + 1) Z = cpl n Z := by
  intro n
  induction n with
  | zero => intro Z c h; omega
  | succ n ih =>
    intro Z c h
    have hfl := fi_le 38 Z
    unfold cps cpl
    by_cases y : fi 38 Z < Z.length
    · have := ih (Z.drop (fi 38 Z + 1)) (c + 1) (by rw [List.length_drop]; omega)
      rw [if_pos y, if_pos y, if_pos y, if_pos y, this.1, this.2]
      exact ⟨rfl, rfl⟩
    · rw [if_neg y, if_neg y, if_neg y, if_neg y]
      exact ⟨rfl, rfl⟩
section RD
variable {A : ab_H} {q dc r pl hl mp pp bp p : Nat} {cid : Int32} {X D0 : List Nat} {cap cp kc ks : Nat} {Q : Int32 → ab_H → Prop}
/-- the builder stands -/
def Dc (A : ab_H) (dc : Nat) : Prop := ∃ X cap, A dc = some (oB X cap) ∧ cap ≤ 200
theorem ls_3 {D : List Nat} (h : D.length = 3) : D = [D.getD 0 0, D.getD 1 0, D.getD 2 0] := by
  match D, h with
  | [a, b, c], _ => rfl
set_option maxRecDepth 8000 in
theorem c_read126 {x m : Nat} {u6 : Int32} {s5 s0 : Nat} {T : List Nat} (hp : A p = some (oS X)) (h1 : A 1 = some (oS [])) (hq : A q = some (oR (.inr (6, [va_rf (some dc)])))) (hd : A dc = some (oB D0 cap)) (hcap : cap ≤ 200) (hr : A r = some (oR (.inr (7, [va_rf (some pl), va_rf (some hl), va_rf (some mp), va_rf (some pp), va_rf (some bp), .int cid])))) (hpl : A pl = some (oL [] cp))
    (hX : ∀ x ∈ X, x < 256) (hXl : X.length ≤ 40) (hm : m ≤ X.length) (h5 : A s5 = some (oS T)) (hT : ∀ x ∈ T, x < 256) (hTl : T.length ≤ 40) (hTg : gc T = true) (h0 : A s0 = some (oS (T.take (fi 63 T)))) (hu : u6 = iI (if fi 63 T < T.length then (fi 63 T : Int) else -1)) (hkc : 520 ≤ kc) (hks : 5700 ≤ ks)
    (hQ0 : (decide (fi 63 T = T.length) || cps (T.length + 1 - fi 63 T) (T.drop (fi 63 T + 1)) 0) = false → ∀ B, Fw A B [dc, pl, r] → Dc B dc → Q 0 B)
    (hQ1 : (decide (fi 63 T = T.length) || cps (T.length + 1 - fi 63 T) (T.drop (fi 63 T + 1)) 0) = true → ∀ B b1 b3 ys cp', Fw A B [dc, pl, r] → Dc B dc → B r = some (oR (.inr (7, [va_rf (some pl), va_rf (some hl), va_rf (some b1), va_rf (some b3), va_rf (some bp), .int cid]))) → PtAt B b1 ([], X.take m) → PtAt B b3 ([], dec 0 (T.take (fi 63 T))) → B pl = some (oL ys cp') → PtsAt B ys (if fi 63 T < T.length then cpl (T.length + 1 - fi 63 T) (T.drop (fi 63 T + 1)) else []) → Q 1 B) : wq_Q_read_126 q (some p) (some r) Q (iI m) (some s5) u6 (some s0) A kc ks := by
  unfold wq_Q_read_126
  refine wnw (by omega) (by omega) (fun b1 A1 _ n1 e1 f1 => ?_)
  refine st_sub2 (f1.e hp) rfl rfl (Nat.zero_le _) hm (by omega) (by omega) (fun s2 A2 g2 f2 => wD.i ?_)
  have e1' : A2 b1 = some (oR (.inr (8, [.null, .null]))) := f2.e e1
  refine c_Pinit (sn := 1) (sv := s2) e1' (fun A3 e3 f3 => ?_)
  have hr3 := f3.k (f2.e (f1.e hr)) e1' (fun e => by cases e)
  refine wpu hr3 (Nat.le_of_ble_eq_true rfl) (fun A4 e4 f4 => ?_)
  have b1r : b1 ≠ r := ne_of e3 hr3 (fun e => by cases e)
  refine wnw (by omega) (by omega) (fun b3 A5 _ n5 e5 f5 => ?_)
  -- what has come over so far
  have old : ∀ {x : Nat} {o : ab_O}, A x = some o → x ≠ r → A5 x = some o := fun {x o} hx hn => f5.e (f4.n (f3.n (f2.e (f1.e hx)) (ne_no hx n1)) hn)
  have q5 := old hq (ne_of hq hr (fun e => by cases e))
  have d5 := old hd (ne_of hd hr (fun e => by cases e))
  refine wC.i q5 (wX.i 43 444 (by omega) (by omega) ?_)
  have hpt : (T.take (fi 63 T)).length ≤ 40 := by
    rw [List.length_take]
    omega
  have hpg : gc (T.take (fi 63 T)) = true := by
    by_cases y : fi 63 T < T.length
    · rw [fi_split y, gc_app (by decide) (by decide), Bool.and_eq_true] at hTg
      exact hTg.1
    · rw [fi_all y, List.take_length]
      exact hTg
  refine c_decode (old h0 (ne_of h0 hr (fun e => by cases e))) (bt_ls (fun x hx => hT x (List.mem_of_mem_take hx))) hpt hpg q5 d5 hcap (by omega) (by omega) (fun s4 A6 cap6 n6 g6 f6 d6 c6 => wD.i ?_)
  have hM6 : Mu A5 [dc] := Mu.c d5 rfl (Mu.nil _)
  have e6 : A6 b3 = some (oR (.inr (8, [.null, .null]))) := f6.im e5 rfl hM6
  refine c_Pinit (sn := 1) (sv := s4) e6 (fun A7 e7 f7 => ?_)
  have hr7 : A7 r = some (oR (.inr (7, [va_rf (some pl), va_rf (some hl), va_rf (some b1), va_rf (some pp), va_rf (some bp), .int cid]))) := f7.k (f6.k (f5.e e4) d5 (fun e => by cases e)) e6 (fun e => by cases e)
  refine wpu hr7 (Nat.le_of_ble_eq_true rfl) (fun A8 e8 f8 => ?_)
  have e8 : A8 r = some (oR (.inr (7, [va_rf (some pl), va_rf (some hl), va_rf (some b1), va_rf (some b3), va_rf (some bp), .int cid]))) := e8
  have b3r : b3 ≠ r := ne_of e7 hr7 (fun e => by cases e)
  have n5r : r ≠ b3 := fun e => b3r e.symm
  have n3 : A b3 = none := by
    cases hz : A b3 with
    | none => rfl
    | some o =>
      exfalso
      by_cases w : b3 = r
      · rw [w] at b3r
        exact b3r rfl
      · rw [f4.n (f3.n (f2.e (f1.e hz)) (ne_no hz n1)) w] at n5
        cases n5
  have old8 : ∀ {x : Nat} {o : ab_O}, A x = some o → x ≠ r → x ≠ dc → A8 x = some o := fun {x o} hx h1 h2 => f8.n (f7.n (f6.n (old hx h1) h2) (ne_no hx n3)) h1
  have F8 : Fw A A8 [dc, pl, r] := fun x o hx hn => by
    simp only [List.mem_cons, List.not_mem_nil, or_false, not_or] at hn
    exact old8 hx hn.2.2 hn.1
  have d8 : A8 dc = some (oB (dec 0 (T.take (fi 63 T))) cap6) := f8.n (f7.k d6 e6 (fun e => by cases e)) (ne_of hd hr (fun e => by cases e))
  have s2b3 : s2 ≠ b3 := fun e => by
    have := f4.k (f3.k g2 e1' (fun e => by cases e)) hr3 (fun e => by cases e)
    rw [e, n5] at this
    cases this
  have l1 : A8 1 = some (oS []) := old8 h1 (ne_of h1 hr (fun e => by cases e)) (ne_of h1 hd (fun e => by cases e))
  have b1b3 : b1 ≠ b3 := fun e => by
    have := f4.n e3 b1r
    rw [e, n5] at this
    cases this
  have p1 : PtAt A8 b1 ([], X.take m) := by
    refine ⟨1, s2, ?_, l1, ?_⟩
    · exact f8.n (f7.n (f6.im (f5.e (f4.n e3 b1r)) rfl hM6) b1b3) b1r
    · have g3 := f5.e (f4.k (f3.k g2 e1' (fun e => by cases e)) hr3 (fun e => by cases e))
      exact f8.k (f7.n (f6.im g3 rfl hM6) s2b3) hr7 (fun e => by cases e)
  have p3 : PtAt A8 b3 ([], dec 0 (T.take (fi 63 T))) := ⟨1, s4, f8.n e7 b3r, l1, f8.k (f7.k g6 e6 (fun e => by cases e)) hr7 (fun e => by cases e)⟩
  have pl8 := old8 hpl (ne_of hpl hr (fun e => by cases e)) (ne_of hpl hd (fun e => by cases e))
  by_cases y : fi 63 T < T.length
  · rw [if_pos y] at hu hQ1
    rw [decide_eq_false (show ¬ fi 63 T = T.length by omega), Bool.false_or] at hQ0 hQ1
    subst hu
    rw [if_neg (by simp (disch := omega) only [iI_lit, iI_add, iI_sub, iI_mul, iI_neg, iI_lt, iI_le, iI_eq] <;> omega)]
    have t8 := old8 h5 (ne_of h5 hr (fun e => by cases e)) (ne_of h5 hd (fun e => by cases e))
    refine st_sub1 (i := fi 63 T + 1) t8 (iI_add _ 1) (by omega) (by omega) (by omega) (fun s9 A9 g9 f9 => ?_)
    have e9 := f9.e e8
    refine wgR.i (x := some pl) e9 rfl ?_
    have q9 := f9.e (old8 hq (ne_of hq hr (fun e => by cases e)) (ne_of hq hd (fun e => by cases e)))
    refine wC.i q9 (wX.i 470 5160 (by omega) (by omega) ?_)
    have hZl : (T.drop (fi 63 T + 1)).length ≤ 40 := by
      rw [List.length_drop]
      omega
    have hZg : gc (T.drop (fi 63 T + 1)) = true := by
      rw [fi_split y, gc_app (by decide) (by decide), Bool.and_eq_true] at hTg
      exact hTg.2
    have hfu : T.length + 1 - fi 63 T = (T.drop (fi 63 T + 1)).length + 1 + 1 := by
      rw [List.length_drop]
      omega
    have hcf := cps_fu ((T.drop (fi 63 T + 1)).length + 1) (T.drop (fi 63 T + 1)) 0 (by omega)
    rw [hfu, hcf.1] at hQ0 hQ1
    rw [hcf.2] at hQ1
    have hZb : ∀ x ∈ T.drop (fi 63 T + 1), x < 256 := fun x hx => hT x (List.mem_of_mem_drop hx)
    have R9 : Rpa A9 A9 q dc pl s9 (T.drop (fi 63 T + 1)) [] := ⟨g9, f9.e l1, q9, ⟨_, _, f9.e d8, c6⟩, ⟨[], cp, f9.e pl8, PtsAt.nil _⟩, Fw.rf _ _⟩
    have F9 : ∀ {B : ab_H}, Fw A9 B [dc, pl] → Fw A B [dc, pl, r] := fun h => (F8.tr f9 (by simp)).tr h (fun x hx => Or.inl (by simp at hx ⊢; omega))
    refine ⟨_, cl_params (A0 := A9) (q := q) (dc := dc) (pl := pl) (p := s9) hZb hZl [] (fun z B L' hB => ?_) (fun z B hB => ?_) ((T.drop (fi 63 T + 1)).length + 1) 0 0 ((T.drop (fi 63 T + 1)).length + 1) [] A9 _ _ (by omega) (by omega) (by omega) (by simp) (fun _ => ⟨Nat.zero_le _, by rw [List.drop_zero], by rw [List.drop_zero], by rw [List.drop_zero]; exact hZg⟩) (fun y => absurd y (by omega)) R9 (by simp) (by simp)⟩
    · rw [if_pos rfl]
      exact hQ0 z B (F9 hB.2.2.2.2.2) hB.2.2.2.1
    · rw [if_neg (by decide)]
      obtain ⟨ys, cp', y1, y2⟩ := hB.2.2.2.2.1
      have hM9 : Mu A9 [dc, pl] := Mu.c (f9.e d8) rfl (Mu.c (f9.e pl8) rfl (Mu.nil _))
      have hrn : r ∉ [dc, pl] := by
        simp only [List.mem_cons, List.not_mem_nil, or_false, not_or]
        exact ⟨ne_of hr hd (fun e => by cases e), ne_of hr hpl (fun e => by cases e)⟩
      exact hQ1 z B b1 b3 ys cp' (F9 hB.2.2.2.2.2) hB.2.2.2.1 (hB.2.2.2.2.2 r _ e9 hrn) ((p1.fw f9 (Mu.nil _)).fw hB.2.2.2.2.2 hM9) ((p3.fw f9 (Mu.nil _)).fw hB.2.2.2.2.2 hM9) y1 y2
  · rw [if_neg y] at hu hQ1
    subst hu
    rw [if_pos (by decide)]
    refine hQ1 ?_ A8 b1 b3 [] cp F8 ⟨_, _, d8, c6⟩ e8 p1 p3 pl8 (PtsAt.nil _)
    rw [decide_eq_true (fi_all y), Bool.true_or]
set_option maxRecDepth 8000 in
theorem c_read (hp : A p = some (oS X)) (h1 : A 1 = some (oS [])) (h2 : A 2 = some (oS [32, 72, 49])) (hq : A q = some (oR (.inr (6, [va_rf (some dc)])))) (hd : A dc = some (oB D0 cap)) (hcap : cap ≤ 200) (hr : A r = some (oR (.inr (7, [va_rf (some pl), va_rf (some hl), va_rf (some mp), va_rf (some pp), va_rf (some bp), .int cid])))) (hpl : A pl = some (oL [] cp))
    (hX : ∀ x ∈ X, x < 256) (hXl : X.length ≤ 40) (hkc : 530 ≤ kc) (hks : 5900 ≤ ks)
    (hQ0 : rlB X = false → ∀ B, Fw A B [dc, pl, r] → Dc B dc → Q 0 B)
    (hQ1 : rlB X = true → ∀ B b1 b3 ys cp', Fw A B [dc, pl, r] → Dc B dc → B r = some (oR (.inr (7, [va_rf (some pl), va_rf (some hl), va_rf (some b1), va_rf (some b3), va_rf (some bp), .int cid]))) → PtAt B b1 ([], rlM X) → PtAt B b3 ([], rlP X) → B pl = some (oL ys cp') → PtsAt B ys (rlQ X) → Q 1 B) : wp_Q_read q (some p) (some r) A kc ks Q := by
  have hD : Dc A dc := ⟨_, _, hd, hcap⟩
  have no : ∀ {B : ab_H}, ¬ rlB X = true → Fw A B [] → Q 0 B := fun {B} hn hF => hQ0 (by simpa using hn) B (hF.mo (by simp)) ⟨_, _, hF.e hd, hcap⟩
  have iff := rlB_iff X
  have hfm := fi_le 32 X
  unfold wp_Q_read
  refine st_ix hp (j := 32) rfl (by decide) (st_len hp (st_len h2 (wL.i ?_)))
  rw [show iI (X.length : Int) - iI (([32, 72, 49] : List Nat).length : Int) = iI ((X.length : Int) - 3) from iI_sub _ _]
  refine c_isMethod hp (bt_ls hX) (by split <;> omega) (by split <;> omega) (by split <;> omega) ?_
  by_cases y1 : fi 32 X < X.length
  · rw [if_pos y1]
    by_cases y2 : (1 ≤ (fi 32 X : Int) ∧ (fi 32 X : Int) ≤ 7) ∧ capAll (X.take (fi 32 X : Int).toNat) = true
    · rw [decide_eq_true y2.1, y2.2, Bool.true_and, if_neg (by decide)]
      have y2b : capAll (X.take (fi 32 X)) = true := y2.2
      have y2a := y2.1
      by_cases y3 : (X.length : Int) - 3 ≤ fi 32 X
      · rw [if_pos (by simp (disch := omega) only [iI_lit, iI_add, iI_sub, iI_mul, iI_neg, iI_lt, iI_le, iI_eq] <;> omega)]
        exact no (fun h => by have := (iff.mp h).2.2.2.1; omega) (Fw.rf _ _)
      rw [if_neg (by simp (disch := omega) only [iI_lit, iI_add, iI_sub, iI_mul, iI_neg, iI_lt, iI_le, iI_eq] <;> omega)]
      refine st_sub1 (i := X.length - 3) hp (by congr 1; omega) (by omega) (by omega) (by omega) (fun s13 A1 g1 f1 => ?_)
      refine st_eq g1 (f1.e h2) ?_
      have ht3 : ∀ j, j < 3 → (X.drop (X.length - 3)).getD j 0 = X.getD (X.length - 3 + j) 0 := fun j _ => by simp [List.getD_eq_getElem?_getD]
      have htD : ∀ j, (X.drop (fi 32 X + 1)).getD j 0 = X.getD (fi 32 X + 1 + j) 0 := fun j => by simp [List.getD_eq_getElem?_getD]
      by_cases y4 : X.drop (X.length - 3) = [32, 72, 49]
      · rw [decide_eq_true y4, if_neg (by decide)]
        refine st_sub2 (i := fi 32 X + 1) (j := X.length - 3) (f1.e hp) (iI_add _ 1) (by congr 1; omega) (by omega) (by omega) (by omega) (by omega) (fun s15 A2 g2 f2 => ?_)
        have hTl : (sl X (fi 32 X + 1) (X.length - 3)).length = X.length - 3 - (fi 32 X + 1) := sl_len (by omega) (by omega)
        have hsp : X.drop (fi 32 X + 1) = sl X (fi 32 X + 1) (X.length - 3) ++ 32 :: [72, 49] := by
          have : X.drop (fi 32 X + 1) = sl X (fi 32 X + 1) (X.length - 3) ++ (X.drop (X.length - 3)) := by
            conv => lhs; rw [← List.take_append_drop (X.length - 3 - (fi 32 X + 1)) (X.drop (fi 32 X + 1)), List.drop_drop, show fi 32 X + 1 + (X.length - 3 - (fi 32 X + 1)) = X.length - 3 by omega]
            rfl
          rw [this, y4]
        refine st_emp g2 ?_
        by_cases y5 : sl X (fi 32 X + 1) (X.length - 3) = []
        · rw [decide_eq_true y5, if_neg (by decide)]
          refine no (fun h => ?_) (f1.tr f2 (by simp))
          have h3 := (iff.mp h).2.2.1
          rw [hsp, y5] at h3
          exact absurd h3 (by decide)
        rw [decide_eq_false y5, if_pos (by decide)]
        have hTp : 0 < (sl X (fi 32 X + 1) (X.length - 3)).length := List.length_pos_iff.mpr y5
        refine st_at g2 rfl (j := 0) hTp ?_
        have hTb := ls_bt (f := fi 32 X + 1) (t := X.length - 3) hX
        have hT0 := bt_ls hTb 0 hTp
        have hD0 : (X.drop (fi 32 X + 1)).getD 0 0 = (sl X (fi 32 X + 1) (X.length - 3)).getD 0 0 := by
          rw [hsp]
          simp only [List.getD_eq_getElem?_getD, List.getElem?_append_left hTp]
        generalize hTT : sl X (fi 32 X + 1) (X.length - 3) = T at *
        by_cases y6 : T.getD 0 0 = 47
        · rw [if_pos (by simp (disch := omega) only [iI_lit, iI_add, iI_sub, iI_mul, iI_neg, iI_lt, iI_le, iI_eq] <;> omega)]
          refine st_ix g2 (j := 32) rfl (by decide) ?_
          by_cases y7 : fi 32 T < T.length
          · rw [if_pos y7, if_pos (by simp (disch := omega) only [iI_lit, iI_add, iI_sub, iI_mul, iI_neg, iI_lt, iI_le, iI_eq] <;> omega)]
            refine no (fun h => ?_) (f1.tr f2 (by simp))
            have h3 := (iff.mp h).2.2.2.1
            rw [hsp, fi_app y7] at h3
            omega
          rw [if_neg y7, if_neg (by decide)]
          have hu : fi 32 (X.drop (fi 32 X + 1)) = T.length := by
            rw [hsp]
            exact fi_pre y7
          have hGG : rlG X = T := by
            unfold rlG
            rw [hu, hsp]
            simp
          have hBT : rlB X = rlT T := by
            have e : rlB X = true ↔ rlT T = true := by
              rw [iff, hu, hGG, hD0]
              refine ⟨fun h => h.2.2.2.2.2.2, fun h => ⟨⟨by omega, by omega, y1⟩, y2b, y6, by omega, ?_, ?_, h⟩⟩
              · rw [hsp]
                simp [List.getD_eq_getElem?_getD, List.getElem?_append_right]
              · rw [hsp]
                simp [List.getD_eq_getElem?_getD, List.getElem?_append_right]
            cases h3 : rlB X with
            | true => rw [e.mp h3]
            | false =>
              cases h4 : rlT T with
              | true => rw [e.mpr h4] at h3; exact h3.symm
              | false => rfl
          have hcc := rlT_cps T
          refine c_good g2 (bt_ls hTb) (by omega) ?_
          cases hgc : gc T with
          | false =>
            rw [if_pos (by decide)]
            refine no (fun h => ?_) (f1.tr f2 (by simp))
            rw [hBT, hcc.1, hgc] at h
            cases h
          | true =>
            rw [if_neg (by decide)]
            refine st_ix g2 (j := 63) rfl (by decide) ?_
            have hfT := fi_le 63 T
            have F2 : Fw A A2 [] := f1.tr f2 (by simp)
            have fin : ∀ (s0 : Nat) (A3 : ab_H) (kc' ks' : Nat), Fw A2 A3 [] → A3 s0 = some (oS (T.take (fi 63 T))) → 520 ≤ kc' → 5700 ≤ ks' → wq_Q_read_126 q (some p) (some r) Q (iI (fi 32 X)) (some s15) (iI (if fi 63 T < T.length then (fi 63 T : Int) else -1)) (some s0) A3 kc' ks' := fun s0 A3 kc' ks' f3 g3 k1 k2 => by
              have F3 : Fw A A3 [] := F2.tr f3 (by simp)
              refine c_read126 (x := 0) (F3.e hp) (F3.e h1) (F3.e hq) (F3.e hd) hcap (F3.e hr) (F3.e hpl) hX hXl (Nat.le_of_lt y1) (f3.e g2) hTb (by omega) hgc g3 rfl k1 k2 (fun z B b1 b2 => ?_) (fun z B b1 b3 ys cp' z1 z2 z3 z4 z5 z6 z7 => ?_)
              · rw [hBT, hcc.1, hgc, z] at hQ0
                exact hQ0 rfl B (F3.mo (by simp) |>.tr b1 (fun x hx => Or.inl hx)) b2
              · have hTt : rlB X = true := by rw [hBT, hcc.1, hgc, z]; rfl
                rw [hcc.2 (by rw [← hBT]; exact hTt)] at z7
                refine hQ1 hTt B b1 b3 ys cp' (F3.mo (by simp) |>.tr z1 (fun x hx => Or.inl hx)) z2 z3 z4 ?_ z6 ?_
                · unfold rlP
                  rw [hGG]
                  exact z5
                · unfold rlQ
                  rw [hGG]
                  exact z7
            by_cases y8 : fi 63 T < T.length
            · rw [if_pos y8] at fin ⊢
              rw [if_pos (by simp (disch := omega) only [iI_lit, iI_add, iI_sub, iI_mul, iI_neg, iI_lt, iI_le, iI_eq] <;> omega)]
              exact st_sub2 g2 rfl rfl (Nat.zero_le _) hfT (by omega) (by omega) (fun s21 A3 g3 f3 => fin s21 A3 _ _ f3 g3 (by omega) (by omega))
            · rw [if_neg y8] at fin ⊢
              rw [if_neg (by decide)]
              refine fin s15 A2 _ _ (Fw.rf _ _) ?_ (by omega) (by omega)
              rw [fi_all y8, List.take_length]
              exact g2
        · rw [if_neg (by simp (disch := omega) only [iI_lit, iI_add, iI_sub, iI_mul, iI_neg, iI_lt, iI_le, iI_eq] <;> omega)]
          refine no (fun h => ?_) (f1.tr f2 (by simp))
          have h3 := (iff.mp h).2.2.1
          rw [hD0] at h3
          exact y6 h3
      · rw [decide_eq_false y4, if_pos (by decide)]
        refine no (fun h => y4 ?_) f1
        obtain ⟨i1, i2, i3, i4, i5, i6, i7⟩ := iff.mp h
        rw [htD] at i5 i6
        have hl3 : (X.drop (X.length - 3)).length = 3 := by
          rw [List.length_drop]
          omega
        rw [ls_3 hl3, ht3 0 (by decide), ht3 1 (by decide), ht3 2 (by decide)]
        have i8 : X.getD (X.length - 3) 0 = 32 := by
          have h5 : fi 32 (X.drop (fi 32 X + 1)) < (X.drop (fi 32 X + 1)).length := by
            rw [List.length_drop]
            omega
          have := (fi_at (c := 32) _ _ (Nat.le_refl _) h5).mp rfl
          rw [htD] at this
          rw [show X.length - 3 = fi 32 X + 1 + fi 32 (X.drop (fi 32 X + 1)) by omega]
          exact this
        rw [show X.length - 3 + 1 = fi 32 X + 1 + (fi 32 (X.drop (fi 32 X + 1)) + 1) by omega, show X.length - 3 + 2 = fi 32 X + 1 + (fi 32 (X.drop (fi 32 X + 1)) + 2) by omega, i5, i6, Nat.add_zero, i8]
    · have hb : (decide (1 ≤ (fi 32 X : Int) ∧ (fi 32 X : Int) ≤ 7) && capAll (X.take (fi 32 X : Int).toNat)) = false := by
        rw [Bool.and_eq_false_iff]
        by_cases z : 1 ≤ (fi 32 X : Int) ∧ (fi 32 X : Int) ≤ 7
        · right
          cases hc : capAll (X.take (fi 32 X : Int).toNat) with
          | false => rfl
          | true => exact absurd ⟨z, hc⟩ y2
        · left
          exact decide_eq_false z
      rw [hb, if_pos (by decide)]
      refine no (fun h => y2 ?_) (Fw.rf _ _)
      obtain ⟨i1, i2, i3⟩ := iff.mp h
      exact ⟨by omega, i2⟩
  · rw [if_neg y1, decide_eq_false (by decide), Bool.false_and, if_pos (by decide)]
    exact no (fun h => y1 (iff.mp h).1.2.2) (Fw.rf _ _)
end RD
