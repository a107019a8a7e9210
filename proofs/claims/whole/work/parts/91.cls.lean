/-! The class: all signs of a pattern -/
theorem tks_piece {W : List Nat} {k n m : Nat} (hk : k < W.length) (h1 : bt W k ≠ 124) (hm : pe (W.drop k) = m) (hm0 : m ≠ 0) : tks (n + 1) (W.drop k) = (tks n (W.drop (k + m + (if mkO (W.drop (k + m)) = 0 then 0 else 1)))).map (List.cons (some (sl W k (k + m), mkO (W.drop (k + m))))) := by
  conv => lhs; unfold tks
  rw [if_neg (drop_ne hk), bt_drop, Nat.add_zero, if_neg h1, hm, if_neg hm0, List.drop_drop, List.drop_drop]
  have : (W.drop k).take m = sl W k (k + m) := by
    unfold sl
    congr 1
    omega
  rw [this, ← Nat.add_assoc]
theorem mem_sl {W : List Nat} {f t c : Nat} (ht : t ≤ W.length) : c ∈ sl W f t ↔ ∃ l, f ≤ l ∧ l < t ∧ W.getD l 0 = c := by
  constructor
  · intro h
    obtain ⟨i, hi0, he⟩ := List.mem_iff_getElem.mp h
    have hi := hi0
    by_cases q : f ≤ t
    · rw [sl_len q ht] at hi
      refine ⟨f + i, by omega, by omega, ?_⟩
      rw [← sl_getD (show f + i < t by omega) ht, ← he]
      simp [List.getD_eq_getElem?_getD, hi0]
    · rw [sl_nil (by omega)] at hi
      exact absurd hi (by simp)
  · rintro ⟨l, l1, l2, l3⟩
    have hl : l - f < (sl W f t).length := by
      rw [sl_len (by omega) ht]
      omega
    have := sl_getD (B := W) (f := f) (t := t) (i := l - f) (by omega) ht
    rw [show f + (l - f) = l by omega, l3] at this
    rw [← this]
    simp [List.getD_eq_getElem?_getD, hl]
theorem wd_cons (d : Nat) (Y : List Nat) : wd (d :: Y) = if d = 91 ∨ d = 93 then 0 else wd Y + 1 := rfl
section RPT
variable {A0 : ab_H} {a w g : Nat} {W : List Nat} {Q : Int32 → ab_H → Prop}
theorem rp_set {k n : Nat} {T : List Tk} {gf0 : Nat → Int32} {b : Bool} (hW : W.length ≤ 40) (hWb : ∀ x ∈ W, x < 256) (hk : k < W.length) (hc : W.getD k 0 = 91) (hn : W.length ≤ k + (n + 1)) (hT : T.length ≤ k) (hS : Sg W gf0 k T) (h0 : tks (n + 1) (W.drop k) = none → ∀ B, Fw A0 B [a, g] → (∃ T' gf', PB B a w g W T' gf') → Q 0 B) (h1 : ∀ L, tks (n + 1) (W.drop k) = some L → ∀ B gf', PB B a w g W (T ++ L) gf' → Sg W gf' W.length (T ++ L) → (T ++ L).length ≤ W.length → Fw A0 B [a, g] → Q 1 B) : ∀ (j i : Nat) (A : ab_H) (gf : Nat → Int32), i + j = W.length → (∀ j', j' < j → Rgo A0 a w g W Q j') → k < i → wd (W.drop (k + 1)) = (i - (k + 1)) + wd (W.drop i) → PB A a w g W T gf → (∀ l, l < k → gf l = gf0 l) → gf k = iI (-1) → (∀ l, k < l → l < i → gf l = iI T.length) → Fw A0 A [a, g] → wq_N_readPieces_9 a Q (j + 1) (iI (bI true)) (iI (bI (decide (i = k + 1)))) (iI (bI b)) (iI i) A := by
  have hbk := bt_at hk
  have pe0 : pe (W.drop k) = if 0 < wd (W.drop (k + 1)) ∧ bt W (k + 1 + wd (W.drop (k + 1))) = 93 then wd (W.drop (k + 1)) + 2 else 0 := by
    rw [ls_drop hk, pe_cons, if_neg (by omega), if_neg (by omega), bt_drop]
  have none0 : pe (W.drop k) = 0 → tks (n + 1) (W.drop k) = none := fun z => by
    unfold tks
    rw [if_neg (drop_ne hk), bt_drop, Nat.add_zero, if_neg (by omega), if_pos z]
  intro j
  induction j with
  | zero =>
    intro i A gf hi hR hki hwd hB g1 g2 g3 hF
    have hB' := hB
    obtain ⟨st, en, an, lv, rp, p1, p2, p3, -⟩ := hB'
    show wb_N_readPieces_9 _ _ _ _ _ _ _ _
    unfold wb_N_readPieces_9
    refine wgR.i (x := some w) p1 rfl (st_len p2 ?_)
    rw [if_pos (by simp (disch := omega) only [iI_lit, iI_add, iI_sub, iI_mul, iI_neg, iI_lt, iI_le, iI_eq] <;> omega)]
    unfold wq_N_readPieces_219
    rw [if_neg (by decide)]
    refine h0 (none0 ?_) A hF hB.bad
    rw [List.drop_of_length_le (show W.length ≤ i by omega), show wd [] = 0 from rfl] at hwd
    rw [pe0, if_neg (fun z => ?_)]
    rw [bt_no (by omega)] at z
    exact absurd z.2 (by decide)
  | succ j ih =>
    intro i A gf hi hR hki hwd hB g1 g2 g3 hF
    have hil : i < W.length := by omega
    have hbi := bt_ls hWb i hil
    have hB' := hB
    obtain ⟨st, en, an, lv, rp, p1, p2, p3, -⟩ := hB'
    rw [ls_drop hil, wd_cons] at hwd
    show wb_N_readPieces_9 _ _ _ _ _ _ _ _
    unfold wb_N_readPieces_9
    refine wgR.i (x := some w) p1 rfl (st_len p2 ?_)
    rw [if_neg (by simp (disch := omega) only [iI_lit, iI_add, iI_sub, iI_mul, iI_neg, iI_lt, iI_le, iI_eq] <;> omega)]
    refine wgR.i (x := some w) p1 rfl (st_at p2 rfl (j := i) hil (wgR.i (x := some g) p1 rfl (hB.sg hil hW (fun A1 b1 f1 => ?_))))
    rw [if_neg (by decide)]
    rw [show ((-1) : Int32) = iI (-1) from by decide] at b1
    have F1 : Fw A0 A1 [a, g] := fww hF f1
    by_cases y1 : W.getD i 0 = 91
    · rw [if_pos (by simp (disch := omega) only [iI_lit, iI_add, iI_sub, iI_mul, iI_neg, iI_lt, iI_le, iI_eq] <;> omega)]
      unfold wq_N_readPieces_74
      rw [if_neg (by decide), if_pos (by simp (disch := omega) only [iI_lit, iI_add, iI_sub, iI_mul, iI_neg, iI_lt, iI_le, iI_eq] <;> omega)]
      rw [if_pos (Or.inl y1), Nat.add_zero] at hwd
      refine h0 (none0 ?_) A1 F1 b1.bad
      rw [pe0, if_neg (fun z => ?_)]
      have h93 := z.2
      rw [show k + 1 + wd (W.drop (k + 1)) = i by omega, bt_at hil] at h93
      omega
    rw [if_neg (by simp (disch := omega) only [iI_lit, iI_add, iI_sub, iI_mul, iI_neg, iI_lt, iI_le, iI_eq] <;> omega)]
    by_cases y2 : W.getD i 0 = 93
    · rw [if_pos (by simp (disch := omega) only [iI_lit, iI_add, iI_sub, iI_mul, iI_neg, iI_lt, iI_le, iI_eq] <;> omega)]
      unfold wq_N_readPieces_74
      rw [if_neg (by decide), if_neg (by simp (disch := omega) only [iI_lit, iI_add, iI_sub, iI_mul, iI_neg, iI_lt, iI_le, iI_eq] <;> omega)]
      rw [if_pos (Or.inr y2), Nat.add_zero] at hwd
      by_cases y3 : i = k + 1
      · rw [decide_eq_true y3, if_neg (by decide)]
        refine h0 (none0 ?_) A1 F1 b1.bad
        rw [pe0, if_neg (fun z => by omega)]
      · rw [decide_eq_false y3, if_pos (by decide)]
        have hpe : pe (W.drop k) = i + 1 - k := by
          rw [pe0, if_pos ⟨by omega, by rw [show k + 1 + wd (W.drop (k + 1)) = i by omega, bt_at hil]; omega⟩]
          omega
        have htk := tks_piece (n := n) hk (by omega) hpe (by omega)
        rw [show k + (i + 1 - k) = i + 1 by omega] at htk
        have hP0 : (sl W k (i + 1)).getD 0 0 = 91 := by
          rw [sl_getD (show k + 0 < i + 1 by omega) (by omega), Nat.add_zero]
          exact hc
        refine b1.pc (P := sl W k (i + 1)) (by rw [hP0]; decide) (fun A2 b2 f2 => ?_)
        rw [show iI (i : Int) + 1 = iI ((i + 1 : Nat) : Int) from iI_add _ 1]
        have hS2 : Sg W (upd gf i (iI (-1))) (i + 1) (T ++ [some (sl W k (i + 1), 0)]) := by
          refine hS.piece (k := k) (e := i + 1) (by omega) (by omega) (fun l hl => ?_) (fun l hl hl2 => ?_) (by rw [hP0]; decide) (fun c => ?_)
          · rw [pk_un (by omega)]
            exact g1 l hl
          · by_cases z : l = i
            · subst z
              rw [pk_us]
              exact Or.inl rfl
            · rw [pk_un z]
              by_cases z2 : l = k
              · rw [z2]
                exact Or.inl g2
              · exact Or.inr (g3 l (by omega) (by omega))
          · unfold pcT
            rw [hP0, if_neg (by decide), if_pos rfl, sl_pre (by omega) (by omega), decide_eq_true_eq, show i + 1 - 1 = i from rfl, mem_sl (by omega)]
            refine ⟨fun ⟨l, l1, l2, l3, l4⟩ => ?_, fun ⟨l, l1, l2, l3⟩ => ⟨l, by omega, by omega, l3, by rw [pk_un (by omega)]; exact g3 l (by omega) l2⟩⟩
            by_cases z : l = i
            · exfalso
              subst z
              rw [pk_us] at l4
              have := (iI_eq (a := -1) (b := T.length) (by omega) (by omega) (by omega) (by omega)).mp l4
              omega
            · rw [pk_un z] at l4
              by_cases z2 : l = k
              · exfalso
                rw [z2, g2] at l4
                have := (iI_eq (a := -1) (b := T.length) (by omega) (by omega) (by omega) (by omega)).mp l4
                omega
              · exact ⟨l, by omega, by omega, l3⟩
        refine rp_after (n := n) (e := false) hW hWb (fun j' hj' => hR j' (by omega)) (by omega) (by omega) (by omega) b2 hS2 (fww F1 f2) (fun z => h0 ?_) (fun L hL => h1 _ ?_)
        · rw [htk, z]
          rfl
        · rw [htk, hL]
          rfl
    · rw [if_neg (by simp (disch := omega) only [iI_lit, iI_add, iI_sub, iI_mul, iI_neg, iI_lt, iI_le, iI_eq] <;> omega)]
      rw [if_neg (show ¬ (W.getD i 0 = 91 ∨ W.getD i 0 = 93) by omega)] at hwd
      have b1' := b1
      obtain ⟨st1, en1, an1, lv1, rp1, q1, q2, q3, -⟩ := b1'
      refine wgR.i (x := some g) q1 rfl (wgI.i q1 rfl (b1.sg hil hW (fun A2 b2 f2 => ?_)))
      rw [show iI (i : Int) + 1 = iI ((i + 1 : Nat) : Int) from iI_add _ 1]
      have := ih (i + 1) A2 (upd (upd gf i (iI (-1))) i (iI T.length)) (by omega) (fun j' hj' => hR j' (by omega)) (by omega) (by omega) b2 (fun l hl => by rw [pk_un (by omega), pk_un (by omega)]; exact g1 l hl) (by rw [pk_un (by omega), pk_un (by omega)]; exact g2) (fun l hl hl2 => by
        by_cases z : l = i
        · subst z
          rw [pk_us]
        · rw [pk_un z, pk_un z]
          exact g3 l hl (by omega)) (fww F1 f2)
      rw [decide_eq_false (show ¬ i + 1 = k + 1 by omega)] at this
      exact this
theorem rp_all (hW : W.length ≤ 40) (hWb : ∀ x ∈ W, x < 256) : ∀ j, Rgo A0 a w g W Q j := by
  intro j
  induction j using Nat.strongRecOn with
  | _ j ih =>
    intro k n T b e A gf hk hn hT hb hB hS hF h0 h1
    have hB' := hB
    obtain ⟨st, en, an, lv, rp, p1, p2, p3, -⟩ := hB'
    cases j with
    | zero =>
      show wb_N_readPieces_9 _ _ _ _ _ _ _ _
      unfold wb_N_readPieces_9
      refine wgR.i (x := some w) p1 rfl (st_len p2 ?_)
      rw [if_pos (by simp (disch := omega) only [iI_lit, iI_add, iI_sub, iI_mul, iI_neg, iI_lt, iI_le, iI_eq] <;> omega)]
      unfold wq_N_readPieces_219
      rw [if_pos (by decide)]
      rw [List.drop_of_length_le (show W.length ≤ k by omega), tks_nil] at h1
      have hkl : k = W.length := by omega
      subst hkl
      exact h1 [] rfl A gf (by rw [List.append_nil]; exact hB) (by rw [List.append_nil]; exact hS) (by rw [List.append_nil]; exact hT) hF
    | succ j =>
      have hkl : k < W.length := by omega
      have hat := bt_at hkl
      have hbk := bt_ls hWb k hkl
      obtain ⟨m, rfl⟩ : ∃ m, n = m + 1 := ⟨n - 1, by omega⟩
      show wb_N_readPieces_9 _ _ _ _ _ _ _ _
      unfold wb_N_readPieces_9
      refine wgR.i (x := some w) p1 rfl (st_len p2 ?_)
      rw [if_neg (by simp (disch := omega) only [iI_lit, iI_add, iI_sub, iI_mul, iI_neg, iI_lt, iI_le, iI_eq] <;> omega)]
      refine wgR.i (x := some w) p1 rfl (st_at p2 rfl (j := k) hkl (wgR.i (x := some g) p1 rfl (hB.sg hkl hW (fun A1 b1 f1 => ?_))))
      rw [if_pos (by decide)]
      rw [show ((-1) : Int32) = iI (-1) from by decide] at b1
      have hS1 := hS.no
      have F1 : Fw A0 A1 [a, g] := fww hF f1
      have b1' := b1
      obtain ⟨st1, en1, an1, lv1, rp1, q1, q2, q3, -⟩ := b1'
      unfold wq_N_readPieces_74
      rw [if_pos (by decide), show iI (k : Int) + 1 = iI ((k + 1 : Nat) : Int) from iI_add _ 1]
      have hpe := pe_cons (W.getD k 0) (W.drop (k + 1))
      rw [← ls_drop hkl] at hpe
      have none0 : bt W k ≠ 124 → pe (W.drop k) = 0 → tks (m + 1) (W.drop k) = none := fun z1 z => by
        unfold tks
        rw [if_neg (drop_ne hkl), bt_drop, Nat.add_zero, if_neg z1, if_pos z]
      by_cases y1 : W.getD k 0 = 91
      · rw [if_pos (by simp (disch := omega) only [iI_lit, iI_add, iI_sub, iI_mul, iI_neg, iI_lt, iI_le, iI_eq] <;> omega)]
        have := rp_set (A0 := A0) (b := b) hW hWb hkl y1 hn hT hS h0 h1 j (k + 1) A1 (upd gf k (iI (-1))) (by omega) (fun j' hj' => ih j' (by omega)) (by omega) (by omega) b1 (fun l hl => pk_un (by omega)) pk_us (fun l l1 l2 => absurd l2 (by omega)) F1
        rw [decide_eq_true rfl] at this
        exact this
      rw [if_neg (by simp (disch := omega) only [iI_lit, iI_add, iI_sub, iI_mul, iI_neg, iI_lt, iI_le, iI_eq] <;> omega)]
      by_cases y2 : W.getD k 0 = 124
      · rw [if_pos (by simp (disch := omega) only [iI_lit, iI_add, iI_sub, iI_mul, iI_neg, iI_lt, iI_le, iI_eq] <;> omega)]
        have etk : tks (m + 1) (W.drop k) = (tks m (W.drop (k + 1))).map (List.cons none) := by
          conv => lhs; unfold tks
          rw [if_neg (drop_ne hkl), bt_drop, Nat.add_zero, if_pos (by omega), List.drop_drop]
        refine wC.i q1 (b1.row (by omega) (fun A2 b2 f2 => ?_))
        have hTl : (T ++ [none]).length = T.length + 1 := by simp
        refine ih j (by omega) (k + 1) m (T ++ [none]) false e A2 _ (by omega) (by omega) (by rw [hTl]; omega) (fun z => by cases z) b2 (hS1.same (fun c i _ => ?_)) (fww F1 f2) (fun z => h0 (by rw [etk, z]; rfl)) (fun L hL B gf' c1 c2 c3 c4 => h1 (none :: L) (by rw [etk, hL]; rfl) B gf' ?_ ?_ ?_ c4)
        · rw [sgn_snoc]
          by_cases z : i = T.length
          · rw [if_pos z, z, sgn_no (Nat.le_refl _)]
          · rw [if_neg z]
        · rw [List.append_assoc] at c1
          exact c1
        · rw [List.append_assoc] at c2
          exact c2
        · rw [List.append_assoc] at c3
          exact c3
      rw [if_neg (by simp (disch := omega) only [iI_lit, iI_add, iI_sub, iI_mul, iI_neg, iI_lt, iI_le, iI_eq] <;> omega)]
      have y12 : bt W k ≠ 124 := by omega
      have bad : (W.getD k 0 = 42 ∨ W.getD k 0 = 63 ∨ W.getD k 0 = 124 ∨ W.getD k 0 = 93) → Q 0 A1 := fun z => by
        rw [if_pos z] at hpe
        exact h0 (none0 y12 hpe) A1 F1 b1.bad
      have n167 : (bt W k = 42 ∨ bt W k = 63) → wq_N_readPieces_167 a Q (wq_N_readPieces_9 a Q (j + 1)) (iI (bI false)) (iI (bI e)) (iI (bI b)) (iI k) (iI (W.getD k 0)) A1 := fun z => by
        unfold wq_N_readPieces_167
        cases b with
        | false =>
          rw [if_pos (by decide)]
          exact bad (by omega)
        | true =>
          exfalso
          have := hb rfl
          omega
      by_cases y3 : W.getD k 0 = 42
      · rw [if_pos (by simp (disch := omega) only [iI_lit, iI_add, iI_sub, iI_mul, iI_neg, iI_lt, iI_le, iI_eq] <;> omega)]
        exact n167 (by omega)
      rw [if_neg (by simp (disch := omega) only [iI_lit, iI_add, iI_sub, iI_mul, iI_neg, iI_lt, iI_le, iI_eq] <;> omega)]
      by_cases y4 : W.getD k 0 = 63
      · rw [if_pos (by simp (disch := omega) only [iI_lit, iI_add, iI_sub, iI_mul, iI_neg, iI_lt, iI_le, iI_eq] <;> omega)]
        exact n167 (by omega)
      rw [if_neg (by simp (disch := omega) only [iI_lit, iI_add, iI_sub, iI_mul, iI_neg, iI_lt, iI_le, iI_eq] <;> omega)]
      by_cases y5 : W.getD k 0 = 93
      · rw [if_pos (by simp (disch := omega) only [iI_lit, iI_add, iI_sub, iI_mul, iI_neg, iI_lt, iI_le, iI_eq] <;> omega)]
        exact bad (by omega)
      rw [if_neg (by simp (disch := omega) only [iI_lit, iI_add, iI_sub, iI_mul, iI_neg, iI_lt, iI_le, iI_eq] <;> omega)]
      rw [if_neg (by omega), if_pos y1] at hpe
      have htk := tks_piece (n := m) hkl y12 hpe (by decide)
      have esl : sl W k (k + 1) = [W.getD k 0] := by
        rw [sl_cons (by omega) (by omega), sl_nil (Nat.le_refl _)]
      rw [esl] at htk
      refine wC.i q1 ?_
      have fin : ∀ (A2 : ab_H) (gf2 : Nat → Int32), PB A2 a w g W (T ++ [some ([W.getD k 0], 0)]) gf2 → Sg W gf2 (k + 1) (T ++ [some ([W.getD k 0], 0)]) → Fw A0 A2 [a, g] → wq_N_readPieces_9 a Q (j + 1) (iI (bI false)) (iI (bI e)) (iI (bI true)) (iI ((k + 1 : Nat) : Int)) A2 := fun A2 gf2 b2 s2 F2 => by
        refine rp_after (n := m) hW hWb (fun j' hj' => ih j' (by omega)) (by omega) (by omega) (by omega) b2 s2 F2 (fun z => h0 ?_) (fun L hL => h1 _ ?_)
        · rw [htk, z]
          rfl
        · rw [htk, hL]
          rfl
      unfold wp_N_addPiece
      by_cases y6 : W.getD k 0 = 46
      · rw [if_pos (by simp (disch := omega) only [iI_lit, iI_add, iI_sub, iI_mul, iI_neg, iI_lt, iI_le, iI_eq] <;> omega)]
        unfold wq_N_addPiece_34
        rw [y6] at fin
        refine b1.dot (by omega) (fun A2 b2 f2 => fin A2 _ b2 (hS1.same (fun c i _ => ?_)) (fww F1 f2))
        rw [sgn_snoc]
        by_cases z : i = T.length
        · rw [if_pos z, z, sgn_no (Nat.le_refl _)]
          rfl
        · rw [if_neg z]
      · rw [if_neg (by simp (disch := omega) only [iI_lit, iI_add, iI_sub, iI_mul, iI_neg, iI_lt, iI_le, iI_eq] <;> omega)]
        refine wgR.i (x := some g) q1 rfl (wgI.i q1 rfl (b1.sg hkl hW (fun A2 b2 f2 => ?_)))
        unfold wq_N_addPiece_34
        refine b2.pc (P := [W.getD k 0]) y6 (fun A3 b3 f3 => fin A3 _ b3 ?_ (fww (fww F1 f2) f3))
        refine hS.piece (k := k) (e := k + 1) (by omega) (by omega) (fun l hl => by rw [pk_un (by omega), pk_un (by omega)]) (fun l l1 l2 => ?_) y6 (fun c => ?_)
        · have : l = k := by omega
          rw [this, pk_us]
          exact Or.inr rfl
        · unfold pcT
          have e0 : ([W.getD k 0] : List Nat).getD 0 0 = W.getD k 0 := rfl
          rw [e0, if_neg y6, if_neg y1, decide_eq_true_eq]
          refine ⟨fun ⟨l, l1, l2, l3, l4⟩ => ?_, fun z => ⟨k, Nat.le_refl _, by omega, z, by rw [pk_us]⟩⟩
          have : l = k := by omega
          rw [← this]
          exact l3
theorem c_readPieces {A : ab_H} {gf : Nat → Int32} (hW : W.length ≤ 40) (hWb : ∀ x ∈ W, x < 256) (h : PB A a w g W [] gf) (h0 : tks W.length W = none → ∀ B, Fw A B [a, g] → (∃ T' gf', PB B a w g W T' gf') → Q 0 B) (h1 : ∀ L, tks W.length W = some L → ∀ B gf', PB B a w g W L gf' → Sg W gf' W.length L → L.length ≤ W.length → Fw A B [a, g] → Q 1 B) : wp_N_readPieces a A Q :=
  ⟨_, rp_all (A0 := A) (Q := Q) hW hWb W.length 0 W.length [] false false A gf (by omega) (by omega) (Nat.le_refl _) (fun z => by cases z) h ⟨fun i hi => absurd hi (by omega), fun c j _ => ⟨fun ⟨i, i1, _⟩ => absurd i1 (by omega), fun z => by rw [sgn_no (by simp)] at z; cases z⟩⟩ (Fw.rf _ _) h0 h1⟩
end RPT
