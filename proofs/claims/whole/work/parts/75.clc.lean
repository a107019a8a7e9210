/-! A request line's target, as the class takes it apart -/
theorem okc_app {X Y : List Nat} {c : Nat} (hc : hxv (c : Int) = -1) : okc (X ++ c :: Y) = okc X := by
  have g1 : ∀ a, gcc c a = false := fun a => by
    unfold gcc
    refine decide_eq_false (fun z => ?_)
    omega
  have g2 : ∀ a, gcc a c = false := fun a => by
    unfold gcc
    refine decide_eq_false (fun z => ?_)
    omega
  match X with
  | [] =>
    cases Y with
    | nil => rfl
    | cons y Y => exact g1 y
  | [x] => exact g2 x
  | x :: y :: X => rfl
theorem gc_app {c : Nat} (hc : hxv (c : Int) = -1) (hc2 : c ≠ 37) {Y : List Nat} : ∀ X : List Nat, gc (X ++ c :: Y) = (gc X && gc Y)
  | [] => by
    rw [List.nil_append]
    show ((if c = 37 then okc Y else true) && gc Y) = _
    rw [if_neg hc2]
    rfl
  | a :: X => by
    rw [List.cons_append]
    show ((if a = 37 then okc (X ++ c :: Y) else true) && gc (X ++ c :: Y)) = (((if a = 37 then okc X else true) && gc X) && gc Y)
    rw [okc_app hc, gc_app hc hc2 X, Bool.and_assoc]
theorem fi_split {c : Nat} {Z : List Nat} (h : fi c Z < Z.length) : Z = Z.take (fi c Z) ++ c :: Z.drop (fi c Z + 1) := by
  have e : Z.getD (fi c Z) 0 = c := by
    have := List.findIdx_getElem (p := (· == c)) (xs := Z) (w := h)
    have e2 : Z.getD (fi c Z) 0 = Z[fi c Z]'h := by simp [List.getD_eq_getElem?_getD, h]
    rw [e2]
    have t2 : (Z[fi c Z]'h == c) = true := this
    simpa using t2
  conv => lhs; rw [← List.take_append_drop (fi c Z) Z, ls_drop h, e]
theorem fi_all {c : Nat} {Z : List Nat} (h : ¬ fi c Z < Z.length) : fi c Z = Z.length := by
  have := fi_le c Z
  omega
/-- does the class take these parameters, so many being there? -/
def cps : Nat → List Nat → Nat → Bool
  | 0, _, _ => true
  | n + 1, Z, c => if fi 61 (Z.take (fi 38 Z)) = 0 ∨ 4 ≤ c then false else if fi 38 Z < Z.length then cps n (Z.drop (fi 38 Z + 1)) (c + 1) else true
def cpl : Nat → List Nat → List (List Nat × List Nat)
  | 0, _ => []
  | n + 1, Z => (dec 0 ((Z.take (fi 38 Z)).take (fi 61 (Z.take (fi 38 Z)))), dec 0 ((Z.take (fi 38 Z)).drop (fi 61 (Z.take (fi 38 Z)) + 1))) :: (if fi 38 Z < Z.length then cpl n (Z.drop (fi 38 Z + 1)) else [])
theorem gc_eq61 (g : List Nat) : gc g = (gc (g.take (fi 61 g)) && (decide (fi 61 g = g.length) || gc (g.drop (fi 61 g + 1)))) := by
  by_cases q : fi 61 g < g.length
  · conv => lhs; rw [fi_split q]
    rw [gc_app (by decide) (by decide), decide_eq_false (by omega), Bool.false_or]
  · have := fi_all q
    rw [decide_eq_true this, Bool.true_or, Bool.and_true, this, List.take_length]
theorem fi_nil0 (c : Nat) : fi c [] = 0 := rfl
theorem pg_cps : ∀ (n : Nat) (Z : List Nat) (c : Nat), Z.length < n → c ≤ 4 → gc Z = true → ((decide (Z ≠ []) && (pgo n Z).1 && decide (c + (pgo n Z).2 ≤ 4)) = cps n Z c) ∧ (cps n Z c = true → prm n Z = cpl n Z) := by
  intro n
  induction n with
  | zero => intro Z c h; omega
  | succ n ih =>
    intro Z c hl hc hg
    unfold cps
    by_cases q0 : Z = []
    · subst q0
      rw [if_pos (show fi 61 (List.take (fi 38 []) []) = 0 ∨ 4 ≤ c from Or.inl rfl)]
      exact ⟨rfl, fun h => by cases h⟩
    unfold pgo prm cpl
    rw [if_neg q0, if_neg q0]
    dsimp only
    rw [decide_eq_true (show Z ≠ [] from q0), Bool.true_and]
    have hpl : 0 < Z.length := List.length_pos_iff.mpr q0
    have hfl := fi_le 38 Z
    by_cases q1 : fi 61 (Z.take (fi 38 Z)) = 0
    · rw [if_pos (Or.inl q1)]
      unfold pok
      rw [q1]
      exact ⟨by simp, fun h => by cases h⟩
    by_cases q2 : 4 ≤ c
    · rw [if_pos (Or.inr q2)]
      refine ⟨?_, fun h => by cases h⟩
      rw [decide_eq_false (show ¬ c + ((pgo n (Z.drop (fi 38 Z + 1))).2 + 1) ≤ 4 by omega), Bool.and_false]
    rw [if_neg (fun z => by rcases z with z | z; exact q1 z; exact q2 z)]
    have hpk : pok (Z.take (fi 38 Z)) = gc (Z.take (fi 38 Z)) := by
      unfold pok
      rw [decide_eq_true (show 0 < fi 61 (Z.take (fi 38 Z)) by omega), Bool.true_and, ← gc_eq61]
    by_cases q3 : fi 38 Z < Z.length
    · rw [if_pos q3, if_pos q3]
      have hg2 := hg
      rw [fi_split q3, gc_app (by decide) (by decide), Bool.and_eq_true] at hg2
      have hl2 : (Z.drop (fi 38 Z + 1)).length < n := by
        rw [List.length_drop]
        omega
      have := ih (Z.drop (fi 38 Z + 1)) (c + 1) hl2 (by omega) hg2.2
      rw [hpk, hg2.1, Bool.true_and, ← this.1]
      refine ⟨?_, fun h => by rw [this.2 (this.1 ▸ h)]⟩
      have e1 : decide (fi 38 Z + 1 ≠ Z.length) = decide (Z.drop (fi 38 Z + 1) ≠ []) := by
        refine decide_eq_decide.mpr ⟨fun z y => z ?_, fun z y => z ?_⟩
        · have := congrArg List.length y
          rw [List.length_drop] at this
          simp at this
          omega
        · rw [List.drop_of_length_le (by omega)]
      rw [e1, show c + ((pgo n (Z.drop (fi 38 Z + 1))).2 + 1) = c + 1 + (pgo n (Z.drop (fi 38 Z + 1))).2 by omega]
    · rw [if_neg q3, if_neg q3]
      have hfa := fi_all q3
      have hd : Z.drop (fi 38 Z + 1) = [] := List.drop_of_length_le (by omega)
      have ht : Z.take (fi 38 Z) = Z := by rw [hfa, List.take_length]
      have hp0 : pgo n [] = (true, 0) := by
        cases n with
        | zero => rfl
        | succ n => unfold pgo; rw [if_pos rfl]
      have hr0 : prm n [] = [] := by
        cases n with
        | zero => rfl
        | succ n => unfold prm; rw [if_pos rfl]
      rw [hpk, hd, hp0, hr0, ht, hg, decide_eq_true (show fi 38 Z + 1 ≠ Z.length by omega), decide_eq_true (show c + (0 + 1) ≤ 4 by omega)]
      exact ⟨rfl, fun _ => rfl⟩
theorem rlT_cps (T : List Nat) : rlT T = (gc T && (decide (fi 63 T = T.length) || cps (T.length + 1 - fi 63 T) (T.drop (fi 63 T + 1)) 0)) ∧ (rlT T = true → (if fi 63 T < T.length then cpl (T.length + 1 - fi 63 T) (T.drop (fi 63 T + 1)) else []) = prm (T.length + 1 - fi 63 T) (T.drop (fi 63 T + 1))) := by
  unfold rlT
  by_cases q : fi 63 T < T.length
  · have hg : gc T = (gc (T.take (fi 63 T)) && gc (T.drop (fi 63 T + 1))) := by
      conv => lhs; rw [fi_split q]
      rw [gc_app (by decide) (by decide)]
    rw [hg, decide_eq_false (show ¬ fi 63 T = T.length by omega), Bool.false_or, if_pos q]
    have e1 : decide (fi 63 T + 1 ≠ T.length) = decide (T.drop (fi 63 T + 1) ≠ []) := by
      refine decide_eq_decide.mpr ⟨fun z y => z ?_, fun z y => z ?_⟩
      · have := congrArg List.length y
        rw [List.length_drop] at this
        simp at this
        omega
      · rw [List.drop_of_length_le (by omega)]
    have hl : (T.drop (fi 63 T + 1)).length < T.length + 1 - fi 63 T := by
      rw [List.length_drop]
      omega
    cases hz : gc (T.drop (fi 63 T + 1)) with
    | true =>
      have := pg_cps (T.length + 1 - fi 63 T) (T.drop (fi 63 T + 1)) 0 hl (by omega) hz
      rw [Nat.zero_add] at this
      rw [e1, ← this.1]
      refine ⟨by simp only [Bool.and_true, Bool.and_assoc], fun h => (this.2 ?_).symm⟩
      rw [← this.1]
      simp only [Bool.and_eq_true] at h ⊢
      exact ⟨⟨h.1.1.2, h.1.2⟩, h.2⟩
    | false =>
      have hno : ∀ n (Z : List Nat), Z.length < n → gc Z = false → (pgo n Z).1 = false := by
        intro n
        induction n with
        | zero => intro Z h; omega
        | succ n ih =>
          intro Z h hg
          have q0 : Z ≠ [] := fun e => by rw [e] at hg; cases hg
          unfold pgo
          rw [if_neg q0]
          dsimp only
          have hfl := fi_le 38 Z
          by_cases q3 : fi 38 Z < Z.length
          · rw [fi_split q3, gc_app (by decide) (by decide)] at hg
            cases hh : gc (Z.take (fi 38 Z)) with
            | false =>
              have : pok (Z.take (fi 38 Z)) = false := by
                unfold pok
                rw [gc_eq61] at hh
                rw [Bool.and_assoc, hh, Bool.and_false]
              rw [this]
              rfl
            | true =>
              rw [hh, Bool.true_and] at hg
              rw [ih _ (by rw [List.length_drop]; omega) hg, Bool.and_false]
          · have hfa := fi_all q3
            have ht : Z.take (fi 38 Z) = Z := by rw [hfa, List.take_length]
            have : pok (Z.take (fi 38 Z)) = false := by
              unfold pok
              rw [ht]
              rw [gc_eq61] at hg
              rw [Bool.and_assoc, hg, Bool.and_false]
            rw [this]
            rfl
      rw [hno _ _ hl hz]
      exact ⟨by simp, fun h => by simp at h⟩
  · have hfa := fi_all q
    have hd : T.drop (fi 63 T + 1) = [] := List.drop_of_length_le (by omega)
    have hn : T.length + 1 - fi 63 T = 1 := by omega
    have e1 : pgo 1 [] = (true, 0) := rfl
    have e2 : prm 1 [] = [] := rfl
    rw [hd, hn, e1, e2, decide_eq_true hfa, if_neg q, hfa, List.take_length, decide_eq_true (show T.length + 1 ≠ T.length by omega)]
    exact ⟨by simp, fun _ => rfl⟩
/-! what the cells hold -/
def mtb (o : ab_O) : Bool := match o with
  | .inl _ => false
  | .inr (.inl _) => true
  | .inr (.inr (.inl _)) => true
  | .inr (.inr (.inr (.inl _))) => true
  | .inr (.inr (.inr (.inr (ci, _)))) => decide (ci = 3 ∨ ci = 4 ∨ ci = 5 ∨ ci = 7 ∨ ci = 12 ∨ ci = 14)
def Mu (A : ab_H) (W : List Nat) : Prop := ∀ w ∈ W, ∀ o, A w = some o → mtb o = true
theorem Mu.nil (A : ab_H) : Mu A [] := fun w hw => by cases hw
theorem Mu.c {A : ab_H} {w : Nat} {W : List Nat} {o : ab_O} (hw : A w = some o) (ho : mtb o = true) (h : Mu A W) : Mu A (w :: W) := fun x hx o' ho' => by
  rcases List.mem_cons.mp hx with e | e
  · rw [e, hw] at ho'
    cases ho'
    exact ho
  · exact h x e o' ho'
theorem Fw.im {A B : ab_H} {W : List Nat} {x : Nat} {o : ab_O} (h : Fw A B W) (hx : A x = some o) (ho : mtb o = false) (hW : Mu A W) : B x = some o := h x o hx (fun z => by
  have := hW x z o hx
  rw [ho] at this
  cases this)
/-- a piece of a request -/
def PtAt (A : ab_H) (y : Nat) (x : List Nat × List Nat) : Prop := ∃ sn sv, A y = some (oR (.inr (8, [va_rf (some sn), va_rf (some sv)]))) ∧ A sn = some (oS x.1) ∧ A sv = some (oS x.2)
def PtsAt (A : ab_H) (ys : List Nat) (L : List (List Nat × List Nat)) : Prop := ys.length = L.length ∧ ∀ (j y : Nat) (x : List Nat × List Nat), ys[j]? = some y → L[j]? = some x → PtAt A y x
theorem PtAt.fw {A B : ab_H} {W : List Nat} {y : Nat} {x : List Nat × List Nat} (h : PtAt A y x) (hF : Fw A B W) (hW : Mu A W) : PtAt B y x := by
  obtain ⟨sn, sv, h1, h2, h3⟩ := h
  exact ⟨sn, sv, hF.im h1 rfl hW, hF.im h2 rfl hW, hF.im h3 rfl hW⟩
theorem PtsAt.fw {A B : ab_H} {W ys : List Nat} {L : List (List Nat × List Nat)} (h : PtsAt A ys L) (hF : Fw A B W) (hW : Mu A W) : PtsAt B ys L := ⟨h.1, fun j y x h1 h2 => (h.2 j y x h1 h2).fw hF hW⟩
theorem PtsAt.nil (A : ab_H) : PtsAt A [] [] := ⟨rfl, fun j y x h => by simp at h⟩
theorem PtsAt.snoc {A : ab_H} {ys : List Nat} {L : List (List Nat × List Nat)} {y : Nat} {x : List Nat × List Nat} (h : PtsAt A ys L) (hy : PtAt A y x) : PtsAt A (ys ++ [y]) (L ++ [x]) := by
  refine ⟨by rw [List.length_append, List.length_append, h.1]; rfl, fun j z w h1 h2 => ?_⟩
  by_cases q : j < ys.length
  · rw [List.getElem?_append_left q] at h1
    rw [List.getElem?_append_left (by rw [← h.1]; exact q)] at h2
    exact h.2 j z w h1 h2
  · rw [List.getElem?_append_right (by omega)] at h1
    rw [List.getElem?_append_right (by rw [← h.1]; omega), ← h.1] at h2
    by_cases r : j - ys.length = 0
    · rw [r] at h1 h2
      cases h1
      cases h2
      exact hy
    · obtain ⟨v, hv⟩ : ∃ v, j - ys.length = v + 1 := ⟨j - ys.length - 1, by omega⟩
      rw [hv] at h1
      cases h1
theorem c_Pinit {A : ab_H} {b sn sv : Nat} {Q : ab_H → Prop} (h : A b = some (oR (.inr (8, [.null, .null])))) (hQ : ∀ A', A' b = some (oR (.inr (8, [va_rf (some sn), va_rf (some sv)]))) → Fw A A' [b] → Q A') : wp_P_init b (some sn) (some sv) A Q := by
  refine ⟨⟨b, rfl⟩, wpu h (Nat.le_of_ble_eq_true rfl) (fun A' h1 f1 => wpu h1 (Nat.le_of_ble_eq_true rfl) (fun A2 h2 f2 => hQ A2 h2 (f1.tr f2 (fun x hx => Or.inl hx))))⟩
