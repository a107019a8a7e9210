/-! Patterns of the reference: pieces, rows -/
def pcT (P : List Nat) (c : Nat) : Bool := if P.getD 0 0 = 46 then true else if P.getD 0 0 = 91 then decide (c ∈ (P.drop 1).dropLast) else decide (P.getD 0 0 = c)
def thr (X P : List Nat) (mk : Nat) (f : Nat → Bool) : Nat → Bool
  | 0 => decide (mk ≠ 0) && f 0
  | i + 1 => (decide (mk ≠ 0) && f (i + 1)) || ((if mk = 2 then thr X P mk f i else f i) && decide (i < X.length) && pcT P (X.getD i 0))
def mkO (Y : List Nat) : Nat := if bt Y 0 = 42 then 2 else if bt Y 0 = 63 then 1 else 0
abbrev Tk : Type := Option (List Nat × Nat)
def tks : Nat → List Nat → Option (List Tk)
  | 0, _ => some []
  | n + 1, Y => if Y = [] then some [] else if bt Y 0 = 124 then (tks n (Y.drop 1)).map (List.cons none) else if pe Y = 0 then none else (tks n (Y.drop (pe Y + (if mkO (Y.drop (pe Y)) = 0 then 0 else 1)))).map (List.cons (some (Y.take (pe Y), mkO (Y.drop (pe Y)))))
def fitk (X : List Nat) : List Tk → (Nat → Bool) → Bool
  | [], f => f X.length
  | none :: L, f => f X.length || fitk X L (fun i => decide (i = 0))
  | some x :: L, f => fitk X L (thr X x.1 x.2 f)
theorem sl_pre {T : List Nat} {k e : Nat} (h1 : k < e) (h2 : e ≤ T.length) : ((sl T k e).drop 1).dropLast = sl T (k + 1) (e - 1) := by
  rw [sl_drop, List.dropLast_eq_take, sl_len (by omega) h2]
  by_cases q : k + 1 < e
  · rw [sl_take (by omega)]
    congr 1
    omega
  · rw [sl_nil (f := k + 1) (t := e) (by omega), sl_nil (by omega)]
    simp
section PU
variable {s : RS} {m : Nat} {nm : Int} {T X : List Nat}
theorem sl_takes {Q : Int32 → RS → Prop} {p1 : Int32} {e c : Nat} (h : Tx s m nm T) (he : e ≤ T.length) (he1 : 1 ≤ e) (hc : c < 256) : ∀ j i (g : Bool), i + j = e - 1 → Q (iI (bI (g || decide (c ∈ sl T i (e - 1))))) s → vq_M_takes_49 (iI m) p1 (iI e) (iI c) Q (j + 1) (iI (bI g)) (iI i) s := by
  have h1 := h.1
  have h2 := h.2.1
  intro j
  induction j with
  | zero =>
    intro i g hi hQ
    show vb_M_takes_49 _ _ _ _ _ _ _ _ _
    unfold vb_M_takes_49
    rw [if_pos (by simp (disch := omega) only [iI_lit, iI_add, iI_sub, iI_mul, iI_neg, iI_lt, iI_le, iI_eq] <;> omega)]
    rw [sl_nil (by omega)] at hQ
    simp only [List.not_mem_nil, decide_false, Bool.or_false] at hQ
    exact ⟨bI_b g, hQ⟩
  | succ j ih =>
    intro i g hi hQ
    show vb_M_takes_49 _ _ _ _ _ _ _ _ _
    unfold vb_M_takes_49
    rw [if_neg (by simp (disch := omega) only [iI_lit, iI_add, iI_sub, iI_mul, iI_neg, iI_lt, iI_le, iI_eq] <;> omega)]
    rw [sl_cons (show i < e - 1 by omega) (by omega)] at hQ
    have hb := bt_at (T := T) (k := i) (by omega)
    rw [show iI (i : Int) + 1 = iI ((i + 1 : Nat) : Int) from iI_add _ 1]
    generalize T.getD i 0 = d at *
    cases g with
    | false =>
      rw [if_pos (by decide)]
      refine sm_letterIs c h (by omega) hc rfl (fun q => ?_) (fun q => ?_)
      · refine ih (i + 1) true (by omega) ?_
        have : c = d := by omega
        simpa [this] using hQ
      · refine ih (i + 1) false (by omega) ?_
        have : ¬ c = d := by omega
        simpa [this] using hQ
    | true =>
      rw [if_neg (by decide)]
      exact ih (i + 1) true (by omega) (by simpa using hQ)
theorem sm_takes {Q : Int32 → RS → Prop} {k e c : Nat} (h : Tx s m nm T) (hk : k < e) (he : e ≤ T.length) (hc : c < 256) (hQ : Q (iI (bI (pcT (sl T k e) c))) s) : vp_M_takes (iI m) (iI k) (iI e) (iI c) s Q := by
  have h1 := h.1
  have h2 := h.2.1
  have hb := bt_at (T := T) (k := k) (by omega)
  unfold vp_M_takes
  unfold pcT at hQ
  rw [sl_pre hk he, sl_cons hk he] at hQ
  have e0 : ∀ Y : List Nat, (T.getD k 0 :: Y).getD 0 0 = T.getD k 0 := fun _ => rfl
  rw [e0] at hQ
  refine sm_letterIs 46 h (by omega) (by decide) rfl (fun q => ?_) (fun q => ?_)
  · rw [if_pos (show T.getD k 0 = 46 by omega)] at hQ
    exact hQ
  · rw [if_neg (show ¬ T.getD k 0 = 46 by omega)] at hQ
    refine sm_letterIs 91 h (by omega) (by decide) rfl (fun q2 => ?_) (fun q2 => ?_)
    · rw [if_pos (show T.getD k 0 = 91 by omega)] at hQ
      refine wL.i ?_
      rw [show iI (k : Int) + 1 = iI ((k + 1 : Nat) : Int) from iI_add _ 1]
      by_cases z : k + 1 ≤ e - 1
      · exact ⟨_, sl_takes h he (by omega) hc (e - 1 - (k + 1)) (k + 1) false (by omega) (by simpa using hQ)⟩
      · refine ⟨1, ?_⟩
        show vb_M_takes_49 _ _ _ _ _ _ _ _ _
        unfold vb_M_takes_49
        rw [if_pos (by simp (disch := omega) only [iI_lit, iI_add, iI_sub, iI_mul, iI_neg, iI_lt, iI_le, iI_eq] <;> omega)]
        rw [sl_nil (by omega)] at hQ
        simp only [List.not_mem_nil, decide_false] at hQ
        exact ⟨Or.inl rfl, hQ⟩
    · rw [if_neg (show ¬ T.getD k 0 = 91 by omega)] at hQ
      refine sm_letterIs c h (by omega) hc rfl (fun q3 => ?_) (fun q3 => ?_)
      · rw [decide_eq_true (show T.getD k 0 = c by omega)] at hQ
        exact hQ
      · rw [decide_eq_false (show ¬ T.getD k 0 = c by omega)] at hQ
        exact hQ
theorem Fo.el (h : Fo s X) {i : Nat} (hi : i < X.length) (h64 : X.length ≤ 40) {K : Int32 → Prop} (hK : K (iI (X.getD i 0))) : vA s 39 (iI i) K := by
  refine vA_i (by omega) (show (i : Int) < (64 : Nat) by omega) (by decide) ?_
  rw [show (i : Int).toNat = i from rfl, (h.2 i hi).2]
  exact hK
theorem sl_through {Q : Int64 → RS → Prop} {k e mk : Nat} {u6 : Int32} {S : Int64} {f : Nat → Bool} (h : Tx s m nm T) (hF : Fo s X) (hX : X.length ≤ 40) (hk : k < e) (he : e ≤ T.length) (hS : Bs S f) (h6 : u6 = 42 ↔ mk = 2) (hQ : ∀ N, Bs N (thr X (sl T k e) mk f) → Q N s) : ∀ j i N, i + j = X.length → Bs N (fun x => if x ≤ i then thr X (sl T k e) mk f x else decide (mk ≠ 0) && f x) → vq_M_through_33 (iI m) (iI k) (iI e) S Q (j + 1) u6 N (iI i) s := by
  intro j
  induction j with
  | zero =>
    intro i N hi hN
    show vb_M_through_33 _ _ _ _ _ _ _ _ _ _
    unfold vb_M_through_33
    refine wL.i ?_
    rw [hF.1, if_pos (by simp (disch := omega) only [iI_lit, iI_add, iI_sub, iI_mul, iI_neg, iI_lt, iI_le, iI_eq] <;> omega)]
    refine hQ N (fun x hx => ?_)
    rw [hN x hx]
    dsimp only
    by_cases q : x ≤ i
    · rw [if_pos q]
    · rw [if_neg q]
      obtain ⟨y, rfl⟩ : ∃ y, x = y + 1 := ⟨x - 1, by omega⟩
      unfold thr
      rw [decide_eq_false (show ¬ y < X.length by omega)]
      simp
  | succ j ih =>
    intro i N hi hN
    have hx := (hF.2 i (by omega)).1
    show vb_M_through_33 _ _ _ _ _ _ _ _ _ _
    unfold vb_M_through_33
    refine wL.i ?_
    rw [hF.1, if_neg (by simp (disch := omega) only [iI_lit, iI_add, iI_sub, iI_mul, iI_neg, iI_lt, iI_le, iI_eq] <;> omega)]
    have nx : ∀ (g : Bool) (N' : Int64), g = ((if mk = 2 then thr X (sl T k e) mk f i else f i) && pcT (sl T k e) (X.getD i 0)) → (∀ y, y < 64 → N'.toBitVec.getLsbD y = ((if y ≤ i then thr X (sl T k e) mk f y else decide (mk ≠ 0) && f y) || (g && decide (y = i + 1)))) → vq_M_through_33 (iI m) (iI k) (iI e) S Q (j + 1) u6 N' (iI ((i + 1 : Nat) : Int)) s := fun g N' hg hN' => by
      refine ih (i + 1) N' (by omega) (fun y hy => ?_)
      rw [hN' y hy]
      dsimp only
      by_cases q : y ≤ i
      · rw [if_pos q, if_pos (show y ≤ i + 1 by omega), decide_eq_false (show ¬ y = i + 1 by omega), Bool.and_false, Bool.or_false]
      · rw [if_neg q]
        by_cases q2 : y = i + 1
        · subst q2
          rw [if_pos (Nat.le_refl _), hg]
          rw [show thr X (sl T k e) mk f (i + 1) = ((decide (mk ≠ 0) && f (i + 1)) || ((if mk = 2 then thr X (sl T k e) mk f i else f i) && decide (i < X.length) && pcT (sl T k e) (X.getD i 0))) from rfl]
          rw [decide_eq_true (show i < X.length by omega)]
          simp
        · rw [if_neg (show ¬ y ≤ i + 1 by omega), decide_eq_false q2, Bool.and_false, Bool.or_false]
    have no : ((if mk = 2 then thr X (sl T k e) mk f i else f i) && pcT (sl T k e) (X.getD i 0)) = false → vq_M_through_91 (iI m) (iI k) (iI e) S Q (vq_M_through_33 (iI m) (iI k) (iI e) S Q (j + 1)) u6 N (iI i) s := fun z => by
      unfold vq_M_through_91 vq_M_through_92
      rw [if_pos rfl]
      unfold vq_M_through_113
      rw [show iI (i : Int) + 1 = iI ((i + 1 : Nat) : Int) from iI_add _ 1]
      exact nx false N z.symm (fun y hy => by rw [hN y hy]; simp)
    have main : ∀ F : Int64, (F.toBitVec.getLsbD i = (if mk = 2 then thr X (sl T k e) mk f i else f i)) → vq_M_through_56 (iI m) (iI k) (iI e) S Q (vq_M_through_33 (iI m) (iI k) (iI e) S Q (j + 1)) u6 N (iI i) F s := fun F hFb => by
      unfold vq_M_through_56
      by_cases q : F.toBitVec.getLsbD i = true
      · rw [if_pos ((bit_t (by omega)).mpr q)]
        rw [q] at hFb
        rw [← hFb, Bool.true_and] at no
        refine hF.el (by omega) hX ?_
        refine sm_takes h hk he hx ?_
        cases hp : pcT (sl T k e) (X.getD i 0) with
        | false =>
          rw [if_pos (by decide)]
          exact no hp
        | true =>
          rw [if_neg (by decide)]
          unfold vq_M_through_92
          rw [if_neg (by decide)]
          unfold vq_M_through_113
          rw [show iI (i : Int) + 1 = iI ((i + 1 : Nat) : Int) from iI_add _ 1]
          have hb : Bs (N ||| wsl 1 (iI ((i + 1 : Nat) : Int))) (fun y => (if y ≤ i then thr X (sl T k e) mk f y else decide (mk ≠ 0) && f y) || decide (y = i + 1)) := hN.add (by omega) (fun y => rfl)
          refine nx true _ (by rw [← hFb, hp]; rfl) (fun y hy => ?_)
          rw [hb y hy, Bool.true_and]
      · rw [if_neg (fun z => q ((bit_t (by omega)).mp z))]
        refine no ?_
        rw [← hFb]
        cases hz : F.toBitVec.getLsbD i with
        | false => rfl
        | true => exact absurd hz q
    by_cases q : mk = 2
    · rw [if_pos (h6.mpr q)]
      refine main N ?_
      rw [if_pos q, hN i (by omega)]
      dsimp only
      rw [if_pos (Nat.le_refl _)]
    · rw [if_neg (fun z => q (h6.mp z))]
      refine main S ?_
      rw [if_neg q, hS i (by omega)]
theorem sm_through {Q : Int64 → RS → Prop} {k e : Nat} {S : Int64} {f : Nat → Bool} (h : Tx s m nm T) (hF : Fo s X) (hX : X.length ≤ 40) (hk : k < e) (he : e ≤ T.length) (hS : Bs S f) (hQ : ∀ N, Bs N (thr X (sl T k e) (mkO (T.drop e)) f) → Q N s) : vp_M_through (iI m) (iI k) (iI e) S s Q := by
  have h2 := h.2.1
  have hr := h.rg e
  unfold mkO at hQ
  rw [bt_drop, Nat.add_zero] at hQ
  have base : ∀ (mk : Nat) (N : Int64), mk ≠ 0 → Bs N f → Bs N (fun x => if x ≤ 0 then thr X (sl T k e) mk f x else decide (mk ≠ 0) && f x) := fun mk N hm hN x hx => by
    rw [hN x hx]
    dsimp only
    rw [decide_eq_true hm, Bool.true_and]
    by_cases q : x ≤ 0
    · rw [if_pos q]
      have : x = 0 := by omega
      subst this
      unfold thr
      rw [decide_eq_true hm, Bool.true_and]
    · rw [if_neg q]
  unfold vp_M_through
  refine sm_letterOf h (by omega) ?_
  by_cases q : bt T e = 42
  · rw [if_pos q] at hQ
    rw [if_pos (by simp (disch := omega) only [iI_lit, iI_add, iI_sub, iI_mul, iI_neg, iI_lt, iI_le, iI_eq] <;> omega)]
    exact ⟨_, sl_through (mk := 2) h hF hX hk he hS ⟨fun _ => rfl, fun _ => by rw [q]; rfl⟩ hQ X.length 0 S (by omega) (base 2 S (by decide) hS)⟩
  · rw [if_neg q] at hQ
    rw [if_neg (by simp (disch := omega) only [iI_lit, iI_add, iI_sub, iI_mul, iI_neg, iI_lt, iI_le, iI_eq] <;> omega)]
    by_cases q2 : bt T e = 63
    · rw [if_pos q2] at hQ
      rw [if_pos (by simp (disch := omega) only [iI_lit, iI_add, iI_sub, iI_mul, iI_neg, iI_lt, iI_le, iI_eq] <;> omega)]
      exact ⟨_, sl_through (mk := 1) h hF hX hk he hS ⟨fun z => absurd z (by simp (disch := omega) only [iI_lit, iI_add, iI_sub, iI_mul, iI_neg, iI_lt, iI_le, iI_eq] <;> omega), fun z => absurd z (by decide)⟩ hQ X.length 0 S (by omega) (base 1 S (by decide) hS)⟩
    · rw [if_neg q2] at hQ
      rw [if_neg (by simp (disch := omega) only [iI_lit, iI_add, iI_sub, iI_mul, iI_neg, iI_lt, iI_le, iI_eq] <;> omega)]
      refine ⟨_, sl_through (mk := 0) h hF hX hk he hS ⟨fun z => absurd z (by simp (disch := omega) only [iI_lit, iI_add, iI_sub, iI_mul, iI_neg, iI_lt, iI_le, iI_eq] <;> omega), fun z => absurd z (by decide)⟩ hQ X.length 0 0 (by omega) (fun x hx => ?_)⟩
      rw [Bs.z x hx]
      dsimp only
      by_cases q3 : x ≤ 0
      · rw [if_pos q3]
        have : x = 0 := by omega
        subst this
        rfl
      · rw [if_neg q3]
        rfl
theorem mkO_0 (Y : List Nat) : mkO Y = 0 ↔ ¬ bt Y 0 = 42 ∧ ¬ bt Y 0 = 63 := by
  unfold mkO
  by_cases q : bt Y 0 = 42
  · rw [if_pos q]
    omega
  · rw [if_neg q]
    by_cases r : bt Y 0 = 63
    · rw [if_pos r]
      omega
    · rw [if_neg r]
      omega
theorem tks_nil (n : Nat) : tks n [] = some [] := by
  cases n with
  | zero => rfl
  | succ n => unfold tks; rw [if_pos rfl]
theorem drop_ne {k : Nat} (hk : k < T.length) : T.drop k ≠ [] := fun z => by
  have := congrArg List.length z
  rw [List.length_drop] at this
  simp at this
  omega
/-- the step behind a piece -/
theorem sm_skip {e : Nat} {K : Int32 → RS → Prop} (h : Tx s m nm T) (he : e ≤ T.length) (hK : K (iI ((e + (if mkO (T.drop e) = 0 then 0 else 1) : Nat) : Int)) s) : vp_M_letterOf (iI m) (iI e) s (fun x4 s => if x4 = (42 : Int32) then (wL ((iI e + (1 : Int32))) (fun x5 => K x5 s)) else (vp_M_letterOf (iI m) (iI e) s (fun x6 s => if x6 = (63 : Int32) then (wL ((iI e + (1 : Int32))) (fun x7 => K x7 s)) else (K (iI e) s)))) := by
  have h2 := h.2.1
  have hm := mkO_0 (T.drop e)
  rw [bt_drop, Nat.add_zero] at hm
  refine sm_letterIs 42 h (by omega) (by decide) rfl (fun q => ?_) (fun q => ?_)
  · refine wL.i ?_
    rw [if_neg (fun z => (hm.mp z).1 q)] at hK
    rw [show iI (e : Int) + 1 = iI ((e + 1 : Nat) : Int) from iI_add _ 1]
    exact hK
  · refine sm_letterIs 63 h (by omega) (by decide) rfl (fun q2 => ?_) (fun q2 => ?_)
    · refine wL.i ?_
      rw [if_neg (fun z => (hm.mp z).2 q2)] at hK
      rw [show iI (e : Int) + 1 = iI ((e + 1 : Nat) : Int) from iI_add _ 1]
      exact hK
    · rw [if_pos (hm.mpr ⟨q, q2⟩)] at hK
      exact hK
theorem sl_isPattern {Q : Int32 → RS → Prop} (h : Tx s m nm T) : ∀ n k, T.length ≤ k + n → k ≤ T.length + 1 → Q (iI (bI (tks n (T.drop k)).isSome)) s → vq_M_isPattern_9 (iI m) Q (n + 1) (iI k) s := by
  have h1 := h.1
  have h2 := h.2.1
  intro n
  induction n with
  | zero =>
    intro k hn hk hQ
    show vb_M_isPattern_9 _ _ _ _ _
    unfold vb_M_isPattern_9
    refine h.len ?_
    rw [if_pos (by simp (disch := omega) only [iI_lit, iI_add, iI_sub, iI_mul, iI_neg, iI_lt, iI_le, iI_eq] <;> omega)]
    exact hQ
  | succ n ih =>
    intro k hn hk hQ
    show vb_M_isPattern_9 _ _ _ _ _
    unfold vb_M_isPattern_9
    refine h.len ?_
    by_cases qe : T.length ≤ k
    · rw [if_pos (by simp (disch := omega) only [iI_lit, iI_add, iI_sub, iI_mul, iI_neg, iI_lt, iI_le, iI_eq] <;> omega)]
      rw [List.drop_of_length_le qe, tks_nil] at hQ
      exact hQ
    rw [if_neg (by simp (disch := omega) only [iI_lit, iI_add, iI_sub, iI_mul, iI_neg, iI_lt, iI_le, iI_eq] <;> omega)]
    unfold tks at hQ
    rw [if_neg (drop_ne (by omega)), bt_drop, Nat.add_zero, List.drop_drop] at hQ
    refine sm_letterIs 124 h (by omega) (by decide) rfl (fun q => ?_) (fun q => ?_)
    · rw [if_pos (show bt T k = 124 from q), Option.isSome_map] at hQ
      rw [show iI (k : Int) + 1 = iI ((k + 1 : Nat) : Int) from iI_add _ 1]
      exact ih (k + 1) (by omega) (by omega) hQ
    · rw [if_neg (show ¬ bt T k = 124 from q)] at hQ
      refine sm_pieceEnd h (by omega) ?_
      have hp := pe_le (T.drop k)
      rw [List.length_drop] at hp
      by_cases q2 : pe (T.drop k) = 0
      · rw [if_pos q2] at hQ
        rw [if_pos q2, if_neg (by simp (disch := omega) only [iI_lit, iI_add, iI_sub, iI_mul, iI_neg, iI_lt, iI_le, iI_eq] <;> omega)]
        exact hQ
      · rw [if_neg q2, List.drop_drop, Option.isSome_map, List.drop_drop] at hQ
        rw [if_neg q2, if_pos (by simp (disch := omega) only [iI_lit, iI_add, iI_sub, iI_mul, iI_neg, iI_lt, iI_le, iI_eq] <;> omega)]
        refine sm_skip h (by omega) ?_
        refine ih _ (by omega) ?_ (by rw [Nat.add_assoc]; exact hQ)
        by_cases z : mkO (T.drop (k + pe (T.drop k))) = 0
        · rw [if_pos z]
          omega
        · rw [if_neg z]
          omega
theorem sm_isPattern {Q : Int32 → RS → Prop} (h : Tx s m nm T) (hQ : Q (iI (bI (tks (T.length - (nm + 1).toNat) (T.drop (nm + 1).toNat)).isSome)) s) : vp_M_isPattern (iI m) s Q := by
  have h2 := h.2.1
  have h3 := h.2.2.1
  unfold vp_M_isPattern
  refine h.nmd (wL.i ?_)
  rw [show iI nm + 1 = iI (((nm + 1).toNat : Nat) : Int) from (iI_add nm 1).trans (by congr 1; omega)]
  exact ⟨_, sl_isPattern h (T.length - (nm + 1).toNat) (nm + 1).toNat (by omega) (by omega) hQ⟩
theorem sl_fits {Q : Int32 → RS → Prop} (h : Tx s m nm T) (hF : Fo s X) (hX : X.length ≤ 40) : ∀ n k (L : List Tk) (S : Int64) (f : Nat → Bool) (g : Bool), T.length ≤ k + n → k ≤ T.length + 1 → tks n (T.drop k) = some L → Bs S f → Q (iI (bI (g || fitk X L f))) s → vq_M_fits_15 (iI m) Q (n + 1) S (iI (bI g)) (iI k) s := by
  have h1 := h.1
  have h2 := h.2.1
  have fin : ∀ (S : Int64) (f : Nat → Bool) (g : Bool), Bs S f → Q (iI (bI (g || f X.length))) s → vq_M_fits_129 (iI m) Q S (iI (bI g)) s := fun S f g hS hq => by
    unfold vq_M_fits_129
    cases g with
    | false =>
      rw [if_pos (by decide)]
      refine wL.i ?_
      rw [hF.1]
      rw [Bool.false_or, ← hS X.length (by omega)] at hq
      by_cases q : S.toBitVec.getLsbD X.length = true
      · rw [if_pos ((bit_t (by omega)).mpr q)]
        rw [q] at hq
        exact hq
      · rw [if_neg (fun z => q ((bit_t (by omega)).mp z))]
        rw [show S.toBitVec.getLsbD X.length = false by simpa using q] at hq
        exact hq
    | true =>
      rw [if_neg (by decide)]
      exact hq
  intro n
  induction n with
  | zero =>
    intro k L S f g hn hk hL hS hQ
    show vb_M_fits_15 _ _ _ _ _ _ _
    unfold vb_M_fits_15
    refine h.len ?_
    rw [if_pos (by simp (disch := omega) only [iI_lit, iI_add, iI_sub, iI_mul, iI_neg, iI_lt, iI_le, iI_eq] <;> omega)]
    rw [List.drop_of_length_le (by omega), tks_nil] at hL
    cases hL
    exact fin S f g hS hQ
  | succ n ih =>
    intro k L S f g hn hk hL hS hQ
    show vb_M_fits_15 _ _ _ _ _ _ _
    unfold vb_M_fits_15
    refine h.len ?_
    by_cases qe : T.length ≤ k
    · rw [if_pos (by simp (disch := omega) only [iI_lit, iI_add, iI_sub, iI_mul, iI_neg, iI_lt, iI_le, iI_eq] <;> omega)]
      rw [List.drop_of_length_le qe, tks_nil] at hL
      cases hL
      exact fin S f g hS hQ
    rw [if_neg (by simp (disch := omega) only [iI_lit, iI_add, iI_sub, iI_mul, iI_neg, iI_lt, iI_le, iI_eq] <;> omega)]
    unfold tks at hL
    rw [if_neg (drop_ne (by omega)), bt_drop, Nat.add_zero, List.drop_drop] at hL
    refine sm_letterIs 124 h (by omega) (by decide) rfl (fun q => ?_) (fun q => ?_)
    · rw [if_pos (show bt T k = 124 from q), Option.map_eq_some_iff] at hL
      obtain ⟨L', hL', rfl⟩ := hL
      have nx : ∀ g2 : Bool, Q (iI (bI (g2 || fitk X L' (fun i => decide (i = 0))))) s → vq_M_fits_15 (iI m) Q (n + 1) 1 (iI (bI g2)) (iI k + 1) s := fun g2 hq => by
        rw [show iI (k : Int) + 1 = iI ((k + 1 : Nat) : Int) from iI_add _ 1]
        exact ih (k + 1) L' 1 _ g2 (by omega) (by omega) hL' Bs.o hq
      unfold fitk at hQ
      cases g with
      | false =>
        rw [if_pos (by decide)]
        refine wL.i ?_
        rw [hF.1]
        rw [Bool.false_or, ← hS X.length (by omega)] at hQ
        by_cases q : S.toBitVec.getLsbD X.length = true
        · rw [if_pos ((bit_t (by omega)).mpr q)]
          rw [q] at hQ
          unfold vq_M_fits_56 vq_M_fits_61
          exact nx true hQ
        · rw [if_neg (fun z => q ((bit_t (by omega)).mp z))]
          rw [show S.toBitVec.getLsbD X.length = false by simpa using q] at hQ
          unfold vq_M_fits_61
          exact nx false hQ
      | true =>
        rw [if_neg (by decide)]
        unfold vq_M_fits_56 vq_M_fits_61
        exact nx true hQ
    · rw [if_neg (show ¬ bt T k = 124 from q)] at hL
      have hp := pe_le (T.drop k)
      rw [List.length_drop] at hp
      by_cases q2 : pe (T.drop k) = 0
      · rw [if_pos q2] at hL
        cases hL
      rw [if_neg q2, List.drop_drop, List.drop_drop, Option.map_eq_some_iff] at hL
      obtain ⟨L', hL', rfl⟩ := hL
      refine sm_pieceEnd h (by omega) ?_
      rw [if_neg q2]
      have et : (T.drop k).take (pe (T.drop k)) = sl T k (k + pe (T.drop k)) := by
        unfold sl
        congr 1
        omega
      rw [et] at hQ
      refine sm_through h hF hX (by omega) (by omega) hS (fun N hN => ?_)
      refine sm_skip h (by omega) ?_
      unfold fitk at hQ
      refine ih _ L' N _ g (by omega) ?_ (by rw [Nat.add_assoc]; exact hL') hN hQ
      by_cases z : mkO (T.drop (k + pe (T.drop k))) = 0
      · rw [if_pos z]
        omega
      · rw [if_neg z]
        omega
theorem sm_fits {Q : Int32 → RS → Prop} {L : List Tk} (h : Tx s m nm T) (hF : Fo s X) (hX : X.length ≤ 40) (hL : tks (T.length - (nm + 1).toNat) (T.drop (nm + 1).toNat) = some L) (hQ : Q (iI (bI (fitk X L (fun i => decide (i = 0))))) s) : vp_M_fits (iI m) s Q := by
  have h2 := h.2.1
  have h3 := h.2.2.1
  unfold vp_M_fits
  refine h.nmd (wL.i ?_)
  rw [show iI nm + 1 = iI (((nm + 1).toNat : Nat) : Int) from (iI_add nm 1).trans (by congr 1; omega)]
  exact ⟨_, sl_fits h hF hX (T.length - (nm + 1).toNat) (nm + 1).toNat L 1 _ false (by omega) (by omega) hL Bs.o (by simpa using hQ)⟩
end PU
