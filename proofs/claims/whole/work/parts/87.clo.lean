/-! Patterns: rows of pieces -/
def rowS (P : List Nat) (mz : Nat) (K : List Nat → Bool) : List Nat → Bool
  | [] => decide (mz ≠ 0) && K []
  | c :: X => (decide (mz ≠ 0) && K (c :: X)) || (pcT P c && (if mz = 2 then rowS P mz K X else K X))
def rowF : List (List Nat × Nat) → List Nat → Bool
  | [] => fun X => decide (X = [])
  | x :: ps => rowS x.1 x.2 (rowF ps)
theorem rowS_k {P : List Nat} {mz : Nat} {K : List Nat → Bool} {X : List Nat} (hm : mz ≠ 0) (h : K X = true) : rowS P mz K X = true := by
  cases X with
  | nil =>
    unfold rowS
    rw [decide_eq_true hm, h]
    rfl
  | cons c X =>
    unfold rowS
    rw [decide_eq_true hm, h]
    rfl
theorem rowS_idem {P : List Nat} {K : List Nat → Bool} : ∀ X : List Nat, rowS P 2 (rowS P 2 K) X = true → rowS P 2 K X = true
  | [], h => by
    unfold rowS at h
    simpa using h
  | c :: X, h => by
    unfold rowS at h
    rw [if_pos rfl, Bool.or_eq_true, Bool.and_eq_true, Bool.and_eq_true] at h
    rcases h with h | h
    · exact h.2
    · have := rowS_idem X h.2
      unfold rowS
      rw [if_pos rfl, h.1, this]
      simp
theorem thr_to {X P : List Nat} {mz : Nat} {f : Nat → Bool} : ∀ (i : Nat) (K : List Nat → Bool), i ≤ X.length → thr X P mz f i = true → K (X.drop i) = true → ∃ j, j ≤ i ∧ f j = true ∧ rowS P mz K (X.drop j) = true := by
  intro i
  induction i with
  | zero =>
    intro K _ h hK
    unfold thr at h
    rw [Bool.and_eq_true, decide_eq_true_eq] at h
    exact ⟨0, Nat.le_refl _, h.2, rowS_k h.1 hK⟩
  | succ i ih =>
    intro K hi h hK
    unfold thr at h
    rw [Bool.or_eq_true, Bool.and_eq_true, decide_eq_true_eq, Bool.and_eq_true, Bool.and_eq_true, decide_eq_true_eq] at h
    rcases h with h | h
    · exact ⟨i + 1, Nat.le_refl _, h.2, rowS_k h.1 hK⟩
    · obtain ⟨⟨h1, h2⟩, h3⟩ := h
      by_cases q : mz = 2
      · subst q
        rw [if_pos rfl] at h1
        have hd : rowS P 2 K (X.drop i) = true := by
          rw [ls_drop h2]
          unfold rowS
          rw [if_pos rfl, h3, rowS_k (by decide) hK]
          simp
        obtain ⟨j, j1, j2, j3⟩ := ih (rowS P 2 K) (by omega) h1 hd
        exact ⟨j, by omega, j2, rowS_idem _ j3⟩
      · rw [if_neg q] at h1
        refine ⟨i, by omega, h1, ?_⟩
        rw [ls_drop h2]
        unfold rowS
        rw [if_neg q, h3, hK]
        simp
theorem thr_from {X P : List Nat} {mz : Nat} {f : Nat → Bool} {K : List Nat → Bool} {i : Nat} (hi : i ≤ X.length) (hf : f i = true) (h : rowS P mz K (X.drop i) = true) : ∃ l, l ≤ X.length ∧ thr X P mz f l = true ∧ K (X.drop l) = true := by
  have t0 : mz ≠ 0 → thr X P mz f i = true := fun hm => by
    cases i with
    | zero =>
      unfold thr
      rw [decide_eq_true hm, hf]
      rfl
    | succ i =>
      unfold thr
      rw [decide_eq_true hm, hf]
      rfl
  by_cases q : mz = 2
  · subst q
    have go : ∀ (n i : Nat), i + n = X.length → thr X P 2 f i = true → rowS P 2 K (X.drop i) = true → ∃ l, l ≤ X.length ∧ thr X P 2 f l = true ∧ K (X.drop l) = true := by
      intro n
      induction n with
      | zero =>
        intro i hi ht hr
        rw [List.drop_of_length_le (by omega)] at hr
        unfold rowS at hr
        refine ⟨i, by omega, ht, ?_⟩
        rw [List.drop_of_length_le (by omega)]
        simpa using hr
      | succ n ih =>
        intro i hi ht hr
        have hlt : i < X.length := by omega
        have hr2 := hr
        rw [ls_drop hlt] at hr2
        unfold rowS at hr2
        rw [if_pos rfl, Bool.or_eq_true, Bool.and_eq_true, Bool.and_eq_true] at hr2
        rcases hr2 with z | z
        · exact ⟨i, by omega, ht, by rw [ls_drop hlt]; exact z.2⟩
        · refine ih (i + 1) (by omega) ?_ z.2
          show ((decide (2 ≠ 0) && f (i + 1)) || ((if 2 = 2 then thr X P 2 f i else f i) && decide (i < X.length) && pcT P (X.getD i 0))) = true
          rw [if_pos rfl, ht, z.1, decide_eq_true hlt]
          simp
    exact go (X.length - i) i (by omega) (t0 (by decide)) h
  · by_cases hlt : i < X.length
    · have hr2 := h
      rw [ls_drop hlt] at hr2
      unfold rowS at hr2
      rw [if_neg q, Bool.or_eq_true, Bool.and_eq_true, Bool.and_eq_true, decide_eq_true_eq] at hr2
      rcases hr2 with z | z
      · exact ⟨i, hi, t0 z.1, by rw [ls_drop hlt]; exact z.2⟩
      · refine ⟨i + 1, by omega, ?_, z.2⟩
        unfold thr
        rw [if_neg q, hf, z.1, decide_eq_true hlt]
        simp
    · rw [List.drop_of_length_le (by omega)] at h
      unfold rowS at h
      rw [Bool.and_eq_true, decide_eq_true_eq] at h
      exact ⟨i, hi, t0 h.1, by rw [List.drop_of_length_le (by omega)]; exact h.2⟩
/-- the first row, and the others -/
def rw1 : List Tk → List (List Nat × Nat)
  | [] => []
  | none :: _ => []
  | some x :: L => x :: rw1 L
def rwO : List Tk → List (List (List Nat × Nat))
  | [] => []
  | none :: L => rw1 L :: rwO L
  | some _ :: L => rwO L
theorem fitk_rows (X : List Nat) : ∀ (L : List Tk) (f : Nat → Bool), fitk X L f = true ↔ (∃ i, i ≤ X.length ∧ f i = true ∧ rowF (rw1 L) (X.drop i) = true) ∨ ∃ r ∈ rwO L, rowF r X = true := by
  have endf : ∀ f : Nat → Bool, f X.length = true ↔ ∃ i, i ≤ X.length ∧ f i = true ∧ rowF [] (X.drop i) = true := fun f => by
    refine ⟨fun h => ⟨X.length, Nat.le_refl _, h, by rw [List.drop_length]; rfl⟩, fun ⟨i, h1, h2, h3⟩ => ?_⟩
    have h3 : X.drop i = [] := of_decide_eq_true h3
    have := congrArg List.length h3
    rw [List.length_drop] at this
    have h4 : X.length - i = 0 := this
    rw [show X.length = i by omega]
    exact h2
  intro L
  induction L with
  | nil =>
    intro f
    unfold fitk rw1 rwO
    rw [endf]
    simp
  | cons t L ih =>
    intro f
    cases t with
    | none =>
      unfold fitk rw1 rwO
      rw [Bool.or_eq_true, endf, ih]
      refine or_congr Iff.rfl ?_
      simp only [List.mem_cons]
      refine ⟨fun h => ?_, fun ⟨r, h1, h2⟩ => ?_⟩
      · rcases h with ⟨i, i1, i2, i3⟩ | ⟨r, r1, r2⟩
        · have : i = 0 := of_decide_eq_true i2
          subst this
          exact ⟨_, Or.inl rfl, i3⟩
        · exact ⟨r, Or.inr r1, r2⟩
      · rcases h1 with e | e
        · left
          exact ⟨0, Nat.zero_le _, rfl, by rw [← e]; exact h2⟩
        · exact Or.inr ⟨r, e, h2⟩
    | some x =>
      unfold fitk rw1 rwO
      rw [ih]
      refine or_congr ?_ Iff.rfl
      constructor
      · rintro ⟨i, i1, i2, i3⟩
        obtain ⟨j, j1, j2, j3⟩ := thr_to i _ i1 i2 i3
        exact ⟨j, by omega, j2, j3⟩
      · rintro ⟨i, i1, i2, i3⟩
        exact thr_from i1 i2 i3
/-! places -/
def isE (L : List Tk) (i : Nat) : Bool := decide ((L ++ [none])[i]? = some none)
def isS (L : List Tk) (i : Nat) : Bool := decide (i = 0) || (decide (0 < i) && decide (L[i - 1]? = some none))
def isL (L : List Tk) (i : Nat) : Bool := match L[i]? with
  | some (some x) => decide (x.2 ≠ 0)
  | _ => false
def isR (L : List Tk) (i : Nat) : Bool := match L[i]? with
  | some (some x) => decide (x.2 = 2)
  | _ => false
def isA (L : List Tk) (c i : Nat) : Bool := match L[i]? with
  | some (some x) => pcT x.1 c
  | _ => false
def acc (L : List Tk) (i : Nat) (Y : List Nat) : Bool := rowF (rw1 (L.drop i)) Y
theorem acc_some {L : List Tk} {i : Nat} {x : List Nat × Nat} (h : L[i]? = some (some x)) (Y : List Nat) : acc L i Y = rowS x.1 x.2 (acc L (i + 1)) Y := by
  have hi : i < L.length := by
    rcases Nat.lt_or_ge i L.length with z | z
    · exact z
    · rw [List.getElem?_eq_none z] at h
      cases h
  have hx : L[i]'hi = some x := by
    rw [List.getElem?_eq_getElem hi] at h
    exact Option.some.inj h
  unfold acc
  rw [List.drop_eq_getElem_cons hi, hx]
  rfl
theorem acc_end {L : List Tk} {i : Nat} (hi : i ≤ L.length) (h : isE L i = true) (Y : List Nat) : acc L i Y = decide (Y = []) := by
  unfold isE at h
  have h := of_decide_eq_true h
  unfold acc
  by_cases q : i < L.length
  · rw [List.getElem?_append_left q, List.getElem?_eq_getElem q] at h
    rw [List.drop_eq_getElem_cons q, Option.some.inj h]
    rfl
  · rw [List.drop_of_length_le (by omega)]
    rfl
theorem tk_cases {L : List Tk} {i : Nat} (hi : i ≤ L.length) : isE L i = true ∨ ∃ x, L[i]? = some (some x) := by
  unfold isE
  by_cases q : i < L.length
  · rw [List.getElem?_append_left q, List.getElem?_eq_getElem q]
    cases hL : L[i]'q with
    | none => exact Or.inl rfl
    | some x => exact Or.inr ⟨x, rfl⟩
  · left
    rw [List.getElem?_append_right (by omega), show i - L.length = 0 by omega]
    rfl
theorem isE_no {L : List Tk} {i : Nat} {x : List Nat × Nat} (h : L[i]? = some (some x)) : isE L i = false := by
  have hi : i < L.length := by
    rcases Nat.lt_or_ge i L.length with z | z
    · exact z
    · rw [List.getElem?_eq_none z] at h
      cases h
  unfold isE
  rw [List.getElem?_append_left hi, h]
  exact decide_eq_false (fun e => by cases e)
/-- closed under leaving out -/
def clsd (L : List Tk) (f : Nat → Bool) : Prop := ∀ i, f i = true → isL L i = true → f (i + 1) = true
def bnd (L : List Tk) (f : Nat → Bool) : Prop := ∀ i, f i = true → i ≤ L.length
theorem nfa_end {L : List Tk} {f : Nat → Bool} (hc : clsd L f) (hb : bnd L f) : (∃ i, f i = true ∧ acc L i [] = true) ↔ ∃ i, f i = true ∧ isE L i = true := by
  constructor
  · rintro ⟨i, h1, h2⟩
    have go : ∀ (n i : Nat), i + n = L.length → f i = true → acc L i [] = true → ∃ j, f j = true ∧ isE L j = true := by
      intro n
      induction n with
      | zero =>
        intro i hi hf ha
        rcases tk_cases (L := L) (i := i) (by omega) with z | ⟨x, z⟩
        · exact ⟨i, hf, z⟩
        · rw [List.getElem?_eq_none (by omega)] at z
          cases z
      | succ n ih =>
        intro i hi hf ha
        rcases tk_cases (L := L) (i := i) (by omega) with z | ⟨x, z⟩
        · exact ⟨i, hf, z⟩
        · rw [acc_some z] at ha
          unfold rowS at ha
          rw [Bool.and_eq_true, decide_eq_true_eq] at ha
          refine ih (i + 1) (by omega) (hc i hf ?_) ha.2
          unfold isL
          rw [z]
          exact decide_eq_true ha.1
    have := hb i h1
    exact go (L.length - i) i (by omega) h1 h2
  · rintro ⟨i, h1, h2⟩
    exact ⟨i, h1, by rw [acc_end (hb i h1) h2]; rfl⟩
/-- the places after a sign, before leaving out -/
def stp (L : List Tk) (c : Nat) (f : Nat → Bool) (i : Nat) : Bool := (f i && isA L c i && isR L i) || (decide (0 < i) && f (i - 1) && isA L c (i - 1) && !isR L (i - 1))
theorem nfa_step {L : List Tk} {f : Nat → Bool} {c : Nat} {Y : List Nat} (hc : clsd L f) (hb : bnd L f) : (∃ i, f i = true ∧ acc L i (c :: Y) = true) ↔ ∃ i, stp L c f i = true ∧ acc L i Y = true := by
  constructor
  · rintro ⟨i, h1, h2⟩
    have go : ∀ (n i : Nat), i + n = L.length → f i = true → acc L i (c :: Y) = true → ∃ j, stp L c f j = true ∧ acc L j Y = true := by
      intro n
      induction n with
      | zero =>
        intro i hi hf ha
        rcases tk_cases (L := L) (i := i) (by omega) with z | ⟨x, z⟩
        · rw [acc_end (by omega) z] at ha
          cases ha
        · rw [List.getElem?_eq_none (by omega)] at z
          cases z
      | succ n ih =>
        intro i hi hf ha
        rcases tk_cases (L := L) (i := i) (by omega) with z | ⟨x, z⟩
        · rw [acc_end (by omega) z] at ha
          cases ha
        · have hA : isA L c i = pcT x.1 c := by unfold isA; rw [z]
          have hR : isR L i = decide (x.2 = 2) := by unfold isR; rw [z]
          rw [acc_some z] at ha
          unfold rowS at ha
          rw [Bool.or_eq_true, Bool.and_eq_true, Bool.and_eq_true, decide_eq_true_eq] at ha
          rcases ha with w | w
          · refine ih (i + 1) (by omega) (hc i hf ?_) w.2
            unfold isL
            rw [z]
            exact decide_eq_true w.1
          · by_cases q : x.2 = 2
            · rw [if_pos q] at w
              refine ⟨i, ?_, by rw [acc_some z]; exact w.2⟩
              unfold stp
              rw [hf, hA, w.1, hR, decide_eq_true q]
              rfl
            · rw [if_neg q] at w
              refine ⟨i + 1, ?_, w.2⟩
              unfold stp
              rw [show i + 1 - 1 = i from rfl, hf, hA, w.1, hR, decide_eq_false q]
              simp
    have := hb i h1
    exact go (L.length - i) i (by omega) h1 h2
  · rintro ⟨i, h1, h2⟩
    unfold stp at h1
    simp only [Bool.or_eq_true, Bool.and_eq_true, decide_eq_true_eq, Bool.not_eq_true'] at h1
    rcases h1 with ⟨⟨h3, h4⟩, h5⟩ | ⟨⟨⟨h3, h4⟩, h5⟩, h6⟩
    · refine ⟨i, h3, ?_⟩
      rcases tk_cases (L := L) (i := i) (hb i h3) with z | ⟨x, z⟩
      · exfalso
        unfold isA at h4
        cases hL : L[i]? with
        | none => rw [hL] at h4; cases h4
        | some t =>
          cases t with
          | none => rw [hL] at h4; cases h4
          | some x => rw [isE_no hL] at z; cases z
      · unfold isA at h4
        unfold isR at h5
        rw [z] at h4 h5
        have h5 : x.2 = 2 := of_decide_eq_true h5
        rw [acc_some z] at h2 ⊢
        unfold rowS
        rw [if_pos h5]
        have h4 : pcT x.1 c = true := h4
        rw [h4, h2]
        simp
    · refine ⟨i - 1, h4, ?_⟩
      rcases tk_cases (L := L) (i := i - 1) (hb _ h4) with z | ⟨x, z⟩
      · exfalso
        unfold isA at h5
        cases hL : L[i - 1]? with
        | none => rw [hL] at h5; cases h5
        | some t =>
          cases t with
          | none => rw [hL] at h5; cases h5
          | some x => rw [isE_no hL] at z; cases z
      · unfold isA at h5
        unfold isR at h6
        rw [z] at h5 h6
        have h6 : ¬ x.2 = 2 := of_decide_eq_false h6
        have h5 : pcT x.1 c = true := h5
        rw [acc_some z, show i - 1 + 1 = i by omega]
        unfold rowS
        rw [if_neg h6, h5, h2]
        simp
theorem nfa_start (X : List Nat) : ∀ L : List Tk, (∃ i, isS L i = true ∧ i ≤ L.length ∧ acc L i X = true) ↔ fitk X L f0 = true := by
  have mm : ∀ (L : List Tk) (r : List (List Nat × Nat)), r ∈ rwO L ↔ ∃ i, 0 < i ∧ i ≤ L.length ∧ L[i - 1]? = some none ∧ rw1 (L.drop i) = r := by
    intro L
    induction L with
    | nil =>
      intro r
      unfold rwO
      simp
    | cons t L ih =>
      intro r
      have sh : (∃ i, 0 < i ∧ i ≤ L.length ∧ L[i - 1]? = some none ∧ rw1 (L.drop i) = r) ↔ ∃ i, 1 < i ∧ i ≤ (t :: L).length ∧ (t :: L)[i - 1]? = some none ∧ rw1 ((t :: L).drop i) = r := by
        constructor
        · rintro ⟨i, a1, a2, a3, a4⟩
          refine ⟨i + 1, by omega, by rw [List.length_cons]; omega, ?_, by rw [List.drop_succ_cons]; exact a4⟩
          obtain ⟨k, rfl⟩ : ∃ k, i = k + 1 := ⟨i - 1, by omega⟩
          exact a3
        · rintro ⟨i, a1, a2, a3, a4⟩
          obtain ⟨k, rfl⟩ : ∃ k, i = k + 2 := ⟨i - 2, by omega⟩
          rw [List.length_cons] at a2
          exact ⟨k + 1, by omega, by omega, a3, a4⟩
      cases t with
      | none =>
        unfold rwO
        rw [List.mem_cons, ih, sh]
        constructor
        · rintro (e | ⟨i, a1, a2⟩)
          · exact ⟨1, by omega, by rw [List.length_cons]; omega, rfl, e.symm⟩
          · exact ⟨i, by omega, a2⟩
        · rintro ⟨i, a1, a2, a3, a4⟩
          by_cases q : i = 1
          · subst q
            exact Or.inl a4.symm
          · exact Or.inr ⟨i, by omega, a2, a3, a4⟩
      | some x =>
        unfold rwO
        rw [ih, sh]
        constructor
        · rintro ⟨i, a1, a2⟩
          exact ⟨i, by omega, a2⟩
        · rintro ⟨i, a1, a2, a3, a4⟩
          by_cases q : i = 1
          · subst q
            cases a3
          · exact ⟨i, by omega, a2, a3, a4⟩
  intro L
  rw [fitk_rows]
  constructor
  · rintro ⟨i, h1, h2, h3⟩
    unfold isS at h1
    rw [Bool.or_eq_true, Bool.and_eq_true, decide_eq_true_eq, decide_eq_true_eq, decide_eq_true_eq] at h1
    rcases h1 with z | ⟨z1, z2⟩
    · subst z
      left
      exact ⟨0, Nat.zero_le _, rfl, h3⟩
    · right
      exact ⟨_, (mm L _).mpr ⟨i, z1, h2, z2, rfl⟩, h3⟩
  · rintro (⟨i, i1, i2, i3⟩ | ⟨r, r1, r2⟩)
    · have : i = 0 := of_decide_eq_true i2
      subst this
      exact ⟨0, rfl, Nat.zero_le _, i3⟩
    · obtain ⟨i, a1, a2, a3, a4⟩ := (mm L r).mp r1
      refine ⟨i, ?_, a2, ?_⟩
      · unfold isS
        rw [decide_eq_true a1, decide_eq_true a3]
        simp
      · unfold acc
        rw [a4]
        exact r2
