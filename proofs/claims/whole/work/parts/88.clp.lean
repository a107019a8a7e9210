/-! The class: does a text fit a pattern? -/
theorem Bs.and {S T : Int64} {f g : Nat → Bool} (h : Bs S f) (k : Bs T g) : Bs (S &&& T) (fun j => f j && g j) := fun j hj => by
  rw [Int64.toBitVec_and, BitVec.getLsbD_and, h j hj, k j hj]
theorem Bs.or {S T : Int64} {f g : Nat → Bool} (h : Bs S f) (k : Bs T g) : Bs (S ||| T) (fun j => f j || g j) := fun j hj => by
  rw [Int64.toBitVec_or, BitVec.getLsbD_or, h j hj, k j hj]
theorem Bs.not {S : Int64} {f : Nat → Bool} (h : Bs S f) : Bs (S ^^^ (-1)) (fun j => !f j) := fun j hj => by
  rw [Int64.toBitVec_xor, BitVec.getLsbD_xor, h j hj]
  have : ∀ i : Fin 64, (-1 : Int64).toBitVec.getLsbD i.val = true := by decide
  rw [this ⟨j, hj⟩]
  dsimp only
  cases f j <;> rfl
theorem Bs.shl {S : Int64} {f : Nat → Bool} (h : Bs S f) : Bs (wsl S 1) (fun j => decide (0 < j) && f (j - 1)) := fun j hj => by
  unfold wsl
  rw [Int64.toBitVec_shiftLeft, show ((1 : Int32).toInt64 &&& 63).toBitVec.smod 64 = BitVec.ofNat 64 1 from b63 ⟨1, by decide⟩, BitVec.shiftLeft_eq', BitVec.getLsbD_shiftLeft, BitVec.toNat_ofNat]
  by_cases q : 0 < j
  · rw [h (j - 1) (by omega)]
    simp [hj, q]
    omega
  · simp [show j = 0 by omega]
theorem Bs.bit {i : Nat} (hi : i < 64) : Bs (wsl 1 (iI i)) (fun j => decide (j = i)) := fun j hj => wsl_b hi hj
theorem Bs.cg {S : Int64} {f g : Nat → Bool} (h : Bs S f) (e : ∀ j, j < 64 → f j = g j) : Bs S g := fun j hj => by rw [h j hj, e j hj]
theorem Bs.z0 {S : Int64} {f : Nat → Bool} (h : Bs S f) : S = 0 ↔ ∀ j, j < 64 → f j = false := by
  constructor
  · intro e j hj
    rw [← h j hj, e]
    simp
  · intro e
    apply Int64.toBitVec_inj.mp
    apply BitVec.eq_of_getLsbD_eq
    intro j hj
    rw [h j hj, e j hj]
    simp
abbrev oPt (w g pc : Nat) (st en an lv rp : Int64) (gd : Int32) : ab_O := oR (.inr (10, [va_rf (some w), va_rf (some g), .int (iI pc), .long st, .long en, .long an, .long lv, .long rp, .int gd]))
/-- which places allow a sign -/
def Alw (W : List Nat) (gf : Nat → Int32) (an : Nat → Bool) (L : List Tk) : Prop := (∀ i, i < W.length → gf i = iI (-1) ∨ ∃ j : Nat, j < 64 ∧ gf i = iI j) ∧ ∀ c j, j < 64 → (isA L c j = true ↔ an j = true ∨ ∃ i, i < W.length ∧ W.getD i 0 = c ∧ gf i = iI j)
def PtnAt (A : ab_H) (a : Nat) (W : List Nat) (L : List Tk) : Prop := ∃ w g gf st en an lv rp fa, A a = some (oPt w g (L.length + 1) st en an lv rp 1) ∧ A w = some (oS W) ∧ A g = some (oR (.inl (0, W.length, .inl gf))) ∧ Bs st (isS L) ∧ Bs en (isE L) ∧ Bs an fa ∧ Bs lv (isL L) ∧ Bs rp (isR L) ∧ Alw W gf fa L ∧ L.length ≤ 40
section FT
variable {A : ab_H} {a : Nat} {W : List Nat} {L : List Tk}
theorem isL_lt {i : Nat} (h : isL L i = true) : i < L.length := by
  unfold isL at h
  rcases Nat.lt_or_ge i L.length with z | z
  · exact z
  · rw [List.getElem?_eq_none z] at h
    cases h
theorem isA_lt {c i : Nat} (h : isA L c i = true) : i < L.length := by
  unfold isA at h
  rcases Nat.lt_or_ge i L.length with z | z
  · exact z
  · rw [List.getElem?_eq_none z] at h
    cases h
theorem acc_leave {i : Nat} {Y : List Nat} (h : isL L i = true) (ha : acc L (i + 1) Y = true) : acc L i Y = true := by
  unfold isL at h
  cases hL : L[i]? with
  | none => rw [hL] at h; cases h
  | some t =>
    cases t with
    | none => rw [hL] at h; cases h
    | some x =>
      rw [hL] at h
      rw [acc_some hL]
      exact rowS_k (of_decide_eq_true h) ha
theorem cl_left {w g : Nat} {st en an lv rp : Int64} {gd : Int32} {p0 : Int64} {f0' : Nat → Bool} {Q : Int64 → ab_H → Prop} (h : A a = some (oPt w g (L.length + 1) st en an lv rp gd)) (hl : L.length ≤ 40) (hv : Bs lv (isL L)) (hQ : ∀ S f, Bs S f → clsd L f → bnd L f → (∀ Y, (∃ i, f i = true ∧ acc L i Y = true) ↔ ∃ i, f0' i = true ∧ acc L i Y = true) → Q S A) : ∀ (j k : Nat) (S : Int64) (f : Nat → Bool), k + j = L.length + 1 → Bs S f → bnd L f → (∀ i, i < k → f i = true → isL L i = true → f (i + 1) = true) → (∀ Y, (∃ i, f i = true ∧ acc L i Y = true) ↔ ∃ i, f0' i = true ∧ acc L i Y = true) → wq_N_withLeft_5 a p0 Q (j + 1) S (iI k) A := by
  intro j
  induction j with
  | zero =>
    intro k S f hk hS hb hc he
    show wb_N_withLeft_5 _ _ _ _ _ _ _
    unfold wb_N_withLeft_5
    refine wgI.i h rfl ?_
    rw [if_pos (by simp (disch := omega) only [iI_lit, iI_add, iI_sub, iI_mul, iI_neg, iI_lt, iI_le, iI_eq] <;> omega)]
    exact hQ S f hS (fun i h1 h2 => hc i (by have := isL_lt h2; omega) h1 h2) hb he
  | succ j ih =>
    intro k S f hk hS hb hc he
    show wb_N_withLeft_5 _ _ _ _ _ _ _
    unfold wb_N_withLeft_5
    refine wgI.i h rfl ?_
    rw [if_neg (by simp (disch := omega) only [iI_lit, iI_add, iI_sub, iI_mul, iI_neg, iI_lt, iI_le, iI_eq] <;> omega)]
    refine wgJ.i h rfl (wL.i ?_)
    rw [show iI (k : Int) + 1 = iI ((k + 1 : Nat) : Int) from iI_add _ 1]
    have hn : Bs (S ||| wsl (S &&& lv &&& wsl 1 (iI k)) 1) (fun i => f i || (decide (i = k + 1) && f k && isL L k)) := (hS.or ((hS.and hv).and (Bs.bit (by omega))).shl).cg (fun i hi => by
      by_cases q : i = k + 1
      · subst q
        simp
      · rw [decide_eq_false q]
        by_cases q2 : 0 < i
        · rw [decide_eq_false (show ¬ i - 1 = k by omega)]
          simp
        · rw [decide_eq_false q2]
          simp)
    refine ih (k + 1) _ _ (by omega) hn (fun i hi => ?_) (fun i hi h1 h2 => ?_) (fun Y => ?_)
    · rw [Bool.or_eq_true, Bool.and_eq_true, Bool.and_eq_true, decide_eq_true_eq] at hi
      rcases hi with z | ⟨⟨z1, z2⟩, z3⟩
      · exact hb i z
      · have := isL_lt z3
        omega
    · rw [Bool.or_eq_true, Bool.and_eq_true, Bool.and_eq_true, decide_eq_true_eq] at h1 ⊢
      rcases h1 with z | ⟨⟨z1, z2⟩, z3⟩
      · by_cases q : i = k
        · subst q
          exact Or.inr ⟨⟨rfl, z⟩, h2⟩
        · exact Or.inl (hc i (by omega) z h2)
      · omega
    · rw [← he Y]
      constructor
      · rintro ⟨i, i1, i2⟩
        rw [Bool.or_eq_true, Bool.and_eq_true, Bool.and_eq_true, decide_eq_true_eq] at i1
        rcases i1 with z | ⟨⟨z1, z2⟩, z3⟩
        · exact ⟨i, z, i2⟩
        · subst z1
          exact ⟨k, z2, acc_leave z3 i2⟩
      · rintro ⟨i, i1, i2⟩
        exact ⟨i, by rw [i1]; rfl, i2⟩
theorem c_left {w g : Nat} {st en an lv rp S : Int64} {gd : Int32} {f : Nat → Bool} {Q : Int64 → ab_H → Prop} (h : A a = some (oPt w g (L.length + 1) st en an lv rp gd)) (hl : L.length ≤ 40) (hv : Bs lv (isL L)) (hS : Bs S f) (hb : bnd L f) (hQ : ∀ S' f', Bs S' f' → clsd L f' → bnd L f' → (∀ Y, (∃ i, f' i = true ∧ acc L i Y = true) ↔ ∃ i, f i = true ∧ acc L i Y = true) → Q S' A) : wp_N_withLeft a S A Q :=
  ⟨_, cl_left h hl hv hQ (L.length + 1) 0 S f (by omega) hS hb (fun i hi => absurd hi (by omega)) (fun _ => Iff.rfl)⟩
theorem cl_allow {w g c : Nat} {gf : Nat → Int32} {st en an lv rp : Int64} {gd : Int32} {fa : Nat → Bool} {Q : Int64 → ab_H → Prop} (h : A a = some (oPt w g (L.length + 1) st en an lv rp gd)) (hw : A w = some (oS W)) (hg : A g = some (oR (.inl (0, W.length, .inl gf)))) (hWl : W.length ≤ 40) (hW : ∀ x ∈ W, x < 256) (hc : c < 256) (ha : Alw W gf fa L) (hQ : ∀ S, Bs S (isA L c) → Q S A) : ∀ (j k : Nat) (S : Int64), k + j = W.length → (∃ f, Bs S f ∧ ∀ i, i < 64 → (f i = true ↔ fa i = true ∨ ∃ l, l < k ∧ W.getD l 0 = c ∧ gf l = iI i)) → wq_N_placesAllowing_8 a (iI c) Q (j + 1) S (iI k) A := by
  intro j
  induction j with
  | zero =>
    rintro k S hk ⟨f, hS, hf⟩
    show wb_N_placesAllowing_8 _ _ _ _ _ _ _
    unfold wb_N_placesAllowing_8
    refine wgR.i (x := some w) h rfl (st_len hw ?_)
    rw [if_pos (by simp (disch := omega) only [iI_lit, iI_add, iI_sub, iI_mul, iI_neg, iI_lt, iI_le, iI_eq] <;> omega)]
    refine hQ S (hS.cg (fun i hi => ?_))
    have h1 := hf i hi
    have h2 := ha.2 c i hi
    rw [show k = W.length by omega, ← h2] at h1
    cases hx : f i with
    | true => exact (h1.mp hx).symm
    | false =>
      cases hy : isA L c i with
      | true => rw [h1.mpr hy] at hx; exact hx.symm
      | false => rfl
  | succ j ih =>
    rintro k S hk ⟨f, hS, hf⟩
    show wb_N_placesAllowing_8 _ _ _ _ _ _ _
    unfold wb_N_placesAllowing_8
    refine wgR.i (x := some w) h rfl (st_len hw ?_)
    rw [if_neg (by simp (disch := omega) only [iI_lit, iI_add, iI_sub, iI_mul, iI_neg, iI_lt, iI_le, iI_eq] <;> omega)]
    refine wgR.i (x := some w) h rfl (st_at hw rfl (j := k) (by omega) ?_)
    have hb := bt_ls hW k (by omega)
    rw [show iI (k : Int) + 1 = iI ((k + 1 : Nat) : Int) from iI_add _ 1]
    have same : (W.getD k 0 ≠ c ∨ gf k = iI (-1)) → wq_N_placesAllowing_8 a (iI c) Q (j + 1) S (iI ((k + 1 : Nat) : Int)) A := fun hor => ih (k + 1) S (by omega) ⟨f, hS, fun i hi => by
      rw [hf i hi]
      refine or_congr Iff.rfl ⟨fun ⟨l, l1, l2, l3⟩ => ⟨l, by omega, l2, l3⟩, fun ⟨l, l1, l2, l3⟩ => ?_⟩
      by_cases q : l = k
      · exfalso
        subst q
        rcases hor with z | z
        · exact z l2
        · rw [z] at l3
          have := (iI_eq (a := -1) (b := i) (by omega) (by omega) (by omega) (by omega)).mp l3
          omega
      · exact ⟨l, by omega, l2, l3⟩⟩
    by_cases q : W.getD k 0 = c
    · rw [if_pos (by simp (disch := omega) only [iI_lit, iI_add, iI_sub, iI_mul, iI_neg, iI_lt, iI_le, iI_eq] <;> omega)]
      refine wgR.i (x := some g) h rfl (wAI.i hg (Or.inl rfl) (by omega) (by omega) ?_)
      rcases ha.1 k (by omega) with z | ⟨jj, z1, z2⟩
      · rw [z, if_pos (by decide)]
        exact same (Or.inr z)
      · rw [z2, if_neg (by simp (disch := omega) only [iI_lit, iI_add, iI_sub, iI_mul, iI_neg, iI_lt, iI_le, iI_eq] <;> omega)]
        refine wgR.i (x := some g) h rfl (wAI.i hg (Or.inl rfl) (by omega) (by omega) (wL.i ?_))
        rw [z2]
        refine ih (k + 1) _ (by omega) ⟨_, hS.or (Bs.bit z1), fun i hi => ?_⟩
        rw [Bool.or_eq_true, hf i hi, decide_eq_true_eq, or_assoc]
        refine or_congr Iff.rfl ⟨fun z => ?_, fun ⟨l, l1, l2, l3⟩ => ?_⟩
        · rcases z with ⟨l, l1, l2, l3⟩ | z
          · exact ⟨l, by omega, l2, l3⟩
          · exact ⟨k, by omega, q, by rw [z2, z]⟩
        · by_cases y : l = k
          · subst y
            rw [z2] at l3
            have := (iI_eq (a := jj) (b := i) (by omega) (by omega) (by omega) (by omega)).mp l3
            exact Or.inr (by omega)
          · exact Or.inl ⟨l, by omega, l2, l3⟩
    · rw [if_neg (by simp (disch := omega) only [iI_lit, iI_add, iI_sub, iI_mul, iI_neg, iI_lt, iI_le, iI_eq] <;> omega)]
      exact same (Or.inl q)
theorem c_fits {p : Nat} {X : List Nat} {Q : Int32 → ab_H → Prop} (h : PtnAt A a W L) (hW : stl W) (hp : A p = some (oS X)) (hX : stl X) (hQ : Q (iI (bI (fitk X L f0))) A) : wp_N_fits a (some p) A Q := by
  obtain ⟨w, g, gf, st, en, an, lv, rp, fa, h1, h2, h3, h4, h5, h6, h7, h8, h9, h10⟩ := h
  obtain ⟨x1, x2⟩ := hX
  have fin : ∀ (S : Int64) (f : Nat → Bool), Bs S f → bnd L f → ((∃ i, f i = true ∧ isE L i = true) ↔ fitk X L f0 = true) → wq_N_fits_73 a (some p) Q S A := fun S f hS hb he => by
    unfold wq_N_fits_73
    refine wgJ.i h1 rfl ?_
    have hz := (hS.and h5).z0
    by_cases q : ∃ i, f i = true ∧ isE L i = true
    · obtain ⟨i, i1, i2⟩ := q
      rw [if_neg (fun z => by
        have := hz.mp ((cmp_0 _ _).mp z) i (by have := hb i i1; omega)
        rw [i1, i2] at this
        cases this)]
      rw [he.mp ⟨i, i1, i2⟩] at hQ
      exact hQ
    · rw [if_pos ((cmp_0 _ _).mpr (hz.mpr (fun i hi => by
        cases hf : f i with
        | false => rfl
        | true =>
          cases hE : isE L i with
          | false => rfl
          | true => exact absurd ⟨i, hf, hE⟩ q)))]
      rw [show fitk X L f0 = false from by
        cases hb : fitk X L f0 with
        | false => rfl
        | true => exact absurd (he.mpr hb) q] at hQ
      exact hQ
  unfold wp_N_fits
  refine wgJ.i h1 rfl (wC.i h1 ?_)
  refine c_left h1 h10 h7 h4 (fun i hi => ?_) (fun S0 g0 k1 k2 k3 k4 => ⟨X.length + 1, ?_⟩)
  · unfold isS at hi
    rw [Bool.or_eq_true, Bool.and_eq_true, decide_eq_true_eq, decide_eq_true_eq, decide_eq_true_eq] at hi
    rcases hi with z | ⟨z1, z2⟩
    · omega
    · rcases Nat.lt_or_ge (i - 1) L.length with y | y
      · omega
      · rw [List.getElem?_eq_none y] at z2
        cases z2
  have loop : ∀ (j k : Nat) (S : Int64) (f : Nat → Bool), k + j = X.length → Bs S f → clsd L f → bnd L f → ((∃ i, f i = true ∧ acc L i (X.drop k) = true) ↔ fitk X L f0 = true) → wq_N_fits_12 a (some p) Q (j + 1) S (iI k) A := by
    intro j
    induction j with
    | zero =>
      intro k S f hk hS hc hb he
      show wb_N_fits_12 _ _ _ _ _ _ _
      unfold wb_N_fits_12
      refine st_len hp ?_
      rw [if_pos (by simp (disch := omega) only [iI_lit, iI_add, iI_sub, iI_mul, iI_neg, iI_lt, iI_le, iI_eq] <;> omega)]
      rw [List.drop_of_length_le (by omega), nfa_end hc hb] at he
      exact fin S f hS hb he
    | succ j ih =>
      intro k S f hk hS hc hb he
      show wb_N_fits_12 _ _ _ _ _ _ _
      unfold wb_N_fits_12
      refine st_len hp ?_
      rw [if_neg (by simp (disch := omega) only [iI_lit, iI_add, iI_sub, iI_mul, iI_neg, iI_lt, iI_le, iI_eq] <;> omega)]
      by_cases q : lg_cmp S 0 = 0
      · rw [if_pos q]
        have hz := hS.z0.mp ((cmp_0 _ _).mp q)
        have hno : ¬ ∃ i, f i = true ∧ acc L i (X.drop k) = true := fun ⟨i, i1, _⟩ => by
          rw [hz i (by have := hb i i1; omega)] at i1
          cases i1
        refine fin S f hS hb ⟨fun ⟨i, i1, i2⟩ => ?_, fun z => absurd (he.mpr z) hno⟩
        rw [hz i (by have := hb i i1; omega)] at i1
        cases i1
      rw [if_neg q]
      refine st_at hp rfl (j := k) (by omega) (wC.i h1 ?_)
      have hbk := bt_ls x2 k (by omega)
      refine wgJ.i h1 rfl ⟨_, cl_allow h1 h2 h3 hW.1 hW.2 hbk h9 (fun T hT => wL.i (wgJ.i h1 rfl (wgJ.i h1 rfl (wC.i h1 ?_)))) W.length 0 an (by omega) ⟨fa, h6, fun i hi => by simp⟩⟩
      have hst : Bs (S &&& T &&& rp ||| wsl (S &&& T &&& (rp ^^^ (-1))) 1) (stp L (X.getD k 0) f) := (((hS.and hT).and h8).or (((hS.and hT).and h8.not).shl)).cg (fun i hi => by
        unfold stp
        simp only [Bool.and_assoc])
      rw [ls_drop (show k < X.length by omega), nfa_step hc hb] at he
      refine c_left h1 h10 h7 hst (fun i hi => ?_) (fun S1 f1 m1 m2 m3 m4 => ?_)
      · unfold stp at hi
        simp only [Bool.or_eq_true, Bool.and_eq_true, decide_eq_true_eq] at hi
        rcases hi with ⟨⟨z1, _⟩, _⟩ | ⟨⟨⟨z1, z2⟩, z3⟩, _⟩
        · exact hb i z1
        · have := isA_lt z3
          omega
      · rw [show iI (k : Int) + 1 = iI ((k + 1 : Nat) : Int) from iI_add _ 1]
        exact ih (k + 1) S1 f1 (by omega) m1 m2 m3 ((m4 _).trans he)
  refine loop X.length 0 S0 g0 (by omega) k1 k2 k3 ?_
  rw [List.drop_zero, k4 X, ← nfa_start]
  refine ⟨fun ⟨i, i1, i2⟩ => ⟨i, i1, ?_, i2⟩, fun ⟨i, i1, _, i2⟩ => ⟨i, i1, i2⟩⟩
  unfold isS at i1
  rw [Bool.or_eq_true, Bool.and_eq_true, decide_eq_true_eq, decide_eq_true_eq, decide_eq_true_eq] at i1
  rcases i1 with z | ⟨z1, z2⟩
  · omega
  · rcases Nat.lt_or_ge (i - 1) L.length with y | y
    · omega
    · rw [List.getElem?_eq_none y] at z2
      cases z2
end FT
