/-! The class: answers, what misses, which is nearest -/
section RSP
variable {A : ab_H} {kc ks : Nat}
theorem c_fill {t s q n : Nat} {P : List Nat} {r : Rq} {cid : Int} {Q : Option Nat → ab_H → Prop} (ht : A t = some (oR (.inr (11, [va_rf (some s)])))) (hs : A s = some (oS P)) (hP : stl P) (hPp : ∀ x ∈ P, 0 < x) (hk : Kr A q r cid) (hw : rqw r) (hn : n < 10000) (h1 : 90 ≤ kc) (h2 : 2200 ≤ ks) (hQ : ∀ u B, B u = some (oS (fil r n P)) → Fw A B [] → Q (some u) B) : wp_T_fill t (some q) (iI n) A kc ks Q := by
  have p1 := hP.1
  unfold wp_T_fill
  refine wnw (by omega) (by omega) (fun b A1 _ n1 e1 f1 => sb_init e1 (by omega) (by omega) (fun A2 e2 f2 => ?_))
  have F2 : Fw A A2 [] := f1.tr f2 (fun x hx => Or.inr (by simp at hx; rw [hx]; exact n1))
  exact ⟨_, cl_fill (t := t) (s := s) (q := q) (cid := cid) A n1 hP hPp hw hn hQ P.length 0 A2 [] 16 _ _ (by omega) (by omega) (F2.e ht) (F2.e hs) (hk.f0 F2) e2 (by simp) (by omega) (by simp) F2 (by rw [List.nil_append]; rfl) (by omega) (by omega)⟩
theorem dc_le4 (n : Nat) : (dc_l n).length ≤ 4 := by
  unfold dc_l
  (repeat' split) <;> simp
theorem c_respond {a rd rp s code cap : Nat} {op : Int32} {X V : List Nat} {Q : ab_H → Prop} (hC : A a = some (oR (.inr (4, [va_rf (some rd), va_rf (some rp), .int op])))) (hR : A rp = some (oB X cap)) (hc : cap ≤ 200) (hs : A s = some (oS V)) (hV : V.length ≤ 60) (hcd : code < 1000) (h1 : 6 ≤ kc) (h2 : 400 ≤ ks) (hQ : ∀ B cap', B rp = some (oB (rsp code V) cap') → cap' ≤ 200 → Fw A B [rp] → Q B) : wp_C_respond a (iI code) (some s) A kc ks Q := by
  have d1 := dc_le4 code
  have d2 := dc_le4 V.length
  unfold wp_C_respond
  refine wgR.i (x := some rp) hC rfl (sb_set hR (k := 0) rfl (by omega) (by omega) (by omega) (fun A1 e1 f1 => ?_))
  rw [List.take_zero] at e1
  have c1 := f1.k hC hR (fun e => by cases e)
  have s1 := f1.k hs hR (fun e => by cases e)
  refine wgR.i (x := some rp) c1 rfl (sb_int e1 rfl (by omega) (by simp) hc (by omega) (by omega) (fun A2 cap2 ks2 e2 f2 g2 g2' g2'' => ?_))
  have s2 := f2.k s1 e1 (fun e => by cases e)
  refine sb_chr e2 (n := 32) rfl (by omega) (by rw [List.length_append]; simp; omega) g2 (by omega) (by omega) (fun A3 cap3 ks3 e3 f3 g3 g3' g3'' => ?_)
  have s3 := f3.k s2 e2 (fun e => by cases e)
  refine st_len s3 ?_
  refine sb_int e3 rfl (by omega) (by simp; omega) g3 (by omega) (by omega) (fun A4 cap4 ks4 e4 f4 g4 g4' g4'' => ?_)
  have s4 := f4.k s3 e3 (fun e => by cases e)
  refine sb_chr e4 (n := 10) rfl (by omega) (by simp; omega) g4 (by omega) (by omega) (fun A5 cap5 ks5 e5 f5 g5 g5' g5'' => ?_)
  have s5 := f5.k s4 e4 (fun e => by cases e)
  refine sb_str e5 s5 (by simp; omega) g5 (by omega) (by omega) (fun A6 cap6 ks6 e6 f6 g6 _ _ => ?_)
  exact hQ A6 cap6 e6 g6 (fww (W := [rp]) (fww (W := [rp]) (fww (W := [rp]) (fww (W := [rp]) (fww (W := [rp]) f1 f2) f3) f4) f5) f6)
theorem c_refuse {a rd rp code cap : Nat} {op : Int32} {X : List Nat} {Q : ab_H → Prop} (hL : Li A) (hC : A a = some (oR (.inr (4, [va_rf (some rd), va_rf (some rp), .int op])))) (hR : A rp = some (oB X cap)) (hc : cap ≤ 200) (hcd : code < 1000) (h1 : 6 ≤ kc) (h2 : 400 ≤ ks) (hQ : ∀ B cap', B rp = some (oB (rsp code []) cap') → cap' ≤ 200 → B a = some (oR (.inr (4, [va_rf (some rd), va_rf (some rp), .int 0]))) → Fw A B [a, rp] → Q B) : wp_C_refuse a (iI code) A kc ks Q := by
  refine wC.i hC (wXV.i 6 400 (by omega) (by omega) (c_respond hC hR hc hL.1 (by simp) hcd (Nat.le_refl _) (Nat.le_refl _) (fun B cap' e1 e2 f => ?_)))
  have c1 := f.k hC hR (fun e => by cases e)
  refine wpu c1 (Nat.le_of_ble_eq_true rfl) (fun B2 g1 g2 => hQ B2 cap' (g2.k e1 c1 (fun e => by cases e)) e2 g1 ?_)
  exact (f.mo (by simp)).tr g2 (fun x hx => Or.inl (by simp at hx ⊢; exact Or.inl hx))
end RSP
/-! matchers and stubs -/
theorem PtnAt.f0 {A B : ab_H} {a : Nat} {W : List Nat} {L : List Tk} (h : PtnAt A a W L) (hF : Fw A B []) : PtnAt B a W L := by
  obtain ⟨w, g, gf, st, en, an, lv, rp, fa, t1, t2, t3, t4⟩ := h
  exact ⟨w, g, gf, st, en, an, lv, rp, fa, hF.e t1, hF.e t2, hF.e t3, t4⟩
theorem MtAt.f0 {A B : ab_H} {m : Nat} {x : Mt} (h : MtAt A m x) (hF : Fw A B []) : MtAt B m x := by
  obtain ⟨sn, st, pr, e1, e2, e3, e4⟩ := h
  refine ⟨sn, st, pr, hF.e e1, hF.e e2, hF.e e3, fun z => ?_⟩
  obtain ⟨b, L, y1, y2, y3⟩ := e4 z
  exact ⟨b, L, y1, y2, y3.f0 hF⟩
def MsAt (A : ab_H) (ms : List Nat) (L : List Mt) : Prop := ms.length = L.length ∧ L.length ≤ 4 ∧ ∀ (j m : Nat) (x : Mt), ms[j]? = some m → L[j]? = some x → MtAt A m x ∧ mwf x ∧ stl x.2.2.2
theorem MsAt.f0 {A B : ab_H} {ms : List Nat} {L : List Mt} (h : MsAt A ms L) (hF : Fw A B []) : MsAt B ms L := ⟨h.1, h.2.1, fun j m x h1 h2 => ⟨(h.2.2 j m x h1 h2).1.f0 hF, (h.2.2 j m x h1 h2).2⟩⟩
def ScAt (A : ab_H) (o : Option Nat) (y : Option (Nat × Nat × Nat)) : Prop := match y with
  | none => o = none
  | some z => ∃ b, o = some b ∧ A b = some (oR (.inr (13, [.int (iI z.1), .int (iI z.2.1), .int (iI z.2.2)]))) ∧ z.1 < 3 ∧ z.2.1 ≤ 3 ∧ z.2.2 ≤ 3
theorem ScAt.f0 {A B : ab_H} {o : Option Nat} {y : Option (Nat × Nat × Nat)} (h : ScAt A o y) (hF : Fw A B []) : ScAt B o y := by
  cases y with
  | none => exact h
  | some z =>
    obtain ⟨b, h1, h2, h3⟩ := h
    exact ⟨b, h1, hF.e h2, h3⟩
/-- the states, as the class keeps them -/
def SaAt (A : ab_H) (sa : Nat) (st : Nat → Nat) : Prop := ∃ f, A sa = some (oR (.inl (0, 3, .inl f))) ∧ ∀ k, k < 3 → f k = iI (st k) ∧ st k ≤ 3
section MIS
variable {A : ab_H} {sv sa q : Nat} {fs : List Value} {st : Nat → Nat} {r : Rq} {cid : Int}
theorem cl_miss {ml cap : Nat} {so : Option Nat} {ms : List Nat} {L : List Mt} {Q : Int32 → ab_H → Prop} {N : Nat} (hml : A ml = some (oL ms cap)) (hMs : MsAt A ms L) (hk : Kr A q r cid) (hw : rqw r) (hQ : Q (iI (N : Int)) A) : ∀ (j k c : Nat), k + j = ms.length → c + mss r (L.drop k) = N → c ≤ k + 1 → wq_S_conditionsMissed_30 sv (some ml) so (some q) Q (j + 1) (iI c) (iI k) A := by
  obtain ⟨m1, m2, m3⟩ := hMs
  intro j
  induction j with
  | zero =>
    intro k c hk1 hc hck
    show wb_S_conditionsMissed_30 _ _ _ _ _ _ _ _ _
    unfold wb_S_conditionsMissed_30
    refine al_size hml ?_
    rw [if_pos (by simp (disch := omega) only [iI_lit, iI_add, iI_sub, iI_mul, iI_neg, iI_lt, iI_le, iI_eq] <;> omega)]
    rw [List.drop_of_length_le (by omega)] at hc
    have : c = N := hc
    rw [this]
    exact hQ
  | succ j ih =>
    intro k c hk1 hc hck
    have hkl : k < ms.length := by omega
    show wb_S_conditionsMissed_30 _ _ _ _ _ _ _ _ _
    unfold wb_S_conditionsMissed_30
    refine al_size hml ?_
    rw [if_neg (by simp (disch := omega) only [iI_lit, iI_add, iI_sub, iI_mul, iI_neg, iI_lt, iI_le, iI_eq] <;> omega)]
    refine al_get hml rfl hkl ?_
    obtain ⟨x, hx⟩ : ∃ x, L[k]? = some x := ⟨L[k]'(by omega), List.getElem?_eq_getElem _⟩
    obtain ⟨y1, y2, y3⟩ := m3 k (ms.getD k 0) x (ls_get hkl) hx
    have hd : L.drop k = x :: L.drop (k + 1) := by
      rw [List.drop_eq_getElem_cons (by omega)]
      rw [List.getElem?_eq_getElem (by omega)] at hx
      rw [Option.some.inj hx]
    have yy := y1
    obtain ⟨sn, s', pr, e1, -⟩ := yy
    refine wC.i e1 (wC.i e1 (c_holds y1 y2 y3 hk hw ?_))
    rw [hd] at hc
    unfold mss at hc
    rw [List.countP_cons] at hc
    rw [show iI (k : Int) + 1 = iI ((k + 1 : Nat) : Int) from iI_add _ 1]
    cases hh : hld r x with
    | true =>
      rw [hh] at hc
      rw [if_neg (by decide)]
      exact ih (k + 1) c (by omega) (by unfold mss; simpa using hc) (by omega)
    | false =>
      rw [hh] at hc
      rw [if_pos (by decide), show iI (c : Int) + 1 = iI ((c + 1 : Nat) : Int) from iI_add _ 1]
      exact ih (k + 1) (c + 1) (by omega) (by unfold mss; simp at hc; omega) (by omega)
theorem c_miss {ml cap : Nat} {so : Option Nat} {ms : List Nat} {L : List Mt} {y : Option (Nat × Nat × Nat)} {Q : Int32 → ab_H → Prop} (hS : A sv = some (oR (.inr (3, fs)))) (hf : fs[1]? = some (va_rf (some sa))) (hsa : SaAt A sa st) (hml : A ml = some (oL ms cap)) (hMs : MsAt A ms L) (hSc : ScAt A so y) (hk : Kr A q r cid) (hw : rqw r) (hQ : Q (iI ((scn st y + mss r L : Nat) : Int)) A) : wp_S_conditionsMissed sv (some ml) so (some q) A Q := by
  unfold wp_S_conditionsMissed
  have l0 : scn st y = 0 → wq_S_conditionsMissed_24 sv (some ml) so (some q) Q A := fun z => ⟨_, cl_miss hml hMs hk hw hQ ms.length 0 0 (by omega) (by rw [z, List.drop_zero]) (by omega)⟩
  cases y with
  | none =>
    have hSc : so = none := hSc
    rw [if_pos hSc]
    exact l0 rfl
  | some z =>
    obtain ⟨b, h1, h2, h3, h4, h5⟩ := hSc
    obtain ⟨f, g1, g2⟩ := hsa
    subst h1
    rw [if_neg (fun e => by cases e)]
    refine wgR.i (x := some sa) hS hf (wgI.i h2 rfl (wAI.i g1 (Or.inl rfl) h3 (by omega) (wgI.i h2 rfl ?_)))
    obtain ⟨w1, w2⟩ := g2 z.1 h3
    rw [w1]
    by_cases v : st z.1 = z.2.1
    · rw [if_pos (by simp (disch := omega) only [iI_lit, iI_add, iI_sub, iI_mul, iI_neg, iI_lt, iI_le, iI_eq] <;> omega)]
      exact l0 (by unfold scn; dsimp only; rw [if_pos v])
    · rw [if_neg (by simp (disch := omega) only [iI_lit, iI_add, iI_sub, iI_mul, iI_neg, iI_lt, iI_le, iI_eq] <;> omega)]
      exact ⟨_, cl_miss hml hMs hk hw hQ ms.length 0 1 (by omega) (by unfold scn; dsimp only; rw [if_neg v, List.drop_zero]) (by omega)⟩
/-- a stub as the class holds it -/
def StAt (A : ab_H) (b : Nat) (x : Sb) : Prop := ∃ tp ts ml ms cap so, A b = some (oR (.inr (12, [.int (iI (sbI x)), .int (iI (sbP x)), .int (iI (sbC x)), va_rf (some tp), va_rf (some ml), va_rf so]))) ∧ A tp = some (oR (.inr (11, [va_rf (some ts)]))) ∧ A ts = some (oS (sbT x)) ∧ stl (sbT x) ∧ (∀ y ∈ sbT x, 0 < y) ∧ A ml = some (oL ms cap) ∧ MsAt A ms (sbM x) ∧ ScAt A so (sbS x) ∧ sbI x < 100000 ∧ sbP x ≤ 9 ∧ 100 ≤ sbC x ∧ sbC x ≤ 599
def StsAt (A : ab_H) (bs : List Nat) (X : List Sb) : Prop := bs.length = X.length ∧ X.length ≤ 8 ∧ ∀ (j b : Nat) (x : Sb), bs[j]? = some b → X[j]? = some x → StAt A b x
theorem miss_le {L : List Mt} (st : Nat → Nat) (y : Option (Nat × Nat × Nat)) (h : L.length ≤ 4) : scn st y + mss r L ≤ 5 := by
  have : mss r L ≤ L.length := List.countP_le_length
  have : scn st y ≤ 1 := by
    unfold scn
    (repeat' split) <;> omega
  omega
theorem cl_near {sl cap : Nat} {bs : List Nat} {X : List Sb} {Q : Option Nat → ab_H → Prop} (hS : A sv = some (oR (.inr (3, fs)))) (hf : fs[1]? = some (va_rf (some sa))) (hf3 : fs[3]? = some (va_rf (some sl))) (hsa : SaAt A sa st) (hsl : A sl = some (oL bs cap)) (hX : StsAt A bs X) (hk : Kr A q r cid) (hw : rqw r) (hQ0 : nr r st X = none → Q none A) (hQ1 : ∀ x b, nr r st X = some x → StAt A b x → b ∈ bs → Q (some b) A) : ∀ (j k : Nat) (o : Option Sb) (u : Option Nat) (c : Int32), k + j = bs.length → (X.drop k).foldl (fun o x => match o with
  | none => some x
  | some y => if miss r st x < miss r st y ∨ (miss r st x = miss r st y ∧ sbP x ≤ sbP y) then some x else some y) o = nr r st X → (match o with
  | none => u = none
  | some y => ∃ b, u = some b ∧ StAt A b y ∧ c = iI (miss r st y) ∧ b ∈ bs) → wq_S_nearest_7 sv (some q) Q (j + 1) u c (iI k) A := by
  obtain ⟨m1, m2, m3⟩ := hX
  intro j
  induction j with
  | zero =>
    intro k o u c hkj ho hu
    show wb_S_nearest_7 _ _ _ _ _ _ _ _
    unfold wb_S_nearest_7
    refine wgR.i (x := some sl) hS hf3 (al_size hsl ?_)
    rw [if_pos (by simp (disch := omega) only [iI_lit, iI_add, iI_sub, iI_mul, iI_neg, iI_lt, iI_le, iI_eq] <;> omega)]
    rw [List.drop_of_length_le (by omega)] at ho
    have ho : o = nr r st X := ho
    cases o with
    | none =>
      have hu : u = none := hu
      rw [hu]
      exact hQ0 ho.symm
    | some y =>
      obtain ⟨b, u1, u2, u3, u4⟩ := hu
      rw [u1]
      exact hQ1 y b ho.symm u2 u4
  | succ j ih =>
    intro k o u c hkj ho hu
    have hkl : k < bs.length := by omega
    show wb_S_nearest_7 _ _ _ _ _ _ _ _
    unfold wb_S_nearest_7
    refine wgR.i (x := some sl) hS hf3 (al_size hsl ?_)
    rw [if_neg (by simp (disch := omega) only [iI_lit, iI_add, iI_sub, iI_mul, iI_neg, iI_lt, iI_le, iI_eq] <;> omega)]
    refine wgR.i (x := some sl) hS hf3 (al_get hsl rfl hkl ?_)
    obtain ⟨x, hx⟩ : ∃ x, X[k]? = some x := ⟨X[k]'(by omega), List.getElem?_eq_getElem _⟩
    have hst := m3 k (bs.getD k 0) x (ls_get hkl) hx
    have hmem : bs.getD k 0 ∈ bs := List.mem_of_getElem? (ls_get hkl)
    have hd : X.drop k = x :: X.drop (k + 1) := by
      rw [List.drop_eq_getElem_cons (by omega)]
      rw [List.getElem?_eq_getElem (by omega)] at hx
      rw [Option.some.inj hx]
    have yy := hst
    obtain ⟨tp, ts, ml, ms, cp, so, e1, e2, e3, e4, e5, e6, e7, e8, e9, e10, e11, e12⟩ := yy
    refine wC.i e1 (wgR.i (x := some ml) e1 rfl (wgR.i (x := so) e1 rfl (wC.i hS (c_miss hS hf hsa e6 e7 e8 hk hw ?_))))
    have hml := miss_le (r := r) st (sbS x) e7.2.1
    have hxm : scn st (sbS x) + mss r (sbM x) = miss r st x := rfl
    rw [hxm] at hml ⊢
    rw [hd, List.foldl_cons] at ho
    have nx : iI (k : Int) + 1 = iI ((k + 1 : Nat) : Int) := iI_add _ 1
    cases o with
    | none =>
      have hu : u = none := hu
      rw [if_pos hu]
      unfold wq_S_nearest_78
      rw [nx]
      exact ih (k + 1) (some x) _ _ (by omega) ho ⟨_, rfl, hst, rfl, hmem⟩
    | some y =>
      obtain ⟨b, u1, u2, u3, u4⟩ := hu
      have yy := u2
      obtain ⟨tp', ts', ml', ms', cp', so', d1, d2, d3, d4, d5, d6, d7, d8, d9, d10, d11, d12⟩ := yy
      have hyl := miss_le (r := r) st (sbS y) d7.2.1
      have hym : scn st (sbS y) + mss r (sbM y) = miss r st y := rfl
      rw [hym] at hyl
      subst u1
      rw [if_neg (fun e => by cases e), u3]
      dsimp only at ho
      by_cases q1 : miss r st x < miss r st y
      · rw [if_pos (by simp (disch := omega) only [iI_lit, iI_add, iI_sub, iI_mul, iI_neg, iI_lt, iI_le, iI_eq] <;> omega)]
        rw [if_pos (Or.inl q1)] at ho
        unfold wq_S_nearest_78
        rw [nx]
        exact ih (k + 1) (some x) _ _ (by omega) ho ⟨_, rfl, hst, rfl, hmem⟩
      rw [if_neg (by simp (disch := omega) only [iI_lit, iI_add, iI_sub, iI_mul, iI_neg, iI_lt, iI_le, iI_eq] <;> omega)]
      by_cases q2 : miss r st x = miss r st y
      · rw [if_pos (by simp (disch := omega) only [iI_lit, iI_add, iI_sub, iI_mul, iI_neg, iI_lt, iI_le, iI_eq] <;> omega)]
        refine wgI.i e1 rfl (wgI.i d1 rfl ?_)
        by_cases q3 : sbP x ≤ sbP y
        · rw [if_neg (by simp (disch := omega) only [iI_lit, iI_add, iI_sub, iI_mul, iI_neg, iI_lt, iI_le, iI_eq] <;> omega)]
          rw [if_pos (Or.inr ⟨q2, q3⟩)] at ho
          unfold wq_S_nearest_78
          rw [nx]
          exact ih (k + 1) (some x) _ _ (by omega) ho ⟨_, rfl, hst, rfl, hmem⟩
        · rw [if_pos (by simp (disch := omega) only [iI_lit, iI_add, iI_sub, iI_mul, iI_neg, iI_lt, iI_le, iI_eq] <;> omega)]
          rw [if_neg (by omega)] at ho
          rw [nx]
          exact ih (k + 1) (some y) _ _ (by omega) ho ⟨b, rfl, u2, rfl, u4⟩
      · rw [if_neg (by simp (disch := omega) only [iI_lit, iI_add, iI_sub, iI_mul, iI_neg, iI_lt, iI_le, iI_eq] <;> omega)]
        rw [if_neg (by omega)] at ho
        rw [nx]
        exact ih (k + 1) (some y) _ _ (by omega) ho ⟨b, rfl, u2, rfl, u4⟩
theorem c_near {sl cap : Nat} {bs : List Nat} {X : List Sb} {Q : Option Nat → ab_H → Prop} (hS : A sv = some (oR (.inr (3, fs)))) (hf : fs[1]? = some (va_rf (some sa))) (hf3 : fs[3]? = some (va_rf (some sl))) (hsa : SaAt A sa st) (hsl : A sl = some (oL bs cap)) (hX : StsAt A bs X) (hk : Kr A q r cid) (hw : rqw r) (hQ0 : nr r st X = none → Q none A) (hQ1 : ∀ x b, nr r st X = some x → StAt A b x → b ∈ bs → Q (some b) A) : wp_S_nearest sv (some q) A Q := ⟨_, cl_near hS hf hf3 hsa hsl hX hk hw hQ0 hQ1 bs.length 0 none none 0 (by omega) rfl rfl⟩
theorem c_moveOn {so : Option Nat} {y : Option (Nat × Nat × Nat)} {Q : ab_H → Prop} (hS : A sv = some (oR (.inr (3, fs)))) (hf : fs[1]? = some (va_rf (some sa))) (hsa : SaAt A sa st) (hSc : ScAt A so y) (hQ : ∀ B, SaAt B sa (mvo st y) → Fw A B [sa] → Q B) : wp_S_moveOn sv so A Q := by
  unfold wp_S_moveOn
  cases y with
  | none =>
    have hSc : so = none := hSc
    rw [if_pos hSc]
    exact hQ A hsa (Fw.rf _ _)
  | some z =>
    obtain ⟨b, h1, h2, h3, h4, h5⟩ := hSc
    obtain ⟨f, g1, g2⟩ := hsa
    subst h1
    rw [if_neg (fun e => by cases e)]
    refine wgR.i (x := some sa) hS hf (wgI.i h2 rfl (wgI.i h2 rfl (wSI.i g1 h3 (by omega) (fun B b1 b2 => hQ B ⟨_, b1, fun k hk => ?_⟩ b2))))
    unfold mvo
    dsimp only
    by_cases v : k = z.1
    · rw [v, pk_us, if_pos rfl]
      exact ⟨rfl, h5⟩
    · rw [pk_un v, if_neg v]
      exact g2 k hk
/-- one more in the journal -/
theorem c_keep {kl cap q2 kc ks : Nat} {qs : List Nat} {fq : List Value} {Q : ab_H → Prop} (hS : A sv = some (oR (.inr (3, fs)))) (hf : fs[4]? = some (va_rf (some kl))) (hkl : A kl = some (oL qs cap)) (hl : qs.length ≤ 5) (hq : A q2 = some (oR (.inr (7, fq)))) (h1 : 1 ≤ kc) (h2 : 10 ≤ ks) (hQ : ∀ B, B kl = some (oL ((if qs.length = 5 then qs.drop 1 else qs) ++ [q2]) 10) → Fw A B [kl] → Q B) : wp_S_keep sv (some q2) A kc ks Q := by
  unfold wp_S_keep
  refine wgR.i (x := some kl) hS hf (al_size hkl ?_)
  by_cases v : qs.length = 5
  · rw [if_neg (by simp (disch := omega) only [iI_lit, iI_add, iI_sub, iI_mul, iI_neg, iI_lt, iI_le, iI_eq] <;> omega)]
    rw [if_pos v] at hQ
    refine wgR.i (x := some kl) hS hf (al_rem hkl (j := 0) rfl (by omega) (fun A1 e1 f1 => ?_))
    unfold wq_S_keep_20
    rw [show qs.eraseIdx 0 = qs.drop 1 from by simp] at e1
    refine wgR.i (x := some kl) (f1.k hS hkl (fun e => by cases e)) hf (al_add e1 (f1.k hq hkl (fun e => by cases e)) (by decide) (by rw [List.length_drop]; omega) h1 h2 (fun A2 ks' e2 f2 _ => hQ A2 e2 (fww (W := [kl]) f1 f2)))
  · rw [if_pos (by simp (disch := omega) only [iI_lit, iI_add, iI_sub, iI_mul, iI_neg, iI_lt, iI_le, iI_eq] <;> omega)]
    rw [if_neg v] at hQ
    unfold wq_S_keep_20
    exact wgR.i (x := some kl) hS hf (al_add hkl hq (by decide) (by omega) h1 h2 (fun A2 ks' e2 f2 _ => hQ A2 e2 f2))
end MIS
