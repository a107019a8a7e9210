/-! The reference expands a template -/
def tmK (Y : List Nat) : Nat := if Y.getD 0 0 = 123 ∧ 2 < Y.length then Y.getD 1 0 else 0
def tmW (Y : List Nat) : Nat := fi 125 (Y.drop 2)
def tmS (r : Rq) (n : Nat) (Y : List Nat) : List Nat × Nat :=
  if tmK Y = 110 ∧ Y.getD 2 0 = 125 then (dc_l n, 3)
  else if tmK Y = 109 ∧ Y.getD 2 0 = 125 then (r.1, 3)
  else if tmK Y = 112 ∧ Y.getD 2 0 = 125 then (r.2.1, 3)
  else if tmK Y = 98 ∧ Y.getD 2 0 = 125 then (r.2.2.2.2, 3)
  else if tmK Y = 113 ∧ 0 < tmW Y ∧ 2 + tmW Y < Y.length then (prt (rqf r 2 ((Y.drop 2).take (tmW Y))), tmW Y + 3)
  else if tmK Y = 104 ∧ 0 < tmW Y ∧ 2 + tmW Y < Y.length then (prt (rqf r 3 ((Y.drop 2).take (tmW Y))), tmW Y + 3)
  else ([Y.getD 0 0], 1)
/-- a template -/
def Tp (s : RS) (i : Nat) (P : List Nat) : Prop := i < 8 ∧ P.length ≤ 40 ∧ s.2 23 i = iI P.length ∧ ∀ j, j < P.length → (0 < P.getD j 0 ∧ P.getD j 0 < 256) ∧ s.2 22 (40 * i + j) = iI (P.getD j 0)
theorem Ch.tp {I R : List Nat} {s t : RS} {i : Nat} {P : List Nat} (h : Ch I R s t) (ht : Tp s i P) (h1 : ∀ k ∈ [22, 23], k ∉ R) : Tp t i P := ⟨ht.1, ht.2.1, by rw [h.2 23 (h1 23 (by decide))]; exact ht.2.2.1, fun j hj => by rw [h.2 22 (h1 22 (by decide))]; exact ht.2.2.2 j hj⟩
theorem Tp.at {s : RS} {i : Nat} {P : List Nat} (h : Tp s i P) {j : Nat} (hj : j < P.length) {y : Int32} (hy : y = iI ((40 * i + j : Nat) : Int)) {K : Int32 → Prop} (hK : K (iI (P.getD j 0))) : vA s 22 y K := by
  have h1 := h.1
  have h2 := h.2.1
  subst hy
  refine vA_i (by omega) (show ((40 * i + j : Nat) : Int) < (320 : Nat) by omega) (by decide) ?_
  rw [show (((40 * i + j : Nat) : Int)).toNat = 40 * i + j from rfl, (h.2.2.2 j hj).2]
  exact hK
section EX
variable {s : RS} {B : List Nat} {cl : Bool} {hs : List (Nat × Nat)} {bd M P : List Nat} {i k n : Nat} {Q : Int32 → RS → Prop} {u3 u4 u5 u6 u7 : Int32}
theorem ex_plain {c : Nat} (hM : Mk s M) (hc : c < 256) (hQ : ∀ s', Ch [38, 40, 42] [37, 39, 41] s s' → Mk s' ((M ++ [c]).take 60) → Q (iI ((k + 1 : Nat) : Int)) s') : vq_M_expand_180 (iI i) (iI k) Q u3 (iI c) u6 u7 0 0 s := by
  unfold vq_M_expand_180
  rw [if_pos rfl]
  unfold vq_M_expand_202
  rw [if_pos rfl]
  unfold vq_M_expand_241
  rw [if_pos rfl]
  unfold vq_M_expand_310
  rw [if_pos rfl, if_pos rfl]
  refine sm_make hM hc (fun s' a b => ?_)
  unfold vq_M_expand_326
  rw [if_pos rfl, if_pos rfl, show iI (k : Int) + 1 = iI ((k + 1 : Nat) : Int) from iI_add _ 1]
  exact hQ s' (a.mo (by decide) (by decide)) b
theorem ex_end1 (hq : Q (iI ((k + 3 : Nat) : Int)) s) : vq_M_expand_241 (iI i) (iI k) Q u3 u5 u6 u7 1 0 s := by
  unfold vq_M_expand_241
  rw [if_pos rfl]
  unfold vq_M_expand_310
  rw [if_neg (by decide)]
  unfold vq_M_expand_326
  rw [if_neg (by decide), show iI (k : Int) + 3 = iI ((k + 3 : Nat) : Int) from iI_add _ 3]
  exact hq
theorem ex_lone {kd : Nat} (hJ : Jd s B cl hs bd) (hG : Gd B hs bd) (hM : Mk s M) (hn : s.1 7 = iI n) (hn2 : n < 10000) (hk : kd = 110 ∨ kd = 109 ∨ kd = 112 ∨ kd = 98)
    (hQ : ∀ s', Ch [38, 40, 42] [37, 39, 41] s s' → Mk s' ((M ++ (if kd = 110 then dc_l n else if kd = 109 then (rqOf B hs bd).1 else if kd = 112 then (rqOf B hs bd).2.1 else (rqOf B hs bd).2.2.2.2)).take 60) → Q (iI ((k + 3 : Nat) : Int)) s') : vq_M_expand_180 (iI i) (iI k) Q u3 u5 (iI kd) u7 1 0 s := by
  unfold vq_M_expand_180
  rw [if_neg (by decide)]
  by_cases q : kd = 110
  · rw [if_pos (by simp (disch := omega) only [iI_lit, iI_add, iI_sub, iI_mul, iI_neg, iI_lt, iI_le, iI_eq] <;> omega)]
    refine wL.i ?_
    rw [hn]
    refine sm_makeNumber hM hn2 (fun s' a b => ?_)
    unfold vq_M_expand_202
    rw [if_neg (by decide), if_pos (by simp (disch := omega) only [iI_lit, iI_add, iI_sub, iI_mul, iI_neg, iI_lt, iI_le, iI_eq] <;> omega)]
    rw [if_pos q] at hQ
    exact ex_end1 (hQ s' (a.mo (by decide) (by decide)) b)
  · rw [if_neg (by simp (disch := omega) only [iI_lit, iI_add, iI_sub, iI_mul, iI_neg, iI_lt, iI_le, iI_eq] <;> omega)]
    rw [if_neg q] at hQ
    unfold vq_M_expand_202
    rw [if_neg (by decide), if_neg (by simp (disch := omega) only [iI_lit, iI_add, iI_sub, iI_mul, iI_neg, iI_lt, iI_le, iI_eq] <;> omega)]
    have go : ∀ pt : Nat, pt = 0 ∨ pt = 1 ∨ pt = 4 → (∀ s', Ch [38, 40, 42] [37, 39, 41] s s' → Mk s' ((M ++ prt (rqf (rqOf B hs bd) pt [])).take 60) → Q (iI ((k + 3 : Nat) : Int)) s') → vq_M_expand_238 (iI i) (iI k) Q u3 u5 (iI kd) u7 1 0 (iI pt) s := fun pt hpt hq => by
      unfold vq_M_expand_238
      exact sm_makePart (N := []) hJ hG (fun z => by omega) (by decide) (by omega) hM (fun s' a b => ex_end1 (hq s' (a.mo (by decide) (by decide)) b))
    by_cases q1 : kd = 109
    · rw [if_pos (by simp (disch := omega) only [iI_lit, iI_add, iI_sub, iI_mul, iI_neg, iI_lt, iI_le, iI_eq] <;> omega)]
      rw [if_pos q1] at hQ
      exact go 0 (by omega) hQ
    · rw [if_neg (by simp (disch := omega) only [iI_lit, iI_add, iI_sub, iI_mul, iI_neg, iI_lt, iI_le, iI_eq] <;> omega)]
      rw [if_neg q1] at hQ
      by_cases q2 : kd = 112
      · rw [if_pos (by simp (disch := omega) only [iI_lit, iI_add, iI_sub, iI_mul, iI_neg, iI_lt, iI_le, iI_eq] <;> omega)]
        rw [if_pos q2] at hQ
        exact go 1 (by omega) hQ
      · rw [if_neg (by simp (disch := omega) only [iI_lit, iI_add, iI_sub, iI_mul, iI_neg, iI_lt, iI_le, iI_eq] <;> omega)]
        rw [if_neg q2] at hQ
        exact go 4 (by omega) hQ
theorem sl_259 {kd w : Nat} (hJ : Jd s B cl hs bd) (hG : Gd B hs bd) (hM : Mk s M) (hT : Tp s i P) (hk : kd = 113 ∨ kd = 104) (hw : k + 2 + w ≤ P.length)
    (hQ : ∀ s', Ch [38, 40, 42] [37, 39, 41] s s' → Mk s' ((M ++ prt (rqf (rqOf B hs bd) (if kd = 113 then 2 else 3) (sl P (k + 2) (k + 2 + w)))).take 60) → Q (iI ((k + w + 3 : Nat) : Int)) s') : ∀ (j l : Nat) (s' : RS), l + j = w → Ch [38, 40, 42] [37, 39, 41] s s' → Mk s' M → s'.1 38 = iI w → (∀ x, x < l → s'.2 37 x = iI (P.getD (k + 2 + x) 0)) → vq_M_expand_259 (iI i) (iI k) Q (j + 1) (iI ((40 * i : Nat) : Int)) u5 (iI kd) (iI ((k + 2 + w : Nat) : Int)) 0 1 (iI l) s' := by
  have p2 := hT.2.1
  have hl := sl_len (B := P) (f := k + 2) (t := k + 2 + w) (by omega) hw
  intro j
  induction j with
  | zero =>
    intro l s' hj hC hM' h38 hi
    show vb_M_expand_259 _ _ _ _ _ _ _ _ _ _ _ _
    unfold vb_M_expand_259
    refine wL.i ?_
    rw [h38, if_pos (by simp (disch := omega) only [iI_lit, iI_add, iI_sub, iI_mul, iI_neg, iI_lt, iI_le, iI_eq] <;> omega)]
    have hS : So s' (sl P (k + 2) (k + 2 + w)) := by
      refine ⟨by rw [h38, hl]; congr 1; omega, fun x hx => ?_⟩
      rw [hl] at hx
      rw [sl_getD (show k + 2 + x < k + 2 + w by omega) hw]
      exact ⟨(hT.2.2.2 (k + 2 + x) (by omega)).1.2, hi x (by omega)⟩
    have go : ∀ pt : Nat, pt = (if kd = 113 then 2 else 3) → vq_M_expand_307 (iI i) (iI k) Q u5 (iI ((k + 2 + w : Nat) : Int)) 0 1 (iI pt) s' := fun pt hpt => by
      unfold vq_M_expand_307
      refine sm_makePart (N := sl P (k + 2) (k + 2 + w)) (hC.jd hJ (by decide) (by decide)) hG (fun _ => hS) (by rw [hl]; omega) (by rw [hpt]; split <;> omega) hM' (fun s2 a b => ?_)
      unfold vq_M_expand_310
      rw [if_pos rfl, if_neg (by decide)]
      unfold vq_M_expand_326
      rw [if_pos rfl, if_neg (by decide), show iI ((k + 2 + w : Nat) : Int) + 1 = iI ((k + w + 3 : Nat) : Int) from (iI_add _ 1).trans (by congr 1; omega)]
      rw [hpt] at b
      exact hQ s2 (hC.tr (a.mo (by decide) (by decide))) b
    unfold vq_M_expand_294
    by_cases q : kd = 113
    · rw [if_pos (by simp (disch := omega) only [iI_lit, iI_add, iI_sub, iI_mul, iI_neg, iI_lt, iI_le, iI_eq] <;> omega)]
      exact go 2 (by rw [if_pos q])
    · rw [if_neg (by simp (disch := omega) only [iI_lit, iI_add, iI_sub, iI_mul, iI_neg, iI_lt, iI_le, iI_eq] <;> omega)]
      exact go 3 (by rw [if_neg q])
  | succ j ih =>
    intro l s' hj hC hM' h38 hi
    show vb_M_expand_259 _ _ _ _ _ _ _ _ _ _ _ _
    unfold vb_M_expand_259
    refine wL.i ?_
    rw [h38, if_neg (by simp (disch := omega) only [iI_lit, iI_add, iI_sub, iI_mul, iI_neg, iI_lt, iI_le, iI_eq] <;> omega)]
    have hT' := hC.tp hT (by decide)
    refine hT'.at (j := k + 2 + l) (by omega) ?_ ?_
    · rw [show (2 : Int32) = iI 2 from rfl, iI_add, iI_add, iI_add]
      congr 1
      omega
    refine vS_i (by omega) (show (l : Int) < (40 : Nat) by omega) (by decide) ?_
    rw [show (l : Int).toNat = l from rfl, show iI (l : Int) + 1 = iI ((l + 1 : Nat) : Int) from iI_add _ 1]
    refine ih (l + 1) _ (by omega) (hC.r (by decide)) ⟨hM'.1, hM'.2.1, fun x hx => by rw [sR_ne (by decide)]; exact hM'.2.2 x hx⟩ h38 (fun x hx => ?_)
    rw [sR_at]
    show upd (s'.2 37) l _ x = _
    by_cases q : x = l
    · subst q
      rw [pk_us]
    · rw [pk_un q]
      exact hi x (by omega)
theorem ex_long {kd w : Nat} (hJ : Jd s B cl hs bd) (hG : Gd B hs bd) (hM : Mk s M) (hT : Tp s i P) (hk : kd = 113 ∨ kd = 104) (hw : k + 2 + w ≤ P.length)
    (hQ : ∀ s', Ch [38, 40, 42] [37, 39, 41] s s' → Mk s' ((M ++ prt (rqf (rqOf B hs bd) (if kd = 113 then 2 else 3) (sl P (k + 2) (k + 2 + w)))).take 60) → Q (iI ((k + w + 3 : Nat) : Int)) s') : vq_M_expand_180 (iI i) (iI k) Q (iI ((40 * i : Nat) : Int)) u5 (iI kd) (iI ((k + 2 + w : Nat) : Int)) 0 1 s := by
  unfold vq_M_expand_180
  rw [if_pos rfl]
  unfold vq_M_expand_202
  rw [if_pos rfl]
  unfold vq_M_expand_241
  rw [if_neg (by decide)]
  refine vP.i ⟨w + 1, sl_259 hJ hG hM hT hk hw hQ w 0 _ (by omega) ((Ch.rf s).i (by decide)) ⟨hM.1, by rw [sI_ne (by decide)]; exact hM.2.1, hM.2.2⟩ ?_ (fun x hx => absurd hx (by omega))⟩
  rw [sI_at, show (2 : Int32) = iI 2 from rfl, iI_sub, iI_sub]
  congr 1
  omega
theorem sl_59 {kd : Nat} (hT : Tp s i P) (hk : 0 < kd) (hk2 : kd < 256) (hQ : vq_M_expand_91 (iI i) (iI k) Q (iI ((40 * i : Nat) : Int)) (iI P.length) u5 (iI kd) (iI ((k + 2 + fi 125 (P.drop (k + 2)) : Nat) : Int)) s) : ∀ (j e : Nat), e + j = P.length → k + 2 ≤ e → e + fi 125 (P.drop e) = k + 2 + fi 125 (P.drop (k + 2)) → vq_M_expand_59 (iI i) (iI k) Q (j + 1) (iI ((40 * i : Nat) : Int)) (iI P.length) u5 (iI kd) (iI e) s := by
  have p2 := hT.2.1
  intro j
  induction j with
  | zero =>
    intro e he hke hf
    show vb_M_expand_59 _ _ _ _ _ _ _ _ _ _
    unfold vb_M_expand_59
    rw [if_neg (by simp (disch := omega) only [iI_lit, iI_add, iI_sub, iI_mul, iI_neg, iI_lt, iI_le, iI_eq] <;> omega), if_pos (by simp (disch := omega) only [iI_lit, iI_add, iI_sub, iI_mul, iI_neg, iI_lt, iI_le, iI_eq] <;> omega)]
    rw [List.drop_of_length_le (show P.length ≤ e by omega), fi_nil, Nat.add_zero] at hf
    rw [hf]
    exact hQ
  | succ j ih =>
    intro e he hke hf
    show vb_M_expand_59 _ _ _ _ _ _ _ _ _ _
    unfold vb_M_expand_59
    rw [if_neg (by simp (disch := omega) only [iI_lit, iI_add, iI_sub, iI_mul, iI_neg, iI_lt, iI_le, iI_eq] <;> omega), if_neg (by simp (disch := omega) only [iI_lit, iI_add, iI_sub, iI_mul, iI_neg, iI_lt, iI_le, iI_eq] <;> omega)]
    refine hT.at (j := e) (by omega) (iI_add _ _) ?_
    have hb := (hT.2.2.2 e (by omega)).1
    rw [ls_drop (show e < P.length by omega), fi_cons] at hf
    by_cases q : P.getD e 0 = 125
    · rw [if_pos (by simp (disch := omega) only [iI_lit, iI_add, iI_sub, iI_mul, iI_neg, iI_lt, iI_le, iI_eq] <;> omega)]
      rw [if_pos q, Nat.add_zero] at hf
      rw [hf]
      exact hQ
    · rw [if_neg (by simp (disch := omega) only [iI_lit, iI_add, iI_sub, iI_mul, iI_neg, iI_lt, iI_le, iI_eq] <;> omega), show iI (e : Int) + 1 = iI ((e + 1 : Nat) : Int) from iI_add _ 1]
      rw [if_neg q] at hf
      exact ih (e + 1) (by omega) (by omega) (by omega)
theorem sm_expand (hJ : Jd s B cl hs bd) (hG : Gd B hs bd) (hM : Mk s M) (hT : Tp s i P) (hn : s.1 7 = iI n) (hn2 : n < 10000) (hk : k < P.length)
    (hQ : ∀ s', Ch [38, 40, 42] [37, 39, 41] s s' → Mk s' ((M ++ (tmS (rqOf B hs bd) n (P.drop k)).1).take 60) → Q (iI ((k + (tmS (rqOf B hs bd) n (P.drop k)).2 : Nat) : Int)) s') : vp_M_expand (iI i) (iI k) s Q := by
  have p1 := hT.1
  have p2 := hT.2.1
  have pc := (hT.2.2.2 k hk).1
  have gd : ∀ j, k + j < P.length → (P.drop k).getD j 0 = P.getD (k + j) 0 := fun j hj => by simp [List.getD_eq_getElem?_getD]
  have g0 := gd 0 (by omega)
  rw [Nat.add_zero] at g0
  have dd : (P.drop k).drop 2 = P.drop (k + 2) := by rw [List.drop_drop]
  have ln : (P.drop k).length = P.length - k := List.length_drop
  have fle := fi_le 125 (P.drop (k + 2))
  rw [List.length_drop] at fle
  unfold vp_M_expand
  refine wL.i ?_
  rw [show (40 : Int32) * iI i = iI ((40 * i : Nat) : Int) from (iI_mul 40 _).trans (by congr 1)]
  refine vA_i (by omega) (show (i : Int) < (8 : Nat) by omega) (by decide) ?_
  rw [show (i : Int).toNat = i from rfl, hT.2.2.1]
  refine hT.at (j := k) hk (iI_add _ _) ?_
  have plain : (∀ s', Ch [38, 40, 42] [37, 39, 41] s s' → Mk s' ((M ++ [P.getD k 0]).take 60) → Q (iI ((k + 1 : Nat) : Int)) s') → ∀ {u3 u6 u7 : Int32}, vq_M_expand_180 (iI i) (iI k) Q u3 (iI (P.getD k 0 : Nat)) u6 u7 0 0 s := fun h => ex_plain hM pc.2 h
  have zero : tmK (P.drop k) = 0 → vq_M_expand_51 (iI i) (iI k) Q (iI ((40 * i : Nat) : Int)) (iI P.length) (iI (P.getD k 0 : Nat)) s := fun z => by
    unfold tmS at hQ
    rw [z, if_neg (by omega), if_neg (by omega), if_neg (by omega), if_neg (by omega), if_neg (by omega), if_neg (by omega), g0] at hQ
    refine wL.i ⟨1, ?_⟩
    show vb_M_expand_59 _ _ _ _ _ _ _ _ _ _
    unfold vb_M_expand_59
    rw [if_pos (by decide)]
    unfold vq_M_expand_91
    rw [if_pos (by decide)]
    unfold vq_M_expand_143 vq_M_expand_144
    rw [if_neg (by decide), if_neg (by decide)]
    unfold vq_M_expand_179
    exact plain hQ
  by_cases q : P.getD k 0 = 123
  · rw [if_pos (by simp (disch := omega) only [iI_lit, iI_add, iI_sub, iI_mul, iI_neg, iI_lt, iI_le, iI_eq] <;> omega)]
    by_cases q2 : P.length ≤ k + 2
    · rw [if_pos (by simp (disch := omega) only [iI_lit, iI_add, iI_sub, iI_mul, iI_neg, iI_lt, iI_le, iI_eq] <;> omega)]
      refine zero ?_
      unfold tmK
      rw [if_neg (fun z => by rw [ln] at z; omega)]
    · rw [if_neg (by simp (disch := omega) only [iI_lit, iI_add, iI_sub, iI_mul, iI_neg, iI_lt, iI_le, iI_eq] <;> omega)]
      refine hT.at (j := k + 1) (by omega) ?_ ?_
      · rw [show (1 : Int32) = iI 1 from rfl, iI_add, iI_add]
        congr 1
      have kb := (hT.2.2.2 (k + 1) (by omega)).1
      have eb := (hT.2.2.2 (k + 2) (by omega)).1
      have hK : tmK (P.drop k) = P.getD (k + 1) 0 := by
        unfold tmK
        rw [if_pos ⟨by rw [g0]; exact q, by rw [ln]; omega⟩, gd 1 (by omega)]
      unfold tmS tmW at hQ
      rw [hK, dd, ln, g0, gd 2 (by omega)] at hQ
      refine wL.i ?_
      rw [show iI (k : Int) + 2 = iI ((k + 2 : Nat) : Int) from iI_add _ 2]
      refine ⟨_, sl_59 (kd := P.getD (k + 1) 0) hT kb.1 kb.2 ?_ (P.length - (k + 2)) (k + 2) (by omega) (by omega) rfl⟩
      have h2 : vA s 22 (iI ((40 * i : Nat) : Int) + iI k + 2) (fun x4 => x4 = iI (P.getD (k + 2) 0 : Nat)) := hT.at (j := k + 2) (by omega) (by rw [show (2 : Int32) = iI 2 from rfl, iI_add, iI_add]; congr 1) rfl
      have rd : ∀ {K : Int32 → Prop}, K (iI (P.getD (k + 2) 0 : Nat)) → vA s 22 (iI ((40 * i : Nat) : Int) + iI k + 2) K := fun h => hT.at (j := k + 2) (by omega) (by rw [show (2 : Int32) = iI 2 from rfl, iI_add, iI_add]; congr 1) h
      generalize P.getD (k + 1) 0 = kd at *
      generalize P.getD (k + 2) 0 = ed at *
      have esl : (P.drop (k + 2)).take (fi 125 (P.drop (k + 2))) = sl P (k + 2) (k + 2 + fi 125 (P.drop (k + 2))) := by
        unfold sl
        congr 1
        omega
      rw [esl] at hQ
      generalize fi 125 (P.drop (k + 2)) = w at *
      unfold vq_M_expand_91
      rw [if_neg (by simp (disch := omega) only [iI_lit, iI_add, iI_sub, iI_mul, iI_neg, iI_lt, iI_le, iI_eq] <;> omega)]
      refine rd ?_
      have l0 : (¬ (ed = 125 ∧ (kd = 110 ∨ kd = 109 ∨ kd = 112 ∨ kd = 98))) → vq_M_expand_143 (iI i) (iI k) Q (iI ((40 * i : Nat) : Int)) (iI P.length) (iI (P.getD k 0 : Nat)) (iI kd) (iI ((k + 2 + w : Nat) : Int)) s := fun z => by
        rw [if_neg (by omega), if_neg (by omega), if_neg (by omega), if_neg (by omega)] at hQ
        unfold vq_M_expand_143 vq_M_expand_144
        have h160 : (kd = 113 ∨ kd = 104) → vq_M_expand_160 (iI i) (iI k) Q (iI ((40 * i : Nat) : Int)) (iI P.length) (iI (P.getD k 0 : Nat)) (iI kd) (iI ((k + 2 + w : Nat) : Int)) 0 s := fun y => by
          unfold vq_M_expand_160
          by_cases z1 : P.length ≤ k + 2 + w
          · rw [if_pos (by simp (disch := omega) only [iI_lit, iI_add, iI_sub, iI_mul, iI_neg, iI_lt, iI_le, iI_eq] <;> omega)]
            rw [if_neg (by omega), if_neg (by omega)] at hQ
            exact plain hQ
          · rw [if_neg (by simp (disch := omega) only [iI_lit, iI_add, iI_sub, iI_mul, iI_neg, iI_lt, iI_le, iI_eq] <;> omega)]
            by_cases z2 : 0 < w
            · rw [if_neg (by simp (disch := omega) only [iI_lit, iI_add, iI_sub, iI_mul, iI_neg, iI_lt, iI_le, iI_eq] <;> omega)]
              refine ex_long hJ hG hM hT y (by omega) (fun s' a b => ?_)
              rcases y with y | y
              · rw [if_pos y] at b
                rw [if_pos ⟨y, z2, by omega⟩] at hQ
                have := hQ s' a b
                rw [show k + w + 3 = k + (w + 3) by omega]
                exact this
              · rw [if_neg (show ¬ kd = 113 by omega)] at b
                rw [if_neg (show ¬ (kd = 113 ∧ 0 < w ∧ 2 + w < P.length - k) by omega), if_pos ⟨y, z2, by omega⟩] at hQ
                have := hQ s' a b
                rw [show k + w + 3 = k + (w + 3) by omega]
                exact this
            · rw [if_pos (by simp (disch := omega) only [iI_lit, iI_add, iI_sub, iI_mul, iI_neg, iI_lt, iI_le, iI_eq] <;> omega)]
              rw [if_neg (by omega), if_neg (by omega)] at hQ
              exact plain hQ
        by_cases z1 : kd = 113
        · rw [if_pos (by simp (disch := omega) only [iI_lit, iI_add, iI_sub, iI_mul, iI_neg, iI_lt, iI_le, iI_eq] <;> omega)]
          exact h160 (Or.inl z1)
        · rw [if_neg (by simp (disch := omega) only [iI_lit, iI_add, iI_sub, iI_mul, iI_neg, iI_lt, iI_le, iI_eq] <;> omega)]
          by_cases z2 : kd = 104
          · rw [if_pos (by simp (disch := omega) only [iI_lit, iI_add, iI_sub, iI_mul, iI_neg, iI_lt, iI_le, iI_eq] <;> omega)]
            exact h160 (Or.inr z2)
          · rw [if_neg (by simp (disch := omega) only [iI_lit, iI_add, iI_sub, iI_mul, iI_neg, iI_lt, iI_le, iI_eq] <;> omega)]
            rw [if_neg (by omega), if_neg (by omega)] at hQ
            exact plain hQ
      by_cases q3 : ed = 125
      · rw [if_pos (by simp (disch := omega) only [iI_lit, iI_add, iI_sub, iI_mul, iI_neg, iI_lt, iI_le, iI_eq] <;> omega)]
        have l1 : (kd = 110 ∨ kd = 109 ∨ kd = 112 ∨ kd = 98) → vq_M_expand_139 (iI i) (iI k) Q (iI ((40 * i : Nat) : Int)) (iI P.length) (iI (P.getD k 0 : Nat)) (iI kd) (iI ((k + 2 + w : Nat) : Int)) s := fun z => by
          unfold vq_M_expand_139 vq_M_expand_144
          rw [if_neg (by simp (disch := omega) only [iI_lit, iI_add, iI_sub, iI_mul, iI_neg, iI_lt, iI_le, iI_eq] <;> omega), if_neg (by simp (disch := omega) only [iI_lit, iI_add, iI_sub, iI_mul, iI_neg, iI_lt, iI_le, iI_eq] <;> omega)]
          unfold vq_M_expand_179
          refine ex_lone hJ hG hM hn hn2 z (fun s' a b => ?_)
          rcases z with z | z | z | z
          · rw [if_pos z] at b
            rw [if_pos ⟨z, q3⟩] at hQ
            exact hQ s' a b
          · rw [if_neg (show ¬ kd = 110 by omega), if_pos z] at b
            rw [if_neg (by omega), if_pos ⟨z, q3⟩] at hQ
            exact hQ s' a b
          · rw [if_neg (show ¬ kd = 110 by omega), if_neg (show ¬ kd = 109 by omega), if_pos z] at b
            rw [if_neg (by omega), if_neg (by omega), if_pos ⟨z, q3⟩] at hQ
            exact hQ s' a b
          · rw [if_neg (show ¬ kd = 110 by omega), if_neg (show ¬ kd = 109 by omega), if_neg (show ¬ kd = 112 by omega)] at b
            rw [if_neg (by omega), if_neg (by omega), if_neg (by omega), if_pos ⟨z, q3⟩] at hQ
            exact hQ s' a b
        by_cases z1 : kd = 109
        · rw [if_pos (by simp (disch := omega) only [iI_lit, iI_add, iI_sub, iI_mul, iI_neg, iI_lt, iI_le, iI_eq] <;> omega)]
          exact l1 (by omega)
        rw [if_neg (by simp (disch := omega) only [iI_lit, iI_add, iI_sub, iI_mul, iI_neg, iI_lt, iI_le, iI_eq] <;> omega)]
        by_cases z2 : kd = 112
        · rw [if_pos (by simp (disch := omega) only [iI_lit, iI_add, iI_sub, iI_mul, iI_neg, iI_lt, iI_le, iI_eq] <;> omega)]
          exact l1 (by omega)
        rw [if_neg (by simp (disch := omega) only [iI_lit, iI_add, iI_sub, iI_mul, iI_neg, iI_lt, iI_le, iI_eq] <;> omega)]
        by_cases z3 : kd = 98
        · rw [if_pos (by simp (disch := omega) only [iI_lit, iI_add, iI_sub, iI_mul, iI_neg, iI_lt, iI_le, iI_eq] <;> omega)]
          exact l1 (by omega)
        rw [if_neg (by simp (disch := omega) only [iI_lit, iI_add, iI_sub, iI_mul, iI_neg, iI_lt, iI_le, iI_eq] <;> omega)]
        by_cases z4 : kd = 110
        · rw [if_pos (by simp (disch := omega) only [iI_lit, iI_add, iI_sub, iI_mul, iI_neg, iI_lt, iI_le, iI_eq] <;> omega)]
          exact l1 (by omega)
        rw [if_neg (by simp (disch := omega) only [iI_lit, iI_add, iI_sub, iI_mul, iI_neg, iI_lt, iI_le, iI_eq] <;> omega)]
        exact l0 (by omega)
      · rw [if_neg (by simp (disch := omega) only [iI_lit, iI_add, iI_sub, iI_mul, iI_neg, iI_lt, iI_le, iI_eq] <;> omega)]
        exact l0 (by omega)
  · rw [if_neg (by simp (disch := omega) only [iI_lit, iI_add, iI_sub, iI_mul, iI_neg, iI_lt, iI_le, iI_eq] <;> omega)]
    refine zero ?_
    unfold tmK
    rw [if_neg (fun z => by rw [g0] at z; exact q z.1)]
end EX
