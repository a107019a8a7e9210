/-! The reference serves -/
def tmf (r : Rq) (n : Nat) : Nat → List Nat → List Nat
  | 0, _ => []
  | f + 1, Y => if Y = [] then [] else (tmS r n Y).1 ++ tmf r n f (Y.drop (tmS r n Y).2)
def fil (r : Rq) (n : Nat) (P : List Nat) : List Nat := (tmf r n P.length P).take 60
theorem tmS_r (r : Rq) (n : Nat) {Y : List Nat} (h : Y ≠ []) : 1 ≤ (tmS r n Y).2 ∧ (tmS r n Y).2 ≤ Y.length := by
  have hl : 0 < Y.length := List.length_pos_iff.mpr h
  have hk : tmK Y ≠ 0 → 2 < Y.length := fun z => by
    unfold tmK at z
    by_cases q : Y.getD 0 0 = 123 ∧ 2 < Y.length
    · exact q.2
    · rw [if_neg q] at z
      exact absurd rfl z
  unfold tmS
  by_cases q1 : tmK Y = 110 ∧ Y.getD 2 0 = 125
  · rw [if_pos q1]
    have := hk (by omega)
    dsimp only
    omega
  rw [if_neg q1]
  by_cases q2 : tmK Y = 109 ∧ Y.getD 2 0 = 125
  · rw [if_pos q2]
    have := hk (by omega)
    dsimp only
    omega
  rw [if_neg q2]
  by_cases q3 : tmK Y = 112 ∧ Y.getD 2 0 = 125
  · rw [if_pos q3]
    have := hk (by omega)
    dsimp only
    omega
  rw [if_neg q3]
  by_cases q4 : tmK Y = 98 ∧ Y.getD 2 0 = 125
  · rw [if_pos q4]
    have := hk (by omega)
    dsimp only
    omega
  rw [if_neg q4]
  by_cases q5 : tmK Y = 113 ∧ 0 < tmW Y ∧ 2 + tmW Y < Y.length
  · rw [if_pos q5]
    dsimp only
    omega
  rw [if_neg q5]
  by_cases q6 : tmK Y = 104 ∧ 0 < tmW Y ∧ 2 + tmW Y < Y.length
  · rw [if_pos q6]
    dsimp only
    omega
  rw [if_neg q6]
  dsimp only
  omega
theorem tmf_nil (r : Rq) (n f : Nat) : tmf r n f [] = [] := by
  cases f with
  | zero => rfl
  | succ f => unfold tmf; rw [if_pos rfl]
section SV
variable {s0 : RS} {B : List Nat} {cl : Bool} {hs : List (Nat × Nat)} {bd : List Nat} {Q : RS → Prop} {p0 : Int32}
theorem sl_serve65 {i n : Nat} {P : List Nat} (hJ : Jd s0 B cl hs bd) (hG : Gd B hs bd) (hT : Tp s0 i P) (hn : s0.1 7 = iI n) (hn2 : n < 10000) (hQ : ∀ s', Ch [38, 40, 42] [37, 39, 41] s0 s' → Mk s' (fil (rqOf B hs bd) n P) → vq_M_serve_89 p0 Q (iI i) s') : ∀ (f k : Nat) (s : RS) (M : List Nat), P.length ≤ k + f → k ≤ P.length → Ch [38, 40, 42] [37, 39, 41] s0 s → Mk s M → (M ++ tmf (rqOf B hs bd) n f (P.drop k)).take 60 = fil (rqOf B hs bd) n P → vq_M_serve_65 p0 Q (f + 1) (iI i) (iI k) s := by
  have hi := hT.1
  have hp := hT.2.1
  have fin : ∀ (s : RS) (M : List Nat), Ch [38, 40, 42] [37, 39, 41] s0 s → Mk s M → (M ++ []).take 60 = fil (rqOf B hs bd) n P → vq_M_serve_89 p0 Q (iI i) s := fun s M hC hM he => by
    rw [List.append_nil, List.take_of_length_le hM.1] at he
    exact hQ s hC (he ▸ hM)
  intro f
  induction f with
  | zero =>
    intro k s M hf hk hC hM he
    have hT' := hC.tp hT (by decide)
    show vb_M_serve_65 _ _ _ _ _ _
    unfold vb_M_serve_65
    rw [if_neg (by simp (disch := omega) only [iI_lit, iI_add, iI_sub, iI_mul, iI_neg, iI_lt, iI_le, iI_eq] <;> omega)]
    refine row8 rfl hi hT'.2.2.1 ?_
    rw [if_pos (by simp (disch := omega) only [iI_lit, iI_add, iI_sub, iI_mul, iI_neg, iI_lt, iI_le, iI_eq] <;> omega)]
    exact fin s M hC hM he
  | succ f ih =>
    intro k s M hf hk hC hM he
    have hT' := hC.tp hT (by decide)
    show vb_M_serve_65 _ _ _ _ _ _
    unfold vb_M_serve_65
    rw [if_neg (by simp (disch := omega) only [iI_lit, iI_add, iI_sub, iI_mul, iI_neg, iI_lt, iI_le, iI_eq] <;> omega)]
    refine row8 rfl hi hT'.2.2.1 ?_
    by_cases q : P.length ≤ k
    · rw [if_pos (by simp (disch := omega) only [iI_lit, iI_add, iI_sub, iI_mul, iI_neg, iI_lt, iI_le, iI_eq] <;> omega)]
      rw [List.drop_of_length_le q, tmf_nil] at he
      exact fin s M hC hM he
    · rw [if_neg (by simp (disch := omega) only [iI_lit, iI_add, iI_sub, iI_mul, iI_neg, iI_lt, iI_le, iI_eq] <;> omega)]
      have hne := drop_ne (T := P) (k := k) (by omega)
      have hr := tmS_r (rqOf B hs bd) n hne
      rw [List.length_drop] at hr
      unfold tmf at he
      rw [if_neg hne, List.drop_drop, ← List.append_assoc, ← tk60 (M ++ _)] at he
      exact sm_expand (hC.jd hJ (by decide) (by decide)) hG hM hT' (by rw [hC.1 7 (by decide)]; exact hn) hn2 (by omega) (fun s' a b => ih _ s' _ (by omega) (by omega) (hC.tr a) b he)
/-- an entry of the journal -/
abbrev Jn : Type := List Nat × Int
def Je (s : RS) (k : Nat) (y : Jn) : Prop := Sl s k y.1 ∧ s.2 6 k = iI y.2
theorem Je.keep {s s' : RS} {k t : Nat} {y : Jn} (h : Je s k y) (hf : CpF s s' t) (hk : k ≠ t) : Je s' k y := ⟨h.1.keep hf hk, by rw [(hf.2.2 k hk).2]; exact h.2⟩
theorem Je.ch {I R : List Nat} {s t : RS} {k : Nat} {y : Jn} (h : Je s k y) (hc : Ch I R s t) (h0 : 0 ∉ R) (h1 : 1 ∉ R) (h6 : 6 ∉ R) : Je t k y := ⟨h.1.ch hc h0 h1, by rw [hc.2 6 h6]; exact h.2⟩
theorem sm_copyJ {s : RS} {f t : Nat} {y : Jn} (h : Je s f y) (ht : t < 8) (hft : f ≠ t) (hQ : ∀ s', CpF s s' t → Je s' t y → Q s') : vp_M_copy (iI f) (iI t) s Q :=
  sm_copy h.1 ht hft (fun s' a b c => hQ s' a ⟨b, by rw [c]; exact h.2⟩)
/-- the journal -/
def Jo (s : RS) (J : List Jn) : Prop := J.length ≤ 5 ∧ s.1 5 = iI J.length ∧ ∀ (q : Nat) (y : Jn), J[q]? = some y → Je s (3 + q) y
def kpt (J : List Jn) (y : Jn) : List Jn := (if J.length = 5 then J.drop 1 else J) ++ [y]
/-- what keeping leaves -/
def KpF (s s' : RS) : Prop := Ch [5] [0, 1, 6] s s' ∧ (∀ j, j < 1560 → s'.2 0 j = s.2 0 j) ∧ ∀ d, d < 3 → s'.2 1 d = s.2 1 d
theorem KpF.cp {s t u : RS} {k : Nat} (h : KpF s t) (g : CpF t u k) (hk : 3 ≤ k) : KpF s u := ⟨h.1.tr (g.1.mo (by decide) (by decide)), fun j hj => by rw [g.2.1 j (by omega)]; exact h.2.1 j hj, fun d hd => by rw [(g.2.2 d (by omega)).1]; exact h.2.2 d hd⟩
theorem KpF.i {s t : RS} {v : Int32} (h : KpF s t) : KpF s (sI t 5 v) := ⟨h.1.i (by decide), h.2.1, h.2.2⟩
theorem KpF.r6 {s t : RS} {i : Nat} {v : Int32} (h : KpF s t) : KpF s (sR t 6 i v) := ⟨h.1.r (by decide), fun j hj => by rw [sR_ne (by decide)]; exact h.2.1 j hj, fun d hd => by rw [sR_ne (by decide)]; exact h.2.2 d hd⟩
theorem KpF.rf (s : RS) : KpF s s := ⟨Ch.rf _, fun _ _ => rfl, fun _ _ => rfl⟩
theorem KpF.sl {s t : RS} {k : Nat} {X : List Nat} (h : KpF s t) (hs : Sl s k X) (hk : k < 3) : Sl t k X := ⟨hs.1, hs.2.1, by rw [h.2.2 k hk]; exact hs.2.2.1, fun j hj => by have := hs.2.1; rw [h.2.1 _ (by omega)]; exact hs.2.2.2 j hj⟩
theorem sm_serve179 {s1 : RS} {c : Nat} {J : List Jn} {u2 : Int32} {id : Int} (hc : c < 3) (hS : Sl s1 c B) (hJ : Jo s1 J) (hJ4 : J.length ≤ 4) (hK : KpF s0 s1) (hu : (u2 = iI (-1) ∧ id = -1) ∨ (∃ p : Nat, p < 8 ∧ u2 = iI p ∧ s1.2 18 p = iI id)) (hQ : ∀ s', KpF s0 s' → Jo s' (J ++ [(B, id)]) → Q s') : vq_M_serve_179 (iI c) Q u2 s1 := by
  obtain ⟨j1, j2, j3⟩ := hJ
  unfold vq_M_serve_179
  refine wL.i ?_
  rw [j2, show (3 : Int32) + iI (J.length : Int) = iI ((3 + J.length : Nat) : Int) from iI_add 3 _]
  refine sm_copy hS (by omega) (by omega) (fun s2 a b e => wL.i ?_)
  have h5 : s2.1 5 = iI J.length := by rw [a.1.1 5 (by decide)]; exact j2
  rw [h5, show (3 : Int32) + iI (J.length : Int) = iI ((3 + J.length : Nat) : Int) from iI_add 3 _]
  have go : vq_M_serve_214 (iI c) Q (iI ((3 + J.length : Nat) : Int)) (iI id) s2 := by
    unfold vq_M_serve_214
    refine vS_i (by omega) (show ((3 + J.length : Nat) : Int) < (8 : Nat) by omega) (by decide) (wL.i (vP.i ?_))
    rw [show ((3 + J.length : Nat) : Int).toNat = 3 + J.length from rfl, sR_1, h5, show iI (J.length : Int) + 1 = iI ((J.length + 1 : Nat) : Int) from iI_add _ 1]
    have e6 : ∀ d, (sI (sR s2 6 (3 + J.length) (iI id)) 5 (iI ((J.length + 1 : Nat) : Int))).2 6 d = upd (s2.2 6) (3 + J.length) (iI id) d := fun d => by
      rw [sI_2, sR_at]
    have eS : ∀ {k : Nat} {X : List Nat}, Sl s2 k X → Sl (sI (sR s2 6 (3 + J.length) (iI id)) 5 (iI ((J.length + 1 : Nat) : Int))) k X := fun h => h.ch (((Ch.rf s2).r (R := [6]) (I := [5]) (by decide)).i (by decide)) (by decide) (by decide)
    refine hQ _ ((hK.cp a (by omega)).r6.i) ⟨by rw [List.length_append]; simp; omega, by rw [List.length_append]; exact sI_at, fun q y hy => ?_⟩
    by_cases z : q < J.length
    · rw [List.getElem?_append_left z] at hy
      have := (j3 q y hy).keep a (by omega)
      exact ⟨eS this.1, by rw [e6, pk_un (by omega)]; exact this.2⟩
    · rw [List.getElem?_append_right (by omega)] at hy
      have hq : q - J.length = 0 := by
        by_cases w : q - J.length = 0
        · exact w
        · obtain ⟨v, hv⟩ : ∃ v, q - J.length = v + 1 := ⟨q - J.length - 1, by omega⟩
          rw [hv] at hy
          cases hy
      rw [hq] at hy
      cases hy
      have : q = J.length := by omega
      subst this
      exact ⟨eS b, by rw [e6, pk_us]⟩
  rcases hu with ⟨u1, u3⟩ | ⟨p, u1, u3, u4⟩
  · rw [u1, if_neg (by decide)]
    rw [u3] at go
    exact go
  · rw [u3, if_pos (by simp (disch := omega) only [iI_lit, iI_add, iI_sub, iI_mul, iI_neg, iI_lt, iI_le, iI_eq] <;> omega)]
    refine row8 rfl u1 (by rw [a.1.2 18 (by decide)]; exact u4) go
theorem sm_serve140 {s1 : RS} {c : Nat} {J : List Jn} {u2 : Int32} {id : Int} (hc : c < 3) (hS : Sl s1 c B) (hJ : Jo s1 J) (hu : (u2 = iI (-1) ∧ id = -1) ∨ (∃ p : Nat, p < 8 ∧ u2 = iI p ∧ s1.2 18 p = iI id)) (hQ : ∀ s', KpF s1 s' → Jo s' (kpt J (B, id)) → Q s') : vq_M_serve_140 (iI c) Q u2 s1 := by
  unfold vq_M_serve_140
  refine wL.i ?_
  unfold kpt at hQ
  obtain ⟨j1, j2, j3⟩ := hJ
  rw [j2]
  by_cases q : J.length = 5
  · rw [if_pos (by simp (disch := omega) only [iI_lit, iI_add, iI_sub, iI_mul, iI_neg, iI_lt, iI_le, iI_eq] <;> omega)]
    rw [if_pos q] at hQ
    obtain ⟨y0, y1, y2, y3, y4, rfl⟩ : ∃ y0 y1 y2 y3 y4, J = [y0, y1, y2, y3, y4] := by
      match J, q with
      | [y0, y1, y2, y3, y4], _ => exact ⟨y0, y1, y2, y3, y4, rfl⟩
    have e1 : Je s1 4 y1 := j3 1 y1 rfl
    have e2 : Je s1 5 y2 := j3 2 y2 rfl
    have e3 : Je s1 6 y3 := j3 3 y3 rfl
    have e4 : Je s1 7 y4 := j3 4 y4 rfl
    refine ⟨5, ?_⟩
    have st : ∀ (k : Nat) (y : Jn) (f : Nat) (s : RS), 3 ≤ k → k < 7 → Je s (k + 1) y → (∀ s', CpF s s' k → Je s' k y → vq_M_serve_151 (iI c) Q f u2 (iI ((k + 1 : Nat) : Int)) s') → vq_M_serve_151 (iI c) Q (f + 1) u2 (iI k) s := fun k y f s h3 h7 hy hq => by
      show vb_M_serve_151 _ _ _ _ _ _
      unfold vb_M_serve_151
      rw [if_neg (by simp (disch := omega) only [iI_lit, iI_add, iI_sub, iI_mul, iI_neg, iI_lt, iI_le, iI_eq] <;> omega), show iI (k : Int) + 1 = iI ((k + 1 : Nat) : Int) from iI_add _ 1]
      exact sm_copyJ hy (by omega) (by omega) hq
    refine st 3 y1 4 s1 (by decide) (by decide) e1 (fun s2 a2 b2 => st 4 y2 3 s2 (by decide) (by decide) (e2.keep a2 (by decide)) (fun s3 a3 b3 => st 5 y3 2 s3 (by decide) (by decide) ((e3.keep a2 (by decide)).keep a3 (by decide)) (fun s4 a4 b4 => st 6 y4 1 s4 (by decide) (by decide) (((e4.keep a2 (by decide)).keep a3 (by decide)).keep a4 (by decide)) (fun s5 a5 b5 => ?_))))
    show vb_M_serve_151 _ _ _ _ _ _
    unfold vb_M_serve_151
    rw [if_pos (by decide)]
    unfold vq_M_serve_174
    refine vP.i ?_
    have hK : KpF s1 (sI s5 5 4) := (((((KpF.rf s1).cp a2 (by decide)).cp a3 (by decide)).cp a4 (by decide)).cp a5 (by decide)).i
    have g1 : Je s5 3 y1 := ((b2.keep a3 (by decide)).keep a4 (by decide)).keep a5 (by decide)
    have g2 : Je s5 4 y2 := (b3.keep a4 (by decide)).keep a5 (by decide)
    have g3 : Je s5 5 y3 := b4.keep a5 (by decide)
    have ki : ∀ {k : Nat} {y : Jn}, Je s5 k y → Je (sI s5 5 4) k y := fun h => h.ch ((Ch.rf s5).i (I := [5]) (R := []) (by decide)) (by decide) (by decide) (by decide)
    refine sm_serve179 (J := [y1, y2, y3, y4]) hc (hK.sl hS hc) ⟨by simp, sI_at, fun q y hy => ?_⟩ (by simp) hK ?_ hQ
    · match q with
      | 0 => cases hy; exact ki g1
      | 1 => cases hy; exact ki g2
      | 2 => cases hy; exact ki g3
      | 3 => cases hy; exact ki b5
      | q + 4 => cases hy
    · rcases hu with h | ⟨p, h1, h2, h3⟩
      · exact Or.inl h
      · exact Or.inr ⟨p, h1, h2, by rw [hK.1.2 18 (by decide)]; exact h3⟩
  · rw [if_neg (by simp (disch := omega) only [iI_lit, iI_add, iI_sub, iI_mul, iI_neg, iI_lt, iI_le, iI_eq] <;> omega)]
    rw [if_neg q] at hQ
    exact sm_serve179 hc hS ⟨j1, j2, j3⟩ (by omega) (KpF.rf s1) hu hQ
end SV
