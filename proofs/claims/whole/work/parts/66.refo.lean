/-! The state, and the reference that keeps it: serve, arrive -/
abbrev Cn : Type := Bool × List Nat × List Nat
abbrev Ss : Type := List Nat × List Mt × List Sb × Nat
abbrev St : Type := (Nat → Cn) × List Jn × Nat × (Nat → Nat) × Ss
def rqB (B : List Nat) : Rq := rqOf B (jd B).2.2.1 (jd B).2.2.2
def mvo (st : Nat → Nat) (o : Option (Nat × Nat × Nat)) : Nat → Nat := match o with
  | none => st
  | some y => fun k => if k = y.1 then y.2.2 else st k
def upC (f : Nat → Cn) (c : Nat) (x : Cn) : Nat → Cn := fun d => if d = c then x else f d
def srv (S : St) (c : Nat) (B : List Nat) : St := match chs (rqB B) S.2.2.2.1 S.2.2.2.2.2.2.1 with
  | none => (upC S.1 c ((jd B).2.1, [], rsp 404 []), kpt S.2.1 (B, -1), S.2.2.1 + 1, S.2.2.2.1, S.2.2.2.2)
  | some x => (upC S.1 c ((jd B).2.1, [], rsp (sbC x) (fil (rqB B) (S.2.2.1 + 1) (sbT x))), kpt S.2.1 (B, (sbI x : Int)), S.2.2.1 + 1, mvo S.2.2.2.1 (sbS x), S.2.2.2.2)
def arr (S : St) (c b : Nat) : St :=
  if (jd ((S.1 c).2.1 ++ [b])).1 = 0 then (upC S.1 c ((S.1 c).1, (S.1 c).2.1 ++ [b], (S.1 c).2.2), S.2)
  else if (jd ((S.1 c).2.1 ++ [b])).1 = 1 then srv S c ((S.1 c).2.1 ++ [b])
  else (upC S.1 c (true, [], rsp (jd ((S.1 c).2.1 ++ [b])).1.toNat []), S.2)
def RC (s : RS) (c : Nat) (x : Cn) : Prop := Sl s c x.2.1 ∧ s.2 2 c = iI (bI x.1) ∧ Rp s c x.2.2 ∧ (jd x.2.1).1 = 0
def RT (s : RS) (ty : List Nat) : Prop := ty.length ≤ 40 ∧ s.1 10 = iI ty.length ∧ ∀ j, j < ty.length → (32 ≤ ty.getD j 0 ∧ ty.getD j 0 ≤ 126) ∧ s.2 9 j = iI (ty.getD j 0)
def RD (s : RS) (dr : List Mt) : Prop := dr.length ≤ 4 ∧ s.1 16 = iI dr.length ∧ ∀ (k : Nat) (x : Mt), dr[k]? = some x → Mr s k x
def Rt (s : RS) (T : Ss) : Prop := RT s T.1 ∧ RD s T.2.1 ∧ (∃ PL : List (Nat × Sb), T.2.2.1 = PL.map (fun z => z.2) ∧ Sbs s PL) ∧ s.1 17 = iI T.2.2.2 ∧ ∀ x ∈ T.2.2.1, sbI x < T.2.2.2
def jgd (J : List Jn) : Prop := ∀ y ∈ J, (jd y.1).1 = 1 ∧ -1 ≤ y.2 ∧ y.2 < 100000
def Rl (s : RS) (S : St) : Prop := (∀ c, c < 3 → RC s c (S.1 c)) ∧ (Jo s S.2.1 ∧ jgd S.2.1) ∧ s.1 7 = iI S.2.2.1 ∧ Sc s S.2.2.2.1 ∧ Rt s S.2.2.2.2
section KE
variable {I R : List Nat} {s t : RS}
theorem Ch.rc {c : Nat} {x : Cn} (h : Ch I R s t) (hr : RC s c x) (h1 : ∀ k ∈ [0, 1, 2, 3, 4], k ∉ R) : RC t c x :=
  ⟨hr.1.ch h (h1 0 (by decide)) (h1 1 (by decide)), by rw [h.2 2 (h1 2 (by decide))]; exact hr.2.1, ⟨hr.2.2.1.1, by rw [h.2 4 (h1 4 (by decide))]; exact hr.2.2.1.2.1, fun j hj => by rw [h.2 3 (h1 3 (by decide))]; exact hr.2.2.1.2.2 j hj⟩, hr.2.2.2⟩
theorem Ch.rt {T : Ss} (h : Ch I R s t) (hr : Rt s T) (h0 : ∀ k ∈ [10, 16, 17], k ∉ I) (h1 : ∀ k ∈ [9, 11, 12, 13, 14, 15, 18, 19, 20, 21, 22, 23, 24, 25, 26], k ∉ R) : Rt t T := by
  obtain ⟨a, b, ⟨PL, c1, c2⟩, d, e⟩ := hr
  refine ⟨⟨a.1, by rw [h.1 10 (h0 10 (by decide))]; exact a.2.1, fun j hj => by rw [h.2 9 (h1 9 (by decide))]; exact a.2.2 j hj⟩, ⟨b.1, by rw [h.1 16 (h0 16 (by decide))]; exact b.2.1, fun k x hx => h.mr (b.2.2 k x hx) (fun k hk => h1 k (by simp at hk ⊢; omega))⟩, ⟨PL, c1, h.sbs c2 (fun k hk => h1 k (by simp at hk ⊢; omega))⟩, by rw [h.1 17 (h0 17 (by decide))]; exact d, e⟩
theorem Ch.jo {J : List Jn} (h : Ch I R s t) (hj : Jo s J) (h5 : 5 ∉ I) (h0 : 0 ∉ R) (h1 : 1 ∉ R) (h6 : 6 ∉ R) : Jo t J := ⟨hj.1, by rw [h.1 5 h5]; exact hj.2.1, fun q y hy => (hj.2.2 q y hy).ch h h0 h1 h6⟩
theorem RC.rp {c d : Nat} {x : Cn} (h : RC s d x) (hf : RpF s t c) (hd : d ≠ c) : RC t d x := ⟨h.1.ch hf.1 (by decide) (by decide), by rw [hf.1.2 2 (by decide)]; exact h.2.1, h.2.2.1.keep hf hd, h.2.2.2⟩
theorem RC.kp {d : Nat} {x : Cn} (h : RC s d x) (hf : KpF s t) (hd : d < 3) : RC t d x := ⟨hf.sl h.1 hd, by rw [hf.1.2 2 (by decide)]; exact h.2.1, ⟨h.2.2.1.1, by rw [hf.1.2 4 (by decide)]; exact h.2.2.1.2.1, fun j hj => by rw [hf.1.2 3 (by decide)]; exact h.2.2.1.2.2 j hj⟩, h.2.2.2⟩
theorem kpt_gd {J : List Jn} {y : Jn} (h : jgd J) (hy : (jd y.1).1 = 1 ∧ -1 ≤ y.2 ∧ y.2 < 100000) : jgd (kpt J y) := fun z hz => by
  unfold kpt at hz
  rcases List.mem_append.mp hz with w | w
  · by_cases q : J.length = 5
    · rw [if_pos q] at w
      exact h z (List.mem_of_mem_drop w)
    · rw [if_neg q] at w
      exact h z w
  · rw [List.mem_singleton.mp w]
    exact hy
end KE
section SW
variable {s0 : RS} {B : List Nat} {c : Nat} {S : St} {Q : RS → Prop}
theorem mvo_sc {s : RS} {st : Nat → Nat} {y : Nat × Nat × Nat} (h : Sc s st) (h1 : y.1 < 3) (h2 : y.2.2 ≤ 3) : Sc (sR s 8 y.1 (iI y.2.2)) (mvo st (some y)) := fun k hk => by
  unfold mvo
  rw [sR_at]
  show _ ∧ upd (s.2 8) y.1 (iI y.2.2) k = _
  dsimp only
  by_cases q : k = y.1
  · subst q
    rw [if_pos rfl, pk_us]
    exact ⟨h2, rfl⟩
  · rw [if_neg q, pk_un q]
    exact h k hk
theorem sm_serve (hc : c < 3) (hJ : Jd s0 B (jd B).2.1 (jd B).2.2.1 (jd B).2.2.2) (hB : (jd B).1 = 1) (hS : Sl s0 c B) (hR : ∀ d, d < 3 → d ≠ c → RC s0 d (S.1 d)) (hJo : Jo s0 S.2.1 ∧ jgd S.2.1) (h7 : s0.1 7 = iI S.2.2.1) (h72 : S.2.2.1 < 9000) (hC : Sc s0 S.2.2.2.1) (hT : Rt s0 S.2.2.2.2)
    (hQ : ∀ s', (∀ d, d < 3 → d ≠ c → RC s' d ((srv S c B).1 d)) → Sl s' c B → Rp s' c ((srv S c B).1 c).2.2 → (Jo s' (srv S c B).2.1 ∧ jgd (srv S c B).2.1) → s'.1 7 = iI (srv S c B).2.2.1 → Sc s' (srv S c B).2.2.2.1 → Rt s' (srv S c B).2.2.2.2 → Q s') : vp_M_serve (iI c) s0 Q := by
  have hG := (jd_f B).1 hB
  obtain ⟨PL, hL, hP⟩ := hT.2.2.1
  have hst := hP.2.2.2.2.2
  rw [← hL] at hst
  have er : rqOf B (jd B).2.2.1 (jd B).2.2.2 = rqB B := rfl
  unfold vp_M_serve
  refine ⟨9, sl_serve4 hJ hG hC hP (fun s1 o c1 b1 => ?_) 8 0 s0 none (by omega) (Ch.rf _) (fun z _ h => absurd h (by omega))⟩
  rw [er] at b1
  unfold vq_M_serve_48
  refine wL.i (vP.i (vP.i ?_))
  rw [c1.1 7 (by decide), h7, show iI (S.2.2.1 : Int) + 1 = iI ((S.2.2.1 + 1 : Nat) : Int) from iI_add _ 1]
  have hJ2 := c1.jd hJ (by decide) (by decide)
  have hC2 := c1.sc hC (by decide)
  have hP2 := c1.sbs hP (by decide)
  have hR2 : ∀ d, d < 3 → d ≠ c → RC s1 d (S.1 d) := fun d h1 h2 => c1.rc (hR d h1 h2) (by decide)
  have hS2 := hS.ch c1 (by decide) (by decide)
  have hJo2 := c1.jo hJo.1 (by decide) (by decide) (by decide) (by decide)
  have hT2 := c1.rt hT (by decide) (by decide)
  have c2 : Ch [7, 42] [] s1 (sI (sI s1 7 (iI ((S.2.2.1 + 1 : Nat) : Int))) 42 0) := ((Ch.rf s1).i (by decide)).i (by decide)
  have h72' : (sI (sI s1 7 (iI ((S.2.2.1 + 1 : Nat) : Int))) 42 0).1 7 = iI ((S.2.2.1 + 1 : Nat) : Int) := by
    rw [sI_ne (by decide), sI_at]
  have hM2 : Mk (sI (sI s1 7 (iI ((S.2.2.1 + 1 : Nat) : Int))) 42 0) [] := ⟨by simp, sI_at, fun j hj => absurd hj (by simp)⟩
  generalize sI (sI s1 7 (iI ((S.2.2.1 + 1 : Nat) : Int))) 42 0 = s2 at *
  have hJ3 := c2.jd hJ2 (by decide) (by decide)
  have hC3 := c2.sc hC2 (by decide)
  have hP3 := c2.sbs hP2 (by decide)
  have hR3 : ∀ d, d < 3 → d ≠ c → RC s2 d (S.1 d) := fun d h1 h2 => c2.rc (hR2 d h1 h2) (by decide)
  have hS3 := hS2.ch c2 (by decide) (by decide)
  have hJo3 := c2.jo hJo2 (by decide) (by decide) (by decide) (by decide)
  have hT3 := c2.rt hT2 (by decide) (by decide)
  cases o with
  | none =>
    have hn : chs (rqB B) S.2.2.2.1 S.2.2.2.2.2.2.1 = none := chs_none hst (fun y hy => by
      rw [hL] at hy
      obtain ⟨z, hz, rfl⟩ := List.mem_map.mp hy
      exact b1 z hz (hP.1 z hz).1)
    unfold srv at hQ
    rw [hn] at hQ
    dsimp only at hQ
    refine ⟨1, ?_⟩
    show vb_M_serve_65 _ _ _ _ _ _
    unfold vb_M_serve_65
    rw [if_pos (by decide)]
    unfold vq_M_serve_89
    rw [if_neg (by decide)]
    unfold vq_M_serve_107
    refine sm_respond (code := 404) hc (by decide) (by decide) hM2 (fun s3 a3 b3 _ => ?_)
    rw [if_pos (by decide)]
    refine sm_serve140 hc (hS3.ch a3.1 (by decide) (by decide)) (a3.1.jo hJo3 (by decide) (by decide) (by decide) (by decide)) (Or.inl ⟨rfl, rfl⟩) (fun s4 a4 b4 => ?_)
    refine hQ s4 (fun d h1 h2 => ?_) (a4.sl (hS3.ch a3.1 (by decide) (by decide)) hc) ?_ ⟨b4, kpt_gd hJo.2 ⟨hB, show -1 ≤ (-1 : Int) by decide, show (-1 : Int) < 100000 by decide⟩⟩ ?_ ?_ ?_
    · unfold upC
      rw [if_neg h2]
      exact ((hR3 d h1 h2).rp a3 h2).kp a4 h1
    · unfold upC
      rw [if_pos rfl]
      dsimp only
      exact ⟨b3.1, by rw [a4.1.2 4 (by decide)]; exact b3.2.1, fun j hj => by rw [a4.1.2 3 (by decide)]; exact b3.2.2 j hj⟩
    · rw [a4.1.1 7 (by decide), a3.1.1 7 (by decide)]
      exact h72'
    · exact a4.1.sc (a3.1.sc hC3 (by decide)) (by decide)
    · exact a4.1.rt (a3.1.rt hT3 (by decide) (by decide)) (by decide) (by decide)
  | some z =>
    have hn : chs (rqB B) S.2.2.2.1 S.2.2.2.2.2.2.1 = some z.2 := chs_some hst (by rw [hL]; exact List.mem_map_of_mem b1.1) b1.2.2.1 (fun y hy h0 => by
      rw [hL] at hy
      obtain ⟨w, hw, rfl⟩ := List.mem_map.mp hy
      rcases b1.2.2.2 w hw (hP.1 w hw).1 h0 with v | v
      · exact Or.inl (by rw [v])
      · exact Or.inr v)
    unfold srv at hQ
    rw [hn] at hQ
    dsimp only at hQ
    have hz := hP3.1 z b1.1
    obtain ⟨z1, z2, z3, z4, z5, z6, z7, z8⟩ := hz
    refine ⟨_, sl_serve65 (i := z.1) (n := S.2.2.1 + 1) (P := sbT z.2) hJ3 hG z7 h72' (by omega) (fun s3 a3 b3 => ?_) (sbT z.2).length 0 s2 [] (by omega) (by omega) (Ch.rf _) hM2 rfl⟩
    have hC4 := a3.sc hC3 (by decide)
    have hP4 := a3.sbs hP3 (by decide)
    have hR4 : ∀ d, d < 3 → d ≠ c → RC s3 d (S.1 d) := fun d h1 h2 => a3.rc (hR3 d h1 h2) (by decide)
    have hS4 := hS3.ch a3 (by decide) (by decide)
    have hJo4 := a3.jo hJo3 (by decide) (by decide) (by decide) (by decide)
    have hT4 := a3.rt hT3 (by decide) (by decide)
    have h74 : s3.1 7 = iI ((S.2.2.1 + 1 : Nat) : Int) := by rw [a3.1 7 (by decide)]; exact h72'
    unfold vq_M_serve_89
    rw [if_pos (by simp (disch := omega) only [iI_lit, iI_add, iI_sub, iI_mul, iI_neg, iI_lt, iI_le, iI_eq] <;> omega)]
    refine row8 (v := iI (sbC z.2)) rfl z1 (by rw [a3.2 20 (by decide)]; exact z4.2.2) ?_
    unfold vq_M_serve_107
    rw [er] at b3
    refine sm_respond hc z4.1 z4.2.1 b3 (fun s4 a4 b4 _ => ?_)
    have hP5 := a4.1.sbs hP4 (by decide)
    have hz5 := hP5.1 z b1.1
    have fin : ∀ s5 : RS, Ch [] [8] s4 s5 → Sc s5 (mvo S.2.2.2.1 (sbS z.2)) → vq_M_serve_140 (iI c) Q (iI z.1) s5 := fun s5 c5 d5 => by
      refine sm_serve140 (id := (sbI z.2 : Int)) hc ((hS4.ch a4.1 (by decide) (by decide)).ch c5 (by decide) (by decide)) (c5.jo (a4.1.jo hJo4 (by decide) (by decide) (by decide) (by decide)) (by decide) (by decide) (by decide) (by decide)) (Or.inr ⟨z.1, z1, rfl, by rw [c5.2 18 (by decide)]; exact hz5.2.1.2⟩) (fun s6 a6 b6 => ?_)
      have hid := z2.1
      refine hQ s6 (fun d h1 h2 => ?_) (a6.sl ((hS4.ch a4.1 (by decide) (by decide)).ch c5 (by decide) (by decide)) hc) ?_ ⟨b6, kpt_gd hJo.2 ⟨hB, by dsimp only; omega, by dsimp only; omega⟩⟩ ?_ ?_ ?_
      · unfold upC
        rw [if_neg h2]
        exact (c5.rc ((hR4 d h1 h2).rp a4 h2) (by decide)).kp a6 h1
      · unfold upC
        rw [if_pos rfl]
        dsimp only
        exact ⟨b4.1, by rw [a6.1.2 4 (by decide), c5.2 4 (by decide)]; exact b4.2.1, fun j hj => by rw [a6.1.2 3 (by decide), c5.2 3 (by decide)]; exact b4.2.2 j hj⟩
      · rw [a6.1.1 7 (by decide), c5.1 7 (by decide), a4.1.1 7 (by decide)]
        exact h74
      · exact a6.1.sc d5 (by decide)
      · exact a6.1.rt (c5.rt (a4.1.rt hT4 (by decide) (by decide)) (by decide) (by decide)) (by decide) (by decide)
    rw [if_neg (by simp (disch := omega) only [iI_lit, iI_add, iI_sub, iI_mul, iI_neg, iI_lt, iI_le, iI_eq] <;> omega)]
    have hsn := hz5.2.2.2.2.2.2.2
    have hsc := a4.1.sc hC4 (by decide)
    unfold Sn at hsn
    generalize sbS z.2 = o at *
    cases o with
    | none =>
      dsimp only at hsn
      refine row8 rfl z1 hsn ?_
      rw [if_pos (by decide)]
      exact fin s4 (Ch.rf _) hsc
    | some y =>
      dsimp only at hsn
      obtain ⟨n1, n2, n3, n4, n5, n6⟩ := hsn
      refine row8 rfl z1 n4 ?_
      rw [if_neg (by simp (disch := omega) only [iI_lit, iI_add, iI_sub, iI_mul, iI_neg, iI_lt, iI_le, iI_eq] <;> omega)]
      refine row8 rfl z1 n4 (row8 rfl z1 n6 ?_)
      refine vS_i (by omega) (show (y.1 : Int) < (3 : Nat) by omega) (by decide) ?_
      exact fin _ ((Ch.rf s4).r (by decide)) (mvo_sc hsc n1 n3)
end SW
