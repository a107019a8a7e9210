/-! The reference: arrive, send -/
theorem ckf_c : ∀ (n : Nat) (X : List Nat) (tot : Nat) (bd : List Nat), (ckf n X tot bd).1 = 0 ∨ (ckf n X tot bd).1 = 1 ∨ (ckf n X tot bd).1 = 400 ∨ (ckf n X tot bd).1 = 413 := by
  intro n
  induction n with
  | zero => intro X tot bd; exact Or.inr (Or.inr (Or.inl rfl))
  | succ n ih =>
    intro X tot bd
    unfold ckf
    (repeat' split)
    · exact Or.inr (Or.inr (Or.inl rfl))
    · have := crlf_r (X.drop (dg X).1)
      dsimp only
      omega
    · exact Or.inr (Or.inr (Or.inr rfl))
    · exact Or.inl rfl
    · have := crlf_r (X.drop ((dg X).1 + 2 + (dg X).2))
      dsimp only
      omega
    · exact ih _ _ _
theorem jfin_c {B : List Nat} {p : Nat} {an : Int} {ic cl : Bool} {hs : List (Nat × Nat)} : (jfin B p an ic cl hs).1 = 0 ∨ (jfin B p an ic cl hs).1 = 1 ∨ (jfin B p an ic cl hs).1 = 400 ∨ (jfin B p an ic cl hs).1 = 413 := by
  unfold jfin
  split
  · exact ckf_c _ _ _ _
  · split
    · exact Or.inr (Or.inl rfl)
    · exact Or.inl rfl
theorem lef_c {most over : Nat} (ho : over < 1000) {X : List Nat} {i : Nat} {b : Bool} (h : lef most over X i b ≤ 0) : -(lef most over X i b) = 0 ∨ -(lef most over X i b) = 400 ∨ -(lef most over X i b) = over := by
  have := (lef_r ho X i b).2.2.2 h
  omega
theorem jhl_c {B : List Nat} : ∀ (k p : Nat) (an : Int) (ic cl : Bool) (hs : List (Nat × Nat)), (jhl B k p an ic cl hs).1 = 0 ∨ (jhl B k p an ic cl hs).1 = 1 ∨ (jhl B k p an ic cl hs).1 = 400 ∨ (jhl B k p an ic cl hs).1 = 413 ∨ (jhl B k p an ic cl hs).1 = 431 := by
  intro k
  induction k with
  | zero =>
    intro p an ic cl hs
    have := jfin_c (B := B) (p := p) (an := an) (ic := ic) (cl := cl) (hs := hs)
    unfold jhl
    omega
  | succ k ih =>
    intro p an ic cl hs
    unfold jhl
    (repeat' split)
    · rename_i h
      have := lef_c (most := 32) (over := 431) (by decide) h
      unfold lef3
      dsimp only
      omega
    · have := jfin_c (B := B) (p := p + (lef3 B p).toNat) (an := an) (ic := ic) (cl := cl) (hs := hs)
      omega
    · exact Or.inr (Or.inr (Or.inr (Or.inr rfl)))
    · have := hcode_r (sl B p (p + (lef3 B p).toNat - 2)) an ic
      dsimp only
      omega
    · exact ih _ _ _ _ _
theorem jd_c (B : List Nat) : (jd B).1 = 0 ∨ (jd B).1 = 1 ∨ (jd B).1 = 400 ∨ (jd B).1 = 413 ∨ (jd B).1 = 414 ∨ (jd B).1 = 431 := by
  unfold jd
  (repeat' split)
  · rename_i h
    have := lef_c (most := 40) (over := 414) (by decide) h
    unfold lef1
    dsimp only
    omega
  · exact Or.inr (Or.inr (Or.inl rfl))
  · have := jhl_c (B := B) 6 (lef1 B).toNat (-1) false false []
    omega
/-- all but one connection -/
def Ro (s : RS) (c : Nat) (S : St) : Prop := (∀ d, d < 3 → d ≠ c → RC s d (S.1 d)) ∧ (Jo s S.2.1 ∧ jgd S.2.1) ∧ s.1 7 = iI S.2.2.1 ∧ Sc s S.2.2.2.1 ∧ Rt s S.2.2.2.2
theorem Ro.ch {I R : List Nat} {s t : RS} {c : Nat} {S : St} (h : Ro s c S) (hc : Ch I R s t) (h0 : ∀ k ∈ [5, 7, 10, 16, 17], k ∉ I) (h1 : ∀ k ∈ [0, 1, 2, 3, 4, 6, 8, 9, 11, 12, 13, 14, 15, 18, 19, 20, 21, 22, 23, 24, 25, 26], k ∉ R) : Ro t c S :=
  ⟨fun d hd he => hc.rc (h.1 d hd he) (fun k hk => h1 k (by simp at hk ⊢; omega)), ⟨hc.jo h.2.1.1 (h0 5 (by decide)) (h1 0 (by decide)) (h1 1 (by decide)) (h1 6 (by decide)), h.2.1.2⟩, by rw [hc.1 7 (h0 7 (by decide))]; exact h.2.2.1, hc.sc h.2.2.2.1 (h1 8 (by decide)), hc.rt h.2.2.2.2 (fun k hk => h0 k (by simp at hk ⊢; omega)) (fun k hk => h1 k (by simp at hk ⊢; omega))⟩
section AR
variable {s0 : RS} {c : Nat} {S : St} {Q : RS → Prop}
theorem sm_end {s : RS} {cl : Bool} {X : List Nat} {y p0 p1 : Int32} {S' : St} (hc : c < 3) (h : Ro s c S') (hR : Rp s c X) (hy : y = iI (bI cl)) (he : S'.1 c = (cl, [], X)) (hQ : ∀ s', Rl s' S' → Q s') : wB y (vS s 2 (iI c) y (fun s => vq_M_arrive_86 (iI c) p1 Q s)) := by
  subst hy
  refine ⟨bI_b cl, ?_⟩
  refine vS_i (by omega) (show (c : Int) < (3 : Nat) by omega) (by decide) ?_
  unfold vq_M_arrive_86
  refine vS_i (by omega) (show (c : Int) < (8 : Nat) by omega) (by decide) ?_
  rw [show (c : Int).toNat = c from rfl]
  have e1 : ∀ d, (sR (sR s 2 c (iI (bI cl))) 1 c 0).2 1 d = upd (s.2 1) c 0 d := fun d => by
    rw [sR_at, sR_ne (by decide)]
  have e2 : ∀ d, (sR (sR s 2 c (iI (bI cl))) 1 c 0).2 2 d = upd (s.2 2) c (iI (bI cl)) d := fun d => by
    rw [sR_ne (by decide), sR_at]
  have hC : Ch [] [1, 2] s (sR (sR s 2 c (iI (bI cl))) 1 c 0) := ((Ch.rf s).r (by decide)).r (by decide)
  generalize sR (sR s 2 c (iI (bI cl))) 1 c 0 = t at *
  obtain ⟨h1, h2, h3, h4, h5⟩ := h
  refine hQ t ⟨fun d hd => ?_, ⟨⟨h2.1.1, by rw [hC.1 5 (by decide)]; exact h2.1.2.1, fun q y hy => ?_⟩, h2.2⟩, by rw [hC.1 7 (by decide)]; exact h3, hC.sc h4 (by decide), hC.rt h5 (by decide) (by decide)⟩
  · by_cases q : d = c
    · subst q
      rw [he]
      refine ⟨⟨by omega, by simp, by rw [e1, pk_us]; rfl, fun j hj => absurd hj (by simp)⟩, by rw [e2, pk_us], ⟨hR.1, by rw [hC.2 4 (by decide)]; exact hR.2.1, fun j hj => by rw [hC.2 3 (by decide)]; exact hR.2.2 j hj⟩, show (jd []).1 = 0 by decide⟩
    · have := h1 d hd q
      exact ⟨⟨this.1.1, this.1.2.1, by rw [e1, pk_un q]; exact this.1.2.2.1, fun j hj => by rw [hC.2 0 (by decide)]; exact this.1.2.2.2 j hj⟩, by rw [e2, pk_un q]; exact this.2.1, ⟨this.2.2.1.1, by rw [hC.2 4 (by decide)]; exact this.2.2.1.2.1, fun j hj => by rw [hC.2 3 (by decide)]; exact this.2.2.1.2.2 j hj⟩, this.2.2.2⟩
  · have := h2.1.2.2 q y hy
    exact ⟨⟨this.1.1, this.1.2.1, by rw [e1, pk_un (by omega)]; exact this.1.2.2.1, fun j hj => by rw [hC.2 0 (by decide)]; exact this.1.2.2.2 j hj⟩, by rw [hC.2 6 (by decide)]; exact this.2⟩
theorem sm_arrive {b : Nat} (hc : c < 3) (hb : b < 256) (h : Rl s0 S) (h7 : S.2.2.1 < 9000) (hQ : ∀ s', Rl s' (arr S c b) → Q s') : vp_M_arrive (iI c) (iI b) s0 Q := by
  obtain ⟨h1, h2, h3, h4, h5⟩ := h
  have hcc := h1 c hc
  obtain ⟨⟨a1, a2, a3, a4⟩, b1, b2, b3⟩ := hcc
  have hlen := (jd_f (S.1 c).2.1).2 b3
  unfold vp_M_arrive
  refine row8 rfl a1 a3 ?_
  rw [show (520 : Int32) * iI c + iI ((S.1 c).2.1.length : Int) = iI ((520 * c + (S.1 c).2.1.length : Nat) : Int) from by rw [show (520 : Int32) = iI 520 from rfl, iI_mul, iI_add]; congr 1]
  refine vS_i (by omega) (show ((520 * c + (S.1 c).2.1.length : Nat) : Int) < (4160 : Nat) by omega) (by decide) ?_
  rw [show ((520 * c + (S.1 c).2.1.length : Nat) : Int).toNat = 520 * c + (S.1 c).2.1.length from rfl]
  refine row8 (v := iI (S.1 c).2.1.length) rfl a1 (by rw [sR_ne (by decide)]; exact a3) ?_
  refine vS_i (by omega) (show (c : Int) < (8 : Nat) by omega) (by decide) ?_
  rw [show (c : Int).toNat = c from rfl, show iI ((S.1 c).2.1.length : Int) + 1 = iI (((S.1 c).2.1.length + 1 : Nat) : Int) from iI_add _ 1]
  have e1 : ∀ d, (sR (sR s0 0 (520 * c + (S.1 c).2.1.length) (iI b)) 1 c (iI (((S.1 c).2.1.length + 1 : Nat) : Int))).2 1 d = upd (s0.2 1) c (iI (((S.1 c).2.1.length + 1 : Nat) : Int)) d := fun d => by
    rw [sR_at, sR_ne (by decide)]
  have e0 : ∀ d, (sR (sR s0 0 (520 * c + (S.1 c).2.1.length) (iI b)) 1 c (iI (((S.1 c).2.1.length + 1 : Nat) : Int))).2 0 d = upd (s0.2 0) (520 * c + (S.1 c).2.1.length) (iI b) d := fun d => by
    rw [sR_ne (by decide), sR_at]
  have hC : Ch [] [0, 1] s0 (sR (sR s0 0 (520 * c + (S.1 c).2.1.length) (iI b)) 1 c (iI (((S.1 c).2.1.length + 1 : Nat) : Int))) := ((Ch.rf s0).r (by decide)).r (by decide)
  generalize sR (sR s0 0 (520 * c + (S.1 c).2.1.length) (iI b)) 1 c (iI (((S.1 c).2.1.length + 1 : Nat) : Int)) = s1 at *
  have sl1 : ∀ {k : Nat} {X : List Nat}, Sl s0 k X → k ≠ c → Sl s1 k X := fun {k X} hs hk => ⟨hs.1, hs.2.1, by rw [e1, pk_un hk]; exact hs.2.2.1, fun j hj => by have := hs.2.1; rw [e0, pk_un (by omega)]; exact hs.2.2.2 j hj⟩
  have hO : Ro s1 c S := by
    refine ⟨fun d hd he => ?_, ⟨⟨h2.1.1, by rw [hC.1 5 (by decide)]; exact h2.1.2.1, fun q y hy => ?_⟩, h2.2⟩, by rw [hC.1 7 (by decide)]; exact h3, hC.sc h4 (by decide), hC.rt h5 (by decide) (by decide)⟩
    · have := h1 d hd
      exact ⟨sl1 this.1 he, by rw [hC.2 2 (by decide)]; exact this.2.1, ⟨this.2.2.1.1, by rw [hC.2 4 (by decide)]; exact this.2.2.1.2.1, fun j hj => by rw [hC.2 3 (by decide)]; exact this.2.2.1.2.2 j hj⟩, this.2.2.2⟩
    · have := h2.1.2.2 q y hy
      exact ⟨sl1 this.1 (by omega), by rw [hC.2 6 (by decide)]; exact this.2⟩
  have hS : Sl s1 c ((S.1 c).2.1 ++ [b]) := by
    refine ⟨a1, by rw [List.length_append]; simp; omega, by rw [e1, pk_us, List.length_append]; rfl, fun j hj => ?_⟩
    rw [List.length_append] at hj
    have hj : j < (S.1 c).2.1.length + 1 := hj
    rw [e0]
    by_cases q : j = (S.1 c).2.1.length
    · subst q
      rw [ls_snoc_at, pk_us]
      exact ⟨hb, rfl⟩
    · rw [pk_un (by omega), ls_snoc_lt (by omega)]
      exact a4 j (by omega)
  have hR : Rp s1 c (S.1 c).2.2 := ⟨b2.1, by rw [hC.2 4 (by decide)]; exact b2.2.1, fun j hj => by rw [hC.2 3 (by decide)]; exact b2.2.2 j hj⟩
  have h2c : s1.2 2 c = iI (bI (S.1 c).1) := by rw [hC.2 2 (by decide)]; exact b1
  unfold arr at hQ
  have hcd := jd_c ((S.1 c).2.1 ++ [b])
  generalize hBB : (S.1 c).2.1 ++ [b] = B at *
  refine sm_judge hS (fun z s2 f2 => ?_) (fun z s2 f2 j2 => ?_)
  · have hO2 := hO.ch f2.ch (by decide) (by decide)
    by_cases q : (jd B).1 = 0
    · rw [q, if_pos (by decide)]
      rw [if_pos q] at hQ
      refine hQ s2 ⟨fun d hd => ?_, hO2.2.1, hO2.2.2.1, hO2.2.2.2.1, hO2.2.2.2.2⟩
      unfold upC
      dsimp only
      by_cases w : d = c
      · subst w
        rw [if_pos rfl]
        exact ⟨hS.ch f2.ch (by decide) (by decide), by rw [f2.ch.2 2 (by decide)]; exact h2c, ⟨hR.1, by rw [f2.ch.2 4 (by decide)]; exact hR.2.1, fun j hj => by rw [f2.ch.2 3 (by decide)]; exact hR.2.2 j hj⟩, q⟩
      · rw [if_neg w]
        exact hO2.1 d hd w
    · rw [if_neg (by simp (disch := omega) only [iI_lit, iI_add, iI_sub, iI_mul, iI_neg, iI_lt, iI_le, iI_eq] <;> omega), if_neg (by simp (disch := omega) only [iI_lit, iI_add, iI_sub, iI_mul, iI_neg, iI_lt, iI_le, iI_eq] <;> omega)]
      rw [if_neg q, if_neg z] at hQ
      refine vP.i ?_
      rw [show iI (jd B).1 = iI (((jd B).1.toNat : Nat) : Int) from by congr 1; omega]
      have hM : Mk (sI s2 42 0) [] := ⟨by simp, sI_at, fun j hj => absurd hj (by simp)⟩
      refine sm_respond hc (by omega) (by omega) hM (fun s3 a3 b3 _ => ?_)
      have hO3 : Ro (sI s2 42 0) c S := hO2.ch ((Ch.rf s2).i (I := [42]) (R := []) (by decide)) (by decide) (by decide)
      have hO4 : Ro s3 c S := ⟨fun d hd he => (hO3.1 d hd he).rp a3 he, ⟨a3.1.jo hO3.2.1.1 (by decide) (by decide) (by decide) (by decide), hO3.2.1.2⟩, by rw [a3.1.1 7 (by decide)]; exact hO3.2.2.1, a3.1.sc hO3.2.2.2.1 (by decide), a3.1.rt hO3.2.2.2.2 (by decide) (by decide)⟩
      refine sm_end (p0 := 0) (cl := true) (X := rsp (jd B).1.toNat []) hc (S' := (upC S.1 c (true, [], rsp (jd B).1.toNat []), S.2)) ⟨fun d hd he => ?_, hO4.2⟩ b3 rfl ?_ hQ
      · unfold upC
        dsimp only
        rw [if_neg he]
        exact hO4.1 d hd he
      · unfold upC
        dsimp only
        rw [if_pos rfl]
  · have hO2 := hO.ch f2.ch (by decide) (by decide)
    rw [if_neg (show ¬ (jd B).1 = 0 by omega), if_pos z] at hQ
    rw [if_neg (by decide), if_pos (by decide)]
    refine sm_serve hc j2 z (hS.ch f2.ch (by decide) (by decide)) hO2.1 hO2.2.1 hO2.2.2.1 h7 hO2.2.2.2.1 hO2.2.2.2.2 (fun s3 g1 g2 g3 g4 g5 g6 g7 => ?_)
    have hO3 : Ro s3 c (srv S c B) := ⟨g1, g4, g5, g6, g7⟩
    refine sm_judge g2 (fun z2 => absurd z z2) (fun _ s4 f4 j4 => wL.i ?_)
    have hO4 := hO3.ch f4.ch (by decide) (by decide)
    refine sm_end (p0 := 0) (cl := (jd B).2.1) (X := ((srv S c B).1 c).2.2) hc hO4 ⟨g3.1, by rw [f4.ch.2 4 (by decide)]; exact g3.2.1, fun j hj => by rw [f4.ch.2 3 (by decide)]; exact g3.2.2 j hj⟩ j4.2.2.1 ?_ hQ
    unfold srv
    split <;> (dsimp only; unfold upC; rw [if_pos rfl])
end AR
