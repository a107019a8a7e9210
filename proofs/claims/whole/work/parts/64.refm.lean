/-! Which stub is nearest, which is chosen -/
def nbt (r : Rq) (st : Nat → Nat) (x y : Sb) : Prop := miss r st x < miss r st y ∨ (miss r st x = miss r st y ∧ bfr x y)
def nr (r : Rq) (st : Nat → Nat) (L : List Sb) : Option Sb := L.foldl (fun o x => match o with
  | none => some x
  | some y => if miss r st x < miss r st y ∨ (miss r st x = miss r st y ∧ sbP x ≤ sbP y) then some x else some y) none
def chs (r : Rq) (st : Nat → Nat) (L : List Sb) : Option Sb := match nr r st L with
  | none => none
  | some x => if miss r st x = 0 then some x else none
def isB (r : Rq) (st : Nat → Nat) (L : List Sb) (x : Sb) : Prop := x ∈ L ∧ ∀ y ∈ L, y = x ∨ nbt r st x y
/-- in the order of their IDs -/
def srt (L : List Sb) : Prop := L.Pairwise (fun x y => sbI x < sbI y)
theorem bfr_as {x y : Sb} (h : bfr x y) (g : bfr y x) : False := by
  unfold bfr at h g
  omega
theorem bfr_tr {x y z : Sb} (h : bfr x y) (g : bfr y z) : bfr x z := by
  unfold bfr at *
  omega
theorem bfr_to {x y : Sb} (h : ¬ bfr x y) (hi : sbI x ≠ sbI y) : bfr y x := by
  unfold bfr at *
  omega
theorem nbt_as {r : Rq} {st : Nat → Nat} {x y : Sb} (h : nbt r st x y) (g : nbt r st y x) : False := by
  rcases h with h | h <;> rcases g with g | g
  · omega
  · omega
  · omega
  · exact bfr_as h.2 g.2
theorem nbt_tr {r : Rq} {st : Nat → Nat} {x y z : Sb} (h : nbt r st x y) (g : nbt r st y z) : nbt r st x z := by
  rcases h with h | h <;> rcases g with g | g
  · exact Or.inl (by omega)
  · exact Or.inl (by omega)
  · exact Or.inl (by omega)
  · exact Or.inr ⟨by omega, bfr_tr h.2 g.2⟩
theorem isB_u {r : Rq} {st : Nat → Nat} {L : List Sb} {x y : Sb} (h : isB r st L x) (g : isB r st L y) : x = y := by
  rcases h.2 y g.1 with z | z
  · exact z.symm
  · rcases g.2 x h.1 with w | w
    · exact w
    · exact absurd (nbt_as z w) id
theorem nr_go {r : Rq} {st : Nat → Nat} : ∀ (K L : List Sb) (o : Option Sb), srt (K ++ L) → (match o with
    | none => K = []
    | some x => isB r st K x) → (match L.foldl (fun o x => match o with
  | none => some x
  | some y => if miss r st x < miss r st y ∨ (miss r st x = miss r st y ∧ sbP x ≤ sbP y) then some x else some y) o with
    | none => K ++ L = []
    | some x => isB r st (K ++ L) x) := by
  intro K L
  induction L generalizing K with
  | nil =>
    intro o hs h
    rw [List.append_nil]
    exact h
  | cons a L ih =>
    intro o hs h
    rw [List.foldl_cons]
    rw [show K ++ a :: L = (K ++ [a]) ++ L by simp] at hs ⊢
    have hlt : ∀ y ∈ K, sbI y < sbI a := by
      unfold srt at hs
      rw [List.pairwise_append] at hs
      have := hs.1
      rw [List.pairwise_append] at this
      exact fun y hy => this.2.2 y hy a (List.mem_singleton.mpr rfl)
    refine ih (K ++ [a]) _ hs ?_
    cases o with
    | none =>
      dsimp only at h ⊢
      subst h
      exact ⟨by simp, fun y hy => Or.inl (by simpa using hy)⟩
    | some b =>
      dsimp only at h ⊢
      have hb := hlt b h.1
      by_cases q : miss r st a < miss r st b ∨ (miss r st a = miss r st b ∧ sbP a ≤ sbP b)
      · rw [if_pos q]
        have hab : nbt r st a b := by
          unfold nbt bfr
          omega
        refine ⟨by simp, fun y hy => ?_⟩
        rcases List.mem_append.mp hy with z | z
        · rcases h.2 y z with w | w
          · subst w
            exact Or.inr hab
          · exact Or.inr (nbt_tr hab w)
        · exact Or.inl (List.mem_singleton.mp z)
      · rw [if_neg q]
        have hba : nbt r st b a := by
          unfold nbt bfr
          omega
        refine ⟨List.mem_append_left _ h.1, fun y hy => ?_⟩
        rcases List.mem_append.mp hy with z | z
        · exact h.2 y z
        · rw [List.mem_singleton.mp z]
          exact Or.inr hba
theorem nr_B {r : Rq} {st : Nat → Nat} {L : List Sb} (hs : srt L) : match nr r st L with
    | none => L = []
    | some x => isB r st L x := by
  have := nr_go (r := r) (st := st) [] L none hs rfl
  exact this
theorem nr_eq {r : Rq} {st : Nat → Nat} {L : List Sb} {x : Sb} (hs : srt L) (h : isB r st L x) : nr r st L = some x := by
  have := nr_B (r := r) (st := st) hs
  cases hn : nr r st L with
  | none =>
    rw [hn] at this
    dsimp only at this
    rw [this] at h
    exact absurd h.1 (by simp)
  | some y =>
    rw [hn] at this
    rw [isB_u h this]
theorem chs_some {r : Rq} {st : Nat → Nat} {L : List Sb} {x : Sb} (hs : srt L) (hx : x ∈ L) (h0 : miss r st x = 0) (hb : ∀ y ∈ L, miss r st y = 0 → y = x ∨ bfr x y) : chs r st L = some x := by
  unfold chs
  rw [nr_eq hs ⟨hx, fun y hy => ?_⟩]
  · dsimp only
    rw [if_pos h0]
  · by_cases q : miss r st y = 0
    · rcases hb y hy q with z | z
      · exact Or.inl z
      · exact Or.inr (Or.inr ⟨by omega, z⟩)
    · exact Or.inr (Or.inl (by omega))
theorem chs_none {r : Rq} {st : Nat → Nat} {L : List Sb} (hs : srt L) (h0 : ∀ y ∈ L, miss r st y ≠ 0) : chs r st L = none := by
  unfold chs
  have := nr_B (r := r) (st := st) hs
  cases hn : nr r st L with
  | none => rfl
  | some y =>
    rw [hn] at this
    dsimp only at this ⊢
    rw [if_neg (h0 y this.1)]
theorem nr_none {r : Rq} {st : Nat → Nat} : nr r st [] = none := rfl
/-- the stubs in their places -/
def Sbs (s : RS) (PL : List (Nat × Sb)) : Prop := (∀ z ∈ PL, Sp s z.1 z.2) ∧ (PL.map (fun z => z.1)).Nodup ∧ (∀ y ∈ PL, ∀ z ∈ PL, y.1 = z.1 → y = z) ∧ (∀ y ∈ PL, ∀ z ∈ PL, sbI y.2 = sbI z.2 → y = z) ∧ (∀ k, k < 8 → (∀ z ∈ PL, z.1 ≠ k) → s.2 18 k = iI (-1)) ∧ srt (PL.map (fun z => z.2))
theorem Ch.sbs {I R : List Nat} {s t : RS} {PL : List (Nat × Sb)} (h : Ch I R s t) (hs : Sbs s PL) (h1 : ∀ k ∈ [11, 12, 13, 14, 15, 18, 19, 20, 21, 22, 23, 24, 25, 26], k ∉ R) : Sbs t PL := by
  obtain ⟨a, b, c, d, e, f⟩ := hs
  exact ⟨fun z hz => h.sp (a z hz) h1, b, c, d, fun k hk hz => by rw [h.2 18 (h1 18 (by decide))]; exact e k hk hz, f⟩
/-- the best so far -/
def Bst (E : Sb → Prop) (R : Sb → Sb → Prop) (PL : List (Nat × Sb)) (k : Nat) (o : Option (Nat × Sb)) : Prop := match o with
  | none => ∀ z ∈ PL, z.1 < k → ¬ E z.2
  | some z => z ∈ PL ∧ z.1 < k ∧ E z.2 ∧ ∀ y ∈ PL, y.1 < k → E y.2 → y = z ∨ R z.2 y.2
def plI (o : Option (Nat × Sb)) : Int := match o with
  | none => -1
  | some z => z.1
section BE
variable {E : Sb → Prop} {R : Sb → Sb → Prop} {PL : List (Nat × Sb)} {k : Nat} {o : Option (Nat × Sb)}
theorem Bst.skip (h : Bst E R PL k o) (hk : ∀ z ∈ PL, z.1 = k → ¬ E z.2) : Bst E R PL (k + 1) o := by
  unfold Bst at h ⊢
  cases o with
  | none =>
    intro z hz hl
    by_cases q : z.1 = k
    · exact hk z hz q
    · exact h z hz (by omega)
  | some b =>
    refine ⟨h.1, by have := h.2.1; omega, h.2.2.1, fun y hy hl he => ?_⟩
    by_cases q : y.1 = k
    · exact absurd he (hk y hy q)
    · exact h.2.2.2 y hy (by omega) he
theorem Bst.new {z : Nat × Sb} (h : Bst E R PL k o) (hz : z ∈ PL) (hk : z.1 = k) (hE : E z.2) (hu : ∀ y ∈ PL, y.1 = z.1 → y = z) (ht : ∀ {a b c : Sb}, R a b → R b c → R a c) (hb : ∀ b, o = some b → R z.2 b.2) : Bst E R PL (k + 1) (some z) := by
  unfold Bst at h ⊢
  dsimp only
  refine ⟨hz, by omega, hE, fun y hy hl he => ?_⟩
  by_cases q : y.1 = k
  · exact Or.inl (hu y hy (by omega))
  · right
    cases o with
    | none => exact absurd he (h y hy (by omega))
    | some b =>
      rcases h.2.2.2 y hy (by omega) he with w | w
      · subst w
        exact hb _ rfl
      · exact ht (hb _ rfl) w
theorem Bst.old {z b : Nat × Sb} (h : Bst E R PL k (some b)) (hz : z ∈ PL) (hk : z.1 = k) (hu : ∀ y ∈ PL, y.1 = z.1 → y = z) (hr : E z.2 → R b.2 z.2) : Bst E R PL (k + 1) (some b) := by
  unfold Bst at h ⊢
  dsimp only at h ⊢
  refine ⟨h.1, by have := h.2.1; omega, h.2.2.1, fun y hy hl he => ?_⟩
  by_cases q : y.1 = k
  · have := hu y hy (by omega)
    subst this
    exact Or.inr (hr he)
  · exact h.2.2.2 y hy (by omega) he
end BE
section SE
variable {s0 : RS} {B : List Nat} {cl : Bool} {hs : List (Nat × Nat)} {bd : List Nat} {st : Nat → Nat} {PL : List (Nat × Sb)} {Q : RS → Prop} {p0 : Int32}
theorem sl_serve4 (hJ : Jd s0 B cl hs bd) (hG : Gd B hs bd) (hC : Sc s0 st) (hP : Sbs s0 PL) (hQ : ∀ s' o, Ch [38, 40] [37, 39] s0 s' → Bst (fun x => miss (rqOf B hs bd) st x = 0) bfr PL 8 o → vq_M_serve_48 p0 Q (iI (plI o)) s') : ∀ (j k : Nat) (s : RS) (o : Option (Nat × Sb)), k + j = 8 → Ch [38, 40] [37, 39] s0 s → Bst (fun x => miss (rqOf B hs bd) st x = 0) bfr PL k o → vq_M_serve_4 p0 Q (j + 1) (iI (plI o)) (iI k) s := by
  intro j
  induction j with
  | zero =>
    intro k s o hk hc hb
    show vb_M_serve_4 _ _ _ _ _ _
    unfold vb_M_serve_4
    rw [if_pos (by simp (disch := omega) only [iI_lit, iI_add, iI_sub, iI_mul, iI_neg, iI_lt, iI_le, iI_eq] <;> omega)]
    have : k = 8 := by omega
    subst this
    exact hQ s o hc hb
  | succ j ih =>
    intro k s o hk hc hb
    have hP' := hc.sbs hP (by decide)
    show vb_M_serve_4 _ _ _ _ _ _
    unfold vb_M_serve_4
    rw [if_neg (by simp (disch := omega) only [iI_lit, iI_add, iI_sub, iI_mul, iI_neg, iI_lt, iI_le, iI_eq] <;> omega), show iI (k : Int) + 1 = iI ((k + 1 : Nat) : Int) from iI_add _ 1]
    by_cases q : ∃ z ∈ PL, z.1 = k
    · obtain ⟨z, hz, hzk⟩ := q
      have hz' := hP'.1 z hz
      rw [hzk] at hz'
      have hi := hz'.2.1
      have hi1 := hi.1
      refine row8 rfl hz'.1 hi.2 ?_
      rw [if_neg (by simp (disch := omega) only [iI_lit, iI_add, iI_sub, iI_mul, iI_neg, iI_lt, iI_le, iI_eq] <;> omega)]
      refine sm_failing (hc.jd hJ (by decide) (by decide)) hG hz' (hc.sc hC (by decide)) (fun s' a => ?_)
      have hc' := hc.tr a
      have hm : miss (rqOf B hs bd) st z.2 ≤ 5 := by
        unfold miss mss scn
        have := hz'.2.2.2.2.1.1
        have h3 : (sbM z.2).countP (fun m => !hld (rqOf B hs bd) m) ≤ (sbM z.2).length := List.countP_le_length
        split
        · omega
        · split <;> omega
      by_cases q0 : miss (rqOf B hs bd) st z.2 = 0
      · rw [if_pos (by simp (disch := omega) only [iI_lit, iI_add, iI_sub, iI_mul, iI_neg, iI_lt, iI_le, iI_eq] <;> omega)]
        cases o with
        | none =>
          refine sm_before1 rfl ?_
          have := ih (k + 1) s' (some z) (by omega) hc' (hb.new hz hzk q0 (fun y hy h => hP.2.2.1 y hy z hz h) (fun h g => bfr_tr h g) (fun b hb => by cases hb))
          rw [show plI (some z) = (z.1 : Int) from rfl, hzk] at this
          exact this
        | some b =>
          have hP2 := hc'.sbs hP (by decide)
          have hz2 := hP2.1 z hz
          rw [hzk] at hz2
          refine sm_before hz2 (hP2.1 b hb.1) (fun w => ?_) (fun w => ?_)
          · have := ih (k + 1) s' (some z) (by omega) hc' (hb.new hz hzk q0 (fun y hy h => hP.2.2.1 y hy z hz h) (fun h g => bfr_tr h g) (fun b' hb' => by cases hb'; exact w))
            rw [show plI (some z) = (z.1 : Int) from rfl, hzk] at this
            exact this
          · refine ih (k + 1) s' (some b) (by omega) hc' (hb.old hz hzk (fun y hy h => hP.2.2.1 y hy z hz h) (fun _ => bfr_to w (fun e => ?_)))
            have := hP.2.2.2.1 z hz b hb.1 e
            have h2 := hb.2.1
            rw [← this] at h2
            omega
      · rw [if_neg (by simp (disch := omega) only [iI_lit, iI_add, iI_sub, iI_mul, iI_neg, iI_lt, iI_le, iI_eq] <;> omega)]
        refine ih (k + 1) s' o (by omega) hc' (hb.skip (fun y hy h e => ?_))
        have := hP.2.2.1 y hy z hz (by omega)
        subst this
        exact q0 e
    · refine row8 rfl (by omega) (hP'.2.2.2.2.1 k (by omega) (fun z hz h => q ⟨z, hz, h⟩)) ?_
      rw [if_pos (by decide)]
      exact ih (k + 1) s o (by omega) hc (hb.skip (fun z hz h => absurd ⟨z, hz, h⟩ q))
end SE
