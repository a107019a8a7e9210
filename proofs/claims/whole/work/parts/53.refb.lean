/-! Facts of judging -/
theorem lef_m {most over : Nat} : ∀ (X : List Nat) (i : Nat) (b : Bool), (i : Int) ≤ most + bI b → lef most over X i b ≤ most + 2 ∧ (lef most over X i b = 0 → 0 < over → (i : Int) + X.length ≤ most + 1) := by
  intro X
  induction X with
  | nil =>
    intro i b h
    have := bI_r b
    simp [lef]
    omega
  | cons a X ih =>
    intro i b h
    have hx : ((a :: X).length : Int) = X.length + 1 := by simp
    rw [hx]
    have b1 : bI true = 1 := rfl
    have b0 : bI false = 0 := rfl
    cases b with
    | true =>
      rw [b1] at h
      unfold lef
      by_cases q : a = 10
      · rw [if_pos q]
        omega
      · rw [if_neg q]
        omega
    | false =>
      rw [b0] at h
      unfold lef
      have h1 := ih (i + 1) true
      have h2 := ih (i + 1) false
      rw [b1] at h1
      rw [b0] at h2
      by_cases q : a = 13
      · rw [if_pos q]
        have := h1 (by omega)
        omega
      · rw [if_neg q]
        by_cases r : a < 32 ∨ 126 < a
        · rw [if_pos r]
          omega
        · rw [if_neg r]
          by_cases t : most ≤ i
          · rw [if_pos t]
            omega
          · rw [if_neg t]
            have := h2 (by omega)
            omega
theorem lef3_m {B : List Nat} {p : Nat} : lef3 B p ≤ 34 ∧ (lef3 B p = 0 → B.length ≤ p + 33) := by
  have := lef_m (most := 32) (over := 431) (B.drop p) 0 false (by rw [show bI false = 0 from rfl]; decide)
  rw [List.length_drop] at this
  unfold lef3
  omega
theorem lef1_m {B : List Nat} : lef1 B ≤ 42 ∧ (lef1 B = 0 → B.length ≤ 41) := by
  have := lef_m (most := 40) (over := 414) B 0 false (by rw [show bI false = 0 from rfl]; decide)
  unfold lef1
  omega
theorem crlf_0 {X : List Nat} (h : crlf X = 0) : X.length ≤ 1 := by
  match X with
  | [] => simp
  | [a] => simp
  | a :: b :: X =>
    unfold crlf at h
    by_cases q : a = 13
    · by_cases r : b = 10 <;> simp [q, r] at h
    · simp [q] at h
theorem ckf_f : ∀ (n : Nat) (X : List Nat) (tot : Nat) (bd : List Nat), bd.length = tot → tot ≤ 40 → (ckf n X tot bd).2.length ≤ 40 ∧ (∀ x ∈ (ckf n X tot bd).2, x ∈ bd ∨ x ∈ X) ∧ ((ckf n X tot bd).1 = 0 → X.length ≤ 7 * (40 - tot) + 6) := by
  intro n
  induction n with
  | zero =>
    intro X tot bd h1 h2
    unfold ckf
    exact ⟨show bd.length ≤ 40 by omega, fun x hx => Or.inl hx, fun h => absurd h (show ¬ (400 : Int) = 0 by decide)⟩
  | succ n ih =>
    intro X tot bd h1 h2
    have hd := dg_r X
    unfold ckf
    by_cases q1 : (dg X).1 = 0 ∧ X ≠ []
    · rw [if_pos q1]
      exact ⟨show bd.length ≤ 40 by omega, fun x hx => Or.inl hx, fun h => absurd h (show ¬ (400 : Int) = 0 by decide)⟩
    rw [if_neg q1]
    by_cases q2 : crlf (X.drop (dg X).1) ≠ 1
    · rw [if_pos q2]
      refine ⟨show bd.length ≤ 40 by omega, fun x hx => Or.inl hx, fun h => ?_⟩
      have := crlf_0 h
      rw [List.length_drop] at this
      omega
    rw [if_neg q2]
    by_cases q3 : 40 < tot + (dg X).2
    · rw [if_pos q3]
      exact ⟨show bd.length ≤ 40 by omega, fun x hx => Or.inl hx, fun h => absurd h (show ¬ (413 : Int) = 0 by decide)⟩
    rw [if_neg q3]
    by_cases q4 : (X.drop ((dg X).1 + 2)).length < (dg X).2
    · rw [if_pos q4]
      have q5 := q4
      rw [List.length_drop] at q5
      refine ⟨by rw [List.length_append]; omega, fun x hx => ?_, fun h => by omega⟩
      rcases List.mem_append.mp hx with z | z
      · exact Or.inl z
      · exact Or.inr (List.mem_of_mem_drop z)
    rw [if_neg q4]
    rw [List.length_drop] at q4
    have hl : (bd ++ (X.drop ((dg X).1 + 2)).take (dg X).2).length = tot + (dg X).2 := by
      rw [List.length_append, List.length_take, List.length_drop]
      omega
    have hm : ∀ x ∈ bd ++ (X.drop ((dg X).1 + 2)).take (dg X).2, x ∈ bd ∨ x ∈ X := fun x hx => by
      rcases List.mem_append.mp hx with z | z
      · exact Or.inl z
      · exact Or.inr (List.mem_of_mem_drop (List.mem_of_mem_take z))
    by_cases q6 : crlf (X.drop ((dg X).1 + 2 + (dg X).2)) ≠ 1 ∨ (dg X).2 = 0
    · rw [if_pos q6]
      refine ⟨show (bd ++ (X.drop ((dg X).1 + 2)).take (dg X).2).length ≤ 40 by omega, hm, fun h => ?_⟩
      have := crlf_0 h
      rw [List.length_drop] at this
      omega
    rw [if_neg q6]
    have h3 := ih (X.drop ((dg X).1 + 2 + (dg X).2 + 2)) (tot + (dg X).2) _ hl (by omega)
    refine ⟨h3.1, fun x hx => ?_, fun h => ?_⟩
    · rcases h3.2.1 x hx with z | z
      · exact hm x z
      · exact Or.inr (List.mem_of_mem_drop z)
    · have := h3.2.2 h
      rw [List.length_drop] at this
      have : (dg X).2 ≠ 0 := fun z => q6 (Or.inr z)
      omega
/-- the spans of the headers -/
def hsG (B : List Nat) (hs : List (Nat × Nat)) : Prop := hs.length ≤ 4 ∧ ∀ x ∈ hs, x.1 ≤ x.2 ∧ x.2 + 2 ≤ B.length ∧ x.2 ≤ x.1 + 32 ∧ hOK (sl B x.1 x.2) = true
theorem hcode_0 {X : List Nat} {an : Int} {ic : Bool} (h : hcode X an ic = 0) : hOK X = true := by
  unfold hcode at h
  by_cases q : hOK X = true
  · exact q
  · rw [if_neg q] at h
    exact absurd h (by decide)
theorem sl_mem {B : List Nat} {f t x : Nat} (h : x ∈ sl B f t) : x ∈ B := List.mem_of_mem_drop (List.mem_of_mem_take h)
theorem jfin_f {B : List Nat} {p : Nat} {an : Int} {ic cl : Bool} {hs : List (Nat × Nat)} (hp : p ≤ B.length) (h40 : an ≤ 40) (hg : hsG B hs) : hsG B (jfin B p an ic cl hs).2.2.1 ∧ (jfin B p an ic cl hs).2.2.2.length ≤ 40 ∧ (∀ x ∈ (jfin B p an ic cl hs).2.2.2, x ∈ B) ∧ ((jfin B p an ic cl hs).1 = 0 → B.length ≤ p + 290) := by
  unfold jfin
  cases ic with
  | true =>
    rw [if_pos rfl]
    have := ckf_f 100 (B.drop p) 0 [] rfl (by omega)
    refine ⟨hg, this.1, fun x hx => ?_, fun h => ?_⟩
    · rcases this.2.1 x hx with z | z
      · exact absurd z (by simp)
      · exact List.mem_of_mem_drop z
    · have := this.2.2 h
      rw [List.length_drop] at this
      omega
  | false =>
    rw [if_neg (by decide)]
    by_cases q : p + an.toNat ≤ B.length
    · rw [if_pos q]
      refine ⟨hg, ?_, fun x hx => sl_mem hx, fun h => absurd h (show ¬ (1 : Int) = 0 by decide)⟩
      show (sl B p (p + an.toNat)).length ≤ 40
      rw [sl_len (by omega) q]
      omega
    · rw [if_neg q]
      exact ⟨hg, by simp, fun x hx => absurd hx (by simp), fun _ => by omega⟩
theorem jhl_f {B : List Nat} : ∀ (k p : Nat) (an : Int) (ic cl : Bool) (hs : List (Nat × Nat)), p ≤ B.length → an ≤ 40 → -1 ≤ an → hsG B hs → p ≤ 42 + 34 * hs.length →
    hsG B (jhl B k p an ic cl hs).2.2.1 ∧ (jhl B k p an ic cl hs).2.2.2.length ≤ 40 ∧ (∀ x ∈ (jhl B k p an ic cl hs).2.2.2, x ∈ B) ∧ ((jhl B k p an ic cl hs).1 = 0 → B.length ≤ 512) := by
  intro k
  induction k with
  | zero =>
    intro p an ic cl hs hp h40 h41 hg hq
    have := jfin_f (p := p) (an := an) (ic := ic) (cl := cl) hp h40 hg
    have h4 := hg.1
    refine ⟨this.1, this.2.1, this.2.2.1, fun h => ?_⟩
    have := this.2.2.2 h
    omega
  | succ k ih =>
    intro p an ic cl hs hp h40 h41 hg hq
    have h4 := hg.1
    have m3 := lef3_m (B := B) (p := p)
    have r3 := lef3_r hp
    unfold jhl
    by_cases q0 : lef3 B p ≤ 0
    · rw [if_pos q0]
      exact ⟨hg, by simp, fun x hx => absurd hx (by simp), fun h => by
        have h : -(lef3 B p) = 0 := h
        omega⟩
    rw [if_neg q0]
    by_cases q1 : lef3 B p ≤ 2
    · rw [if_pos q1]
      have := jfin_f (p := p + (lef3 B p).toNat) (an := an) (ic := ic) (cl := cl) (by omega) h40 hg
      refine ⟨this.1, this.2.1, this.2.2.1, fun h => ?_⟩
      have := this.2.2.2 h
      omega
    rw [if_neg q1]
    by_cases q2 : hs.length = 4
    · rw [if_pos q2]
      exact ⟨hg, by simp, fun x hx => absurd hx (by simp), fun h => absurd h (show ¬ (431 : Int) = 0 by decide)⟩
    rw [if_neg q2]
    by_cases q3 : hcode (sl B p (p + (lef3 B p).toNat - 2)) an ic ≠ 0
    · rw [if_pos q3]
      exact ⟨hg, by simp, fun x hx => absurd hx (by simp), fun h => absurd h q3⟩
    rw [if_neg q3]
    have q4 : hcode (sl B p (p + (lef3 B p).toNat - 2)) an ic = 0 := by
      rcases hcode_r (sl B p (p + (lef3 B p).toNat - 2)) an ic with z | z | z
      · exact z
      · exact absurd (by rw [z]; decide) q3
      · exact absurd (by rw [z]; decide) q3
    have ha := hAn_r q4 ⟨h41, h40⟩
    refine ih _ _ _ _ _ (by omega) ha.2 ha.1 ⟨by rw [List.length_append]; simp; omega, fun x hx => ?_⟩ (by rw [List.length_append]; simp; omega)
    rcases List.mem_append.mp hx with z | z
    · exact hg.2 x z
    · rw [List.mem_singleton] at z
      subst z
      exact ⟨by dsimp only; omega, by dsimp only; omega, by dsimp only; omega, hcode_0 q4⟩
/-- a whole good request -/
def Gd (B : List Nat) (hs : List (Nat × Nat)) (bd : List Nat) : Prop := (∃ E : Nat, 2 ≤ E ∧ E ≤ 42 ∧ E ≤ B.length ∧ lef1 B = E ∧ rlB (sl B 0 (E - 2)) = true) ∧ hsG B hs ∧ bd.length ≤ 40 ∧ (∀ x ∈ bd, x ∈ B)
theorem jd_f (B : List Nat) : ((jd B).1 = 1 → Gd B (jd B).2.2.1 (jd B).2.2.2) ∧ ((jd B).1 = 0 → B.length ≤ 512) := by
  have m1 := lef1_m (B := B)
  have r1 := lef1_r B
  unfold jd
  by_cases q0 : lef1 B ≤ 0
  · rw [if_pos q0]
    exact ⟨fun h => absurd h (show ¬ -(lef1 B) = 1 by omega), fun h => by
      have h : -(lef1 B) = 0 := h
      omega⟩
  rw [if_neg q0]
  by_cases q1 : rlB (sl B 0 ((lef1 B).toNat - 2)) = false
  · rw [if_pos q1]
    exact ⟨fun h => absurd h (show ¬ (400 : Int) = 1 by decide), fun h => absurd h (show ¬ (400 : Int) = 0 by decide)⟩
  rw [if_neg q1]
  have := jhl_f (B := B) 6 (lef1 B).toNat (-1) false false [] (by omega) (by decide) (by decide) ⟨by simp, fun x hx => absurd hx (by simp)⟩ (by simp; omega)
  exact ⟨fun _ => ⟨⟨(lef1 B).toNat, by omega, by omega, by omega, by omega, by simpa using q1⟩, this.1, this.2.1, this.2.2.1⟩, this.2.2.2⟩
