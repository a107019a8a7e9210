/-! Whole numbers in place of 32 bits -/
def iI (n : Int) : Int32 := Int32.ofInt n
theorem nI_i (n : Nat) : nI n = iI n := rfl
theorem iI_lit (n : Nat) : (OfNat.ofNat n : Int32) = iI (OfNat.ofNat n : Int) := rfl
def bI (b : Bool) : Int := if b then 1 else 0
theorem iI_q {Q : Int32 → RS → Prop} {s : RS} {X Y : Int} (hQ : Q (iI Y) s) (h : X = Y) : Q (iI X) s := h ▸ hQ
theorem iI_b {Q : Int32 → RS → Prop} {s : RS} {X : Int} {b : Bool} (hQ : Q (iI (bI b)) s) (h : (X = 1 ∧ b = true) ∨ (X = 0 ∧ b = false)) : Q (iI X) s := by
  rcases h with ⟨rfl, rfl⟩ | ⟨rfl, rfl⟩ <;> exact hQ
theorem bI_0 (b : Bool) : bI b = 0 ↔ b = false := by cases b <;> decide
theorem bI_r (b : Bool) : 0 ≤ bI b ∧ bI b ≤ 1 := by cases b <;> decide
theorem bI_b (b : Bool) : iI (bI b) = 0 ∨ iI (bI b) = 1 := by cases b <;> decide
theorem iI_toInt {n : Int} (h1 : -2147483648 ≤ n) (h2 : n < 2147483648) : (iI n).toInt = n := Int32.toInt_ofInt_of_le (by exact h1) (by exact h2)
theorem iI_add (a b : Int) : iI a + iI b = iI (a + b) := (Int32.ofInt_add a b).symm
theorem iI_sub (a b : Int) : iI a - iI b = iI (a - b) := (Int32.ofInt_sub a b).symm
theorem iI_mul (a b : Int) : iI a * iI b = iI (a * b) := (Int32.ofInt_mul a b).symm
theorem iI_neg (a : Int) : -iI a = iI (-a) := (Int32.ofInt_neg a).symm
theorem iI_lt {a b : Int} (h1 : -2147483648 ≤ a) (h2 : a < 2147483648) (h3 : -2147483648 ≤ b) (h4 : b < 2147483648) : iI a < iI b ↔ a < b := by
  rw [Int32.lt_iff_toInt_lt, iI_toInt h1 h2, iI_toInt h3 h4]
theorem iI_le {a b : Int} (h1 : -2147483648 ≤ a) (h2 : a < 2147483648) (h3 : -2147483648 ≤ b) (h4 : b < 2147483648) : iI a ≤ iI b ↔ a ≤ b := by
  rw [Int32.le_iff_toInt_le, iI_toInt h1 h2, iI_toInt h3 h4]
theorem iI_eq {a b : Int} (h1 : -2147483648 ≤ a) (h2 : a < 2147483648) (h3 : -2147483648 ≤ b) (h4 : b < 2147483648) : iI a = iI b ↔ a = b := by
  rw [← Int32.toInt_inj, iI_toInt h1 h2, iI_toInt h3 h4]
theorem iI_clamp {a : Int} (h1 : -2147483648 ≤ a) (h2 : a < 2147483648) : (iI a).toNatClampNeg = a.toNat := by
  show (iI a).toInt.toNat = _
  rw [iI_toInt h1 h2]
theorem iI_in {a : Int} {N : Nat} (h1 : 0 ≤ a) (h2 : a < N) (h3 : N < 2147483648) : vp_in (iI a) N := by
  intro h
  rw [iI_clamp (by omega) (by omega), show (0 : Int32) = iI 0 from rfl, iI_lt (by omega) (by omega) (by omega) (by omega)] at h
  omega
theorem vA_i {s : RS} {k : Nat} {a : Int} {K : Int32 → Prop} (h1 : 0 ≤ a) (h2 : a < md_len k) (h3 : md_len k < 2147483648) (hK : K (s.2 k a.toNat)) : vA s k (iI a) K := by
  refine ⟨iI_in h1 h2 h3, ?_⟩
  rw [iI_clamp (by omega) (by omega)]
  exact hK
theorem vS_i {s : RS} {k : Nat} {a : Int} {v : Int32} {K : RS → Prop} (h1 : 0 ≤ a) (h2 : a < md_len k) (h3 : md_len k < 2147483648) (hK : K (sR s k a.toNat v)) : vS s k (iI a) v K := by
  refine ⟨iI_in h1 h2 h3, ?_⟩
  rw [iI_clamp (by omega) (by omega)]
  exact hK
/-- the bytes that the reference looks at -/
def Bf (s : RS) (B : List Nat) : Prop := ∃ bb : Nat, s.1 27 = iI bb ∧ s.1 28 = iI B.length ∧ bb + B.length ≤ 4160 ∧ ∀ j, j < B.length → B.getD j 0 < 256 ∧ s.2 0 (bb + j) = iI (B.getD j 0)
def bt (B : List Nat) (p : Nat) : Int := if p < B.length then (B.getD p 0 : Int) else -1
theorem Bf.len {s : RS} {B : List Nat} (h : Bf s B) : B.length ≤ 4160 := by
  obtain ⟨bb, -, -, h, -⟩ := h
  omega
theorem bt_r {B : List Nat} (h : ∀ j, j < B.length → B.getD j 0 < 256) (p : Nat) : -1 ≤ bt B p ∧ bt B p < 256 := by
  unfold bt
  by_cases q : p < B.length
  · rw [if_pos q]
    have := h p q
    omega
  · rw [if_neg q]
    omega
theorem Bf.rng {s : RS} {B : List Nat} (h : Bf s B) (p : Nat) : -1 ≤ bt B p ∧ bt B p < 256 := by
  obtain ⟨bb, -, -, -, h⟩ := h
  exact bt_r (fun j hj => (h j hj).1) p
theorem sm_byteAt {s : RS} {B : List Nat} {p : Nat} {Q : Int32 → RS → Prop} (h : Bf s B) (hp : p < 1000000) (hQ : Q (iI (bt B p)) s) : vp_M_byteAt (iI p) s Q := by
  have hl := h.len
  obtain ⟨bb, h1, h2, h3, h4⟩ := h
  simp only [vp_M_byteAt, wL, h1, h2, iI_add]
  unfold bt at hQ
  by_cases q : p < B.length
  · rw [if_pos q] at hQ
    rw [if_neg (by rw [iI_le (by omega) (by omega) (by omega) (by omega)]; omega)]
    refine vA_i (by omega) ?_ (by decide) ?_
    · show (bb : Int) + p < (4160 : Nat)
      omega
    · rw [show ((bb : Int) + p).toNat = bb + p by omega, (h4 p q).2]
      exact hQ
  · rw [if_neg q] at hQ
    rw [if_pos (by rw [iI_le (by omega) (by omega) (by omega) (by omega)]; omega)]
    exact hQ
/-- the first place from f on, before t, where c stands; else t -/
def sk (B : List Nat) (c : Nat) : Nat → Nat → Nat
  | 0, f => f
  | k + 1, f => if bt B f = (c : Int) then f else sk B c k (f + 1)
theorem sl_seek {s : RS} {B : List Nat} {c : Nat} {Q : Int32 → RS → Prop} {p1 : Int32} (h : Bf s B) (hc : c < 256) : ∀ k f, f + k < 1000000 → Q (iI (sk B c k f)) s → vq_M_seek_3 (iI c) p1 (iI ((f + k : Nat) : Int)) Q (k + 1) (iI f) s := by
  intro k
  induction k with
  | zero =>
    intro f hf hQ
    show vb_M_seek_3 _ _ _ _ _ _ _
    unfold vb_M_seek_3
    rw [if_pos (by rw [iI_le (by omega) (by omega) (by omega) (by omega)]; omega)]
    exact hQ
  | succ k ih =>
    intro f hf hQ
    show vb_M_seek_3 _ _ _ _ _ _ _
    unfold vb_M_seek_3
    rw [if_neg (by rw [iI_le (by omega) (by omega) (by omega) (by omega)]; omega)]
    refine sm_byteAt h (by omega) ?_
    have hb := h.rng f
    unfold sk at hQ
    by_cases q : bt B f = (c : Int)
    · rw [if_pos (by rw [q])]
      rw [if_pos q] at hQ
      exact hQ
    · rw [if_neg (by rw [iI_eq (by omega) (by omega) (by omega) (by omega)]; exact q)]
      rw [if_neg q] at hQ
      have := ih (f + 1) (by omega) hQ
      rw [show ((f + (k + 1) : Nat) : Int) = ((f + 1 + k : Nat) : Int) by omega, show iI f + 1 = iI ((f + 1 : Nat) : Int) from iI_add f 1]
      exact this
theorem sm_seek {s : RS} {B : List Nat} {c f t : Nat} {Q : Int32 → RS → Prop} (h : Bf s B) (hc : c < 256) (ht : t < 1000000) (hft : f ≤ t) (hQ : Q (iI (sk B c (t - f) f)) s) : vp_M_seek (iI c) (iI f) (iI t) s Q := by
  refine ⟨t - f + 1, ?_⟩
  have := sl_seek (p1 := iI f) h hc (t - f) f (by omega) hQ
  rw [show ((f + (t - f) : Nat) : Int) = t by omega] at this
  exact this
theorem iI_b0 (b : Bool) : iI (bI b) = iI 0 ↔ b = false := by cases b <;> decide
theorem iI_b1 (b : Bool) : iI (bI b) = iI 1 ↔ b = true := by cases b <;> decide
theorem wL.i {α : Type} {e : α} {K : α → Prop} (h : K e) : wL e K := h
theorem vP.i {s : RS} {k : Nat} {v : Int32} {K : RS → Prop} (h : K (sI s k v)) : vP s k v K := h
