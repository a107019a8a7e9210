/-! The reference's bodies -/
/-- what judging may change -/
def Fr (s0 s : RS) : Prop := (∀ k, k ≠ 27 → k ≠ 28 → k ≠ 29 → k ≠ 32 → k ≠ 34 → k ≠ 35 → k ≠ 36 → s.1 k = s0.1 k) ∧ ∀ k, k ≠ 30 → k ≠ 31 → k ≠ 33 → s.2 k = s0.2 k
theorem Fr.rf (s : RS) : Fr s s := ⟨fun _ _ _ _ _ _ _ _ => rfl, fun _ _ _ _ => rfl⟩
theorem Fr.i {s0 s : RS} {k : Nat} {v : Int32} (h : Fr s0 s) (hk : k = 27 ∨ k = 28 ∨ k = 29 ∨ k = 32 ∨ k = 34 ∨ k = 35 ∨ k = 36) : Fr s0 (sI s k v) :=
  ⟨fun j h1 h2 h3 h4 h5 h6 h7 => by rw [sI_ne (by omega)]; exact h.1 j h1 h2 h3 h4 h5 h6 h7, h.2⟩
theorem Fr.r {s0 s : RS} {k i : Nat} {v : Int32} (h : Fr s0 s) (hk : k = 30 ∨ k = 31 ∨ k = 33) : Fr s0 (sR s k i v) :=
  ⟨h.1, fun j h1 h2 h3 => by rw [sR_ne (by omega)]; exact h.2 j h1 h2 h3⟩
/-- the body that has been read -/
def Bd (s : RS) (bd : List Nat) : Prop := s.1 32 = iI bd.length ∧ ∀ j, j < bd.length → s.2 33 j = iI (bd.getD j 0)
def bdS (s : RS) (bd : List Nat) (b : Nat) : RS := sI (sR s 33 bd.length (iI b)) 32 (iI ((bd.length + 1 : Nat) : Int))
theorem Bd.add {s : RS} {bd : List Nat} {b : Nat} (h : Bd s bd) : Bd (bdS s bd b) (bd ++ [b]) := by
  refine ⟨by rw [List.length_append]; exact sI_at, fun j hj => ?_⟩
  rw [List.length_append] at hj
  have hj : j < bd.length + 1 := hj
  show (sR s 33 bd.length (iI b)).2 33 j = _
  rw [sR_at]
  by_cases q : j = bd.length
  · subst q
    rw [pk_us]
    simp [List.getD_eq_getElem?_getD]
  · rw [pk_un q, h.2 j (by omega)]
    simp [List.getD_eq_getElem?_getD, List.getElem?_append_left (show j < bd.length by omega)]
/-- one byte of the body is taken -/
theorem sm_take {s : RS} {B bd : List Nat} {p : Nat} {K : RS → Prop} (h : Bf s B) (hb : Bd s bd) (hp : p < B.length) (hl : bd.length < 64) (hK : K (bdS s bd (B.getD p 0))) : wL (s.1 32) (fun x3 => vp_M_byteAt (iI p) s (fun x4 s => vS s 33 x3 x4 (fun s => wL (s.1 32) (fun x5 => vP s 32 (x5 + (1 : Int32)) (fun s => K s))))) := by
  have hlen := h.len
  refine wL.i (sm_byteAt h (by omega) ?_)
  rw [(h.at hp).1, hb.1]
  refine vS_i (by omega) (by show ((bd.length : Int) < (64 : Nat)); omega) (by decide) ?_
  rw [show ((bd.length : Int)).toNat = bd.length by omega]
  refine wL.i (vP.i ?_)
  rw [sR_1, hb.1, show iI (bd.length : Int) + 1 = iI ((bd.length + 1 : Nat) : Int) from iI_add _ 1]
  exact hK
theorem Bf.bd {s : RS} {B bd : List Nat} {b : Nat} (h : Bf s B) : Bf (bdS s bd b) B := (h.kR (by decide)).kI (by decide) (by decide)
theorem Fr.bd {s0 s : RS} {bd : List Nat} {b : Nat} (h : Fr s0 s) : Fr s0 (bdS s bd b) := (h.r (by decide)).i (by decide)
theorem bdS_n {s : RS} {bd : List Nat} {b k : Nat} (hk : k ≠ 32) : (bdS s bd b).1 k = s.1 k := by
  unfold bdS
  rw [sI_ne hk]
  rfl
theorem bdS_r {s : RS} {bd : List Nat} {b k : Nat} (hk : k ≠ 33) : (bdS s bd b).2 k = s.2 k := sR_ne hk
theorem sl_plain {s0 : RS} {B : List Nat} {f n : Nat} {Q : Int32 → RS → Prop} (hn : n ≤ 60) (hf : f ≤ B.length) : ∀ j k s, k + j = n → Bf s B → Bd s (sl B f (f + k)) → f + k ≤ B.length → Fr s0 s → s.1 35 = iI n →
    (B.length < f + n → ∀ s', Fr s0 s' → Q (iI 0) s') → (f + n ≤ B.length → ∀ s', Bf s' B → Bd s' (sl B f (f + n)) → Fr s0 s' → (∀ i, i ≠ 32 → s'.1 i = s.1 i) → (∀ i, i ≠ 33 → s'.2 i = s.2 i) → Q (iI 1) s') → vq_M_plain_2 (iI f) Q (j + 1) (iI k) s := by
  intro j
  induction j with
  | zero =>
    intro k s hk h hb hkl hF ha h0 h1
    have hl := h.len
    have hkn : k = n := by omega
    subst hkn
    show vb_M_plain_2 _ _ _ _ _
    unfold vb_M_plain_2
    refine wL.i ?_
    rw [ha, if_pos (by rw [iI_le (by omega) (by omega) (by omega) (by omega)]; omega)]
    exact h1 hkl s h hb hF (fun _ _ => rfl) (fun _ _ => rfl)
  | succ j ih =>
    intro k s hk h hb hkl hF ha h0 h1
    have hl := h.len
    show vb_M_plain_2 _ _ _ _ _
    unfold vb_M_plain_2
    refine wL.i ?_
    rw [ha, if_neg (by rw [iI_le (by omega) (by omega) (by omega) (by omega)]; omega)]
    refine wL.i ?_
    rw [h.size, show iI (f : Int) + iI (k : Int) = iI ((f + k : Nat) : Int) from iI_add _ _]
    by_cases q : f + k < B.length
    · rw [if_pos (by rw [iI_lt (by omega) (by omega) (by omega) (by omega)]; omega)]
      refine sm_take h hb q (by rw [sl_len (by omega) hkl]; omega) ?_
      rw [show iI (k : Int) + 1 = iI ((k + 1 : Nat) : Int) from iI_add _ 1]
      have hb2 := hb.add (b := B.getD (f + k) 0)
      rw [← sl_snoc (by omega) q] at hb2
      exact ih (k + 1) _ (by omega) h.bd hb2 (by omega) hF.bd (by rw [bdS_n (by decide)]; exact ha) h0 (fun z s' a b c d e => h1 z s' a b c (fun i hi => by rw [d i hi, bdS_n hi]) (fun i hi => by rw [e i hi, bdS_r hi]))
    · rw [if_neg (by rw [iI_lt (by omega) (by omega) (by omega) (by omega)]; omega)]
      exact h0 (by omega) s hF
theorem sm_plain {s0 s : RS} {B : List Nat} {f : Nat} {an : Int} {Q : Int32 → RS → Prop} (h : Bf s B) (hb : Bd s []) (hf : f ≤ B.length) (hF : Fr s0 s) (ha : s.1 35 = iI an) (han : -1 ≤ an ∧ an ≤ 40) (h0 : B.length < f + an.toNat → ∀ s', Fr s0 s' → Q (iI 0) s') (h1 : f + an.toNat ≤ B.length → ∀ s', Bf s' B → Bd s' (sl B f (f + an.toNat)) → Fr s0 s' → (∀ i, i ≠ 32 → s'.1 i = s.1 i) → (∀ i, i ≠ 33 → s'.2 i = s.2 i) → Q (iI 1) s') : vp_M_plain (iI f) s Q := by
  by_cases q : 0 ≤ an
  · refine ⟨an.toNat + 1, ?_⟩
    have := sl_plain (s0 := s0) (B := B) (f := f) (n := an.toNat) (Q := Q) (by omega) hf an.toNat 0 s (by omega) h (by rw [sl_nil (by omega)]; exact hb) (by omega) hF (by rw [show ((an.toNat : Nat) : Int) = an by omega]; exact ha) h0 h1
    exact this
  · have e : an = -1 := by omega
    subst e
    refine ⟨1, ?_⟩
    show vb_M_plain_2 _ _ _ _ _
    unfold vb_M_plain_2
    refine wL.i ?_
    rw [ha, if_pos (by decide)]
    exact h1 (by omega) s h (by rw [sl_nil (by omega)]; exact hb) hF (fun _ _ => rfl) (fun _ _ => rfl)
/-! chunks -/
def crlf : List Nat → Int
  | [] => 0
  | [a] => if a = 13 then 0 else 400
  | a :: b :: _ => if a = 13 then (if b = 10 then 1 else 400) else 400
def isf (X : List Nat) (b : Nat) : Int := match X with
  | [] => 0
  | a :: _ => if a = b then 1 else 400
theorem sm_is {s : RS} {B : List Nat} {p : Nat} (b : Nat) {y : Int32} {Q : Int32 → RS → Prop} (h : Bf s B) (hp : p < 100000) (hb : b < 256) (hy : y = iI b) (hQ : Q (iI (isf (B.drop p) b)) s) : vp_M_is (iI p) y s Q := by
  have hl := h.len
  unfold vp_M_is
  refine wL.i ?_
  rw [h.size, hy]
  by_cases q : p < B.length
  · rw [if_pos (by rw [iI_lt (by omega) (by omega) (by omega) (by omega)]; omega)]
    rw [ls_drop q] at hQ
    have hQ : Q (iI (if B.getD p 0 = b then 1 else 400)) s := hQ
    have hq := h.at q
    have hq2 := hq.2
    refine sm_byteAt h (by omega) ?_
    rw [hq.1]
    by_cases z : B.getD p 0 = b
    · rw [if_pos (by rw [z])]
      rw [if_pos z] at hQ
      exact hQ
    · rw [if_neg (by rw [iI_eq (by omega) (by omega) (by omega) (by omega)]; omega)]
      rw [if_neg z] at hQ
      exact hQ
  · rw [if_neg (by rw [iI_lt (by omega) (by omega) (by omega) (by omega)]; omega)]
    rw [List.drop_eq_nil_of_le (by omega)] at hQ
    exact hQ
theorem crlf_is (X : List Nat) : crlf X = if isf X 13 = 1 then isf (X.drop 1) 10 else isf X 13 := by
  match X with
  | [] => rfl
  | [a] => by_cases q : a = 13 <;> simp [crlf, isf, q]
  | a :: b :: Y => by_cases q : a = 13 <;> by_cases r : b = 10 <;> simp [crlf, isf, q, r]
theorem isf_r (X : List Nat) (b : Nat) : isf X b = 0 ∨ isf X b = 1 ∨ isf X b = 400 := by
  cases X with
  | nil => exact Or.inl rfl
  | cons a Y => by_cases q : a = b <;> simp [isf, q]
theorem crlf_r (X : List Nat) : crlf X = 0 ∨ crlf X = 1 ∨ crlf X = 400 := by
  rw [crlf_is]
  split
  · exact isf_r _ _
  · exact isf_r _ _
/-- a line's end, or what is wrong with it -/
theorem sm_crlf {s : RS} {B : List Nat} {p : Nat} {K : Int32 → RS → Prop} (h : Bf s B) (hp : p < 10000) (hK : K (iI (crlf (B.drop p))) s) : vp_M_is (iI p) (13 : Int32) s (fun x1 s => if x1 = (1 : Int32) then (vp_M_is (iI p + (1 : Int32)) (10 : Int32) s (fun x3 s => K x3 s)) else (vp_M_is (iI p) (13 : Int32) s (fun x2 s => K x2 s))) := by
  refine sm_is 13 h (by omega) (by decide) rfl ?_
  rw [crlf_is, List.drop_drop] at hK
  rw [show iI (p : Int) + 1 = iI ((p + 1 : Nat) : Int) from iI_add _ 1]
  have hr := isf_r (B.drop p) 13
  by_cases q : isf (B.drop p) 13 = 1
  · rw [if_pos (by rw [q]; rfl)]
    rw [if_pos q] at hK
    exact sm_is 10 h (by omega) (by decide) rfl hK
  · rw [if_neg (by rw [show (1 : Int32) = iI 1 from rfl, iI_eq (by omega) (by omega) (by omega) (by omega)]; exact q)]
    rw [if_neg q] at hK
    exact sm_is 13 h (by omega) (by decide) rfl hK
