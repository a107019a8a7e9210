/-! The class over the view: steps -/
/-- all that stood there stands, but for these -/
def Fw (A A' : ab_H) (W : List Nat) : Prop := ∀ x o, A x = some o → x ∉ W → A' x = some o
theorem Fw.rf (A : ab_H) (W : List Nat) : Fw A A W := fun _ _ h _ => h
theorem Fw.tr {A B C : ab_H} {W W' : List Nat} (h : Fw A B W) (g : Fw B C W') (hw : ∀ x ∈ W', x ∈ W ∨ A x = none) : Fw A C W := fun x o hx hn => by
  refine g x o (h x o hx hn) (fun z => ?_)
  rcases hw x z with y | y
  · exact hn y
  · rw [hx] at y
    cases y
theorem Fw.mo {A B : ab_H} {W W' : List Nat} (h : Fw A B W) (hw : ∀ x ∈ W, x ∈ W') : Fw A B W' := fun x o hx hn => h x o hx (fun z => hn (hw x z))
theorem Fw.e {A B : ab_H} {x : Nat} {o : ab_O} (h : Fw A B []) (hx : A x = some o) : B x = some o := h x o hx (by simp)
theorem Fw.n {A B : ab_H} {a x : Nat} {o : ab_O} (h : Fw A B [a]) (hx : A x = some o) (hn : x ≠ a) : B x = some o := h x o hx (by simpa using hn)
theorem ne_of {A : ab_H} {a x : Nat} {o o' : ab_O} (hx : A x = some o) (ha : A a = some o') (h : o ≠ o') : x ≠ a := fun e => h (by rw [e, ha] at hx; exact (Option.some.inj hx).symm)
theorem ne_no {A : ab_H} {a x : Nat} {o : ab_O} (hx : A x = some o) (ha : A a = none) : x ≠ a := fun e => by
  rw [e, ha] at hx
  cases hx
theorem Fw.k {A B : ab_H} {a x : Nat} {o o' : ab_O} (h : Fw A B [a]) (hx : A x = some o) (ha : A a = some o') (hn : o ≠ o') : B x = some o := h.n hx (ne_of hx ha hn)
theorem Fw.u {A : ab_H} {a : Nat} {o : ab_O} : Fw A (ab_u A a o) [a] := fun x o' hx hn => by
  rw [ab_un (by simpa using hn)]
  exact hx
theorem Fw.w {A : ab_H} {a : Nat} {o : ab_O} (h : A a = none) : Fw A (ab_u A a o) [] := fun x o' hx _ => by
  rw [ab_un (ne_no hx h)]
  exact hx
section OPS
variable {A : ab_H} {a : Nat} {kc ks : Nat}
theorem wgI.i {ci k : Nat} {fs : List Value} {x : Int32} {K : Int32 → Prop} (hA : A a = some (oR (.inr (ci, fs)))) (hf : fs[k]? = some (.int x)) (hK : K x) : wgI A (some a) ci k K := ⟨a, fs, x, rfl, hA, hf, hK⟩
theorem wgJ.i {ci k : Nat} {fs : List Value} {x : Int64} {K : Int64 → Prop} (hA : A a = some (oR (.inr (ci, fs)))) (hf : fs[k]? = some (.long x)) (hK : K x) : wgJ A (some a) ci k K := ⟨a, fs, x, rfl, hA, hf, hK⟩
theorem wgR.i {ci k : Nat} {fs : List Value} {x : Option Nat} {K : Option Nat → Prop} (hA : A a = some (oR (.inr (ci, fs)))) (hf : fs[k]? = some (va_rf x)) (hK : K x) : wgR A (some a) ci k K := ⟨a, fs, x, rfl, hA, hf, hK⟩
theorem wpu {ci k : Nat} {fs : List Value} {v : Value} {K : ab_H → Prop} (hA : A a = some (oR (.inr (ci, fs)))) (hk : k < fs.length) (hK : ∀ A', A' a = some (oR (.inr (ci, fs.set k v))) → Fw A A' [a] → K A') : wp A (some a) ci k v K := ⟨a, fs, rfl, hA, hk, hK _ ab_us Fw.u⟩
theorem wnw {ci n : Nat} {K : Nat → ab_H → Nat → Nat → Prop} (h1 : 1 ≤ kc) (h2 : n ≤ ks) (hK : ∀ b A', mm_K ≤ b → A b = none → A' b = some (oR (.inr (ci, mm_df ci))) → Fw A A' [] → K b A' (kc - 1) (ks - n)) : wNew A kc ks ci n K := ⟨h1, h2, fun b hb hn => hK b _ hb hn ab_us (Fw.w hn)⟩
theorem wC.i {ci : Nat} {fs : List Value} {K : Nat → Prop} (hA : A a = some (oR (.inr (ci, fs)))) (hK : K a) : wC A (some a) ci K := ⟨a, fs, rfl, hA, hK⟩
theorem wD.i {K : Nat → Prop} (hK : K a) : wD (some a) K := ⟨a, rfl, hK⟩
theorem wX.i {α : Type} {W : Nat → Nat → (α → ab_H → Prop) → Prop} {K : α → ab_H → Nat → Nat → Prop} (c s : Nat) (h1 : c ≤ kc) (h2 : s ≤ ks) (hW : W c s (fun v A => K v A (kc - c) (ks - s))) : wX kc ks W K := ⟨c, s, h1, h2, hW⟩
theorem wXV.i {W : Nat → Nat → (ab_H → Prop) → Prop} {K : ab_H → Nat → Nat → Prop} (c s : Nat) (h1 : c ≤ kc) (h2 : s ≤ ks) (hW : W c s (fun A => K A (kc - c) (ks - s))) : wXV kc ks W K := ⟨c, s, h1, h2, hW⟩
theorem wB.i {b : Bool} {K : Prop} (hK : K) : wB (iI (bI b)) K := ⟨bI_b b, hK⟩
theorem st_len {bs : List Nat} {K : Int32 → Prop} (h : A a = some (oS bs)) (hK : K (iI bs.length)) : wj_ST_length A (some a) K := ⟨a, bs, rfl, h, hK⟩
theorem st_emp {bs : List Nat} {K : Int32 → Prop} (h : A a = some (oS bs)) (hK : K (iI (bI (decide (bs = []))))) : wj_ST_isEmpty A (some a) K := ⟨a, bs, rfl, h, by
  by_cases q : bs = []
  · rw [if_pos q]
    rw [decide_eq_true q] at hK
    exact hK
  · rw [if_neg q]
    rw [decide_eq_false q] at hK
    exact hK⟩
theorem st_at {bs : List Nat} {j : Nat} {y : Int32} {K : Int32 → Prop} (h : A a = some (oS bs)) (hy : y = iI j) (hj : j < bs.length) (hK : K (iI (bs.getD j 0))) : wj_ST_charAt A (some a) y K := ⟨a, bs, j, rfl, h, hy, hj, hK⟩
theorem ix_fi (x : Nat) : ∀ (bs : List Nat) (i : Nat), ix_l x bs i = iI (if fi x bs < bs.length then ((i + fi x bs : Nat) : Int) else -1)
  | [], i => rfl
  | b :: bs, i => by
    unfold ix_l
    rw [fi_cons, List.length_cons]
    by_cases q : b = x
    · rw [if_pos q, if_pos q, if_pos (Nat.succ_pos _)]
      rfl
    · rw [if_neg q, if_neg q, ix_fi x bs (i + 1)]
      by_cases r : fi x bs < bs.length
      · rw [if_pos r, if_pos (by omega)]
        congr 2
        omega
      · rw [if_neg r, if_neg (by omega)]
theorem st_ix {bs : List Nat} {j : Nat} {y : Int32} {K : Int32 → Prop} (h : A a = some (oS bs)) (hy : y = iI j) (hj : j < 256) (hK : K (iI (if fi j bs < bs.length then (fi j bs : Int) else -1))) : wj_ST_indexOf_I A (some a) y K := ⟨a, bs, j, rfl, h, hy, hj, by
  rw [ix_fi, Nat.zero_add]
  exact hK⟩
theorem st_eq {b : Nat} {bs cs : List Nat} {K : Int32 → Prop} (h : A a = some (oS bs)) (g : A b = some (oS cs)) (hK : K (iI (bI (decide (bs = cs))))) : wj_ST_equals A (some a) (some b) K := ⟨a, bs, b, cs, rfl, h, rfl, g, by
  by_cases q : bs = cs
  · rw [if_pos q]
    rw [decide_eq_true q] at hK
    exact hK
  · rw [if_neg q]
    rw [decide_eq_false q] at hK
    exact hK⟩
theorem tx_fw {A' : ab_H} {s : Nat} {bs : List Nat} (h : ab_tx A A' s bs) : A' s = some (oS bs) ∧ Fw A A' [] := by
  refine ⟨h.1, ?_⟩
  rcases h.2 with z | ⟨z, y⟩
  · rw [z]
    exact Fw.rf A []
  · rw [y]
    exact Fw.w z
theorem st_sub2 {bs : List Nat} {i j : Nat} {x y : Int32} {K : Option Nat → ab_H → Nat → Nat → Prop} (h : A a = some (oS bs)) (hx : x = iI i) (hy : y = iI j) (hij : i ≤ j) (hj : j ≤ bs.length) (h1 : 2 ≤ kc) (h2 : 4 + (j - i) ≤ ks) (hK : ∀ s A', A' s = some (oS (sl bs i j)) → Fw A A' [] → K (some s) A' (kc - 2) (ks - (4 + (j - i)))) : wj_ST_substring_II A kc ks (some a) x y K := ⟨a, bs, i, j, rfl, h, hx, hy, hij, hj, h1, h2, fun s A' t => hK s A' (tx_fw t).1 (tx_fw t).2⟩
theorem st_sub1 {bs : List Nat} {i : Nat} {x : Int32} {K : Option Nat → ab_H → Nat → Nat → Prop} (h : A a = some (oS bs)) (hx : x = iI i) (hi : i ≤ bs.length) (h1 : 2 ≤ kc) (h2 : 4 + (bs.length - i) ≤ ks) (hK : ∀ s A', A' s = some (oS (bs.drop i)) → Fw A A' [] → K (some s) A' (kc - 2) (ks - (4 + (bs.length - i)))) : wj_ST_substring_I A kc ks (some a) x K := ⟨a, bs, i, rfl, h, hx, hi, h1, h2, fun s A' t => hK s A' (tx_fw t).1 (tx_fw t).2⟩
theorem bu_ok {cap k : Nat} (hk : k ≤ 99) (hc : cap ≤ 200) : bu_gr cap k ≤ 200 ∧ bu_ks cap k ≤ 2 * (bu_gr cap k - cap) ∧ cap ≤ bu_gr cap k := by
  unfold bu_gr bu_ks
  by_cases q : k ≤ cap
  · rw [if_pos q, if_pos q]
    omega
  · rw [if_neg q, if_neg q]
    omega
theorem sb_len {bs : List Nat} {cap : Nat} {K : Int32 → Prop} (h : A a = some (oB bs cap)) (hK : K (iI bs.length)) : wj_SB_length A (some a) K := ⟨a, bs, cap, rfl, h, hK⟩
theorem sb_get {bs : List Nat} {cap j : Nat} {y : Int32} {K : Int32 → Prop} (h : A a = some (oB bs cap)) (hy : y = iI j) (hj : j < bs.length) (hK : K (iI (bs.getD j 0))) : wj_SB_charAt A (some a) y K := ⟨a, bs, cap, j, rfl, h, hy, hj, hK⟩
theorem sb_chr {bs : List Nat} {cap n : Nat} {y : Int32} {K : Option Nat → ab_H → Nat → Nat → Prop} (h : A a = some (oB bs cap)) (hy : y = iI n) (hn : n < 256) (hl : bs.length < 99) (hc : cap ≤ 200) (h1 : 1 ≤ kc) (h2 : 2 * (200 - cap) ≤ ks) (hK : ∀ A' cap' ks', A' a = some (oB (bs ++ [n]) cap') → Fw A A' [a] → cap' ≤ 200 → cap ≤ cap' → ks - 2 * (200 - cap) + 2 * (200 - cap') ≤ ks' → K (some a) A' (kc - 1) ks') : wj_SB_append_C A kc ks (some a) y K := by
  have := bu_ok (k := bs.length + 1) (by omega) hc
  exact ⟨a, bs, cap, n, rfl, h, hy, hn, by omega, h1, by omega, hK _ _ _ ab_us Fw.u this.1 this.2.2 (by omega)⟩
theorem sb_int {bs : List Nat} {cap n : Nat} {y : Int32} {K : Option Nat → ab_H → Nat → Nat → Prop} (h : A a = some (oB bs cap)) (hy : y = iI n) (hn : n < 10000) (hl : bs.length ≤ 95) (hc : cap ≤ 200) (h1 : 1 ≤ kc) (h2 : 2 * (200 - cap) ≤ ks) (hK : ∀ A' cap' ks', A' a = some (oB (bs ++ dc_l n) cap') → Fw A A' [a] → cap' ≤ 200 → cap ≤ cap' → ks - 2 * (200 - cap) + 2 * (200 - cap') ≤ ks' → K (some a) A' (kc - 1) ks') : wj_SB_append_I A kc ks (some a) y K := by
  have hd : (dc_l n).length ≤ 4 := by
    unfold dc_l
    (repeat' split) <;> simp
  have := bu_ok (k := bs.length + (dc_l n).length) (by omega) hc
  exact ⟨a, bs, cap, n, rfl, h, hy, hn, by omega, h1, by omega, hK _ _ _ ab_us Fw.u this.1 this.2.2 (by omega)⟩
theorem sb_str {b : Nat} {bs cs : List Nat} {cap : Nat} {K : Option Nat → ab_H → Nat → Nat → Prop} (h : A a = some (oB bs cap)) (g : A b = some (oS cs)) (hl : bs.length + cs.length ≤ 99) (hc : cap ≤ 200) (h1 : 1 ≤ kc) (h2 : 2 * (200 - cap) ≤ ks) (hK : ∀ A' cap' ks', A' a = some (oB (bs ++ cs) cap') → Fw A A' [a] → cap' ≤ 200 → cap ≤ cap' → ks - 2 * (200 - cap) + 2 * (200 - cap') ≤ ks' → K (some a) A' (kc - 1) ks') : wj_SB_append_S A kc ks (some a) (some b) K := by
  have := bu_ok (k := bs.length + cs.length) hl hc
  exact ⟨a, bs, cap, b, cs, rfl, h, rfl, g, by omega, h1, by omega, hK _ _ _ ab_us Fw.u this.1 this.2.2 (by omega)⟩
theorem sb_set {bs : List Nat} {cap k : Nat} {y : Int32} {K : ab_H → Nat → Nat → Prop} (h : A a = some (oB bs cap)) (hy : y = iI k) (hk : k ≤ bs.length) (hk2 : k ≤ 140) (h1 : 1 ≤ kc) (hK : ∀ A', A' a = some (oB (bs.take k) cap) → Fw A A' [a] → K A' (kc - 1) ks) : wj_SB_setLength A kc ks (some a) y K := ⟨a, bs, cap, k, rfl, h, hy, hk, hk2, h1, hK _ ab_us Fw.u⟩
theorem sb_str2 {bs : List Nat} {cap : Nat} {K : Option Nat → ab_H → Nat → Nat → Prop} (h : A a = some (oB bs cap)) (h1 : 2 ≤ kc) (h2 : 4 + bs.length ≤ ks) (hK : ∀ s A', A s = none → A' s = some (oS bs) → Fw A A' [] → K (some s) A' (kc - 2) (ks - (4 + bs.length))) : wj_SB_toString A kc ks (some a) K := ⟨a, bs, cap, rfl, h, h1, h2, fun s hs => hK s _ hs ab_us (Fw.w hs)⟩
theorem al_size {ys : List Nat} {cap : Nat} {K : Int32 → Prop} (h : A a = some (oL ys cap)) (hK : K (iI ys.length)) : wj_AL_size A (some a) K := ⟨a, ys, cap, rfl, h, hK⟩
theorem al_get {ys : List Nat} {cap j : Nat} {y : Int32} {K : Option Nat → Prop} (h : A a = some (oL ys cap)) (hy : y = iI j) (hj : j < ys.length) (hK : K (some (ys.getD j 0))) : wj_AL_get A (some a) y K := ⟨a, ys, cap, j, rfl, h, hy, hj, hK⟩
theorem al_add {ys : List Nat} {cap b ci : Nat} {fs : List Value} {K : Int32 → ab_H → Nat → Nat → Prop} (h : A a = some (oL ys cap)) (g : A b = some (oR (.inr (ci, fs)))) (hci : ci = 7 ∨ ci = 8 ∨ ci = 9 ∨ ci = 12) (hl : ys.length < 10) (h1 : 1 ≤ kc) (h2 : 10 ≤ ks) (hK : ∀ A' ks', A' a = some (oL (ys ++ [b]) 10) → Fw A A' [a] → ks - 10 ≤ ks' → K 1 A' (kc - 1) ks') : wj_AL_add_O A kc ks (some a) (some b) K := by
  refine ⟨a, ys, cap, b, ci, fs, rfl, h, rfl, g, hci, hl, h1, by split <;> omega, hK _ _ ab_us Fw.u ?_⟩
  split <;> omega
theorem al_init {K : ab_H → Prop} (h : A a = some (oR (.inr (2, [.null, .int 0, .int 0])))) (hK : ∀ A', A' a = some (oL [] 0) → Fw A A' [a] → K A') : wj_AL_init A (some a) K := ⟨a, rfl, h, hK _ ab_us Fw.u⟩
theorem sb_init {K : ab_H → Nat → Nat → Prop} (h : A a = some (oR (.inr (1, [.null, .int 0, .int 0, .int 0])))) (h1 : 1 ≤ kc) (h2 : 16 ≤ ks) (hK : ∀ A', A' a = some (oB [] 16) → Fw A A' [a] → K A' (kc - 1) (ks - 16)) : wj_SB_init A kc ks (some a) K := ⟨a, rfl, h, h1, h2, hK _ ab_us Fw.u⟩
theorem al_rem {ys : List Nat} {cap j : Nat} {y : Int32} {K : Option Nat → ab_H → Prop} (h : A a = some (oL ys cap)) (hy : y = iI j) (hj : j < ys.length) (hK : ∀ A', A' a = some (oL (ys.eraseIdx j) 10) → Fw A A' [a] → K (some (ys.getD j 0)) A') : wj_AL_remove A (some a) y K := ⟨a, ys, cap, j, rfl, h, hy, hj, hK _ ab_us Fw.u⟩
theorem al_clr {ys : List Nat} {cap : Nat} {K : ab_H → Prop} (h : A a = some (oL ys cap)) (hK : ∀ A', A' a = some (oL [] cap) → Fw A A' [a] → K A') : wj_AL_clear A (some a) K := ⟨a, ys, cap, rfl, h, hK _ ab_us Fw.u⟩
end OPS
/-! Texts -/
section TXS
variable {A : ab_H} {Q : Int32 → ab_H → Prop}
theorem c_isPlain {c : Int} (h1 : -1 ≤ c) (h2 : c < 70000) (hQ : Q (iI (bI (decide (32 ≤ c ∧ c ≤ 126)))) A) : wp_X_isPlain (iI c) A Q := by
  unfold wp_X_isPlain
  by_cases q1 : c < 32
  · rw [if_pos (by simp (disch := omega) only [iI_lit, iI_add, iI_sub, iI_mul, iI_neg, iI_lt, iI_le, iI_eq] <;> omega)]
    rw [decide_eq_false (by omega)] at hQ
    exact hQ
  rw [if_neg (by simp (disch := omega) only [iI_lit, iI_add, iI_sub, iI_mul, iI_neg, iI_lt, iI_le, iI_eq] <;> omega)]
  by_cases q2 : 126 < c
  · rw [if_pos (by simp (disch := omega) only [iI_lit, iI_add, iI_sub, iI_mul, iI_neg, iI_lt, iI_le, iI_eq] <;> omega)]
    rw [decide_eq_false (by omega)] at hQ
    exact hQ
  rw [if_neg (by simp (disch := omega) only [iI_lit, iI_add, iI_sub, iI_mul, iI_neg, iI_lt, iI_le, iI_eq] <;> omega)]
  rw [decide_eq_true (by omega)] at hQ
  exact hQ
theorem c_isCapital {c : Int} (h1 : -1 ≤ c) (h2 : c < 70000) (hQ : Q (iI (bI (decide (65 ≤ c ∧ c ≤ 90)))) A) : wp_X_isCapital (iI c) A Q := by
  unfold wp_X_isCapital
  by_cases q1 : c < 65
  · rw [if_pos (by simp (disch := omega) only [iI_lit, iI_add, iI_sub, iI_mul, iI_neg, iI_lt, iI_le, iI_eq] <;> omega)]
    rw [decide_eq_false (by omega)] at hQ
    exact hQ
  rw [if_neg (by simp (disch := omega) only [iI_lit, iI_add, iI_sub, iI_mul, iI_neg, iI_lt, iI_le, iI_eq] <;> omega)]
  by_cases q2 : 90 < c
  · rw [if_pos (by simp (disch := omega) only [iI_lit, iI_add, iI_sub, iI_mul, iI_neg, iI_lt, iI_le, iI_eq] <;> omega)]
    rw [decide_eq_false (by omega)] at hQ
    exact hQ
  rw [if_neg (by simp (disch := omega) only [iI_lit, iI_add, iI_sub, iI_mul, iI_neg, iI_lt, iI_le, iI_eq] <;> omega)]
  rw [decide_eq_true (by omega)] at hQ
  exact hQ
theorem c_isSmall {c : Int} (h1 : -1 ≤ c) (h2 : c < 70000) (hQ : Q (iI (bI (decide (97 ≤ c ∧ c ≤ 122)))) A) : wp_X_isSmall (iI c) A Q := by
  unfold wp_X_isSmall
  by_cases q1 : c < 97
  · rw [if_pos (by simp (disch := omega) only [iI_lit, iI_add, iI_sub, iI_mul, iI_neg, iI_lt, iI_le, iI_eq] <;> omega)]
    rw [decide_eq_false (by omega)] at hQ
    exact hQ
  rw [if_neg (by simp (disch := omega) only [iI_lit, iI_add, iI_sub, iI_mul, iI_neg, iI_lt, iI_le, iI_eq] <;> omega)]
  by_cases q2 : 122 < c
  · rw [if_pos (by simp (disch := omega) only [iI_lit, iI_add, iI_sub, iI_mul, iI_neg, iI_lt, iI_le, iI_eq] <;> omega)]
    rw [decide_eq_false (by omega)] at hQ
    exact hQ
  rw [if_neg (by simp (disch := omega) only [iI_lit, iI_add, iI_sub, iI_mul, iI_neg, iI_lt, iI_le, iI_eq] <;> omega)]
  rw [decide_eq_true (by omega)] at hQ
  exact hQ
theorem c_isDigit {c : Int} (h1 : -1 ≤ c) (h2 : c < 70000) (hQ : Q (iI (bI (decide (48 ≤ c ∧ c ≤ 57)))) A) : wp_X_isDigit (iI c) A Q := by
  unfold wp_X_isDigit
  by_cases q1 : c < 48
  · rw [if_pos (by simp (disch := omega) only [iI_lit, iI_add, iI_sub, iI_mul, iI_neg, iI_lt, iI_le, iI_eq] <;> omega)]
    rw [decide_eq_false (by omega)] at hQ
    exact hQ
  rw [if_neg (by simp (disch := omega) only [iI_lit, iI_add, iI_sub, iI_mul, iI_neg, iI_lt, iI_le, iI_eq] <;> omega)]
  by_cases q2 : 57 < c
  · rw [if_pos (by simp (disch := omega) only [iI_lit, iI_add, iI_sub, iI_mul, iI_neg, iI_lt, iI_le, iI_eq] <;> omega)]
    rw [decide_eq_false (by omega)] at hQ
    exact hQ
  rw [if_neg (by simp (disch := omega) only [iI_lit, iI_add, iI_sub, iI_mul, iI_neg, iI_lt, iI_le, iI_eq] <;> omega)]
  rw [decide_eq_true (by omega)] at hQ
  exact hQ
theorem c_hex {c : Int} (h1 : -1 ≤ c) (h2 : c < 70000) (hQ : Q (iI (hxv c)) A) : wp_X_hexDigit (iI c) A Q := by
  unfold wp_X_hexDigit
  unfold hxv at hQ
  have low : ¬ (97 ≤ c ∧ c ≤ 102) → ¬ (48 ≤ c ∧ c ≤ 57) → wq_X_hexDigit_37 (iI c) Q A := fun z1 z2 => by
    rw [if_neg z2, if_neg z1] at hQ
    unfold wq_X_hexDigit_37
    by_cases q1 : c < 65
    · rw [if_pos (by simp (disch := omega) only [iI_lit, iI_add, iI_sub, iI_mul, iI_neg, iI_lt, iI_le, iI_eq] <;> omega)]
      rw [if_neg (by omega)] at hQ
      exact hQ
    rw [if_neg (by simp (disch := omega) only [iI_lit, iI_add, iI_sub, iI_mul, iI_neg, iI_lt, iI_le, iI_eq] <;> omega)]
    by_cases q2 : 70 < c
    · rw [if_pos (by simp (disch := omega) only [iI_lit, iI_add, iI_sub, iI_mul, iI_neg, iI_lt, iI_le, iI_eq] <;> omega)]
      rw [if_neg (by omega)] at hQ
      exact hQ
    rw [if_neg (by simp (disch := omega) only [iI_lit, iI_add, iI_sub, iI_mul, iI_neg, iI_lt, iI_le, iI_eq] <;> omega)]
    rw [if_pos (by omega)] at hQ
    rw [show iI c - 65 + 10 = iI (c - 55) from by rw [show (65 : Int32) = iI 65 from rfl, show (10 : Int32) = iI 10 from rfl, iI_sub, iI_add]; congr 1; omega]
    exact hQ
  have mid : ¬ (48 ≤ c ∧ c ≤ 57) → wq_X_hexDigit_17 (iI c) Q A := fun z2 => by
    unfold wq_X_hexDigit_17
    by_cases q1 : c < 97
    · rw [if_pos (by simp (disch := omega) only [iI_lit, iI_add, iI_sub, iI_mul, iI_neg, iI_lt, iI_le, iI_eq] <;> omega)]
      exact low (by omega) z2
    rw [if_neg (by simp (disch := omega) only [iI_lit, iI_add, iI_sub, iI_mul, iI_neg, iI_lt, iI_le, iI_eq] <;> omega)]
    by_cases q2 : 102 < c
    · rw [if_pos (by simp (disch := omega) only [iI_lit, iI_add, iI_sub, iI_mul, iI_neg, iI_lt, iI_le, iI_eq] <;> omega)]
      exact low (by omega) z2
    rw [if_neg (by simp (disch := omega) only [iI_lit, iI_add, iI_sub, iI_mul, iI_neg, iI_lt, iI_le, iI_eq] <;> omega)]
    rw [if_neg z2, if_pos (by omega)] at hQ
    rw [show iI c - 97 + 10 = iI (c - 87) from by rw [show (97 : Int32) = iI 97 from rfl, show (10 : Int32) = iI 10 from rfl, iI_sub, iI_add]; congr 1; omega]
    exact hQ
  by_cases q1 : c < 48
  · rw [if_pos (by simp (disch := omega) only [iI_lit, iI_add, iI_sub, iI_mul, iI_neg, iI_lt, iI_le, iI_eq] <;> omega)]
    exact mid (by omega)
  rw [if_neg (by simp (disch := omega) only [iI_lit, iI_add, iI_sub, iI_mul, iI_neg, iI_lt, iI_le, iI_eq] <;> omega)]
  by_cases q2 : 57 < c
  · rw [if_pos (by simp (disch := omega) only [iI_lit, iI_add, iI_sub, iI_mul, iI_neg, iI_lt, iI_le, iI_eq] <;> omega)]
    exact mid (by omega)
  rw [if_neg (by simp (disch := omega) only [iI_lit, iI_add, iI_sub, iI_mul, iI_neg, iI_lt, iI_le, iI_eq] <;> omega)]
  rw [if_pos (by omega)] at hQ
  rw [show iI c - 48 = iI (c - 48) from iI_sub _ 48]
  exact hQ
end TXS
