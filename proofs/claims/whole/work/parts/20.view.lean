/-! The view: what the class's code sees of the heap. A String is its bytes, a StringBuilder its bytes and its room, an ArrayList the addresses of its elements and its room (none or ten), all else stands as it is; the rows inside aren't seen. -/
abbrev ab_O : Type := List Nat ⊕ (List Nat × Nat) ⊕ (List Nat × Nat) ⊕ mm_E
abbrev ab_H : Type := Nat → Option ab_O
abbrev oS (bs : List Nat) : ab_O := .inl bs
abbrev oB (bs : List Nat) (cap : Nat) : ab_O := .inr (.inl (bs, cap))
abbrev oL (ys : List Nat) (cap : Nat) : ab_O := .inr (.inr (.inl (ys, cap)))
abbrev oR (e : mm_E) : ab_O := .inr (.inr (.inr e))
def ab_b (bs : List Nat) (f : Nat → Int32) : Prop := ∀ j, j < bs.length → bs.getD j 0 < 256 ∧ f j = by_b (bs.getD j 0)
/-- a cell that stands as it is: a row of ints, chars, booleans or Connections, the script; an object of the claim's classes, or one that isn't made yet -/
def ab_raw (e : mm_E) : Prop := match e with
  | .inl (t, _, _) => t = 0 ∨ t = 2 ∨ t = 3 ∨ t = 5 ∨ t = 8
  | .inr (c, fs) => 3 ≤ c ∨ fs = mm_df c
def ab_l (h : mm_H) (a v : Nat) (o : ab_O) : Prop := match o with
  | .inl bs => ∃ t f, tx_at h a v t bs.length f ∧ ab_b bs f ∧ (a < mm_K → 0 < a ∧ a < 8)
  | .inr (.inl (bs, cap)) => ∃ ml f, bu_at h a v cap bs.length ml f ∧ ab_b bs f
  | .inr (.inr (.inl (ys, cap))) => ∃ mc f, ls_at h a v ys.length mc cap f ∧ ∀ j, j < ys.length → f j = some (ys.getD j 0)
  | .inr (.inr (.inr e)) => h.1 a = some e ∧ ab_raw e
/-- has a row inside -/
def ab_i (o : ab_O) : Prop := match o with
  | .inl _ => True
  | .inr (.inl _) => True
  | .inr (.inr (.inl (_, cap))) => cap = 10
  | .inr (.inr (.inr _)) => False
/-- has a row inside that it writes -/
def ab_m (o : ab_O) : Prop := match o with
  | .inl _ => False
  | .inr (.inl _) => True
  | .inr (.inr (.inl (_, cap))) => cap = 10
  | .inr (.inr (.inr _)) => False
/-- what an ArrayList holds: objects of four classes -/
def ab_el (A : ab_H) (ys : List Nat) : Prop := ∀ y ∈ ys, ∃ (ci : Nat) (fs : List Value), A y = some (oR (.inr (ci, fs))) ∧ (ci = 7 ∨ ci = 8 ∨ ci = 9 ∨ ci = 12)
/-- what stood before the law began: the script, and seven texts -/
def ab_old (xs : List Int32) (k : Nat) : Option ab_O := match k with
  | 0 => some (oR (.inl (8, xs.length, .inl (fun j => xs.getD j 0))))
  | 1 => some (oS [])
  | 2 => some (oS [32, 72, 49])
  | 3 => some (oS [108, 101, 110])
  | 4 => some (oS [99, 104, 117, 110, 107, 101, 100])
  | 5 => some (oS [121, 101, 115])
  | 6 => some (oS [99, 111, 110, 110])
  | 7 => some (oS [99, 108, 111, 115, 101])
  | _ => none
def Vi (G : mm_G) (h : mm_H) (A : ab_H) (iv : Nat → Nat) : Prop :=
  mm_wf h ∧ (∀ k, k < mm_K → h.1 k = mm_O G.2.2.2.2 k) ∧ (∀ k, k < mm_K → A k = ab_old G.2.2.2.2 k) ∧ (∀ a ys cap, A a = some (oL ys cap) → ab_el A ys) ∧
  (∀ a o, A a = some o → ab_l h a (iv a) o) ∧ (∀ a o, A a = some o → ab_i o → A (iv a) = none) ∧ (∀ a b oa ob, A a = some oa → A b = some ob → a ≠ b → ab_m oa → ab_i ob → iv a ≠ iv b)
def Vw (G : mm_G) (h : mm_H) (A : ab_H) : Prop := ∃ iv, Vi G h A iv
def ab_u (A : ab_H) (a : Nat) (o : ab_O) : ab_H := fun b => if b = a then some o else A b
theorem ab_us {A : ab_H} {a : Nat} {o : ab_O} : ab_u A a o a = some o := if_pos rfl
theorem ab_un {A : ab_H} {a b : Nat} {o : ab_O} (h : b ≠ a) : ab_u A a o b = A b := if_neg h
theorem ab_mi {o : ab_O} (h : ab_m o) : ab_i o := by
  obtain bs | ⟨bs, cap⟩ | ⟨ys, cap⟩ | e := o
  · trivial
  · trivial
  · exact h
  · exact h
theorem ab_l.dom {h : mm_H} {a v : Nat} {o : ab_O} (H : ab_l h a v o) : ∃ e, h.1 a = some e := by
  obtain bs | ⟨bs, cap⟩ | ⟨ys, cap⟩ | e := o
  · obtain ⟨t, f, ⟨⟨fs, hh⟩, -⟩, -⟩ := H
    exact ⟨_, hh⟩
  · obtain ⟨ml, f, hb, -⟩ := H
    exact ⟨_, hb.1⟩
  · obtain ⟨mc, f, hb, -⟩ := H
    exact ⟨_, hb.1⟩
  · exact ⟨_, H.1⟩
theorem ab_l.domI {h : mm_H} {a v : Nat} {o : ab_O} (H : ab_l h a v o) (hi : ab_i o) : ∃ e, h.1 v = some e := by
  obtain bs | ⟨bs, cap⟩ | ⟨ys, cap⟩ | e := o
  · obtain ⟨t, f, hb, -⟩ := H
    exact ⟨_, hb.2.1⟩
  · obtain ⟨ml, f, hb, -⟩ := H
    exact ⟨_, hb.2.1⟩
  · obtain ⟨mc, f, ⟨-, -, ⟨h0, -⟩ | ⟨-, h1⟩⟩, -⟩ := H
    · have hi : cap = 10 := hi
      omega
    · exact ⟨_, h1⟩
  · exact absurd hi id
theorem ab_l.congr {h h' : mm_H} {a v : Nat} {o : ab_O} (H : ab_l h a v o) (h1 : h'.1 a = h.1 a) (h2 : ab_i o → h'.1 v = h.1 v) (h17 : h'.1 17 = h.1 17) : ab_l h' a v o := by
  obtain bs | ⟨bs, cap⟩ | ⟨ys, cap⟩ | e := o
  · obtain ⟨t, f, ⟨⟨fs, hh⟩, hv, r⟩, hb⟩ := H
    exact ⟨t, f, ⟨⟨fs, by rw [h1]; exact hh⟩, by rw [h2 trivial]; exact hv, r⟩, hb⟩
  · obtain ⟨ml, f, ⟨hh, hv, r⟩, hb⟩ := H
    exact ⟨ml, f, ⟨by rw [h1]; exact hh, by rw [h2 trivial]; exact hv, r⟩, hb⟩
  · obtain ⟨mc, f, ⟨hh, hn, hor⟩, hf⟩ := H
    refine ⟨mc, f, ⟨by rw [h1]; exact hh, hn, ?_⟩, hf⟩
    rcases hor with ⟨c0, v17, q⟩ | ⟨c10, q⟩
    · exact Or.inl ⟨c0, v17, by rw [h17]; exact q⟩
    · exact Or.inr ⟨c10, by rw [h2 c10]; exact q⟩
  · exact ⟨by rw [h1]; exact H.1, H.2⟩
section VWS
variable {G : mm_G} {h h' : mm_H} {A : ab_H} {iv : Nat → Nat}
theorem Vi.lt (V : Vi G h A iv) {a : Nat} {o : ab_O} (ha : A a = some o) : a < h.2 := by
  obtain ⟨e, he⟩ := (V.2.2.2.2.1 a o ha).dom
  exact V.1.1 _ _ he
theorem Vi.ltI (V : Vi G h A iv) {a : Nat} {o : ab_O} (ha : A a = some o) (hi : ab_i o) : iv a < h.2 := by
  obtain ⟨e, he⟩ := (V.2.2.2.2.1 a o ha).domI hi
  exact V.1.1 _ _ he
theorem Vi.no (V : Vi G h A iv) {a : Nat} (ha : h.2 ≤ a) : A a = none := by
  cases hA : A a with
  | none => rfl
  | some o =>
    have := V.lt hA
    omega
/-- something that stands there has become something else; its row is the one it had, or a new one -/
theorem Vi.upd (V : Vi G h A iv) {a v' : Nat} {o o' : ab_O} (ha : A a = some o) (hw' : mm_wf h') (hold : ∀ k, k < mm_K → h'.1 k = mm_O G.2.2.2.2 k) (hK : mm_K ≤ a) (hv' : ab_i o' → (v' = iv a ∧ ab_i o) ∨ h.2 ≤ v')
    (hfr : ∀ b, b ≠ a → (ab_i o → b ≠ iv a) → b < h.2 → h'.1 b = h.1 b) (hm : ab_i o → ab_m o) (H' : ab_l h' a v' o') (hraw : ∀ ci fs, o = oR (.inr (ci, fs)) → (ci = 7 ∨ ci = 8 ∨ ci = 9 ∨ ci = 12) → ∃ fs', o' = oR (.inr (ci, fs')))
    (hel : ∀ ys cap, o' = oL ys cap → ab_el A ys) : Vi G h' (ab_u A a o') (fun b => if b = a then v' else iv b) := by
  obtain ⟨V1, V2, V3, V4, V5, V6, V7⟩ := id V
  have h17 : h'.1 17 = h.1 17 := by rw [hold 17 (by decide), V2 17 (by decide)]
  have elp : ∀ ys, ab_el A ys → ab_el (ab_u A a o') ys := fun ys he y hy => by
    obtain ⟨ci, fs, e1, e2⟩ := he y hy
    by_cases hya : y = a
    · subst hya
      obtain ⟨fs', e3⟩ := hraw ci fs (Option.some.inj (ha.symm.trans e1)) e2
      exact ⟨ci, fs', by rw [ab_us, e3], e2⟩
    · exact ⟨ci, fs, by rw [ab_un hya]; exact e1, e2⟩
  have inA : ∀ b ob, b ≠ a → A b = some ob → ab_i ob → iv b ≠ a := fun b ob hb hA hi q => by
    have := V6 b ob hA hi
    rw [q, ha] at this
    cases this
  have hva : ab_i o' → v' ≠ a := fun hi q => by
    rcases hv' hi with ⟨z, zi⟩ | z
    · have := V6 a o ha zi
      rw [← z, q, ha] at this
      cases this
    · have := V.lt ha
      omega
  refine ⟨hw', hold, fun k hk => ?_, fun b ys cap hb => ?_, fun b ob hb => ?_, fun b ob hb hi => ?_, fun x y ox oy hx hy hxy hmx hiy => ?_⟩
  · rw [ab_un (by omega)]
    exact V3 k hk
  · by_cases hba : b = a
    · subst hba
      rw [ab_us] at hb
      exact elp ys (hel ys cap (Option.some.inj hb))
    · rw [ab_un hba] at hb
      exact elp ys (V4 b ys cap hb)
  · by_cases hba : b = a
    · subst hba
      rw [ab_us] at hb
      cases hb
      try dsimp only
      rw [if_pos rfl]
      exact H'
    · rw [ab_un hba] at hb
      try dsimp only
      rw [if_neg hba]
      refine (V5 b ob hb).congr (hfr b hba (fun hi q => ?_) (V.lt hb)) (fun hib => hfr _ (inA b ob hba hb hib) (fun hi => ?_) (V.ltI hb hib)) h17
      · have := V6 a o ha hi
        rw [← q, hb] at this
        cases this
      · exact (V7 a b o ob ha hb (fun q => hba q.symm) (hm hi) hib).symm
  · by_cases hba : b = a
    · subst hba
      rw [ab_us] at hb
      cases hb
      try dsimp only
      rw [if_pos rfl, ab_un (hva hi)]
      rcases hv' hi with ⟨z, zi⟩ | z
      · rw [z]
        exact V6 b o ha zi
      · exact V.no z
    · rw [ab_un hba] at hb
      try dsimp only
      rw [if_neg hba, ab_un (inA b ob hba hb hi)]
      exact V6 b ob hb hi
  · by_cases hxa : x = a
    · subst hxa
      have hya : y ≠ x := fun q => hxy q.symm
      rw [ab_us] at hx
      cases hx
      rw [ab_un hya] at hy
      try dsimp only
      rw [if_pos rfl, if_neg hya]
      rcases hv' (ab_mi hmx) with ⟨z, zi⟩ | z
      · rw [z]
        exact V7 x y o oy ha hy hxy (hm zi) hiy
      · have := V.ltI hy hiy
        omega
    · rw [ab_un hxa] at hx
      try dsimp only
      rw [if_neg hxa]
      by_cases hya : y = a
      · subst hya
        rw [ab_us] at hy
        cases hy
        try dsimp only
        rw [if_pos rfl]
        rcases hv' hiy with ⟨z, zi⟩ | z
        · rw [z]
          exact V7 x y ox o hx ha hxy hmx zi
        · have := V.ltI hx (ab_mi hmx)
          omega
      · rw [ab_un hya] at hy
        try dsimp only
        rw [if_neg hya]
        exact V7 x y ox oy hx hy hxy hmx hiy
/-- something new -/
theorem Vi.new (V : Vi G h A iv) {a v' : Nat} {o' : ab_O} (ha : h.2 ≤ a) (hw' : mm_wf h') (hold : ∀ k, k < mm_K → h'.1 k = mm_O G.2.2.2.2 k) (hfr : ∀ b, b < h.2 → h'.1 b = h.1 b) (H' : ab_l h' a v' o')
    (hv' : ab_i o' → v' ≠ a ∧ A v' = none ∧ ∀ b ob, A b = some ob → (ab_m ob ∨ (ab_m o' ∧ ab_i ob)) → iv b ≠ v') (hel : ∀ ys cap, o' = oL ys cap → ys = []) : Vi G h' (ab_u A a o') (fun b => if b = a then v' else iv b) := by
  obtain ⟨V1, V2, V3, V4, V5, V6, V7⟩ := id V
  have h17 : h'.1 17 = h.1 17 := by rw [hold 17 (by decide), V2 17 (by decide)]
  have hno := V.no ha
  have elp : ∀ ys, ab_el A ys → ab_el (ab_u A a o') ys := fun ys he y hy => by
    obtain ⟨ci, fs, e1, e2⟩ := he y hy
    have hya : y ≠ a := fun q => by
      rw [q, hno] at e1
      cases e1
    exact ⟨ci, fs, by rw [ab_un hya]; exact e1, e2⟩
  have inA : ∀ b ob, A b = some ob → ab_i ob → iv b ≠ a := fun b ob hA hi q => by
    have := V.ltI hA hi
    omega
  have nea : ∀ b ob, A b = some ob → b ≠ a := fun b ob hA q => by
    rw [q, hno] at hA
    cases hA
  refine ⟨hw', hold, fun k hk => ?_, fun b ys cap hb => ?_, fun b ob hb => ?_, fun b ob hb hi => ?_, fun x y ox oy hx hy hxy hmx hiy => ?_⟩
  · have hka : k ≠ a := by
      have := V1.2
      omega
    rw [ab_un hka]
    exact V3 k hk
  · by_cases hba : b = a
    · subst hba
      rw [ab_us] at hb
      rw [hel ys cap (Option.some.inj hb)]
      intro y hy
      cases hy
    · rw [ab_un hba] at hb
      exact elp ys (V4 b ys cap hb)
  · by_cases hba : b = a
    · subst hba
      rw [ab_us] at hb
      cases hb
      try dsimp only
      rw [if_pos rfl]
      exact H'
    · rw [ab_un hba] at hb
      try dsimp only
      rw [if_neg hba]
      exact (V5 b ob hb).congr (hfr b (V.lt hb)) (fun hib => hfr _ (V.ltI hb hib)) h17
  · by_cases hba : b = a
    · subst hba
      rw [ab_us] at hb
      cases hb
      try dsimp only
      rw [if_pos rfl, ab_un (hv' hi).1]
      exact (hv' hi).2.1
    · rw [ab_un hba] at hb
      try dsimp only
      rw [if_neg hba, ab_un (inA b ob hb hi)]
      exact V6 b ob hb hi
  · by_cases hxa : x = a
    · subst hxa
      have hya : y ≠ x := fun q => hxy q.symm
      rw [ab_us] at hx
      cases hx
      rw [ab_un hya] at hy
      try dsimp only
      rw [if_pos rfl, if_neg hya]
      exact ((hv' (ab_mi hmx)).2.2 y oy hy (Or.inr ⟨hmx, hiy⟩)).symm
    · rw [ab_un hxa] at hx
      try dsimp only
      rw [if_neg hxa]
      by_cases hya : y = a
      · subst hya
        rw [ab_us] at hy
        cases hy
        try dsimp only
        rw [if_pos rfl]
        exact (hv' hiy).2.2 x ox hx (Or.inl hmx)
      · rw [ab_un hya] at hy
        try dsimp only
        rw [if_neg hya]
        exact V7 x y ox oy hx hy hxy hmx hiy
/-- an unmade String has become the empty one, with the row of "" -/
theorem Vi.upd8 (V : Vi G h A iv) {a : Nat} {fs : List Value} (ha : A a = some (oR (.inr (0, fs)))) (hw' : mm_wf h') (hold : ∀ k, k < mm_K → h'.1 k = mm_O G.2.2.2.2 k) (hK : mm_K ≤ a) (hfr : ∀ b, b ≠ a → b < h.2 → h'.1 b = h.1 b) (H' : ab_l h' a 8 (oS [])) : Vi G h' (ab_u A a (oS [])) (fun b => if b = a then 8 else iv b) := by
  obtain ⟨V1, V2, V3, V4, V5, V6, V7⟩ := id V
  have h17 : h'.1 17 = h.1 17 := by rw [hold 17 (by decide), V2 17 (by decide)]
  have hA8 : A 8 = none := V3 8 (by decide)
  have h8a : (8 : Nat) ≠ a := by
    have : mm_K = 24 := rfl
    omega
  have inA : ∀ b ob, A b = some ob → ab_i ob → iv b ≠ a := fun b ob hA hi q => by
    have := V6 b ob hA hi
    rw [q, ha] at this
    cases this
  have m8 : ∀ b ob, A b = some ob → ab_m ob → iv b ≠ 8 := fun b ob hb hm q => by
    have h5 := V5 b ob hb
    have h8 : h.1 8 = some (.inl (9, 0, .inl (fun j => ([] : List Int32).getD j 0))) := V2 8 (by decide)
    obtain bs | ⟨bs, cap⟩ | ⟨ys, cap⟩ | e := ob
    · exact hm
    · obtain ⟨ml, f, hb5, -⟩ := h5
      have := hb5.2.1
      rw [q, h8] at this
      cases this
    · obtain ⟨mc, f, ⟨-, -, ⟨c0, -⟩ | ⟨-, h9⟩⟩, -⟩ := h5
      · have hm : cap = 10 := hm
        omega
      · rw [q, h8] at h9
        cases h9
    · exact hm
  refine ⟨hw', hold, fun k hk => ?_, fun b ys cap hb => ?_, fun b ob hb => ?_, fun b ob hb hi => ?_, fun x y ox oy hx hy hxy hmx hiy => ?_⟩
  · rw [ab_un (by omega)]
    exact V3 k hk
  · by_cases hba : b = a
    · subst hba
      rw [ab_us] at hb
      cases hb
    · rw [ab_un hba] at hb
      intro y hy
      obtain ⟨ci, fs2, e1, e2⟩ := V4 b ys cap hb y hy
      by_cases hya : y = a
      · subst hya
        rw [ha] at e1
        cases e1
        omega
      · exact ⟨ci, fs2, by rw [ab_un hya]; exact e1, e2⟩
  · by_cases hba : b = a
    · subst hba
      rw [ab_us] at hb
      cases hb
      dsimp only
      rw [if_pos rfl]
      exact H'
    · rw [ab_un hba] at hb
      dsimp only
      rw [if_neg hba]
      exact (V5 b ob hb).congr (hfr b hba (V.lt hb)) (fun hib => hfr _ (inA b ob hb hib) (V.ltI hb hib)) h17
  · by_cases hba : b = a
    · subst hba
      dsimp only
      rw [if_pos rfl, ab_un h8a]
      exact hA8
    · rw [ab_un hba] at hb
      dsimp only
      rw [if_neg hba, ab_un (inA b ob hb hi)]
      exact V6 b ob hb hi
  · by_cases hxa : x = a
    · subst hxa
      rw [ab_us] at hx
      cases hx
      exact absurd hmx id
    · rw [ab_un hxa] at hx
      dsimp only
      rw [if_neg hxa]
      by_cases hya : y = a
      · subst hya
        rw [if_pos rfl]
        exact m8 x ox hx hmx
      · rw [ab_un hya] at hy
        rw [if_neg hya]
        exact V7 x y ox oy hx hy hxy hmx hiy
theorem Vw.raw (hV : Vw G h A) {a : Nat} {e : mm_E} (ha : A a = some (oR e)) : h.1 a = some e := by
  obtain ⟨iv, V⟩ := hV
  exact (V.2.2.2.2.1 a _ ha).1
theorem Vw.wf (hV : Vw G h A) : mm_wf h := by
  obtain ⟨iv, V⟩ := hV
  exact V.1
theorem Vw.old (hV : Vw G h A) {k : Nat} (hk : k < mm_K) : h.1 k = mm_O G.2.2.2.2 k := by
  obtain ⟨iv, V⟩ := hV
  exact V.2.1 k hk
theorem Vw.lit (hV : Vw G h A) {k : Nat} (hk : k < mm_K) : A k = ab_old G.2.2.2.2 k := by
  obtain ⟨iv, V⟩ := hV
  exact V.2.2.1 k hk
theorem Vw.no (hV : Vw G h A) {a : Nat} (ha : h.2 ≤ a) : A a = none := by
  obtain ⟨iv, V⟩ := hV
  exact V.no ha
/-- an old cell isn't written -/
theorem Vw.ge (hV : Vw G h A) {a ci : Nat} {fs : List Value} (ha : A a = some (oR (.inr (ci, fs)))) (hc : 0 < ci) : mm_K ≤ a := Nat.le_of_not_lt fun q => by
  have h1 := hV.raw ha
  rw [hV.old q] at h1
  have := (mm_Oo h1).1
  have : ci = 0 := this
  omega
theorem Vw.geA (hV : Vw G h A) {a t n : Nat} {x : mm_C} (ha : A a = some (oR (.inl (t, n, x)))) (ht : t < 8) : mm_K ≤ a := Nat.le_of_not_lt fun q => by
  have h1 := hV.raw ha
  rw [hV.old q] at h1
  have := (mm_Oa h1).1
  omega
/-- a field, or an element, is written -/
theorem Vw.set (hV : Vw G h A) {a : Nat} {e e' : mm_E} (ha : A a = some (oR e)) (hK : mm_K ≤ a) (hr : ab_raw e') (hraw : ∀ ci fs, e = .inr (ci, fs) → ∃ fs', e' = .inr (ci, fs')) : Vw G (mm_set h a e') (ab_u A a (oR e')) := by
  obtain ⟨iv, V⟩ := hV
  have h1 := (V.2.2.2.2.1 a _ ha).1
  refine ⟨_, V.upd (v' := iv a) ha (V.1.set h1) (fun k hk => ?_) hK (fun q => absurd q id) (fun b hb _ _ => mm_setNe hb) (fun q => absurd q id) ⟨mm_setSelf, hr⟩ (fun ci fs q _ => ?_) (fun ys cap q => by cases q)⟩
  · rw [mm_setNe (by omega)]
    exact V.2.1 k hk
  · obtain ⟨fs', z⟩ := hraw ci fs (by cases q; rfl)
    exact ⟨fs', by rw [z]⟩
/-- an object, or a row, is made -/
theorem Vw.new (hV : Vw G h A) {e : mm_E} (hr : ab_raw e) : Vw G (mm_new h e) (ab_u A h.2 (oR e)) := by
  obtain ⟨iv, V⟩ := hV
  refine ⟨_, V.new (v' := 0) (Nat.le_refl _) V.1.new (fun k hk => ?_) (fun b hb => mm_newNe (by omega)) ⟨mm_newSelf, hr⟩ (fun q => absurd q id) (fun ys cap q => by cases q)⟩
  rw [mm_newNe (by have := V.1.2; omega)]
  exact V.2.1 k hk
end VWS
/-- the end of a contract: the heap is in order, what was there before the law is as it was -/
theorem mm_postR {l : Launch} {G : mm_G} {M : mm_M} {as : List Value} {h : mm_H} {kc ks : Nat} {Q Q' : Option Value → mm_H → Prop} (k : mm_S l G M as h kc ks Q) (hq : ∀ r h', Q r h' → mm_wf h' → (∀ k, k < mm_K → h'.1 k = mm_O G.2.2.2.2 k) → Q' r h') : mm_S l G M as h kc ks Q' := by
  intro p e ha hc hk s m args below hf hap hP hK
  obtain ⟨n, o, h1, h2, h3, ⟨⟨v, h', q1, q2, q3⟩, q4⟩, q5⟩ := k p e ha hc hk s m args below hf hap hP hK
  exact ⟨n, o, h1, h2, h3, ⟨⟨v, h', q1, hq v h' q2 ⟨q3.2.2.1, q3.2.1⟩ q3.2.2.2.2, q3⟩, q4⟩, q5⟩
