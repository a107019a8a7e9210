/-! the JDK's methods over the view -/
theorem ab_b.nil {f : Nat → Int32} : ab_b [] f := fun j hj => absurd hj (by simp)
theorem ab_b.app {bs cs : List Nat} {f g : Nat → Int32} (h1 : ab_b bs f) (h2 : ∀ j, j < bs.length → g j = f j) (h3 : ∀ j, j < cs.length → cs.getD j 0 < 256 ∧ g (bs.length + j) = by_b (cs.getD j 0)) : ab_b (bs ++ cs) g := by
  intro j hj
  rw [List.length_append] at hj
  by_cases hjb : j < bs.length
  · rw [h2 j hjb]
    have e : (bs ++ cs).getD j 0 = bs.getD j 0 := by simp [List.getD_eq_getElem?_getD, List.getElem?_append_left hjb]
    rw [e]
    exact h1 j hjb
  · have e : (bs ++ cs).getD j 0 = cs.getD (j - bs.length) 0 := by simp [List.getD_eq_getElem?_getD, List.getElem?_append_right (Nat.le_of_not_lt hjb)]
    have h4 := h3 (j - bs.length) (by omega)
    rw [show bs.length + (j - bs.length) = j by omega] at h4
    rw [e]
    exact h4
theorem ab_b.take {bs : List Nat} {f : Nat → Int32} (h1 : ab_b bs f) (k : Nat) : ab_b (bs.take k) f := by
  intro j hj
  rw [List.length_take] at hj
  have e : (bs.take k).getD j 0 = bs.getD j 0 := by simp [List.getD_eq_getElem?_getD, List.getElem?_take, show j < k by omega]
  rw [e]
  exact h1 j (by omega)
theorem ab_b.sub {bs : List Nat} {f g : Nat → Int32} (h1 : ab_b bs f) {i n : Nat} (hin : i + n ≤ bs.length) (hg : ∀ q, q < n → g q = f (i + q)) : ab_b ((bs.drop i).take n) g := by
  intro j hj
  rw [List.length_take, List.length_drop] at hj
  have e : ((bs.drop i).take n).getD j 0 = bs.getD (i + j) 0 := by simp [List.getD_eq_getElem?_getD, List.getElem?_take, List.getElem?_drop, show j < n by omega]
  rw [e, hg j (by omega)]
  exact h1 (i + j) (by omega)
/-- the first place of x in a text, as indexOf tells it -/
def ix_l (x : Nat) : List Nat → Nat → Int32
  | [], _ => -1
  | b :: bs, i => if b = x then nI i else ix_l x bs (i + 1)
theorem ix_eq {x : Nat} (hx : x < 256) : ∀ (bs : List Nat) (f : Nat → Int32) (i : Nat), (∀ j, j < bs.length → bs.getD j 0 < 256 ∧ f (i + j) = by_b (bs.getD j 0)) → fi_x f (by_b x) bs.length i = ix_l x bs i
  | [], _, _, _ => rfl
  | b :: bs, f, i, h => by
    have h0 := h 0 (by simp)
    have h0' : b < 256 ∧ f i = by_b b := h0
    have ih := ix_eq hx bs f (i + 1) (fun j hj => by
      have := h (j + 1) (by simp; omega)
      rw [show i + (j + 1) = i + 1 + j by omega] at this
      exact this)
    simp only [List.length_cons, fi_x, ix_l, h0'.2, ih]
    by_cases hb : b = x
    · rw [if_pos hb, if_pos (by rw [hb])]
    · rw [if_neg hb, if_neg (fun q => hb (by_inj h0'.1 hx q))]
theorem eq_eq : ∀ (bs cs : List Nat) (f g : Nat → Int32) (i : Nat), bs.length = cs.length → (∀ j, j < bs.length → bs.getD j 0 < 256 ∧ f (i + j) = by_b (bs.getD j 0)) → (∀ j, j < cs.length → cs.getD j 0 < 256 ∧ g (i + j) = by_b (cs.getD j 0)) → eq_x f g bs.length i = if bs = cs then 1 else 0
  | [], [], _, _, _, _, _, _ => rfl
  | [], _ :: _, _, _, _, h, _, _ => by simp at h
  | _ :: _, [], _, _, _, h, _, _ => by simp at h
  | b :: bs, c :: cs, f, g, i, h, h1, h2 => by
    have a1 : b < 256 ∧ f i = by_b b := h1 0 (by simp)
    have a2 : c < 256 ∧ g i = by_b c := h2 0 (by simp)
    have ih := eq_eq bs cs f g (i + 1) (by simpa using h) (fun j hj => by
      have := h1 (j + 1) (by simp; omega)
      rw [show i + (j + 1) = i + 1 + j by omega] at this
      exact this) (fun j hj => by
      have := h2 (j + 1) (by simp; omega)
      rw [show i + (j + 1) = i + 1 + j by omega] at this
      exact this)
    simp only [List.length_cons, eq_x, a1.2, a2.2, ih]
    by_cases hb : b = c
    · rw [if_pos (by rw [hb])]
      simp [hb]
    · rw [if_neg (fun q => hb (by_inj a1.1 a2.1 q))]
      simp [hb]
section VJ
variable {l : Launch} {G : mm_G} {h : mm_H} {A : ab_H}
theorem Vi.bu {iv : Nat → Nat} (V : Vi G h A iv) {a cap : Nat} {bs : List Nat} (ha : A a = some (oB bs cap)) : ∃ ml f, bu_at h a (iv a) cap bs.length ml f ∧ ab_b bs f := V.2.2.2.2.1 a _ ha
theorem Vi.tx {iv : Nat → Nat} (V : Vi G h A iv) {a : Nat} {bs : List Nat} (ha : A a = some (oS bs)) : ∃ t f, tx_at h a (iv a) t bs.length f ∧ ab_b bs f ∧ (a < mm_K → 0 < a ∧ a < 8) := V.2.2.2.2.1 a _ ha
theorem Vi.ls {iv : Nat → Nat} (V : Vi G h A iv) {a cap : Nat} {ys : List Nat} (ha : A a = some (oL ys cap)) : ∃ mc f, ls_at h a (iv a) ys.length mc cap f ∧ ∀ j, j < ys.length → f j = some (ys.getD j 0) := V.2.2.2.2.1 a _ ha
theorem Vi.geB {iv : Nat → Nat} (V : Vi G h A iv) {a ci : Nat} {fs : List Value} (ha : h.1 a = some (.inr (ci, fs))) (hc : 0 < ci) : mm_K ≤ a := Nat.le_of_not_lt fun q => by
  rw [V.2.1 a q] at ha
  have : ci = 0 := (mm_Oo ha).1
  omega
theorem vb_init (hV : Vw G h A) {a : Nat} (ha : A a = some (oR (.inr (1, [.null, .int 0, .int 0, .int 0])))) : mm_S l G M_SB_init [.ref a] h 1 16 (fun r h' => r = none ∧ Vw G h' (ab_u A a (oB [] 16))) := by
  have hh := hV.raw ha
  obtain ⟨iv, V⟩ := hV
  refine mm_postR (sp_SB_init V.1 hh) fun r h' hq hw' hold => ?_
  obtain ⟨rfl, rfl⟩ := hq
  have hva : h.2 ≠ a := fun q => V.1.lt hh q.symm
  exact ⟨rfl, _, V.upd (v' := h.2) ha hw' hold (V.geB hh (by decide)) (fun _ => Or.inr (Nat.le_refl _)) (fun b h1 _ h3 => by rw [mm_setNe h1, mm_newNe (by omega)]) (fun q => absurd q id) ⟨0, fun _ => 0, ⟨mm_setSelf, by rw [mm_setNe hva, mm_newSelf], by simp, by decide, fun _ _ => by_fit0⟩, ab_b.nil⟩ (fun ci fs q z => by cases q; omega) (fun ys cap q => by cases q)⟩
theorem vb_len (hV : Vw G h A) {a cap : Nat} {bs : List Nat} (ha : A a = some (oB bs cap)) : mm_S l G M_SB_length [.ref a] h 0 0 (fun r h' => r = some (.int (nI bs.length)) ∧ h' = h) := by
  obtain ⟨iv, V⟩ := hV
  obtain ⟨ml, f, hb, -⟩ := V.bu ha
  exact sp_SB_length hb.1
/-- a StringBuilder has been written -/
theorem Vi.buw {iv : Nat → Nat} {h' : mm_H} (V : Vi G h A iv) {a cap cap' v' : Nat} {bs bs' : List Nat} {ml : Int32} {f' : Nat → Int32} (ha : A a = some (oB bs cap)) (hw' : mm_wf h') (hold : ∀ k, k < mm_K → h'.1 k = mm_O G.2.2.2.2 k) (hb : bu_at h' a v' cap' bs'.length ml f') (hf : bu_fr h h' a (iv a) v') (hbs : ab_b bs' f') : Vw G h' (ab_u A a (oB bs' cap')) := by
  obtain ⟨ml0, f0, hb0, -⟩ := V.bu ha
  exact ⟨_, V.upd (v' := v') ha hw' hold (V.geB hb0.1 (by decide)) (fun _ => hf.2.2.1.elim (fun q => Or.inl ⟨q, trivial⟩) Or.inr) (fun b h1 h2 h3 => hf.2.2.2 b h1 (h2 trivial) h3) (fun _ => trivial) ⟨ml, f', hb, hbs⟩ (fun ci fs q => by cases q) (fun ys cap q => by cases q)⟩
theorem vb_appc (hV : Vw G h A) {a cap x : Nat} {bs : List Nat} (ha : A a = some (oB bs cap)) (hx : x < 256) (hn : bs.length < 140) : mm_S l G M_SB_append_C [.ref a, .int (nI x)] h 1 (bu_ks cap (bs.length + 1)) (fun r h' => r = some (.ref a) ∧ Vw G h' (ab_u A a (oB (bs ++ [x]) (bu_gr cap (bs.length + 1))))) := by
  obtain ⟨iv, V⟩ := hV
  obtain ⟨ml, f, hb, hbs⟩ := V.bu ha
  refine mm_postR (sp_SB_append_C V.1 hb hx hn) fun r h' hq hw' hold => ?_
  obtain ⟨rfl, v', f', q1, q2, q3, q4⟩ := hq
  refine ⟨rfl, V.buw ha hw' hold (by rw [List.length_append]; exact q1) q2 (hbs.app q3 fun j hj => ?_)⟩
  have : j = 0 := by simpa using hj
  subst this
  exact ⟨hx, q4⟩
theorem vb_apps (hV : Vw G h A) {a cap s : Nat} {bs cs : List Nat} (ha : A a = some (oB bs cap)) (hs : A s = some (oS cs)) (hn : bs.length + cs.length ≤ 140) : mm_S l G M_SB_append_S [.ref a, .ref s] h 1 (bu_ks cap (bs.length + cs.length)) (fun r h' => r = some (.ref a) ∧ Vw G h' (ab_u A a (oB (bs ++ cs) (bu_gr cap (bs.length + cs.length))))) := by
  obtain ⟨iv, V⟩ := hV
  obtain ⟨ml, f, hb, hbs⟩ := V.bu ha
  obtain ⟨t, g, hb2, hcs, -⟩ := V.tx hs
  have hsa : a ≠ s := fun q => by
    rw [q, hs] at ha
    cases ha
  refine mm_postR (sp_SB_append_S V.1 hb hb2 (V.2.2.2.2.2.2 a s _ _ ha hs hsa trivial trivial).symm hn) fun r h' hq hw' hold => ?_
  obtain ⟨rfl, v', f', q1, q2, q3, q4⟩ := hq
  exact ⟨rfl, V.buw ha hw' hold (by rw [List.length_append]; exact q1) q2 (hbs.app q3 fun j hj => ⟨(hcs j hj).1, by rw [q4 j hj]; exact (hcs j hj).2⟩)⟩
theorem Vw.dig (hV : Vw G h A) : dc_o h := ⟨hV.old (k := 15) (by decide), hV.old (k := 16) (by decide)⟩
theorem dc_256 {n : Nat} (hn : n < 10000) : ∀ j, j < (dc_l n).length → (dc_l n).getD j 0 < 256 := by
  have h : ∀ x ∈ dc_l n, x < 256 := by
    unfold dc_l
    intro x hx
    split at hx
    · simp at hx
      omega
    · split at hx
      · simp at hx
        omega
      · split at hx
        · simp at hx
          omega
        · simp at hx
          omega
  intro j hj
  have : (dc_l n).getD j 0 ∈ dc_l n := by
    rw [List.getD_eq_getElem?_getD, List.getElem?_eq_getElem hj]
    exact List.getElem_mem hj
  exact h _ this
theorem vb_appi (hV : Vw G h A) {a cap i : Nat} {bs : List Nat} (ha : A a = some (oB bs cap)) (hi : i < 10000) (hn : bs.length + 4 ≤ 140) : mm_S l G M_SB_append_I [.ref a, .int (nI i)] h 1 (bu_ks cap (bs.length + (dc_l i).length)) (fun r h' => r = some (.ref a) ∧ Vw G h' (ab_u A a (oB (bs ++ dc_l i) (bu_gr cap (bs.length + (dc_l i).length))))) := by
  have ho := hV.dig
  obtain ⟨iv, V⟩ := hV
  obtain ⟨ml, f, hb, hbs⟩ := V.bu ha
  refine mm_postR (sp_SB_append_I V.1 hb hi hn ho) fun r h' hq hw' hold => ?_
  obtain ⟨rfl, v', f', q1, q2, q3, q4⟩ := hq
  exact ⟨rfl, V.buw ha hw' hold (by rw [List.length_append]; exact q1) q2 (hbs.app q3 fun j hj => ⟨dc_256 hi j hj, q4 j hj⟩)⟩
theorem vb_setl (hV : Vw G h A) {a cap k : Nat} {bs : List Nat} (ha : A a = some (oB bs cap)) (hk : k ≤ bs.length) (hk2 : k ≤ 140) : mm_S l G M_SB_setLength [.ref a, .int (nI k)] h 1 0 (fun r h' => r = none ∧ Vw G h' (ab_u A a (oB (bs.take k) cap))) := by
  obtain ⟨iv, V⟩ := hV
  obtain ⟨ml, f, hb, hbs⟩ := V.bu ha
  refine mm_postR (sp_SB_setLength V.1 hb hk hk2) fun r h' hq hw' hold => ?_
  obtain ⟨rfl, ml', rfl⟩ := hq
  have hva := mm_oi hb.1 hb.2.1
  refine ⟨rfl, V.buw (v' := iv a) (ml := ml') (f' := f) ha hw' hold ⟨?_, by rw [mm_setNe hva]; exact hb.2.1, ?_, hb.2.2.2⟩ (bu_fr.set1 V.1 hb.1) (hbs.take k)⟩
  · rw [mm_setSelf, List.length_take, Nat.min_eq_left hk]
  · rw [List.length_take]
    have := hb.2.2.1
    omega
theorem vb_at (hV : Vw G h A) {a cap i : Nat} {bs : List Nat} (ha : A a = some (oB bs cap)) (hi : i < bs.length) : mm_S l G M_SB_charAt [.ref a, .int (nI i)] h 0 0 (fun r h' => r = some (.int (nI (bs.getD i 0))) ∧ h' = h) := by
  obtain ⟨iv, V⟩ := hV
  obtain ⟨ml, f, hb, hbs⟩ := V.bu ha
  exact sp_SB_charAt V.1 hb hi (hbs i hi).1 (hbs i hi).2
/-- a new String -/
theorem Vi.txn {iv : Nat → Nat} {h' : mm_H} (V : Vi G h A iv) {n : Nat} {g : Nat → Int32} {bs : List Nat} (hn : n = bs.length) (hn3 : n ≤ 300) (ht : tx_nw h h' n g) (hold : ∀ k, k < mm_K → h'.1 k = mm_O G.2.2.2.2 k) (hbs : ab_b bs g) : Vw G h' (ab_u A h.2 (oS bs)) := by
  subst hn
  obtain ⟨t1, t2, t3, t4, t5, t6⟩ := ht
  refine ⟨_, V.new (v' := h.2 + 1) (Nat.le_refl _) t5 hold t4 ⟨1, g, ⟨⟨_, t1⟩, t2, Or.inl rfl, hn3, t6⟩, hbs, fun q => by have := V.1.2; omega⟩ (fun _ => ⟨by omega, V.no (by omega), fun b ob hb hm => ?_⟩) (fun ys cap q => by cases q)⟩
  have := V.ltI hb (hm.elim ab_mi (fun q => q.2))
  omega
theorem vb_str (hV : Vw G h A) {a cap : Nat} {bs : List Nat} (ha : A a = some (oB bs cap)) : mm_S l G M_SB_toString [.ref a] h 2 (4 + bs.length) (fun r h' => ∃ s, A s = none ∧ r = some (.ref s) ∧ Vw G h' (ab_u A s (oS bs))) := by
  obtain ⟨iv, V⟩ := hV
  obtain ⟨ml, f, hb, hbs⟩ := V.bu ha
  refine mm_postR (sp_SB_toString V.1 hb) fun r h' hq hw' hold => ?_
  obtain ⟨rfl, g, q1, q2⟩ := hq
  exact ⟨h.2, V.no (Nat.le_refl _), rfl, V.txn rfl (Nat.le_trans hb.2.2.1 hb.2.2.2.1) q1 hold (fun j hj => ⟨(hbs j hj).1, by rw [q2 j hj]; exact (hbs j hj).2⟩)⟩
/-! Strings -/
theorem vs_len (hV : Vw G h A) {a : Nat} {bs : List Nat} (ha : A a = some (oS bs)) : mm_S l G M_ST_length [.ref a] h 0 0 (fun r h' => r = some (.int (nI bs.length)) ∧ h' = h) := by
  obtain ⟨iv, V⟩ := hV
  obtain ⟨t, f, ⟨⟨fs, hh⟩, hv, ht, -⟩, -⟩ := V.tx ha
  exact sp_ST_length hh (tx_t ht).1 hv
theorem vs_empty (hV : Vw G h A) {a : Nat} {bs : List Nat} (ha : A a = some (oS bs)) : mm_S l G M_ST_isEmpty [.ref a] h 0 0 (fun r h' => r = some (.int (if bs = [] then 1 else 0)) ∧ h' = h) := by
  obtain ⟨iv, V⟩ := hV
  obtain ⟨t, f, ⟨⟨fs, hh⟩, hv, ht, hn, -⟩, -⟩ := V.tx ha
  refine mm_post (sp_ST_isEmpty hh (tx_t ht).1 hv (by omega)) fun r h' hq => ?_
  obtain ⟨rfl, rfl⟩ := hq
  cases bs with
  | nil => exact ⟨rfl, rfl⟩
  | cons b bs => exact ⟨by simp, rfl⟩
theorem vs_at (hV : Vw G h A) {a i : Nat} {bs : List Nat} (ha : A a = some (oS bs)) (hi : i < bs.length) : mm_S l G M_ST_charAt [.ref a, .int (nI i)] h 0 0 (fun r h' => r = some (.int (nI (bs.getD i 0))) ∧ h' = h) := by
  obtain ⟨iv, V⟩ := hV
  obtain ⟨t, f, hb, hbs, -⟩ := V.tx ha
  exact sp_ST_charAt hb hi (hbs i hi).1 (hbs i hi).2
theorem vs_ix (hV : Vw G h A) {a x : Nat} {bs : List Nat} (ha : A a = some (oS bs)) (hx : x < 256) : mm_S l G M_ST_indexOf_I [.ref a, .int (nI x)] h 0 0 (fun r h' => r = some (.int (ix_l x bs 0)) ∧ h' = h) := by
  obtain ⟨iv, V⟩ := hV
  obtain ⟨t, f, hb, hbs, -⟩ := V.tx ha
  refine mm_post (sp_ST_indexOf_I hb hx) fun r h' hq => ?_
  obtain ⟨rfl, rfl⟩ := hq
  rw [ix_eq hx bs f 0 (fun j hj => by rw [Nat.zero_add]; exact hbs j hj)]
  exact ⟨rfl, rfl⟩
theorem vs_eq (hV : Vw G h A) {a b : Nat} {bs cs : List Nat} (ha : A a = some (oS bs)) (hb : A b = some (oS cs)) : mm_S l G M_ST_equals [.ref a, .ref b] h 0 0 (fun r h' => r = some (.int (if bs = cs then 1 else 0)) ∧ h' = h) := by
  obtain ⟨iv, V⟩ := hV
  obtain ⟨t, f, hb1, hbs, hk1⟩ := V.tx ha
  obtain ⟨u, g, hb2, hcs, hk2⟩ := V.tx hb
  have hdis : mm_dis a b := by
    by_cases h1 : mm_K ≤ a
    · exact Or.inl (Or.inl h1)
    · by_cases h2 : mm_K ≤ b
      · exact Or.inl (Or.inr h2)
      · exact Or.inr ⟨(hk1 (by omega)).1, (hk1 (by omega)).2, (hk2 (by omega)).1, (hk2 (by omega)).2⟩
  refine mm_post (sp_ST_equals hb1 hb2 hdis) fun r h' hq => ?_
  obtain ⟨rfl, rfl⟩ := hq
  refine ⟨?_, rfl⟩
  by_cases hl : bs.length = cs.length
  · rw [if_pos hl, eq_eq bs cs f g 0 hl (fun j hj => by rw [Nat.zero_add]; exact hbs j hj) (fun j hj => by rw [Nat.zero_add]; exact hcs j hj)]
  · rw [if_neg hl, if_neg (fun q => hl (by rw [q]))]
/-- a text that is there already, or a new one -/
def ab_tx (A A' : ab_H) (s : Nat) (bs : List Nat) : Prop := A' s = some (oS bs) ∧ (A' = A ∨ (A s = none ∧ A' = ab_u A s (oS bs)))
theorem vs_sub2 (hV : Vw G h A) {a i j : Nat} {bs : List Nat} (ha : A a = some (oS bs)) (hij : i ≤ j) (hj : j ≤ bs.length) : mm_S l G M_ST_substring_II [.ref a, .int (nI i), .int (nI j)] h 2 (4 + (j - i)) (fun r h' => ∃ s A', r = some (.ref s) ∧ Vw G h' A' ∧ ab_tx A A' s ((bs.drop i).take (j - i))) := by
  have h1 := hV.lit (k := 1) (by decide)
  have hV0 := hV
  obtain ⟨iv, V⟩ := hV
  obtain ⟨t, f, hb, hbs, -⟩ := V.tx ha
  refine mm_postR (sp_ST_substring_II V.1 hb hij hj) fun r h' hq hw' hold => ?_
  rcases hq with ⟨z1, z2, rfl, rfl⟩ | ⟨z1, rfl, rfl⟩ | ⟨rfl, g, q1, q2⟩
  · subst z1
    subst z2
    exact ⟨a, A, rfl, hV0, by simpa using ha, Or.inl rfl⟩
  · subst z1
    exact ⟨1, A, rfl, hV0, by simpa [ab_old] using h1, Or.inl rfl⟩
  · refine ⟨h.2, _, rfl, V.txn ?_ ?_ q1 hold (hbs.sub (by omega) q2), ab_us, Or.inr ⟨V.no (Nat.le_refl _), rfl⟩⟩
    · rw [List.length_take, List.length_drop]
      omega
    · have := hb.2.2.2.1
      omega
theorem vs_sub1 (hV : Vw G h A) {a i : Nat} {bs : List Nat} (ha : A a = some (oS bs)) (hi : i ≤ bs.length) : mm_S l G M_ST_substring_I [.ref a, .int (nI i)] h 2 (4 + (bs.length - i)) (fun r h' => ∃ s A', r = some (.ref s) ∧ Vw G h' A' ∧ ab_tx A A' s (bs.drop i)) := by
  have h1 := hV.lit (k := 1) (by decide)
  have hV0 := hV
  obtain ⟨iv, V⟩ := hV
  obtain ⟨t, f, hb, hbs, -⟩ := V.tx ha
  have e : (bs.drop i).take (bs.length - i) = bs.drop i := by
    rw [← List.length_drop, List.take_length]
  refine mm_postR (sp_ST_substring_I V.1 hb hi) fun r h' hq hw' hold => ?_
  rcases hq with ⟨z1, z2, rfl, rfl⟩ | ⟨z1, rfl, rfl⟩ | ⟨rfl, g, q1, q2⟩
  · subst z1
    exact ⟨a, A, rfl, hV0, by simpa using ha, Or.inl rfl⟩
  · subst z1
    exact ⟨1, A, rfl, hV0, by simpa [ab_old] using h1, Or.inl rfl⟩
  · have hs := hbs.sub (i := i) (n := bs.length - i) (by omega) q2
    rw [e] at hs
    refine ⟨h.2, _, rfl, V.txn ?_ ?_ q1 hold hs, ab_us, Or.inr ⟨V.no (Nat.le_refl _), rfl⟩⟩
    · rw [List.length_drop]
    · have := hb.2.2.2.1
      omega
theorem vs_chars (hV : Vw G h A) {a : Nat} {bs : List Nat} (ha : A a = some (oS bs)) : mm_S l G M_ST_toCharArray [.ref a] h 1 bs.length (fun r h' => ∃ c g, A c = none ∧ r = some (.ref c) ∧ Vw G h' (ab_u A c (oR (.inl (2, bs.length, .inl g)))) ∧ ∀ j, j < bs.length → g j = nI (bs.getD j 0)) := by
  have hV0 := hV
  obtain ⟨iv, V⟩ := hV
  obtain ⟨t, f, hb, hbs, -⟩ := V.tx ha
  refine mm_post (sp_ST_toCharArray V.1 hb (xs := fun j => bs.getD j 0) hbs) fun r h' hq => ?_
  obtain ⟨rfl, g, rfl, hg⟩ := hq
  exact ⟨h.2, g, hV0.no (Nat.le_refl _), rfl, hV0.new (Or.inr (Or.inl rfl)), hg⟩
theorem vs_init (hV : Vw G h A) {s c : Nat} {g : Nat → Int32} {bs : List Nat} (hs : A s = some (oR (.inr (0, [.null, .int 0, .int 0, .int 0])))) (hK : mm_K ≤ s) (hc : A c = some (oR (.inl (2, bs.length, .inl g)))) (hn : bs.length ≤ 300) (hg : ∀ j, j < bs.length → bs.getD j 0 < 256 ∧ g j = nI (bs.getD j 0)) : mm_S l G M_ST_init_aC [.ref s, .ref c] h 1 bs.length (fun r h' => r = none ∧ Vw G h' (ab_u A s (oS bs))) := by
  have h1s := hV.raw hs
  have h1c := hV.raw hc
  have h1e : h.1 1 = some (.inr (0, [.ref 8, .int 0])) := hV.old (k := 1) (by decide)
  have h8 : h.1 8 = some (.inl (9, 0, .inl (fun j => ([] : List Int32).getD j 0))) := hV.old (k := 8) (by decide)
  obtain ⟨iv, V⟩ := hV
  refine mm_postR (sp_ST_init_aC V.1 hn (xs := fun j => bs.getD j 0) hg h1c h1s hK h1e) fun r h' hq hw' hold => ?_
  obtain ⟨rfl, ⟨hn0, rfl⟩ | ⟨hn0, g', rfl, hg'⟩⟩ := hq
  · have hb0 : bs = [] := List.length_eq_zero_iff.mp hn0
    subst hb0
    refine ⟨rfl, _, V.upd8 hs hw' hold hK (fun b hb _ => mm_setNe hb) ⟨9, fun j => ([] : List Int32).getD j 0, ⟨⟨_, mm_setSelf⟩, by rw [mm_setNe (by have : mm_K = 24 := rfl; omega)]; exact h8, Or.inr rfl, by decide, fun j hj => absurd hj (by simp)⟩, ab_b.nil, fun q => by omega⟩⟩
  · have hva : h.2 ≠ s := fun q => V.1.lt h1s q.symm
    refine ⟨rfl, _, V.upd (v' := h.2) hs hw' hold hK (fun _ => Or.inr (Nat.le_refl _)) (fun b h1 _ h3 => by rw [mm_setNe h1, mm_newNe (by omega)]) (fun q => absurd q id) ⟨1, g', ⟨⟨_, mm_setSelf⟩, by rw [mm_setNe hva, mm_newSelf], Or.inl rfl, hn, fun j hj => by rw [hg' j hj]; exact by_fit _⟩, fun j hj => ⟨(hg j hj).1, hg' j hj⟩, fun q => by omega⟩ (fun ci fs q z => by cases q; omega) (fun ys cap q => by cases q)⟩
/-! ArrayLists -/
theorem vl_init (hV : Vw G h A) {a : Nat} (ha : A a = some (oR (.inr (2, [.null, .int 0, .int 0])))) : mm_S l G M_AL_init [.ref a] h 0 0 (fun r h' => r = none ∧ Vw G h' (ab_u A a (oL [] 0))) := by
  have hh := hV.raw ha
  have h17 : h.1 17 = some (.inl (12, 0, .inr (.inr (.inr (.inr (fun _ => none)))))) := hV.old (k := 17) (by decide)
  obtain ⟨iv, V⟩ := hV
  refine mm_postR (sp_AL_init hh) fun r h' hq hw' hold => ?_
  obtain ⟨rfl, rfl⟩ := hq
  exact ⟨rfl, _, V.upd (v' := 17) ha hw' hold (V.geB hh (by decide)) (fun q => absurd (show (0 : Nat) = 10 from q) (by decide)) (fun b h1 _ _ => mm_setNe h1) (fun q => absurd q id) ⟨0, fun _ => none, ⟨mm_setSelf, Nat.le_refl _, Or.inl ⟨rfl, rfl, by rw [mm_setNe (mm_oi hh h17)]; exact h17⟩⟩, fun j hj => absurd hj (by simp)⟩ (fun ci fs q z => by cases q; omega) (fun ys cap q => by cases q; intro y hy; cases hy)⟩
theorem vl_size (hV : Vw G h A) {a cap : Nat} {ys : List Nat} (ha : A a = some (oL ys cap)) : mm_S l G M_AL_size [.ref a] h 0 0 (fun r h' => r = some (.int (nI ys.length)) ∧ h' = h) := by
  obtain ⟨iv, V⟩ := hV
  obtain ⟨mc, f, hb, -⟩ := V.ls ha
  exact sp_AL_size hb
theorem vl_get (hV : Vw G h A) {a cap i : Nat} {ys : List Nat} (ha : A a = some (oL ys cap)) (hi : i < ys.length) : mm_S l G M_AL_get [.ref a, .int (nI i)] h 0 0 (fun r h' => r = some (.ref (ys.getD i 0)) ∧ h' = h) := by
  obtain ⟨iv, V⟩ := hV
  obtain ⟨mc, f, hb, hf⟩ := V.ls ha
  exact sp_AL_get hb hi (hf i hi)
theorem ls_ob.of (hV : Vw G h A) {y ci : Nat} {fs : List Value} (hy : A y = some (oR (.inr (ci, fs)))) (hc : ci = 7 ∨ ci = 8 ∨ ci = 9 ∨ ci = 12) : ls_ob h y := by
  have h1 := hV.raw hy
  rcases hc with rfl | rfl | rfl | rfl
  · exact ⟨7, fs, _, _, _, h1, rfl, by decide +kernel⟩
  · exact ⟨8, fs, _, _, _, h1, rfl, by decide +kernel⟩
  · exact ⟨9, fs, _, _, _, h1, rfl, by decide +kernel⟩
  · exact ⟨12, fs, _, _, _, h1, rfl, by decide +kernel⟩
/-- an ArrayList has been written -/
theorem Vi.lsw {iv : Nat → Nat} {h' : mm_H} (V : Vi G h A iv) {a cap cap' v' : Nat} {ys ys' : List Nat} {mc : Int32} {f' : Nat → Option Nat} (ha : A a = some (oL ys cap)) (hw' : mm_wf h') (hold : ∀ k, k < mm_K → h'.1 k = mm_O G.2.2.2.2 k) (hb : ls_at h' a v' ys'.length mc cap' f') (hf : bu_fr h h' a (iv a) v') (hys : ∀ j, j < ys'.length → f' j = some (ys'.getD j 0)) (hc : cap' = 10 → cap = 10 ∨ h.2 ≤ v') (hel : ab_el A ys') : Vw G h' (ab_u A a (oL ys' cap')) := by
  obtain ⟨mc0, f0, hb0, -⟩ := V.ls ha
  refine ⟨_, V.upd (v' := v') ha hw' hold (V.geB hb0.1 (by decide)) (fun hi => ?_) (fun b h1 h2 h3 => ?_) (fun q => q) ⟨mc, f', hb, hys⟩ (fun ci fs q => by cases q) (fun zs c q => by cases q; exact hel)⟩
  · have hi : cap' = 10 := hi
    rcases hc hi with z | z
    · rcases hf.2.2.1 with q | q
      · exact Or.inl ⟨q, z⟩
      · exact Or.inr q
    · exact Or.inr z
  · by_cases hbv : b = iv a
    · have hcap : ¬ cap = 10 := fun q => h2 q hbv
      have hv17 : iv a = 17 := by
        rcases hb0.2.2 with ⟨-, q, -⟩ | ⟨q, -⟩
        · exact q
        · exact absurd q hcap
      rw [hbv, hv17, hold 17 (by decide), V.2.1 17 (by decide)]
    · exact hf.2.2.2 b h1 hbv h3
theorem vl_add (hV : Vw G h A) {a cap y ci : Nat} {ys : List Nat} {fs : List Value} (ha : A a = some (oL ys cap)) (hy : A y = some (oR (.inr (ci, fs)))) (hc : ci = 7 ∨ ci = 8 ∨ ci = 9 ∨ ci = 12) (hn : ys.length < 10) : mm_S l G M_AL_add_O [.ref a, .ref y] h 1 (if cap = 0 then 10 else 0) (fun r h' => r = some (.int 1) ∧ Vw G h' (ab_u A a (oL (ys ++ [y]) 10))) := by
  have hob := ls_ob.of hV hy hc
  obtain ⟨iv, V⟩ := hV
  obtain ⟨mc, f, hb, hf⟩ := V.ls ha
  refine mm_postR (sp_AL_add_O V.1 hb hob hn) fun r h' hq hw' hold => ?_
  obtain ⟨rfl, v', f', q1, q2, q3, q4⟩ := hq
  refine ⟨rfl, V.lsw (v' := v') ha hw' hold (by rw [List.length_append]; exact q1) q2 (fun j hj => ?_) (fun _ => ?_) (fun z hz => ?_)⟩
  · rw [List.length_append] at hj
    have hj : j < ys.length + 1 := hj
    by_cases hjn : j < ys.length
    · rw [q3 j hjn, hf j hjn]
      simp [List.getD_eq_getElem?_getD, List.getElem?_append_left hjn]
    · have : j = ys.length := by omega
      subst this
      rw [q4]
      simp [List.getD_eq_getElem?_getD]
  · rcases hb.2.2 with ⟨c0, hv17, -⟩ | ⟨c0, -⟩
    · rcases q2.2.2.1 with q | q
      · right
        have h1 := q1.2.2
        rcases h1 with ⟨z, -⟩ | ⟨-, z⟩
        · exact absurd z (by decide)
        · rw [q, hv17, hold 17 (by decide)] at z
          exact absurd z (by simp [mm_O, mm_Ol])
      · exact Or.inr q
    · exact Or.inl c0
  · rcases List.mem_append.mp hz with hz | hz
    · exact V.2.2.2.1 a ys cap ha z hz
    · rw [List.mem_singleton.mp hz]
      exact ⟨ci, fs, hy, hc⟩
theorem vl_rem (hV : Vw G h A) {a cap i : Nat} {ys : List Nat} (ha : A a = some (oL ys cap)) (hi : i < ys.length) : mm_S l G M_AL_remove [.ref a, .int (nI i)] h 0 0 (fun r h' => r = some (.ref (ys.getD i 0)) ∧ Vw G h' (ab_u A a (oL (ys.eraseIdx i) 10))) := by
  have hV0 := hV
  obtain ⟨iv, V⟩ := hV
  obtain ⟨mc, f, hb, hf⟩ := V.ls ha
  have hel := V.2.2.2.1 a ys cap ha
  refine mm_postR (sp_AL_remove V.1 hb hi (hf i hi) (fun j hj y hy => ?_)) fun r h' hq hw' hold => ?_
  · rw [hf j hj] at hy
    cases hy
    have hm : ys.getD j 0 ∈ ys := by
      rw [List.getD_eq_getElem?_getD, List.getElem?_eq_getElem hj]
      exact List.getElem_mem hj
    obtain ⟨ci, fs, e1, e2⟩ := hel _ hm
    exact ls_ob.of hV0 e1 e2
  · obtain ⟨rfl, f', q1, q2, q3, q4⟩ := hq
    have hlen : (ys.eraseIdx i).length = ys.length - 1 := List.length_eraseIdx_of_lt hi
    refine ⟨rfl, V.lsw (v' := iv a) ha hw' hold (by rw [hlen]; exact q1) q2 (fun j hj => ?_) (fun _ => Or.inl ?_) (fun z hz => hel z (List.mem_of_mem_eraseIdx hz))⟩
    · rw [hlen] at hj
      by_cases hji : j < i
      · rw [q3 j hji, hf j (by omega)]
        simp [List.getD_eq_getElem?_getD, List.getElem?_eraseIdx, hji]
      · rw [q4 j (by omega) hj, hf (j + 1) (by omega)]
        simp [List.getD_eq_getElem?_getD, List.getElem?_eraseIdx, hji]
    · have h3 := hb.2.1
      rcases hb.2.2 with ⟨c0, -⟩ | ⟨c0, -⟩ <;> omega
theorem vl_clr (hV : Vw G h A) {a cap : Nat} {ys : List Nat} (ha : A a = some (oL ys cap)) : mm_S l G M_AL_clear [.ref a] h 0 0 (fun r h' => r = none ∧ Vw G h' (ab_u A a (oL [] cap))) := by
  obtain ⟨iv, V⟩ := hV
  obtain ⟨mc, f, hb, hf⟩ := V.ls ha
  refine mm_postR (sp_AL_clear V.1 hb) fun r h' hq hw' hold => ?_
  obtain ⟨rfl, f', q1, q2⟩ := hq
  exact ⟨rfl, V.lsw (v' := iv a) ha hw' hold q1 q2 (fun j hj => absurd hj (by simp)) (fun q => Or.inl q) (fun z hz => by cases hz)⟩
end VJ
