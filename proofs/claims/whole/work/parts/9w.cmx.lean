/-! The law's end -/
theorem law_end {G : mm_G} {below : List Frame} {args : Array Value} {s t : State} (hG : s.heap.size ≤ G.2.2.2.1) (h : MQ below (mm_Q G (wQI G (fun v _ => v = iI 1))) args s 600000 7302250 (mm_A G) t) : ∃ o, t.status = .running ∧ Ended t below o ∧ o = .returned (some (.int 1)) ∧ Framed s o t [] 600000 7302250 := by
  obtain ⟨o, h1, h2, ⟨⟨v, h', q1, ⟨w, A', q2, q3, q4⟩, q5⟩, q6⟩, L, f1, f2⟩ := h
  refine ⟨o, h1, h2, ?_, ?_⟩
  · rw [q1, q2, q4]
    rfl
  · obtain ⟨a1, a2, a3⟩ := f1
    exact ⟨⟨_, q1⟩, a2, State.sameButNew.drop_fresh (L := []) a3 (fun x hx => Nat.le_trans hG (f2 x hx))⟩
theorem law_run (l : Launch) {p : Program} {e : Env} {s : State} {m : MethodId} {below : List Frame} {meth : Method} {c : Code} {b : Nat} {G : mm_G} (hX : mm_X G M_L_law p room_1 s m #[Value.ref b] meth c) (hR : mm_R G (h00 G.2.2.2.2) s.heap) (hb : G.2.2.1 0 = b) (hx : G.2.2.2.2.length ≤ 2560) (hG : s.heap.size ≤ G.2.2.2.1) : W p l e room_1 s m #[Value.ref b] below meth c s.heap [] 0 0 (fun t => ∃ o, t.status = .running ∧ Ended t below o ∧ o = .returned (some (.int 1)) ∧ Framed s o t [] 600000 7302250) (entryFrame m ([Value.ref b] : List Value).toArray 4) := by
  have hl := mm_en_L (as := [va_rf (some 0)]) (n := 4) G (by simp [mm_as, wr_cat, wr_catI, wr_catJ, wr_catN])
  rw [show mm_en [va_rf (some 0)] 4 = [some (va_rf (some 0)), none, none, none] from by simp [mm_en, mm_as, wr_cat, wr_catI, wr_catJ, wr_catN]] at hl
  have hv : [va_rf (some 0)].map (mm_v G) = ([Value.ref b] : List Value) := by
    show [Value.ref (mm_f G 0)] = _
    rw [show mm_f G 0 = G.2.2.1 0 from rfl, hb]
  rw [hv] at hl
  rw [lg_entry_eq]
  generalize (lg_sl ([Value.ref b] : List Value) ++ List.replicate (4 - (lg_sl ([Value.ref b] : List Value)).length) Slot.unset).toArray = ls at hl ⊢
  have k := law_2 l G hx p e room_1 s m #[Value.ref b] below meth c s.heap [] 0 0 ls hX hR va_S.rf hl (show 0 + 408000 ≤ 600000 by omega) (show 0 + 6670000 ≤ 7302250 by omega)
  intro U hU X
  obtain ⟨t, a1, a2⟩ := k U hU X
  exact ⟨t, a1, law_end hG a2⟩
theorem law_R {G : mm_G} {H : Heap} (hG : H.size = G.2.2.2.1) : mm_R G (h00 G.2.2.2.2) H := by
  have lt : ∀ (k : Nat) (e : mm_E), (h00 G.2.2.2.2).1 k = some e → k < mm_K := fun k e hk => by
    have h1 : (mm_Ol G.2.2.2.2)[k]? = some e := hk
    have := (List.getElem?_eq_some_iff.mp h1).1
    have h2 : (mm_Ol G.2.2.2.2).length = 18 := rfl
    show k < 24
    omega
  refine ⟨by rw [hG]; rfl, Nat.le_refl _, lt, fun k e hk h => ?_, fun k _ => rfl⟩
  have := lt k e h
  omega
