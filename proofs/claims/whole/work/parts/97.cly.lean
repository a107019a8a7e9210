/-! The class: what the server's cells hold -/
abbrev oSv (ca sa ty sl kl dl nx sd : Nat) : ab_O := oR (.inr (3, [va_rf (some ca), va_rf (some sa), va_rf (some ty), va_rf (some sl), va_rf (some kl), va_rf (some dl), .int (iI nx), .int (iI sd)]))
abbrev oCn (rd rp : Nat) (cl : Bool) : ab_O := oR (.inr (4, [va_rf (some rd), va_rf (some rp), .int (iI (bI (!cl)))]))
section DEF
variable (G A : ab_H) (T : Nat → Nat)
/-- the law's texts, and what is another's -/
def LiG : Prop := Li (Zf A T) ∧ ∀ x o, G x = some o → A x = some o ∧ T x = 8
def CnAt (c cn : Nat) (x : Cn) : Prop := ∃ rp rd ln bd rl dc cap, A cn = some (oCn rd rp x.1) ∧ A rp = some (oB x.2.2 cap) ∧ cap ≤ 200 ∧ x.2.2.length ≤ 99 ∧ (T cn = 10 * c + 10 ∧ T rp = 10 * c + 11 ∧ T rd = 10 * c + 12 ∧ T ln = 10 * c + 13 ∧ T bd = 10 * c + 14 ∧ T dc = 10 * c + 15) ∧ Rs A rd ln bd rl dc ∧ (x.1 = false → ∃ rq pl hl, T rq = 10 * c + 16 ∧ T pl = 10 * c + 17 ∧ T hl = 10 * c + 18 ∧ Ph A rd ln bd rl dc rq pl hl x.2.1)
def StZ (b : Nat) (x : Sb) : Prop := T b = 50 + sbI x ∧ ∃ tp ts ml ms cap so, A b = some (oR (.inr (12, [.int (iI (sbI x)), .int (iI (sbP x)), .int (iI (sbC x)), va_rf (some tp), va_rf (some ml), va_rf so]))) ∧ Zf A T tp = some (oR (.inr (11, [va_rf (some ts)]))) ∧ Zf A T ts = some (oS (sbT x)) ∧ stl (sbT x) ∧ (∀ y ∈ sbT x, 0 < y) ∧ Zf A T ml = some (oL ms cap) ∧ MsAt (Zf A T) ms (sbM x) ∧ ScAt (Zf A T) so (sbS x) ∧ sbI x < 100000 ∧ sbP x ≤ 9 ∧ 100 ≤ sbC x ∧ sbC x ≤ 599
def KsAt (qs : List Nat) (J : List Jn) : Prop := qs.length = J.length ∧ J.length ≤ 5 ∧ ∀ (j q : Nat) (y : Jn), qs[j]? = some q → J[j]? = some y → Kr A q (rqB y.1) y.2 ∧ rqw (rqB y.1)
def Icn (ca : Nat) (f : Nat → Cn) : Prop := T ca = 2 ∧ ∃ cf, A ca = some (oR (.inl (5, 3, .inr (.inr (.inr (.inr cf)))))) ∧ ∀ c, c < 3 → ∃ cn, cf c = some cn ∧ CnAt A T c cn (f c)
def Ist (sa : Nat) (st : Nat → Nat) : Prop := T sa = 3 ∧ SaAt A sa st
def Ity (ty : Nat) (X : List Nat) : Prop := T ty = 4 ∧ X.length ≤ 40 ∧ (∀ x ∈ X, 32 ≤ x ∧ x ≤ 126) ∧ ∃ cap, A ty = some (oB X cap) ∧ cap ≤ 200
def Isl (sl : Nat) (X : List Sb) : Prop := T sl = 5 ∧ srt X ∧ ∃ bs cap, A sl = some (oL bs cap) ∧ bs.length = X.length ∧ X.length ≤ 8 ∧ ∀ (j b : Nat) (x : Sb), bs[j]? = some b → X[j]? = some x → StZ A T b x
def Ikl (kl : Nat) (J : List Jn) : Prop := T kl = 6 ∧ ∃ qs cap, A kl = some (oL qs cap) ∧ KsAt (Zf A T) qs J
def Idl (dl : Nat) (D : List Mt) : Prop := T dl = 7 ∧ ∃ ds cap, A dl = some (oL ds cap) ∧ MsAt (Zf A T) ds D
def Inv (sv : Nat) (S : St) : Prop := ∃ ca sa ty sl kl dl, Hm A T ∧ LiG G A T ∧ (A sv = some (oSv ca sa ty sl kl dl S.2.2.2.2.2.2.2 S.2.2.1) ∧ T sv = 1) ∧ Icn A T ca S.1 ∧ Ikl A T kl S.2.1 ∧ Ist A T sa S.2.2.2.1 ∧ Ity A T ty S.2.2.2.2.1 ∧ Idl A T dl S.2.2.2.2.2.1 ∧ Isl A T sl S.2.2.2.2.2.2.1
end DEF
section INV
variable {G A B : ab_H} {T T' : Nat → Nat} {I : List Nat}
theorem Tf.t {x : Nat} (h : Tf A T B T' I) (hA : Hm A T) (hx : T x ≠ 0) (hn : T x ∉ I) : T' x = T x := by
  obtain ⟨o, h1, h2⟩ := hA x hx
  exact h.2.1 x o h1 hn
theorem Tf.t2 {x n : Nat} (h : Tf A T B T' I) (hA : Hm A T) (hx : T x = n) (h0 : 0 < n) (hn : n ∉ I) : T' x = n := by
  rw [h.t hA (by omega) (by rw [hx]; exact hn), hx]
theorem Tf.c {x n : Nat} {o : ab_O} (h : Tf A T B T' I) (hx : T x = n) (hn : n ∉ I) (ho : A x = some o) : B x = some o := h.1 x o ho (by rw [hx]; exact hn)
theorem CnAt.tf {c cn : Nat} {x : Cn} (h : CnAt A T c cn x) (hF : Tf A T B T' I) (hA : Hm A T) (h0 : 0 ∉ I) (hI : ∀ i, i < 9 → 10 * c + 10 + i ∉ I) : CnAt B T' c cn x := by
  obtain ⟨rp, rd, ln, bd, rl, dc, cap, e1, e2, e3, e4, ⟨t0, t1, t2, t3, t4, t5⟩, e5, e6⟩ := h
  have i0 := hI 0 (by omega)
  have i1 := hI 1 (by omega)
  have i2 := hI 2 (by omega)
  have i3 := hI 3 (by omega)
  have i4 := hI 4 (by omega)
  have i5 := hI 5 (by omega)
  have i6 := hI 6 (by omega)
  have i7 := hI 7 (by omega)
  have i8 := hI 8 (by omega)
  refine ⟨rp, rd, ln, bd, rl, dc, cap, hF.c t0 i0 e1, hF.c t1 i1 e2, e3, e4, ⟨hF.t2 hA t0 (by omega) i0, hF.t2 hA t1 (by omega) i1, hF.t2 hA t2 (by omega) i2, hF.t2 hA t3 (by omega) i3, hF.t2 hA t4 (by omega) i4, hF.t2 hA t5 (by omega) i5⟩, e5.kp (W := [rd, ln, bd, dc]) (hF.kp hA h0 (fun w hw => ?_)) (by simp) (by simp) (by simp) (by simp), fun hx => ?_⟩
  · simp only [List.mem_cons, List.not_mem_nil, or_false] at hw
    rcases hw with z | z | z | z
    · rw [z, t2]; exact i2
    · rw [z, t3]; exact i3
    · rw [z, t4]; exact i4
    · rw [z, t5]; exact i5
  · obtain ⟨rq, pl, hl, t6, t7, t8, p⟩ := e6 hx
    refine ⟨rq, pl, hl, hF.t2 hA t6 (by omega) i6, hF.t2 hA t7 (by omega) i7, hF.t2 hA t8 (by omega) i8, p.kp (hF.kp hA h0 (fun w hw => ?_))⟩
    simp only [List.mem_cons, List.not_mem_nil, or_false] at hw
    rcases hw with z | z | z | z | z | z | z
    · rw [z, t2]; exact i2
    · rw [z, t3]; exact i3
    · rw [z, t4]; exact i4
    · rw [z, t5]; exact i5
    · rw [z, t6]; exact i6
    · rw [z, t7]; exact i7
    · rw [z, t8]; exact i8
theorem StZ.tf {b : Nat} {x : Sb} (h : StZ A T b x) (hF : Tf A T B T' I) (hA : Hm A T) (h0 : 0 ∉ I) (hI : 50 + sbI x ∉ I) : StZ B T' b x := by
  obtain ⟨t, tp, ts, ml, ms, cap, so, e1, e2, e3, e4, e5, e6, e7, e8, e9⟩ := h
  have z := hF.z h0
  exact ⟨hF.t2 hA t (by omega) hI, tp, ts, ml, ms, cap, so, hF.c t hI e1, z.e e2, z.e e3, e4, e5, z.e e6, e7.f0 z, e8.f0 z, e9⟩
theorem StZ.at {b : Nat} {x : Sb} (h : StZ A T b x) : StAt A b x := by
  obtain ⟨t, tp, ts, ml, ms, cap, so, e1, e2, e3, e4, e5, e6, e7, e8, e9⟩ := h
  have z := Zf.le A T
  exact ⟨tp, ts, ml, ms, cap, so, e1, z.e e2, z.e e3, e4, e5, z.e e6, e7.f0 z, e8.f0 z, e9⟩
theorem KsAt.f0 {qs : List Nat} {J : List Jn} (h : KsAt A qs J) (hF : Fw A B []) : KsAt B qs J := ⟨h.1, h.2.1, fun j q y h1 h2 => ⟨(h.2.2 j q y h1 h2).1.f0 hF, (h.2.2 j q y h1 h2).2⟩⟩
theorem Icn.tf {ca : Nat} {f : Nat → Cn} (h : Icn A T ca f) (hF : Tf A T B T' I) (hA : Hm A T) (h0 : 0 ∉ I) (h2 : 2 ∉ I) (hI : ∀ i, 10 ≤ i → i < 40 → i ∉ I) : Icn B T' ca f := by
  obtain ⟨t, cf, e1, e2⟩ := h
  refine ⟨hF.t2 hA t (by omega) h2, cf, hF.c t h2 e1, fun c hc => ?_⟩
  obtain ⟨cn, g1, g2⟩ := e2 c hc
  exact ⟨cn, g1, g2.tf hF hA h0 (fun i hi => hI _ (by omega) (by omega))⟩
/-- one connection's step -/
theorem Icn.up {ca c : Nat} {f : Nat → Cn} {x : Cn} (h : Icn A T ca f) (hF : Tf A T B T' I) (hA : Hm A T) (h0 : 0 ∉ I) (h2 : 2 ∉ I) (hI : ∀ i, 10 ≤ i → i < 40 → (i < 10 * c + 10 ∨ 10 * c + 20 ≤ i) → i ∉ I) (hx : ∀ cf cn, A ca = some (oR (.inl (5, 3, .inr (.inr (.inr (.inr cf)))))) → cf c = some cn → CnAt B T' c cn x) : Icn B T' ca (upC f c x) := by
  obtain ⟨t, cf, e1, e2⟩ := h
  refine ⟨hF.t2 hA t (by omega) h2, cf, hF.c t h2 e1, fun d hd => ?_⟩
  obtain ⟨cn, g1, g2⟩ := e2 d hd
  unfold upC
  by_cases q : d = c
  · rw [if_pos q]
    subst q
    exact ⟨cn, g1, hx cf cn e1 g1⟩
  · rw [if_neg q]
    exact ⟨cn, g1, g2.tf hF hA h0 (fun i hi => hI _ (by omega) (by omega) (by omega))⟩
theorem Ist.tf {sa : Nat} {st : Nat → Nat} (h : Ist A T sa st) (hF : Tf A T B T' I) (hA : Hm A T) (h3 : 3 ∉ I) : Ist B T' sa st := by
  obtain ⟨t, f, e1, e2⟩ := h
  exact ⟨hF.t2 hA t (by omega) h3, f, hF.c t h3 e1, e2⟩
theorem Ity.tf {ty : Nat} {X : List Nat} (h : Ity A T ty X) (hF : Tf A T B T' I) (hA : Hm A T) (h4 : 4 ∉ I) : Ity B T' ty X := by
  obtain ⟨t, a, b, cap, e1, e2⟩ := h
  exact ⟨hF.t2 hA t (by omega) h4, a, b, cap, hF.c t h4 e1, e2⟩
theorem Ikl.tf {kl : Nat} {J : List Jn} (h : Ikl A T kl J) (hF : Tf A T B T' I) (hA : Hm A T) (h0 : 0 ∉ I) (h4 : 6 ∉ I) : Ikl B T' kl J := by
  obtain ⟨t, qs, cap, e1, e2⟩ := h
  exact ⟨hF.t2 hA t (by omega) h4, qs, cap, hF.c t h4 e1, e2.f0 (hF.z h0)⟩
theorem Idl.tf {dl : Nat} {D : List Mt} (h : Idl A T dl D) (hF : Tf A T B T' I) (hA : Hm A T) (h0 : 0 ∉ I) (h4 : 7 ∉ I) : Idl B T' dl D := by
  obtain ⟨t, qs, cap, e1, e2⟩ := h
  exact ⟨hF.t2 hA t (by omega) h4, qs, cap, hF.c t h4 e1, e2.f0 (hF.z h0)⟩
theorem Isl.tf {sl : Nat} {X : List Sb} (h : Isl A T sl X) (hF : Tf A T B T' I) (hA : Hm A T) (h0 : 0 ∉ I) (h4 : 5 ∉ I) (hI : ∀ i, 50 ≤ i → i ∉ I) : Isl B T' sl X := by
  obtain ⟨t, s, bs, cap, e1, e2, e3, e4⟩ := h
  exact ⟨hF.t2 hA t (by omega) h4, s, bs, cap, hF.c t h4 e1, e2, e3, fun j b x g1 g2 => (e4 j b x g1 g2).tf hF hA h0 (hI _ (by omega))⟩
theorem Isl.at {sl : Nat} {X : List Sb} (h : Isl A T sl X) : ∃ bs cap, A sl = some (oL bs cap) ∧ StsAt A bs X := by
  obtain ⟨t, s, bs, cap, e1, e2, e3, e4⟩ := h
  exact ⟨bs, cap, e1, e2, e3, fun j b x g1 g2 => (e4 j b x g1 g2).at⟩
theorem Li.f0 (h : Li A) (hF : Fw A B []) : Li B := h.fw hF (Mu.nil _)
theorem LiG.tf (h : LiG G A T) (hF : Tf A T B T' I) (h0 : 0 ∉ I) (h8 : 8 ∉ I) : LiG G B T' := ⟨h.1.fw (hF.z h0) (Mu.nil _), fun x o hx => ⟨hF.c (h.2 x o hx).2 h8 (h.2 x o hx).1, by rw [hF.2.1 x o (h.2 x o hx).1 (by rw [(h.2 x o hx).2]; exact h8)]; exact (h.2 x o hx).2⟩⟩
theorem Inv.li {sv : Nat} {S : St} (h : Inv G A T sv S) : Li A := by
  obtain ⟨ca, sa, ty, sl, kl, dl, h1, h2, h3⟩ := h
  exact h2.1.f0 (Zf.le A T)
end INV
