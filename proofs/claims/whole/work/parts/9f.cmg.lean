/-! The class: serve -/
def KrX (A : ab_H) (q pl hl : Nat) (r : Rq) (cid : Int) : Prop := ∃ mp pp bp ys cp zs cz, A q = some (oR (.inr (7, [va_rf (some pl), va_rf (some hl), va_rf (some mp), va_rf (some pp), va_rf (some bp), .int (iI cid)]))) ∧ PtAt A mp ([], r.1) ∧ PtAt A pp ([], r.2.1) ∧ A pl = some (oL ys cp) ∧ PtsAt A ys r.2.2.1 ∧ A hl = some (oL zs cz) ∧ PtsAt A zs r.2.2.2.1 ∧ PtAt A bp ([], r.2.2.2.2)
section SRV
variable {G A B : ab_H} {q pl hl : Nat} {r : Rq} {cid : Int}
theorem KrX.kr (h : KrX A q pl hl r cid) : Kr A q r cid := by
  obtain ⟨mp, pp, bp, ys, cp, zs, cz, h⟩ := h
  exact ⟨pl, hl, mp, pp, bp, ys, cp, zs, cz, h⟩
theorem KrX.kp {W : List Nat} (h : KrX A q pl hl r cid) (k : Kp A B W) (h1 : q ∈ W) (h2 : pl ∈ W) (h3 : hl ∈ W) : KrX B q pl hl r cid := by
  obtain ⟨mp, pp, bp, ys, cp, zs, cz, t1, t2, t3, t4, t5, t6, t7, t8⟩ := h
  exact ⟨mp, pp, bp, ys, cp, zs, cz, k _ _ t1 (Or.inr h1), t2.kp k, t3.kp k, k _ _ t4 (Or.inr h2), t5.kp k, k _ _ t6 (Or.inr h3), t7.kp k, t8.kp k⟩
theorem Kp.w {W V : List Nat} (hF : Fw A B W) (hM : Mu A W) (hV : ∀ x ∈ V, x ∉ W) : Kp A B V := fun x o hx hw => by
  rcases hw with z | z
  · exact hF.im hx z hM
  · exact hF x o hx (hV x z)
theorem Kp.z {T : Nat → Nat} {W : List Nat} (hA : Hm A T) (hW : ∀ x ∈ W, T x = 0) : Kp A (Zf A T) W := fun x o hx hw => by
  rcases hw with z | z
  · exact Zf.i hx (hA.z hx z)
  · exact Zf.i hx (hW x z)
end SRV
section SV2
variable {G A : ab_H} {T : Nat → Nat} {sv c : Nat} {S : St} {Y : List Nat}
/-- all but one connection -/
def Inx (G A : ab_H) (T : Nat → Nat) (sv : Nat) (S : St) (c : Nat) (P : Nat → Prop) : Prop := ∃ ca sa ty sl kl dl, Hm A T ∧ LiG G A T ∧ (A sv = some (oSv ca sa ty sl kl dl S.2.2.2.2.2.2.2 S.2.2.1) ∧ T sv = 1) ∧ (T ca = 2 ∧ ∃ cf cn, A ca = some (oR (.inl (5, 3, .inr (.inr (.inr (.inr cf)))))) ∧ cf c = some cn ∧ P cn ∧ ∀ d, d < 3 → d ≠ c → ∃ cn', cf d = some cn' ∧ CnAt A T d cn' (S.1 d)) ∧ Ikl A T kl S.2.1 ∧ Ist A T sa S.2.2.2.1 ∧ Ity A T ty S.2.2.2.2.1 ∧ Idl A T dl S.2.2.2.2.2.1 ∧ Isl A T sl S.2.2.2.2.2.2.1
/-- the connection whose request is whole -/
def Cw (A : ab_H) (T : Nat → Nat) (c : Nat) (R Y : List Nat) (cn : Nat) : Prop := ∃ rp rd ln bd rl dc rq pl hl cap, A cn = some (oCn rd rp false) ∧ A rp = some (oB R cap) ∧ cap ≤ 200 ∧ (T cn = 10 * c + 10 ∧ T rp = 10 * c + 11 ∧ T rd = 10 * c + 12 ∧ T ln = 10 * c + 13 ∧ T bd = 10 * c + 14 ∧ T dc = 10 * c + 15) ∧ (T rq = 10 * c + 16 ∧ T pl = 10 * c + 17 ∧ T hl = 10 * c + 18) ∧ Cp A rd ln bd rl dc rq pl hl (rqB Y) (jd Y).2.1
def Cnx (A : ab_H) (sv c cn : Nat) : Prop := ∃ ca sa ty sl kl dl nx sd cf, A sv = some (oSv ca sa ty sl kl dl nx sd) ∧ A ca = some (oR (.inl (5, 3, .inr (.inr (.inr (.inr cf)))))) ∧ cf c = some cn
theorem rsp_le {code : Nat} {M : List Nat} (h : M.length ≤ 60) : (rsp code M).length ≤ 99 := by
  have h1 := dc_le4 code
  have h2 := dc_le4 M.length
  unfold rsp
  simp only [List.length_append, List.length_cons, List.length_nil]
  omega
theorem fil_le (r : Rq) (n : Nat) (P : List Nat) : (fil r n P).length ≤ 60 := by
  unfold fil
  rw [List.length_take]
  omega
theorem Ph.cl {E : ab_H} {rd ln bd rl dc rq pl hl : Nat} {B : List Nat} (pE : Ph E rd ln bd rl dc rq pl hl B) : (∃ o, E rq = some o ∧ mtb o = true) ∧ (∃ o, E pl = some o ∧ mtb o = true) ∧ (∃ o, E hl = some o ∧ mtb o = true) ∧ rq ≠ pl ∧ rq ≠ hl ∧ pl ≠ hl := by
  rcases pE with h | h | h | h | h | h
  · obtain ⟨L, sr, -, -, ⟨⟨mp, pp, bp, h5⟩, ⟨cp, h6⟩, ⟨cz, h7⟩, h8⟩, -⟩ := h
    exact ⟨⟨_, h5, rfl⟩, ⟨_, h6, rfl⟩, ⟨_, h7, rfl⟩, ne_of h5 h6 (fun e => by cases e), ne_of h5 h7 (fun e => by cases e), h8⟩
  · obtain ⟨P, an, ic, hs, X, H, L, sr, -, -, ⟨⟨mp, pp, bp, h5, -⟩, ⟨ys, cp, h6, -⟩, ⟨zs, cz, h7, -⟩, h8⟩, -⟩ := h
    exact ⟨⟨_, h5, rfl⟩, ⟨_, h6, rfl⟩, ⟨_, h7, rfl⟩, ne_of h5 h6 (fun e => by cases e), ne_of h5 h7 (fun e => by cases e), h8⟩
  · obtain ⟨P, an, hs, X, H, D, tl, -, -, ⟨⟨mp, pp, bp, h5, -⟩, ⟨ys, cp, h6, -⟩, ⟨zs, cz, h7, -⟩, h8⟩, -⟩ := h
    exact ⟨⟨_, h5, rfl⟩, ⟨_, h6, rfl⟩, ⟨_, h7, rfl⟩, ne_of h5 h6 (fun e => by cases e), ne_of h5 h7 (fun e => by cases e), h8⟩
  · obtain ⟨P, n, tot, body, hs, X, H, ds, sr, tl, -, -, ⟨⟨mp, pp, bp, h5, -⟩, ⟨ys, cp, h6, -⟩, ⟨zs, cz, h7, -⟩, h8⟩, -⟩ := h
    exact ⟨⟨_, h5, rfl⟩, ⟨_, h6, rfl⟩, ⟨_, h7, rfl⟩, ne_of h5 h6 (fun e => by cases e), ne_of h5 h7 (fun e => by cases e), h8⟩
  · obtain ⟨P, n, tot, body, hs, X, H, ds, D, tl, -, -, ⟨⟨mp, pp, bp, h5, -⟩, ⟨ys, cp, h6, -⟩, ⟨zs, cz, h7, -⟩, h8⟩, -⟩ := h
    exact ⟨⟨_, h5, rfl⟩, ⟨_, h6, rfl⟩, ⟨_, h7, rfl⟩, ne_of h5 h6 (fun e => by cases e), ne_of h5 h7 (fun e => by cases e), h8⟩
  · obtain ⟨P, n, tot, body, hs, X, H, ds, D, sr, tl, -, -, ⟨⟨mp, pp, bp, h5, -⟩, ⟨ys, cp, h6, -⟩, ⟨zs, cz, h7, -⟩, h8⟩, -⟩ := h
    exact ⟨⟨_, h5, rfl⟩, ⟨_, h6, rfl⟩, ⟨_, h7, rfl⟩, ne_of h5 h6 (fun e => by cases e), ne_of h5 h7 (fun e => by cases e), h8⟩
theorem ks_app {Z : ab_H} {qs : List Nat} {J : List Jn} {rq : Nat} {cid : Int} (h : KsAt Z qs J) (hk : Kr Z rq (rqB Y) cid) (hw : rqw (rqB Y)) : KsAt Z ((if qs.length = 5 then qs.drop 1 else qs) ++ [rq]) (kpt J (Y, cid)) := by
  obtain ⟨h1, h2, h3⟩ := h
  have app : ∀ (qs' : List Nat) (J' : List Jn), qs'.length = J'.length → J'.length ≤ 4 → (∀ (j q : Nat) (y : Jn), qs'[j]? = some q → J'[j]? = some y → Kr Z q (rqB y.1) y.2 ∧ rqw (rqB y.1)) → KsAt Z (qs' ++ [rq]) (J' ++ [(Y, cid)]) := fun qs' J' hl h4 hall => by
    refine ⟨by rw [List.length_append, List.length_append, hl]; rfl, by rw [List.length_append]; simp; omega, fun j q y g1 g2 => ?_⟩
    rcases Nat.lt_or_ge j qs'.length with v | v
    · rw [List.getElem?_append_left v] at g1
      rw [List.getElem?_append_left (by omega)] at g2
      exact hall j q y g1 g2
    · rw [List.getElem?_append_right v] at g1
      rw [List.getElem?_append_right (by omega), ← hl] at g2
      cases hz : j - qs'.length with
      | zero =>
        rw [hz] at g1 g2
        simp at g1 g2
        subst g1 g2
        exact ⟨hk, hw⟩
      | succ i =>
        rw [hz] at g1
        simp at g1
  unfold kpt
  by_cases e : J.length = 5
  · rw [if_pos (by rw [h1]; exact e), if_pos e]
    refine app _ _ (by rw [List.length_drop, List.length_drop, h1]) (by rw [List.length_drop]; omega) (fun j q y g1 g2 => ?_)
    rw [List.getElem?_drop] at g1 g2
    exact h3 _ q y g1 g2
  · rw [if_neg (by rw [h1]; exact e), if_neg e]
    exact app _ _ h1 (by omega) h3
end SV2
