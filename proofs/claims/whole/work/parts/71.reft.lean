/-! The reference: stub, whole -/
section SU
variable {s0 : RS} {S : St} {Q : Int32 → RS → Prop} {p w : Int}
theorem srt_snoc {L : List Sb} {x : Sb} (h : srt L) (hx : ∀ y ∈ L, sbI y < sbI x) : srt (L ++ [x]) := by
  unfold srt at *
  rw [List.pairwise_append]
  exact ⟨h, by simp, fun a ha b hb => by rw [List.mem_singleton.mp hb]; exact hx a ha⟩
theorem sm_stub227 {s : RS} {f : Nat} {PL : List (Nat × Sb)} {pt wy : Nat} (hf : f < 8) (hfree : ∀ z ∈ PL, z.1 ≠ f) (hp9 : pt ≤ 9) (hw1 : 100 ≤ wy) (hw2 : wy ≤ 599) (hnx : S.2.2.2.2.2.2.2 < 90000)
    (h1 : ∀ c, c < 3 → RC s c (S.1 c)) (h2 : Jo s S.2.1 ∧ jgd S.2.1) (h3 : s.1 7 = iI S.2.2.1) (h4 : Sc s S.2.2.2.1) (hT : RT s S.2.2.2.2.1) (hd4 : S.2.2.2.2.2.1.length ≤ 4) (h16 : s.1 16 = iI S.2.2.2.2.2.1.length) (hdr : ∀ i x, S.2.2.2.2.2.1[i]? = some x → Mr s (4 * f + 4 + i) x)
    (hL : S.2.2.2.2.2.2.1 = PL.map (fun z => z.2)) (hP : Sbs s PL) (h17 : s.1 17 = iI S.2.2.2.2.2.2.2) (hid : ∀ x ∈ S.2.2.2.2.2.2.1, sbI x < S.2.2.2.2.2.2.2) (ht : ∀ i, i < S.2.2.2.2.1.length → s.2 22 (40 * f + i) = iI (S.2.2.2.2.1.getD i 0))
    (hQ : ∀ s', Rl s' (a_sS pt wy S) → Q (iI S.2.2.2.2.2.2.2) s') : vq_M_stub_227 (iI pt) (iI wy) Q (iI f) s := by
  unfold vq_M_stub_227
  refine wL.i ?_
  rw [hT.2.1]
  refine wr8 rfl hf (wL.i ?_)
  rw [sR_1, h17]
  refine wr8 rfl hf (wr8 rfl hf (wr8 rfl hf (wL.i ?_)))
  rw [sR_1, sR_1, sR_1, sR_1, h16]
  refine wr8 rfl hf (wr8 rfl hf (vP.i (vP.i (wL.i ?_))))
  rw [sI_ne (by decide), sI_ne (by decide), sR_1, sR_1, sR_1, sR_1, sR_1, sR_1, h17]
  refine vP.i (wL.i ?_)
  rw [sI_at, show iI (S.2.2.2.2.2.2.2 : Int) + 1 = iI ((S.2.2.2.2.2.2.2 + 1 : Nat) : Int) from iI_add _ 1, show iI ((S.2.2.2.2.2.2.2 + 1 : Nat) : Int) - 1 = iI (S.2.2.2.2.2.2.2 : Int) from (iI_sub _ 1).trans (by congr 1; omega)]
  have hC : Ch [10, 16, 17] [18, 19, 20, 21, 23, 24] s (sI (sI (sI (sR (sR (sR (sR (sR (sR s 23 f (iI S.2.2.2.2.1.length)) 18 f (iI S.2.2.2.2.2.2.2)) 19 f (iI pt)) 20 f (iI wy)) 21 f (iI S.2.2.2.2.2.1.length)) 24 f (-1)) 16 0) 10 0) 17 (iI ((S.2.2.2.2.2.2.2 + 1 : Nat) : Int))) := (((((((((Ch.rf s).r (by decide)).r (by decide)).r (by decide)).r (by decide)).r (by decide)).r (by decide)).i (by decide)).i (by decide)).i (by decide)
  have e10 : (sI (sI (sI (sR (sR (sR (sR (sR (sR s 23 f (iI S.2.2.2.2.1.length)) 18 f (iI S.2.2.2.2.2.2.2)) 19 f (iI pt)) 20 f (iI wy)) 21 f (iI S.2.2.2.2.2.1.length)) 24 f (-1)) 16 0) 10 0) 17 (iI ((S.2.2.2.2.2.2.2 + 1 : Nat) : Int))).1 10 = 0 := by rw [sI_ne (by decide), sI_at]
  have e16 : (sI (sI (sI (sR (sR (sR (sR (sR (sR s 23 f (iI S.2.2.2.2.1.length)) 18 f (iI S.2.2.2.2.2.2.2)) 19 f (iI pt)) 20 f (iI wy)) 21 f (iI S.2.2.2.2.2.1.length)) 24 f (-1)) 16 0) 10 0) 17 (iI ((S.2.2.2.2.2.2.2 + 1 : Nat) : Int))).1 16 = 0 := by rw [sI_ne (by decide), sI_ne (by decide), sI_at]
  have e17 : (sI (sI (sI (sR (sR (sR (sR (sR (sR s 23 f (iI S.2.2.2.2.1.length)) 18 f (iI S.2.2.2.2.2.2.2)) 19 f (iI pt)) 20 f (iI wy)) 21 f (iI S.2.2.2.2.2.1.length)) 24 f (-1)) 16 0) 10 0) 17 (iI ((S.2.2.2.2.2.2.2 + 1 : Nat) : Int))).1 17 = iI ((S.2.2.2.2.2.2.2 + 1 : Nat) : Int) := sI_at
  have g23 : ∀ d, (sI (sI (sI (sR (sR (sR (sR (sR (sR s 23 f (iI S.2.2.2.2.1.length)) 18 f (iI S.2.2.2.2.2.2.2)) 19 f (iI pt)) 20 f (iI wy)) 21 f (iI S.2.2.2.2.2.1.length)) 24 f (-1)) 16 0) 10 0) 17 (iI ((S.2.2.2.2.2.2.2 + 1 : Nat) : Int))).2 23 d = upd (s.2 23) f (iI S.2.2.2.2.1.length) d := fun d => by rw [sI_2, sI_2, sI_2, sR_ne (by decide), sR_ne (by decide), sR_ne (by decide), sR_ne (by decide), sR_ne (by decide), sR_at]
  have g18 : ∀ d, (sI (sI (sI (sR (sR (sR (sR (sR (sR s 23 f (iI S.2.2.2.2.1.length)) 18 f (iI S.2.2.2.2.2.2.2)) 19 f (iI pt)) 20 f (iI wy)) 21 f (iI S.2.2.2.2.2.1.length)) 24 f (-1)) 16 0) 10 0) 17 (iI ((S.2.2.2.2.2.2.2 + 1 : Nat) : Int))).2 18 d = upd (s.2 18) f (iI S.2.2.2.2.2.2.2) d := fun d => by rw [sI_2, sI_2, sI_2, sR_ne (by decide), sR_ne (by decide), sR_ne (by decide), sR_ne (by decide), sR_at, sR_ne (by decide)]
  have g19 : ∀ d, (sI (sI (sI (sR (sR (sR (sR (sR (sR s 23 f (iI S.2.2.2.2.1.length)) 18 f (iI S.2.2.2.2.2.2.2)) 19 f (iI pt)) 20 f (iI wy)) 21 f (iI S.2.2.2.2.2.1.length)) 24 f (-1)) 16 0) 10 0) 17 (iI ((S.2.2.2.2.2.2.2 + 1 : Nat) : Int))).2 19 d = upd (s.2 19) f (iI pt) d := fun d => by rw [sI_2, sI_2, sI_2, sR_ne (by decide), sR_ne (by decide), sR_ne (by decide), sR_at, sR_ne (by decide), sR_ne (by decide)]
  have g20 : ∀ d, (sI (sI (sI (sR (sR (sR (sR (sR (sR s 23 f (iI S.2.2.2.2.1.length)) 18 f (iI S.2.2.2.2.2.2.2)) 19 f (iI pt)) 20 f (iI wy)) 21 f (iI S.2.2.2.2.2.1.length)) 24 f (-1)) 16 0) 10 0) 17 (iI ((S.2.2.2.2.2.2.2 + 1 : Nat) : Int))).2 20 d = upd (s.2 20) f (iI wy) d := fun d => by rw [sI_2, sI_2, sI_2, sR_ne (by decide), sR_ne (by decide), sR_at, sR_ne (by decide), sR_ne (by decide), sR_ne (by decide)]
  have g21 : ∀ d, (sI (sI (sI (sR (sR (sR (sR (sR (sR s 23 f (iI S.2.2.2.2.1.length)) 18 f (iI S.2.2.2.2.2.2.2)) 19 f (iI pt)) 20 f (iI wy)) 21 f (iI S.2.2.2.2.2.1.length)) 24 f (-1)) 16 0) 10 0) 17 (iI ((S.2.2.2.2.2.2.2 + 1 : Nat) : Int))).2 21 d = upd (s.2 21) f (iI S.2.2.2.2.2.1.length) d := fun d => by rw [sI_2, sI_2, sI_2, sR_ne (by decide), sR_at, sR_ne (by decide), sR_ne (by decide), sR_ne (by decide), sR_ne (by decide)]
  have g24 : ∀ d, (sI (sI (sI (sR (sR (sR (sR (sR (sR s 23 f (iI S.2.2.2.2.1.length)) 18 f (iI S.2.2.2.2.2.2.2)) 19 f (iI pt)) 20 f (iI wy)) 21 f (iI S.2.2.2.2.2.1.length)) 24 f (-1)) 16 0) 10 0) 17 (iI ((S.2.2.2.2.2.2.2 + 1 : Nat) : Int))).2 24 d = upd (s.2 24) f (-1) d := fun d => by rw [sI_2, sI_2, sI_2, sR_at, sR_ne (by decide), sR_ne (by decide), sR_ne (by decide), sR_ne (by decide), sR_ne (by decide)]
  generalize sI (sI (sI (sR (sR (sR (sR (sR (sR s 23 f (iI S.2.2.2.2.1.length)) 18 f (iI S.2.2.2.2.2.2.2)) 19 f (iI pt)) 20 f (iI wy)) 21 f (iI S.2.2.2.2.2.1.length)) 24 f (-1)) 16 0) 10 0) 17 (iI ((S.2.2.2.2.2.2.2 + 1 : Nat) : Int)) = t at *
  obtain ⟨q1, q2, q3, q4, q5, q6⟩ := hP
  have new : Sp t f (S.2.2.2.2.2.2.2, pt, wy, S.2.2.2.2.2.1, S.2.2.2.2.1, none) := by
    refine ⟨hf, ⟨?_, ?_⟩, ⟨hp9, ?_⟩, ⟨hw1, hw2, ?_⟩, ⟨hd4, ?_⟩, fun i m hm => hC.mr (hdr i m hm) (by decide), ⟨hf, hT.1, ?_, fun j hj => ⟨?_, ?_⟩⟩, ?_⟩
    · show S.2.2.2.2.2.2.2 < 100000
      omega
    · rw [g18, pk_us]; rfl
    · rw [g19, pk_us]; rfl
    · rw [g20, pk_us]; rfl
    · rw [g21, pk_us]; rfl
    · rw [g23, pk_us]; rfl
    · have := (hT.2.2 j hj).1
      show 0 < S.2.2.2.2.1.getD j 0 ∧ S.2.2.2.2.1.getD j 0 < 256
      omega
    · rw [hC.2 22 (by decide)]
      exact ht j hj
    · show t.2 24 f = iI (-1)
      rw [g24, pk_us]
      rfl
  have hidz : ∀ z ∈ PL, sbI z.2 < S.2.2.2.2.2.2.2 := fun z hz => hid z.2 (by rw [hL]; exact List.mem_map_of_mem hz)
  refine hQ t ⟨fun c hc => hC.rc (h1 c hc) (by decide), ⟨hC.jo h2.1 (by decide) (by decide) (by decide) (by decide), h2.2⟩, by rw [hC.1 7 (by decide)]; exact h3, hC.sc h4 (by decide), ⟨by simp [a_sS], e10, fun j hj => absurd hj (by simp [a_sS])⟩, ⟨by simp [a_sS], e16, fun k x hx => by simp [a_sS] at hx⟩, ⟨PL ++ [(f, (S.2.2.2.2.2.2.2, pt, wy, S.2.2.2.2.2.1, S.2.2.2.2.1, none))], ?_, ?_, ?_, ?_, ?_, ?_, ?_⟩, e17, ?_⟩
  · unfold a_sS
    dsimp only
    rw [hL, List.map_append]
    rfl
  · intro z hz
    rcases List.mem_append.mp hz with y | y
    · have hz1 := hfree z y
      refine (q1 z y).eq (fun r hr => ?_) (fun j _ => by rw [hC.2 22 (by decide)]) (fun i m _ hm => hC.mr hm (by decide))
      simp only [List.mem_cons, List.not_mem_nil, or_false] at hr
      rcases hr with rfl | rfl | rfl | rfl | rfl | rfl | rfl | rfl
      · rw [g18, pk_un hz1]
      · rw [g19, pk_un hz1]
      · rw [g20, pk_un hz1]
      · rw [g21, pk_un hz1]
      · rw [g23, pk_un hz1]
      · rw [g24, pk_un hz1]
      · rw [hC.2 25 (by decide)]
      · rw [hC.2 26 (by decide)]
    · rw [List.mem_singleton.mp y]
      exact new
  · rw [List.map_append, List.nodup_append]
    refine ⟨q2, by simp, fun a ha b hb => ?_⟩
    obtain ⟨z, hz, rfl⟩ := List.mem_map.mp ha
    have : b = f := by simpa using hb
    rw [this]
    exact hfree z hz
  · intro y hy z hz he
    rcases List.mem_append.mp hy with a | a <;> rcases List.mem_append.mp hz with b | b
    · exact q3 y a z b he
    · rw [List.mem_singleton.mp b] at he
      exact absurd he (hfree y a)
    · rw [List.mem_singleton.mp a] at he
      exact absurd he.symm (hfree z b)
    · rw [List.mem_singleton.mp a, List.mem_singleton.mp b]
  · intro y hy z hz he
    rcases List.mem_append.mp hy with a | a <;> rcases List.mem_append.mp hz with b | b
    · exact q4 y a z b he
    · rw [List.mem_singleton.mp b] at he
      have := hidz y a
      have he : sbI y.2 = S.2.2.2.2.2.2.2 := he
      omega
    · rw [List.mem_singleton.mp a] at he
      have := hidz z b
      have he : S.2.2.2.2.2.2.2 = sbI z.2 := he
      omega
    · rw [List.mem_singleton.mp a, List.mem_singleton.mp b]
  · intro k hk hz
    have hkf : k ≠ f := fun e => hz _ (List.mem_append_right _ (List.mem_singleton.mpr rfl)) e.symm
    rw [g18, pk_un hkf]
    exact q5 k hk (fun z h => hz z (List.mem_append_left _ h))
  · rw [List.map_append]
    refine srt_snoc q6 (fun y hy => ?_)
    obtain ⟨z, hz, rfl⟩ := List.mem_map.mp hy
    exact hidz z hz
  · intro x hx
    unfold a_sS at hx ⊢
    dsimp only at hx ⊢
    rcases List.mem_append.mp hx with y | y
    · have := hid x y
      omega
    · rw [List.mem_singleton.mp y]
      exact Nat.lt_succ_self _
theorem sm_stub (hp : rng p) (hw : rng w) (h : Rl s0 S) (hnx : S.2.2.2.2.2.2.2 < 90000) (h0 : ¬ a_sok p w S → ∀ s', Rl s' S → Q (iI (-1)) s') (h1 : a_sok p w S → ∀ s', Rl s' (a_sS p w S) → Q (iI S.2.2.2.2.2.2.2) s') : vp_M_stub (iI p) (iI w) s0 Q := by
  obtain ⟨p1, p2⟩ := hp
  obtain ⟨w1, w2⟩ := hw
  have hh := h
  obtain ⟨r1, r2, r3, r4, r5⟩ := h
  obtain ⟨a, b, ⟨PL, hL, hP⟩, d, e⟩ := r5
  have hlen : S.2.2.2.2.2.2.1.length = PL.length := by rw [hL, List.length_map]
  refine ⟨9, sl_stub5 hP (fun o ho => ?_) 8 0 none (by omega) (fun i hi => absurd hi (by omega))⟩
  unfold vq_M_stub_35
  by_cases q1 : p < 0
  · rw [if_pos (by simp (disch := omega) only [iI_lit, iI_add, iI_sub, iI_mul, iI_neg, iI_lt, iI_le, iI_eq] <;> omega)]
    exact h0 (fun z => by have := z.1; omega) s0 hh
  rw [if_neg (by simp (disch := omega) only [iI_lit, iI_add, iI_sub, iI_mul, iI_neg, iI_lt, iI_le, iI_eq] <;> omega)]
  by_cases q2 : 9 < p
  · rw [if_pos (by simp (disch := omega) only [iI_lit, iI_add, iI_sub, iI_mul, iI_neg, iI_lt, iI_le, iI_eq] <;> omega)]
    exact h0 (fun z => by have := z.2.1; omega) s0 hh
  rw [if_neg (by simp (disch := omega) only [iI_lit, iI_add, iI_sub, iI_mul, iI_neg, iI_lt, iI_le, iI_eq] <;> omega)]
  by_cases q3 : w < 100
  · rw [if_pos (by simp (disch := omega) only [iI_lit, iI_add, iI_sub, iI_mul, iI_neg, iI_lt, iI_le, iI_eq] <;> omega)]
    exact h0 (fun z => by have := z.2.2.1; omega) s0 hh
  rw [if_neg (by simp (disch := omega) only [iI_lit, iI_add, iI_sub, iI_mul, iI_neg, iI_lt, iI_le, iI_eq] <;> omega)]
  by_cases q4 : 599 < w
  · rw [if_pos (by simp (disch := omega) only [iI_lit, iI_add, iI_sub, iI_mul, iI_neg, iI_lt, iI_le, iI_eq] <;> omega)]
    exact h0 (fun z => by have := z.2.2.2.1; omega) s0 hh
  rw [if_neg (by simp (disch := omega) only [iI_lit, iI_add, iI_sub, iI_mul, iI_neg, iI_lt, iI_le, iI_eq] <;> omega)]
  cases o with
  | none =>
    rw [if_neg (by decide)]
    refine h0 (fun z => ?_) s0 hh
    have h8 := z.2.2.2.2
    rw [hlen] at h8
    have := nd_len (List.range 8) (PL.map (fun z => z.1)) (by decide) (fun x hx => by
      obtain ⟨z, hz, hzx⟩ := ho x (List.mem_range.mp hx)
      rw [← hzx]
      exact List.mem_map_of_mem hz)
    rw [List.length_map, List.length_range] at this
    omega
  | some f =>
    dsimp only at ho
    have hf := ho.1
    have h8 : PL.length < 8 := by
      have := nd_len (f :: PL.map (fun z => z.1)) (List.range 8) (List.nodup_cons.mpr ⟨fun z => by
        obtain ⟨y, hy, hyf⟩ := List.mem_map.mp z
        exact ho.2 y hy hyf, hP.2.1⟩) (fun x hx => by
        rw [List.mem_range]
        rcases List.mem_cons.mp hx with z | z
        · rw [z]
          exact hf
        · obtain ⟨y, hy, hyf⟩ := List.mem_map.mp z
          rw [← hyf]
          exact (hP.1 y hy).1)
      rw [List.length_cons, List.length_map, List.length_range] at this
      omega
    rw [show frI (some f) = (f : Int) from rfl, if_pos (by simp (disch := omega) only [iI_lit, iI_add, iI_sub, iI_mul, iI_neg, iI_lt, iI_le, iI_eq] <;> omega)]
    have h1 := h1 ⟨by omega, by omega, by omega, by omega, by rw [hlen]; exact h8⟩
    obtain ⟨pt, rfl⟩ : ∃ pt : Nat, p = pt := ⟨p.toNat, by omega⟩
    obtain ⟨wy, rfl⟩ : ∃ wy : Nat, w = wy := ⟨w.toNat, by omega⟩
    refine ⟨_, sl_stub67 (s0 := s0) hf b (fun s2 c2 m2 d2 => ?_) S.2.2.2.2.2.1.length 0 s0 (by omega) (Ch.rf _) (fun m x _ hx => hx) (fun i x hi => absurd hi (by omega))⟩
    have ht2 : RT s2 S.2.2.2.2.1 := ⟨a.1, by rw [c2.1 10 (by decide)]; exact a.2.1, fun j hj => by rw [c2.2 9 (by decide)]; exact a.2.2 j hj⟩
    refine ⟨_, sl_stub193 (s0 := s2) hf ht2 (fun s3 c3 e3 g3 => ?_) S.2.2.2.2.1.length 0 s2 (by omega) (Ch.rf _) (fun _ _ => rfl) (fun i hi => absurd hi (by omega))⟩
    have hC : Ch [] [11, 12, 13, 14, 15, 22] s0 s3 := (c2.mo (by decide) (by decide)).tr (c3.mo (by decide) (by decide))
    refine sm_stub227 (S := S) (PL := PL) hf ho.2 (by omega) (by omega) (by omega) hnx (fun c hc => hC.rc (r1 c hc) (by decide)) ⟨hC.jo r2.1 (by decide) (by decide) (by decide) (by decide), r2.2⟩ (by rw [hC.1 7 (by decide)]; exact r3) (hC.sc r4 (by decide)) ⟨a.1, by rw [hC.1 10 (by decide)]; exact a.2.1, fun j hj => by rw [hC.2 9 (by decide)]; exact a.2.2 j hj⟩ b.1 (by rw [hC.1 16 (by decide)]; exact b.2.1) (fun i x hx => c3.mr (d2 i x hx) (by decide)) hL ?_ (by rw [hC.1 17 (by decide)]; exact d) e g3 h1
    obtain ⟨t1, t2, t3, t4, t5, t6⟩ := hP
    refine ⟨fun z hz => (t1 z hz).eq (fun r hr => ?_) (fun j hj => ?_) (fun i m hi hm => c3.mr (m2 _ m ?_ hm) (by decide)), t2, t3, t4, fun k hk hz => by rw [hC.2 18 (by decide)]; exact t5 k hk hz, t6⟩
    · simp only [List.mem_cons, List.not_mem_nil, or_false] at hr
      rw [hC.2 r (by simp; omega)]
    · have hzf := ho.2 z hz
      rw [e3 _ (by omega), c2.2 22 (by decide)]
    · have hzf := ho.2 z hz
      omega
end SU
