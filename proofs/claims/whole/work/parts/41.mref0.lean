def vp_M_byteAt (p0 : Int32) (s : RS) (Q : Int32 → RS → Prop) : Prop := wL (s.1 28) (fun x1 => if x1 ≤ p0 then (Q ((-1) : Int32) s) else (wL (s.1 27) (fun x2 => vA s 0 (x2 + p0) (fun x3 => Q x3 s))))
set_option maxRecDepth 100000 in
set_option maxHeartbeats 4000000 in
theorem vs_M_byteAt {A0 : ab_H} {a : Nat} {R : Nat → Nat} {p0 : Int32} {A : ab_H} {s : RS} {Q : Int32 → ab_H → Prop} {QV : Int32 → RS → Prop} (H : Me A0 A a R s) (hv : vp_M_byteAt p0 s QV) (hQ : ∀ v (s : RS) (A : ab_H), Me A0 A a R s → QV v s → Q v A) : wp_M_byteAt a p0 A Q := by
  unfold vp_M_byteAt at hv
  unfold wp_M_byteAt
  refine me_gI H rfl (Nat.le_of_ble_eq_true rfl) hv (fun x1 hv => ?_)
  refine me_if hv (fun hv => ?_) (fun hv => ?_)
  · exact hQ _ _ _ H hv
  · refine me_gR H rfl (Nat.le_of_ble_eq_true rfl) ?_
    refine me_gI H rfl (Nat.le_of_ble_eq_true rfl) hv (fun x2 hv => ?_)
    refine me_l H rfl rfl hv (fun x3 hv => ?_)
    exact hQ _ _ _ H hv
def vq_M_lineEnd_73 (p0 : Int32) (p1 : Int32) (p2 : Int32) (Q : Int32 → RS → Prop) (k6 : Int32 → Int32 → RS → Prop) (u5 : Int32) (u6 : Int32) (s : RS) : Prop := if u6 = (13 : Int32) then (k6 u6 (u5 + 1) s) else (if (u5 - p0) < p1 then (k6 u6 (u5 + 1) s) else (Q (-p2) s))
set_option maxRecDepth 100000 in
set_option maxHeartbeats 4000000 in
theorem vsq_M_lineEnd_73 {A0 : ab_H} {a : Nat} {R : Nat → Nat} {p0 : Int32} {p1 : Int32} {p2 : Int32} {Q : Int32 → ab_H → Prop} {QV : Int32 → RS → Prop} {k6 : Int32 → Int32 → ab_H → Prop} {kv6 : Int32 → Int32 → RS → Prop} (hQ : ∀ v (s : RS) (A : ab_H), Me A0 A a R s → QV v s → Q v A) (hk6 : ∀ (u4 : Int32) (u5 : Int32) (A : ab_H) (s : RS), Me A0 A a R s → kv6 u4 u5 s → k6 u4 u5 A) : ∀ (u5 : Int32) (u6 : Int32) (A : ab_H) (s : RS), Me A0 A a R s → vq_M_lineEnd_73 p0 p1 p2 QV kv6 u5 u6 s → wq_M_lineEnd_73 a p0 p1 p2 Q k6 u5 u6 A := by
  intro u5 u6 A s H hv
  unfold vq_M_lineEnd_73 at hv
  unfold wq_M_lineEnd_73
  refine me_if hv (fun hv => ?_) (fun hv => ?_)
  · exact hk6 _ _ _ _ H hv
  · refine me_if hv (fun hv => ?_) (fun hv => ?_)
    · exact hk6 _ _ _ _ H hv
    · exact hQ _ _ _ H hv
def vq_M_lineEnd_30 (p0 : Int32) (p1 : Int32) (p2 : Int32) (Q : Int32 → RS → Prop)  (u5 : Int32) (u6 : Int32) (s : RS) : Prop := if u6 = (10 : Int32) then (Q (u5 + (1 : Int32)) s) else (Q ((-400) : Int32) s)
set_option maxRecDepth 100000 in
set_option maxHeartbeats 4000000 in
theorem vsq_M_lineEnd_30 {A0 : ab_H} {a : Nat} {R : Nat → Nat} {p0 : Int32} {p1 : Int32} {p2 : Int32} {Q : Int32 → ab_H → Prop} {QV : Int32 → RS → Prop}  (hQ : ∀ v (s : RS) (A : ab_H), Me A0 A a R s → QV v s → Q v A)  : ∀ (u5 : Int32) (u6 : Int32) (A : ab_H) (s : RS), Me A0 A a R s → vq_M_lineEnd_30 p0 p1 p2 QV  u5 u6 s → wq_M_lineEnd_30 a p0 p1 p2 Q  u5 u6 A := by
  intro u5 u6 A s H hv
  unfold vq_M_lineEnd_30 at hv
  unfold wq_M_lineEnd_30
  refine me_if hv (fun hv => ?_) (fun hv => ?_)
  · exact hQ _ _ _ H hv
  · exact hQ _ _ _ H hv
def vb_M_lineEnd_6 (p0 : Int32) (p1 : Int32) (p2 : Int32) (Q : Int32 → RS → Prop)  (k6 : Int32 → Int32 → RS → Prop) (u4 : Int32) (u5 : Int32) (s : RS) : Prop := wL (s.1 28) (fun x1 => if x1 ≤ u5 then (Q (0 : Int32) s) else (vp_M_byteAt u5 s (fun x2 s => if u4 = (13 : Int32) then (vq_M_lineEnd_30 p0 p1 p2 Q  u5 x2 s) else (if x2 = (13 : Int32) then (vq_M_lineEnd_73 p0 p1 p2 Q k6 u5 x2 s) else (if x2 < (32 : Int32) then (Q ((-400) : Int32) s) else (if x2 ≤ (126 : Int32) then (vq_M_lineEnd_73 p0 p1 p2 Q k6 u5 x2 s) else (Q ((-400) : Int32) s)))))))
def vq_M_lineEnd_6 (p0 : Int32) (p1 : Int32) (p2 : Int32) (Q : Int32 → RS → Prop)  : Nat → Int32 → Int32 → RS → Prop
  | 0 => fun _ _ _ => False
  | n + 1 => vb_M_lineEnd_6 p0 p1 p2 Q  (vq_M_lineEnd_6 p0 p1 p2 Q  n)
set_option maxRecDepth 100000 in
set_option maxHeartbeats 4000000 in
theorem vsq_M_lineEnd_6 {A0 : ab_H} {a : Nat} {R : Nat → Nat} {p0 : Int32} {p1 : Int32} {p2 : Int32} {Q : Int32 → ab_H → Prop} {QV : Int32 → RS → Prop}  (hQ : ∀ v (s : RS) (A : ab_H), Me A0 A a R s → QV v s → Q v A)  : ∀ (n : Nat) (u4 : Int32) (u5 : Int32) (A : ab_H) (s : RS), Me A0 A a R s → vq_M_lineEnd_6 p0 p1 p2 QV  n u4 u5 s → wq_M_lineEnd_6 a p0 p1 p2 Q  n u4 u5 A := by
  intro n
  induction n with
  | zero =>
    intro u4 u5 A s H hv
    exact absurd hv id
  | succ n hk6 =>
    intro u4 u5 A s H hv
    have hv : vb_M_lineEnd_6 p0 p1 p2 QV  (vq_M_lineEnd_6 p0 p1 p2 QV  n) u4 u5 s := hv
    show wb_M_lineEnd_6 a p0 p1 p2 Q  (wq_M_lineEnd_6 a p0 p1 p2 Q  n) u4 u5 A
    unfold vb_M_lineEnd_6 at hv
    unfold wb_M_lineEnd_6
    refine me_gI H rfl (Nat.le_of_ble_eq_true rfl) hv (fun x1 hv => ?_)
    refine me_if hv (fun hv => ?_) (fun hv => ?_)
    · exact hQ _ _ _ H hv
    · refine me_c H (vs_M_byteAt H hv (fun x2 s A H hv => ?_))
      refine me_if hv (fun hv => ?_) (fun hv => ?_)
      · exact vsq_M_lineEnd_30 hQ  _ _ _ _ H hv
      · refine me_if hv (fun hv => ?_) (fun hv => ?_)
        · exact vsq_M_lineEnd_73 hQ hk6 _ _ _ _ H hv
        · refine me_if hv (fun hv => ?_) (fun hv => ?_)
          · exact hQ _ _ _ H hv
          · refine me_if hv (fun hv => ?_) (fun hv => ?_)
            · exact vsq_M_lineEnd_73 hQ hk6 _ _ _ _ H hv
            · exact hQ _ _ _ H hv
def vp_M_lineEnd (p0 : Int32) (p1 : Int32) (p2 : Int32) (s : RS) (Q : Int32 → RS → Prop) : Prop := ∃ n, vq_M_lineEnd_6 p0 p1 p2 Q  n (0 : Int32) p0 s
set_option maxRecDepth 100000 in
set_option maxHeartbeats 4000000 in
theorem vs_M_lineEnd {A0 : ab_H} {a : Nat} {R : Nat → Nat} {p0 : Int32} {p1 : Int32} {p2 : Int32} {A : ab_H} {s : RS} {Q : Int32 → ab_H → Prop} {QV : Int32 → RS → Prop} (H : Me A0 A a R s) (hv : vp_M_lineEnd p0 p1 p2 s QV) (hQ : ∀ v (s : RS) (A : ab_H), Me A0 A a R s → QV v s → Q v A) : wp_M_lineEnd a p0 p1 p2 A Q := by
  unfold vp_M_lineEnd at hv
  unfold wp_M_lineEnd
  obtain ⟨n, hv⟩ := hv
  exact ⟨n, vsq_M_lineEnd_6 hQ  n _ _ _ _ H hv⟩
def vb_M_seek_3 (p0 : Int32) (p1 : Int32) (p2 : Int32) (Q : Int32 → RS → Prop)  (k3 : Int32 → RS → Prop) (u4 : Int32) (s : RS) : Prop := if p2 ≤ u4 then (Q p2 s) else (vp_M_byteAt u4 s (fun x1 s => if x1 = p0 then (Q u4 s) else (k3 (u4 + 1) s)))
def vq_M_seek_3 (p0 : Int32) (p1 : Int32) (p2 : Int32) (Q : Int32 → RS → Prop)  : Nat → Int32 → RS → Prop
  | 0 => fun _ _ => False
  | n + 1 => vb_M_seek_3 p0 p1 p2 Q  (vq_M_seek_3 p0 p1 p2 Q  n)
set_option maxRecDepth 100000 in
set_option maxHeartbeats 4000000 in
theorem vsq_M_seek_3 {A0 : ab_H} {a : Nat} {R : Nat → Nat} {p0 : Int32} {p1 : Int32} {p2 : Int32} {Q : Int32 → ab_H → Prop} {QV : Int32 → RS → Prop}  (hQ : ∀ v (s : RS) (A : ab_H), Me A0 A a R s → QV v s → Q v A)  : ∀ (n : Nat) (u4 : Int32) (A : ab_H) (s : RS), Me A0 A a R s → vq_M_seek_3 p0 p1 p2 QV  n u4 s → wq_M_seek_3 a p0 p1 p2 Q  n u4 A := by
  intro n
  induction n with
  | zero =>
    intro u4 A s H hv
    exact absurd hv id
  | succ n hk3 =>
    intro u4 A s H hv
    have hv : vb_M_seek_3 p0 p1 p2 QV  (vq_M_seek_3 p0 p1 p2 QV  n) u4 s := hv
    show wb_M_seek_3 a p0 p1 p2 Q  (wq_M_seek_3 a p0 p1 p2 Q  n) u4 A
    unfold vb_M_seek_3 at hv
    unfold wb_M_seek_3
    refine me_if hv (fun hv => ?_) (fun hv => ?_)
    · exact hQ _ _ _ H hv
    · refine me_c H (vs_M_byteAt H hv (fun x1 s A H hv => ?_))
      refine me_if hv (fun hv => ?_) (fun hv => ?_)
      · exact hQ _ _ _ H hv
      · exact hk3 _ _ _ H hv
def vp_M_seek (p0 : Int32) (p1 : Int32) (p2 : Int32) (s : RS) (Q : Int32 → RS → Prop) : Prop := ∃ n, vq_M_seek_3 p0 p1 p2 Q  n p1 s
set_option maxRecDepth 100000 in
set_option maxHeartbeats 4000000 in
theorem vs_M_seek {A0 : ab_H} {a : Nat} {R : Nat → Nat} {p0 : Int32} {p1 : Int32} {p2 : Int32} {A : ab_H} {s : RS} {Q : Int32 → ab_H → Prop} {QV : Int32 → RS → Prop} (H : Me A0 A a R s) (hv : vp_M_seek p0 p1 p2 s QV) (hQ : ∀ v (s : RS) (A : ab_H), Me A0 A a R s → QV v s → Q v A) : wp_M_seek a p0 p1 p2 A Q := by
  unfold vp_M_seek at hv
  unfold wp_M_seek
  obtain ⟨n, hv⟩ := hv
  exact ⟨n, vsq_M_seek_3 hQ  n _ _ _ H hv⟩
def vp_M_pathAt  (s : RS) (Q : Int32 → RS → Prop) : Prop := wL (s.1 28) (fun x1 => vp_M_seek (32 : Int32) (0 : Int32) x1 s (fun x2 s => Q (x2 + (1 : Int32)) s))
set_option maxRecDepth 100000 in
set_option maxHeartbeats 4000000 in
theorem vs_M_pathAt {A0 : ab_H} {a : Nat} {R : Nat → Nat}  {A : ab_H} {s : RS} {Q : Int32 → ab_H → Prop} {QV : Int32 → RS → Prop} (H : Me A0 A a R s) (hv : vp_M_pathAt  s QV) (hQ : ∀ v (s : RS) (A : ab_H), Me A0 A a R s → QV v s → Q v A) : wp_M_pathAt a  A Q := by
  unfold vp_M_pathAt at hv
  unfold wp_M_pathAt
  refine me_gI H rfl (Nat.le_of_ble_eq_true rfl) hv (fun x1 hv => ?_)
  refine me_c H (vs_M_seek H hv (fun x2 s A H hv => ?_))
  exact hQ _ _ _ H hv
def vp_M_targetEnd  (s : RS) (Q : Int32 → RS → Prop) : Prop := vp_M_pathAt  s (fun x1 s => wL (s.1 28) (fun x2 => vp_M_seek (32 : Int32) x1 x2 s (fun x3 s => Q x3 s)))
set_option maxRecDepth 100000 in
set_option maxHeartbeats 4000000 in
theorem vs_M_targetEnd {A0 : ab_H} {a : Nat} {R : Nat → Nat}  {A : ab_H} {s : RS} {Q : Int32 → ab_H → Prop} {QV : Int32 → RS → Prop} (H : Me A0 A a R s) (hv : vp_M_targetEnd  s QV) (hQ : ∀ v (s : RS) (A : ab_H), Me A0 A a R s → QV v s → Q v A) : wp_M_targetEnd a  A Q := by
  unfold vp_M_targetEnd at hv
  unfold wp_M_targetEnd
  refine me_c H (vs_M_pathAt H hv (fun x1 s A H hv => ?_))
  refine me_gI H rfl (Nat.le_of_ble_eq_true rfl) hv (fun x2 hv => ?_)
  refine me_c H (vs_M_seek H hv (fun x3 s A H hv => ?_))
  exact hQ _ _ _ H hv
def vp_M_pathEnd  (s : RS) (Q : Int32 → RS → Prop) : Prop := vp_M_pathAt  s (fun x1 s => vp_M_targetEnd  s (fun x2 s => vp_M_seek (63 : Int32) x1 x2 s (fun x3 s => Q x3 s)))
set_option maxRecDepth 100000 in
set_option maxHeartbeats 4000000 in
theorem vs_M_pathEnd {A0 : ab_H} {a : Nat} {R : Nat → Nat}  {A : ab_H} {s : RS} {Q : Int32 → ab_H → Prop} {QV : Int32 → RS → Prop} (H : Me A0 A a R s) (hv : vp_M_pathEnd  s QV) (hQ : ∀ v (s : RS) (A : ab_H), Me A0 A a R s → QV v s → Q v A) : wp_M_pathEnd a  A Q := by
  unfold vp_M_pathEnd at hv
  unfold wp_M_pathEnd
  refine me_c H (vs_M_pathAt H hv (fun x1 s A H hv => ?_))
  refine me_c H (vs_M_targetEnd H hv (fun x2 s A H hv => ?_))
  refine me_c H (vs_M_seek H hv (fun x3 s A H hv => ?_))
  exact hQ _ _ _ H hv
def vq_M_hex_41 (p0 : Int32) (Q : Int32 → RS → Prop)   (s : RS) : Prop := if p0 < (65 : Int32) then (Q ((-1) : Int32) s) else (if (70 : Int32) < p0 then (Q ((-1) : Int32) s) else (Q ((p0 - (65 : Int32)) + (10 : Int32)) s))
set_option maxRecDepth 100000 in
set_option maxHeartbeats 4000000 in
theorem vsq_M_hex_41 {A0 : ab_H} {a : Nat} {R : Nat → Nat} {p0 : Int32} {Q : Int32 → ab_H → Prop} {QV : Int32 → RS → Prop}  (hQ : ∀ v (s : RS) (A : ab_H), Me A0 A a R s → QV v s → Q v A)  : ∀ (A : ab_H) (s : RS), Me A0 A a R s → vq_M_hex_41 p0 QV   s → wq_M_hex_41 p0 Q   A := by
  intro  A s H hv
  unfold vq_M_hex_41 at hv
  unfold wq_M_hex_41
  refine me_if hv (fun hv => ?_) (fun hv => ?_)
  · exact hQ _ _ _ H hv
  · refine me_if hv (fun hv => ?_) (fun hv => ?_)
    · exact hQ _ _ _ H hv
    · exact hQ _ _ _ H hv
def vq_M_hex_19 (p0 : Int32) (Q : Int32 → RS → Prop)   (s : RS) : Prop := if p0 < (97 : Int32) then (vq_M_hex_41 p0 Q   s) else (if (102 : Int32) < p0 then (vq_M_hex_41 p0 Q   s) else (Q ((p0 - (97 : Int32)) + (10 : Int32)) s))
set_option maxRecDepth 100000 in
set_option maxHeartbeats 4000000 in
theorem vsq_M_hex_19 {A0 : ab_H} {a : Nat} {R : Nat → Nat} {p0 : Int32} {Q : Int32 → ab_H → Prop} {QV : Int32 → RS → Prop}  (hQ : ∀ v (s : RS) (A : ab_H), Me A0 A a R s → QV v s → Q v A)  : ∀ (A : ab_H) (s : RS), Me A0 A a R s → vq_M_hex_19 p0 QV   s → wq_M_hex_19 p0 Q   A := by
  intro  A s H hv
  unfold vq_M_hex_19 at hv
  unfold wq_M_hex_19
  refine me_if hv (fun hv => ?_) (fun hv => ?_)
  · exact vsq_M_hex_41 hQ  _ _ H hv
  · refine me_if hv (fun hv => ?_) (fun hv => ?_)
    · exact vsq_M_hex_41 hQ  _ _ H hv
    · exact hQ _ _ _ H hv
def vp_M_hex (p0 : Int32) (s : RS) (Q : Int32 → RS → Prop) : Prop := if p0 < (48 : Int32) then (vq_M_hex_19 p0 Q   s) else (if (57 : Int32) < p0 then (vq_M_hex_19 p0 Q   s) else (Q (p0 - (48 : Int32)) s))
set_option maxRecDepth 100000 in
set_option maxHeartbeats 4000000 in
theorem vs_M_hex {A0 : ab_H} {a : Nat} {R : Nat → Nat} {p0 : Int32} {A : ab_H} {s : RS} {Q : Int32 → ab_H → Prop} {QV : Int32 → RS → Prop} (H : Me A0 A a R s) (hv : vp_M_hex p0 s QV) (hQ : ∀ v (s : RS) (A : ab_H), Me A0 A a R s → QV v s → Q v A) : wp_M_hex p0 A Q := by
  unfold vp_M_hex at hv
  unfold wp_M_hex
  refine me_if hv (fun hv => ?_) (fun hv => ?_)
  · exact vsq_M_hex_19 hQ  _ _ H hv
  · refine me_if hv (fun hv => ?_) (fun hv => ?_)
    · exact vsq_M_hex_19 hQ  _ _ H hv
    · exact hQ _ _ _ H hv
def vq_M_coded_94 (p0 : Int32) (p1 : Int32) (Q : Int32 → RS → Prop) (k5 : Int32 → Int32 → RS → Prop) (u3 : Int32) (u4 : Int32) (s0 : Int32) (s : RS) : Prop := if u3 = 0 then (k5 (0 : Int32) (u4 + 1) s) else (if s0 < (32 : Int32) then (k5 (0 : Int32) (u4 + 1) s) else (if (126 : Int32) < s0 then (k5 (0 : Int32) (u4 + 1) s) else (k5 (1 : Int32) (u4 + 1) s)))
set_option maxRecDepth 100000 in
set_option maxHeartbeats 4000000 in
theorem vsq_M_coded_94 {A0 : ab_H} {a : Nat} {R : Nat → Nat} {p0 : Int32} {p1 : Int32} {Q : Int32 → ab_H → Prop} {QV : Int32 → RS → Prop} {k5 : Int32 → Int32 → ab_H → Prop} {kv5 : Int32 → Int32 → RS → Prop} (hQ : ∀ v (s : RS) (A : ab_H), Me A0 A a R s → QV v s → Q v A) (hk5 : ∀ (u3 : Int32) (u4 : Int32) (A : ab_H) (s : RS), Me A0 A a R s → kv5 u3 u4 s → k5 u3 u4 A) : ∀ (u3 : Int32) (u4 : Int32) (s0 : Int32) (A : ab_H) (s : RS), Me A0 A a R s → vq_M_coded_94 p0 p1 QV kv5 u3 u4 s0 s → wq_M_coded_94 a p0 p1 Q k5 u3 u4 s0 A := by
  intro u3 u4 s0 A s H hv
  unfold vq_M_coded_94 at hv
  unfold wq_M_coded_94
  refine me_if hv (fun hv => ?_) (fun hv => ?_)
  · exact hk5 _ _ _ _ H hv
  · refine me_if hv (fun hv => ?_) (fun hv => ?_)
    · exact hk5 _ _ _ _ H hv
    · refine me_if hv (fun hv => ?_) (fun hv => ?_)
      · exact hk5 _ _ _ _ H hv
      · exact hk5 _ _ _ _ H hv
def vq_M_coded_82 (p0 : Int32) (p1 : Int32) (Q : Int32 → RS → Prop) (k5 : Int32 → Int32 → RS → Prop) (u3 : Int32) (u4 : Int32) (s : RS) : Prop := vq_M_coded_94 p0 p1 Q k5 u3 u4 ((-1) : Int32) s
set_option maxRecDepth 100000 in
set_option maxHeartbeats 4000000 in
theorem vsq_M_coded_82 {A0 : ab_H} {a : Nat} {R : Nat → Nat} {p0 : Int32} {p1 : Int32} {Q : Int32 → ab_H → Prop} {QV : Int32 → RS → Prop} {k5 : Int32 → Int32 → ab_H → Prop} {kv5 : Int32 → Int32 → RS → Prop} (hQ : ∀ v (s : RS) (A : ab_H), Me A0 A a R s → QV v s → Q v A) (hk5 : ∀ (u3 : Int32) (u4 : Int32) (A : ab_H) (s : RS), Me A0 A a R s → kv5 u3 u4 s → k5 u3 u4 A) : ∀ (u3 : Int32) (u4 : Int32) (A : ab_H) (s : RS), Me A0 A a R s → vq_M_coded_82 p0 p1 QV kv5 u3 u4 s → wq_M_coded_82 a p0 p1 Q k5 u3 u4 A := by
  intro u3 u4 A s H hv
  unfold vq_M_coded_82 at hv
  unfold wq_M_coded_82
  exact vsq_M_coded_94 hQ hk5 _ _ _ _ _ H hv
def vq_M_coded_70 (p0 : Int32) (p1 : Int32) (Q : Int32 → RS → Prop) (k5 : Int32 → Int32 → RS → Prop) (u3 : Int32) (u4 : Int32) (u5 : Int32) (s0 : Int32) (s : RS) : Prop := if u5 < 0 then (vq_M_coded_82 p0 p1 Q k5 u3 u4 s) else (if 0 ≤ s0 then (vq_M_coded_94 p0 p1 Q k5 u3 u4 (((16 : Int32) * u5) + s0) s) else (vq_M_coded_82 p0 p1 Q k5 u3 u4 s))
set_option maxRecDepth 100000 in
set_option maxHeartbeats 4000000 in
theorem vsq_M_coded_70 {A0 : ab_H} {a : Nat} {R : Nat → Nat} {p0 : Int32} {p1 : Int32} {Q : Int32 → ab_H → Prop} {QV : Int32 → RS → Prop} {k5 : Int32 → Int32 → ab_H → Prop} {kv5 : Int32 → Int32 → RS → Prop} (hQ : ∀ v (s : RS) (A : ab_H), Me A0 A a R s → QV v s → Q v A) (hk5 : ∀ (u3 : Int32) (u4 : Int32) (A : ab_H) (s : RS), Me A0 A a R s → kv5 u3 u4 s → k5 u3 u4 A) : ∀ (u3 : Int32) (u4 : Int32) (u5 : Int32) (s0 : Int32) (A : ab_H) (s : RS), Me A0 A a R s → vq_M_coded_70 p0 p1 QV kv5 u3 u4 u5 s0 s → wq_M_coded_70 a p0 p1 Q k5 u3 u4 u5 s0 A := by
  intro u3 u4 u5 s0 A s H hv
  unfold vq_M_coded_70 at hv
  unfold wq_M_coded_70
  refine me_if hv (fun hv => ?_) (fun hv => ?_)
  · exact vsq_M_coded_82 hQ hk5 _ _ _ _ H hv
  · refine me_if hv (fun hv => ?_) (fun hv => ?_)
    · exact vsq_M_coded_94 hQ hk5 _ _ _ _ _ H hv
    · exact vsq_M_coded_82 hQ hk5 _ _ _ _ H hv
def vq_M_coded_45 (p0 : Int32) (p1 : Int32) (Q : Int32 → RS → Prop) (k5 : Int32 → Int32 → RS → Prop) (u3 : Int32) (u4 : Int32) (s0 : Int32) (s : RS) : Prop := if p1 ≤ (u4 + (2 : Int32)) then (vq_M_coded_70 p0 p1 Q k5 u3 u4 s0 ((-1) : Int32) s) else (vp_M_byteAt (u4 + (2 : Int32)) s (fun x1 s => vp_M_hex x1 s (fun x2 s => vq_M_coded_70 p0 p1 Q k5 u3 u4 s0 x2 s)))
set_option maxRecDepth 100000 in
set_option maxHeartbeats 4000000 in
theorem vsq_M_coded_45 {A0 : ab_H} {a : Nat} {R : Nat → Nat} {p0 : Int32} {p1 : Int32} {Q : Int32 → ab_H → Prop} {QV : Int32 → RS → Prop} {k5 : Int32 → Int32 → ab_H → Prop} {kv5 : Int32 → Int32 → RS → Prop} (hQ : ∀ v (s : RS) (A : ab_H), Me A0 A a R s → QV v s → Q v A) (hk5 : ∀ (u3 : Int32) (u4 : Int32) (A : ab_H) (s : RS), Me A0 A a R s → kv5 u3 u4 s → k5 u3 u4 A) : ∀ (u3 : Int32) (u4 : Int32) (s0 : Int32) (A : ab_H) (s : RS), Me A0 A a R s → vq_M_coded_45 p0 p1 QV kv5 u3 u4 s0 s → wq_M_coded_45 a p0 p1 Q k5 u3 u4 s0 A := by
  intro u3 u4 s0 A s H hv
  unfold vq_M_coded_45 at hv
  unfold wq_M_coded_45
  refine me_if hv (fun hv => ?_) (fun hv => ?_)
  · exact vsq_M_coded_70 hQ hk5 _ _ _ _ _ _ H hv
  · refine me_c H (vs_M_byteAt H hv (fun x1 s A H hv => ?_))
    refine vs_M_hex H hv (fun x2 s A H hv => ?_)
    exact vsq_M_coded_70 hQ hk5 _ _ _ _ _ _ H hv
def vb_M_coded_5 (p0 : Int32) (p1 : Int32) (Q : Int32 → RS → Prop)  (k5 : Int32 → Int32 → RS → Prop) (u3 : Int32) (u4 : Int32) (s : RS) : Prop := if p1 ≤ u4 then (wB u3 (Q u3 s)) else (vp_M_byteAt u4 s (fun x3 s => if x3 = (37 : Int32) then (if p1 ≤ (u4 + (2 : Int32)) then (vq_M_coded_45 p0 p1 Q k5 u3 u4 ((-1) : Int32) s) else (vp_M_byteAt (u4 + (1 : Int32)) s (fun x4 s => vp_M_hex x4 s (fun x5 s => vq_M_coded_45 p0 p1 Q k5 u3 u4 x5 s)))) else (k5 u3 (u4 + 1) s)))
def vq_M_coded_5 (p0 : Int32) (p1 : Int32) (Q : Int32 → RS → Prop)  : Nat → Int32 → Int32 → RS → Prop
  | 0 => fun _ _ _ => False
  | n + 1 => vb_M_coded_5 p0 p1 Q  (vq_M_coded_5 p0 p1 Q  n)
set_option maxRecDepth 100000 in
set_option maxHeartbeats 4000000 in
theorem vsq_M_coded_5 {A0 : ab_H} {a : Nat} {R : Nat → Nat} {p0 : Int32} {p1 : Int32} {Q : Int32 → ab_H → Prop} {QV : Int32 → RS → Prop}  (hQ : ∀ v (s : RS) (A : ab_H), Me A0 A a R s → QV v s → Q v A)  : ∀ (n : Nat) (u3 : Int32) (u4 : Int32) (A : ab_H) (s : RS), Me A0 A a R s → vq_M_coded_5 p0 p1 QV  n u3 u4 s → wq_M_coded_5 a p0 p1 Q  n u3 u4 A := by
  intro n
  induction n with
  | zero =>
    intro u3 u4 A s H hv
    exact absurd hv id
  | succ n hk5 =>
    intro u3 u4 A s H hv
    have hv : vb_M_coded_5 p0 p1 QV  (vq_M_coded_5 p0 p1 QV  n) u3 u4 s := hv
    show wb_M_coded_5 a p0 p1 Q  (wq_M_coded_5 a p0 p1 Q  n) u3 u4 A
    unfold vb_M_coded_5 at hv
    unfold wb_M_coded_5
    refine me_if hv (fun hv => ?_) (fun hv => ?_)
    · obtain ⟨hb, hv⟩ := hv
      exact ⟨hb, hQ _ _ _ H hv⟩
    · refine me_c H (vs_M_byteAt H hv (fun x3 s A H hv => ?_))
      refine me_if hv (fun hv => ?_) (fun hv => ?_)
      · refine me_if hv (fun hv => ?_) (fun hv => ?_)
        · exact vsq_M_coded_45 hQ hk5 _ _ _ _ _ H hv
        · refine me_c H (vs_M_byteAt H hv (fun x4 s A H hv => ?_))
          refine vs_M_hex H hv (fun x5 s A H hv => ?_)
          exact vsq_M_coded_45 hQ hk5 _ _ _ _ _ H hv
      · exact hk5 _ _ _ _ H hv
def vp_M_coded (p0 : Int32) (p1 : Int32) (s : RS) (Q : Int32 → RS → Prop) : Prop := ∃ n, vq_M_coded_5 p0 p1 Q  n (1 : Int32) p0 s
set_option maxRecDepth 100000 in
set_option maxHeartbeats 4000000 in
theorem vs_M_coded {A0 : ab_H} {a : Nat} {R : Nat → Nat} {p0 : Int32} {p1 : Int32} {A : ab_H} {s : RS} {Q : Int32 → ab_H → Prop} {QV : Int32 → RS → Prop} (H : Me A0 A a R s) (hv : vp_M_coded p0 p1 s QV) (hQ : ∀ v (s : RS) (A : ab_H), Me A0 A a R s → QV v s → Q v A) : wp_M_coded a p0 p1 A Q := by
  unfold vp_M_coded at hv
  unfold wp_M_coded
  obtain ⟨n, hv⟩ := hv
  exact ⟨n, vsq_M_coded_5 hQ  n _ _ _ _ H hv⟩
def vq_M_requestLine_312 (p0 : Int32) (Q : Int32 → RS → Prop)  (u3 : Int32) (u6 : Int32) (s : RS) : Prop := if u3 = 0 then (Q (0 : Int32) s) else (if (4 : Int32) < u6 then (Q (0 : Int32) s) else (Q (1 : Int32) s))
set_option maxRecDepth 100000 in
set_option maxHeartbeats 4000000 in
theorem vsq_M_requestLine_312 {A0 : ab_H} {a : Nat} {R : Nat → Nat} {p0 : Int32} {Q : Int32 → ab_H → Prop} {QV : Int32 → RS → Prop}  (hQ : ∀ v (s : RS) (A : ab_H), Me A0 A a R s → QV v s → Q v A)  : ∀ (u3 : Int32) (u6 : Int32) (A : ab_H) (s : RS), Me A0 A a R s → vq_M_requestLine_312 p0 QV  u3 u6 s → wq_M_requestLine_312 a p0 Q  u3 u6 A := by
  intro u3 u6 A s H hv
  unfold vq_M_requestLine_312 at hv
  unfold wq_M_requestLine_312
  refine me_if hv (fun hv => ?_) (fun hv => ?_)
  · exact hQ _ _ _ H hv
  · refine me_if hv (fun hv => ?_) (fun hv => ?_)
    · exact hQ _ _ _ H hv
    · exact hQ _ _ _ H hv
def vq_M_requestLine_294 (p0 : Int32) (Q : Int32 → RS → Prop) (k194 : Int32 → Int32 → Int32 → Int32 → RS → Prop) (u4 : Int32) (u6 : Int32) (u7 : Int32) (s0 : Int32) (s : RS) : Prop := vp_M_seek (38 : Int32) u7 u4 s (fun x1 s => wL ((x1 + (1 : Int32))) (fun x2 => k194 s0 u4 u6 x2 s))
set_option maxRecDepth 100000 in
set_option maxHeartbeats 4000000 in
theorem vsq_M_requestLine_294 {A0 : ab_H} {a : Nat} {R : Nat → Nat} {p0 : Int32} {Q : Int32 → ab_H → Prop} {QV : Int32 → RS → Prop} {k194 : Int32 → Int32 → Int32 → Int32 → ab_H → Prop} {kv194 : Int32 → Int32 → Int32 → Int32 → RS → Prop} (hQ : ∀ v (s : RS) (A : ab_H), Me A0 A a R s → QV v s → Q v A) (hk194 : ∀ (u3 : Int32) (u4 : Int32) (u6 : Int32) (u7 : Int32) (A : ab_H) (s : RS), Me A0 A a R s → kv194 u3 u4 u6 u7 s → k194 u3 u4 u6 u7 A) : ∀ (u4 : Int32) (u6 : Int32) (u7 : Int32) (s0 : Int32) (A : ab_H) (s : RS), Me A0 A a R s → vq_M_requestLine_294 p0 QV kv194 u4 u6 u7 s0 s → wq_M_requestLine_294 a p0 Q k194 u4 u6 u7 s0 A := by
  intro u4 u6 u7 s0 A s H hv
  unfold vq_M_requestLine_294 at hv
  unfold wq_M_requestLine_294
  refine me_c H (vs_M_seek H hv (fun x1 s A H hv => ?_))
  refine vl_let hv (fun x2 hv => ?_)
  exact hk194 _ _ _ _ _ _ H hv
def vq_M_requestLine_293 (p0 : Int32) (Q : Int32 → RS → Prop) (k194 : Int32 → Int32 → Int32 → Int32 → RS → Prop) (u4 : Int32) (u6 : Int32) (u7 : Int32) (s : RS) : Prop := vq_M_requestLine_294 p0 Q k194 u4 u6 u7 (0 : Int32) s
set_option maxRecDepth 100000 in
set_option maxHeartbeats 4000000 in
theorem vsq_M_requestLine_293 {A0 : ab_H} {a : Nat} {R : Nat → Nat} {p0 : Int32} {Q : Int32 → ab_H → Prop} {QV : Int32 → RS → Prop} {k194 : Int32 → Int32 → Int32 → Int32 → ab_H → Prop} {kv194 : Int32 → Int32 → Int32 → Int32 → RS → Prop} (hQ : ∀ v (s : RS) (A : ab_H), Me A0 A a R s → QV v s → Q v A) (hk194 : ∀ (u3 : Int32) (u4 : Int32) (u6 : Int32) (u7 : Int32) (A : ab_H) (s : RS), Me A0 A a R s → kv194 u3 u4 u6 u7 s → k194 u3 u4 u6 u7 A) : ∀ (u4 : Int32) (u6 : Int32) (u7 : Int32) (A : ab_H) (s : RS), Me A0 A a R s → vq_M_requestLine_293 p0 QV kv194 u4 u6 u7 s → wq_M_requestLine_293 a p0 Q k194 u4 u6 u7 A := by
  intro u4 u6 u7 A s H hv
  unfold vq_M_requestLine_293 at hv
  unfold wq_M_requestLine_293
  exact vsq_M_requestLine_294 hQ hk194 _ _ _ _ _ _ H hv
def vq_M_requestLine_275 (p0 : Int32) (Q : Int32 → RS → Prop) (k194 : Int32 → Int32 → Int32 → Int32 → RS → Prop) (u4 : Int32) (u6 : Int32) (u7 : Int32) (u8 : Int32) (s0 : Int32) (s : RS) : Prop := if s0 = 0 then (vq_M_requestLine_293 p0 Q k194 u4 u6 u7 s) else (if u8 = (u4 - (1 : Int32)) then (vq_M_requestLine_293 p0 Q k194 u4 u6 u7 s) else (vq_M_requestLine_294 p0 Q k194 u4 u6 u7 (1 : Int32) s))
set_option maxRecDepth 100000 in
set_option maxHeartbeats 4000000 in
theorem vsq_M_requestLine_275 {A0 : ab_H} {a : Nat} {R : Nat → Nat} {p0 : Int32} {Q : Int32 → ab_H → Prop} {QV : Int32 → RS → Prop} {k194 : Int32 → Int32 → Int32 → Int32 → ab_H → Prop} {kv194 : Int32 → Int32 → Int32 → Int32 → RS → Prop} (hQ : ∀ v (s : RS) (A : ab_H), Me A0 A a R s → QV v s → Q v A) (hk194 : ∀ (u3 : Int32) (u4 : Int32) (u6 : Int32) (u7 : Int32) (A : ab_H) (s : RS), Me A0 A a R s → kv194 u3 u4 u6 u7 s → k194 u3 u4 u6 u7 A) : ∀ (u4 : Int32) (u6 : Int32) (u7 : Int32) (u8 : Int32) (s0 : Int32) (A : ab_H) (s : RS), Me A0 A a R s → vq_M_requestLine_275 p0 QV kv194 u4 u6 u7 u8 s0 s → wq_M_requestLine_275 a p0 Q k194 u4 u6 u7 u8 s0 A := by
  intro u4 u6 u7 u8 s0 A s H hv
  unfold vq_M_requestLine_275 at hv
  unfold wq_M_requestLine_275
  refine me_if hv (fun hv => ?_) (fun hv => ?_)
  · exact vsq_M_requestLine_293 hQ hk194 _ _ _ _ _ H hv
  · refine me_if hv (fun hv => ?_) (fun hv => ?_)
    · exact vsq_M_requestLine_293 hQ hk194 _ _ _ _ _ H hv
    · exact vsq_M_requestLine_294 hQ hk194 _ _ _ _ _ _ H hv
def vq_M_requestLine_274 (p0 : Int32) (Q : Int32 → RS → Prop) (k194 : Int32 → Int32 → Int32 → Int32 → RS → Prop) (u4 : Int32) (u6 : Int32) (u7 : Int32) (u8 : Int32) (s : RS) : Prop := vq_M_requestLine_275 p0 Q k194 u4 u6 u7 u8 (0 : Int32) s
set_option maxRecDepth 100000 in
set_option maxHeartbeats 4000000 in
theorem vsq_M_requestLine_274 {A0 : ab_H} {a : Nat} {R : Nat → Nat} {p0 : Int32} {Q : Int32 → ab_H → Prop} {QV : Int32 → RS → Prop} {k194 : Int32 → Int32 → Int32 → Int32 → ab_H → Prop} {kv194 : Int32 → Int32 → Int32 → Int32 → RS → Prop} (hQ : ∀ v (s : RS) (A : ab_H), Me A0 A a R s → QV v s → Q v A) (hk194 : ∀ (u3 : Int32) (u4 : Int32) (u6 : Int32) (u7 : Int32) (A : ab_H) (s : RS), Me A0 A a R s → kv194 u3 u4 u6 u7 s → k194 u3 u4 u6 u7 A) : ∀ (u4 : Int32) (u6 : Int32) (u7 : Int32) (u8 : Int32) (A : ab_H) (s : RS), Me A0 A a R s → vq_M_requestLine_274 p0 QV kv194 u4 u6 u7 u8 s → wq_M_requestLine_274 a p0 Q k194 u4 u6 u7 u8 A := by
  intro u4 u6 u7 u8 A s H hv
  unfold vq_M_requestLine_274 at hv
  unfold wq_M_requestLine_274
  exact vsq_M_requestLine_275 hQ hk194 _ _ _ _ _ _ _ H hv
def vq_M_requestLine_270 (p0 : Int32) (Q : Int32 → RS → Prop) (k194 : Int32 → Int32 → Int32 → Int32 → RS → Prop) (u4 : Int32) (u6 : Int32) (u7 : Int32) (u8 : Int32) (s : RS) : Prop := vq_M_requestLine_275 p0 Q k194 u4 u6 u7 u8 (1 : Int32) s
set_option maxRecDepth 100000 in
set_option maxHeartbeats 4000000 in
theorem vsq_M_requestLine_270 {A0 : ab_H} {a : Nat} {R : Nat → Nat} {p0 : Int32} {Q : Int32 → ab_H → Prop} {QV : Int32 → RS → Prop} {k194 : Int32 → Int32 → Int32 → Int32 → ab_H → Prop} {kv194 : Int32 → Int32 → Int32 → Int32 → RS → Prop} (hQ : ∀ v (s : RS) (A : ab_H), Me A0 A a R s → QV v s → Q v A) (hk194 : ∀ (u3 : Int32) (u4 : Int32) (u6 : Int32) (u7 : Int32) (A : ab_H) (s : RS), Me A0 A a R s → kv194 u3 u4 u6 u7 s → k194 u3 u4 u6 u7 A) : ∀ (u4 : Int32) (u6 : Int32) (u7 : Int32) (u8 : Int32) (A : ab_H) (s : RS), Me A0 A a R s → vq_M_requestLine_270 p0 QV kv194 u4 u6 u7 u8 s → wq_M_requestLine_270 a p0 Q k194 u4 u6 u7 u8 A := by
  intro u4 u6 u7 u8 A s H hv
  unfold vq_M_requestLine_270 at hv
  unfold wq_M_requestLine_270
  exact vsq_M_requestLine_275 hQ hk194 _ _ _ _ _ _ _ H hv
def vb_M_requestLine_194 (p0 : Int32) (Q : Int32 → RS → Prop)  (k194 : Int32 → Int32 → Int32 → Int32 → RS → Prop) (u3 : Int32) (u4 : Int32) (u6 : Int32) (u7 : Int32) (s : RS) : Prop := if u4 ≤ u7 then (vq_M_requestLine_312 p0 Q  u3 u6 s) else (vp_M_seek (38 : Int32) u7 u4 s (fun x3 s => vp_M_seek (61 : Int32) u7 x3 s (fun x4 s => if u3 = 0 then (vq_M_requestLine_274 p0 Q k194 u4 (u6 + 1) u7 x3 s) else (if x4 ≤ u7 then (vq_M_requestLine_274 p0 Q k194 u4 (u6 + 1) u7 x3 s) else (vp_M_coded u7 x4 s (fun x5 s => if x5 = 0 then (vq_M_requestLine_274 p0 Q k194 u4 (u6 + 1) u7 x3 s) else (if x4 = x3 then (vq_M_requestLine_270 p0 Q k194 u4 (u6 + 1) u7 x3 s) else (vp_M_coded (x4 + (1 : Int32)) x3 s (fun x6 s => if x6 = 0 then (vq_M_requestLine_274 p0 Q k194 u4 (u6 + 1) u7 x3 s) else (vq_M_requestLine_270 p0 Q k194 u4 (u6 + 1) u7 x3 s))))))))))
def vq_M_requestLine_194 (p0 : Int32) (Q : Int32 → RS → Prop)  : Nat → Int32 → Int32 → Int32 → Int32 → RS → Prop
  | 0 => fun _ _ _ _ _ => False
  | n + 1 => vb_M_requestLine_194 p0 Q  (vq_M_requestLine_194 p0 Q  n)
set_option maxRecDepth 100000 in
set_option maxHeartbeats 4000000 in
theorem vsq_M_requestLine_194 {A0 : ab_H} {a : Nat} {R : Nat → Nat} {p0 : Int32} {Q : Int32 → ab_H → Prop} {QV : Int32 → RS → Prop}  (hQ : ∀ v (s : RS) (A : ab_H), Me A0 A a R s → QV v s → Q v A)  : ∀ (n : Nat) (u3 : Int32) (u4 : Int32) (u6 : Int32) (u7 : Int32) (A : ab_H) (s : RS), Me A0 A a R s → vq_M_requestLine_194 p0 QV  n u3 u4 u6 u7 s → wq_M_requestLine_194 a p0 Q  n u3 u4 u6 u7 A := by
  intro n
  induction n with
  | zero =>
    intro u3 u4 u6 u7 A s H hv
    exact absurd hv id
  | succ n hk194 =>
    intro u3 u4 u6 u7 A s H hv
    have hv : vb_M_requestLine_194 p0 QV  (vq_M_requestLine_194 p0 QV  n) u3 u4 u6 u7 s := hv
    show wb_M_requestLine_194 a p0 Q  (wq_M_requestLine_194 a p0 Q  n) u3 u4 u6 u7 A
    unfold vb_M_requestLine_194 at hv
    unfold wb_M_requestLine_194
    refine me_if hv (fun hv => ?_) (fun hv => ?_)
    · exact vsq_M_requestLine_312 hQ  _ _ _ _ H hv
    · refine me_c H (vs_M_seek H hv (fun x3 s A H hv => ?_))
      refine me_c H (vs_M_seek H hv (fun x4 s A H hv => ?_))
      refine me_if hv (fun hv => ?_) (fun hv => ?_)
      · exact vsq_M_requestLine_274 hQ hk194 _ _ _ _ _ _ H hv
      · refine me_if hv (fun hv => ?_) (fun hv => ?_)
        · exact vsq_M_requestLine_274 hQ hk194 _ _ _ _ _ _ H hv
        · refine me_c H (vs_M_coded H hv (fun x5 s A H hv => ?_))
          refine me_if hv (fun hv => ?_) (fun hv => ?_)
          · exact vsq_M_requestLine_274 hQ hk194 _ _ _ _ _ _ H hv
          · refine me_if hv (fun hv => ?_) (fun hv => ?_)
            · exact vsq_M_requestLine_270 hQ hk194 _ _ _ _ _ _ H hv
            · refine me_c H (vs_M_coded H hv (fun x6 s A H hv => ?_))
              refine me_if hv (fun hv => ?_) (fun hv => ?_)
              · exact vsq_M_requestLine_274 hQ hk194 _ _ _ _ _ _ H hv
              · exact vsq_M_requestLine_270 hQ hk194 _ _ _ _ _ _ H hv
def vq_M_requestLine_184 (p0 : Int32) (Q : Int32 → RS → Prop)  (u4 : Int32) (u5 : Int32) (s0 : Int32) (s : RS) : Prop := wL ((u5 + (1 : Int32))) (fun x7 => ∃ n, vq_M_requestLine_194 p0 Q  n s0 u4 (0 : Int32) x7 s)
set_option maxRecDepth 100000 in
set_option maxHeartbeats 4000000 in
theorem vsq_M_requestLine_184 {A0 : ab_H} {a : Nat} {R : Nat → Nat} {p0 : Int32} {Q : Int32 → ab_H → Prop} {QV : Int32 → RS → Prop}  (hQ : ∀ v (s : RS) (A : ab_H), Me A0 A a R s → QV v s → Q v A)  : ∀ (u4 : Int32) (u5 : Int32) (s0 : Int32) (A : ab_H) (s : RS), Me A0 A a R s → vq_M_requestLine_184 p0 QV  u4 u5 s0 s → wq_M_requestLine_184 a p0 Q  u4 u5 s0 A := by
  intro u4 u5 s0 A s H hv
  unfold vq_M_requestLine_184 at hv
  unfold wq_M_requestLine_184
  refine vl_let hv (fun x7 hv => ?_)
  obtain ⟨n, hv⟩ := hv
  exact ⟨n, vsq_M_requestLine_194 hQ  n _ _ _ _ _ _ H hv⟩
def vq_M_requestLine_183 (p0 : Int32) (Q : Int32 → RS → Prop)  (u4 : Int32) (u5 : Int32) (s : RS) : Prop := vq_M_requestLine_184 p0 Q  u4 u5 (0 : Int32) s
set_option maxRecDepth 100000 in
set_option maxHeartbeats 4000000 in
theorem vsq_M_requestLine_183 {A0 : ab_H} {a : Nat} {R : Nat → Nat} {p0 : Int32} {Q : Int32 → ab_H → Prop} {QV : Int32 → RS → Prop}  (hQ : ∀ v (s : RS) (A : ab_H), Me A0 A a R s → QV v s → Q v A)  : ∀ (u4 : Int32) (u5 : Int32) (A : ab_H) (s : RS), Me A0 A a R s → vq_M_requestLine_183 p0 QV  u4 u5 s → wq_M_requestLine_183 a p0 Q  u4 u5 A := by
  intro u4 u5 A s H hv
  unfold vq_M_requestLine_183 at hv
  unfold wq_M_requestLine_183
  exact vsq_M_requestLine_184 hQ  _ _ _ _ _ H hv
def vq_M_requestLine_145 (p0 : Int32) (Q : Int32 → RS → Prop)  (u2 : Int32) (u4 : Int32) (s0 : Int32) (s : RS) : Prop := if s0 = 0 then (Q (0 : Int32) s) else (vp_M_pathEnd  s (fun x8 s => vp_M_coded (u2 + (1 : Int32)) x8 s (fun x9 s => if x9 = 0 then (vq_M_requestLine_183 p0 Q  u4 x8 s) else (if (x8 + (1 : Int32)) = u4 then (vq_M_requestLine_183 p0 Q  u4 x8 s) else (vq_M_requestLine_184 p0 Q  u4 x8 (1 : Int32) s)))))
set_option maxRecDepth 100000 in
set_option maxHeartbeats 4000000 in
theorem vsq_M_requestLine_145 {A0 : ab_H} {a : Nat} {R : Nat → Nat} {p0 : Int32} {Q : Int32 → ab_H → Prop} {QV : Int32 → RS → Prop}  (hQ : ∀ v (s : RS) (A : ab_H), Me A0 A a R s → QV v s → Q v A)  : ∀ (u2 : Int32) (u4 : Int32) (s0 : Int32) (A : ab_H) (s : RS), Me A0 A a R s → vq_M_requestLine_145 p0 QV  u2 u4 s0 s → wq_M_requestLine_145 a p0 Q  u2 u4 s0 A := by
  intro u2 u4 s0 A s H hv
  unfold vq_M_requestLine_145 at hv
  unfold wq_M_requestLine_145
  refine me_if hv (fun hv => ?_) (fun hv => ?_)
  · exact hQ _ _ _ H hv
  · refine me_c H (vs_M_pathEnd H hv (fun x8 s A H hv => ?_))
    refine me_c H (vs_M_coded H hv (fun x9 s A H hv => ?_))
    refine me_if hv (fun hv => ?_) (fun hv => ?_)
    · exact vsq_M_requestLine_183 hQ  _ _ _ _ H hv
    · refine me_if hv (fun hv => ?_) (fun hv => ?_)
      · exact vsq_M_requestLine_183 hQ  _ _ _ _ H hv
      · exact vsq_M_requestLine_184 hQ  _ _ _ _ _ H hv
def vq_M_requestLine_144 (p0 : Int32) (Q : Int32 → RS → Prop)  (u2 : Int32) (u4 : Int32) (s : RS) : Prop := vq_M_requestLine_145 p0 Q  u2 u4 (0 : Int32) s
set_option maxRecDepth 100000 in
set_option maxHeartbeats 4000000 in
theorem vsq_M_requestLine_144 {A0 : ab_H} {a : Nat} {R : Nat → Nat} {p0 : Int32} {Q : Int32 → ab_H → Prop} {QV : Int32 → RS → Prop}  (hQ : ∀ v (s : RS) (A : ab_H), Me A0 A a R s → QV v s → Q v A)  : ∀ (u2 : Int32) (u4 : Int32) (A : ab_H) (s : RS), Me A0 A a R s → vq_M_requestLine_144 p0 QV  u2 u4 s → wq_M_requestLine_144 a p0 Q  u2 u4 A := by
  intro u2 u4 A s H hv
  unfold vq_M_requestLine_144 at hv
  unfold wq_M_requestLine_144
  exact vsq_M_requestLine_145 hQ  _ _ _ _ _ H hv
def vq_M_requestLine_78 (p0 : Int32) (Q : Int32 → RS → Prop)  (u2 : Int32) (u3 : Int32) (s : RS) : Prop := vp_M_seek (32 : Int32) (u2 + (1 : Int32)) p0 s (fun x10 s => if u3 = 0 then (vq_M_requestLine_144 p0 Q  u2 x10 s) else (vp_M_byteAt (u2 + (1 : Int32)) s (fun x11 s => if x11 = (47 : Int32) then (if x10 = (p0 - (3 : Int32)) then (vp_M_byteAt (x10 + (1 : Int32)) s (fun x12 s => if x12 = (72 : Int32) then (vp_M_byteAt (x10 + (2 : Int32)) s (fun x13 s => if x13 = (49 : Int32) then (vq_M_requestLine_145 p0 Q  u2 x10 (1 : Int32) s) else (vq_M_requestLine_144 p0 Q  u2 x10 s))) else (vq_M_requestLine_144 p0 Q  u2 x10 s))) else (vq_M_requestLine_144 p0 Q  u2 x10 s)) else (vq_M_requestLine_144 p0 Q  u2 x10 s))))
set_option maxRecDepth 100000 in
set_option maxHeartbeats 4000000 in
theorem vsq_M_requestLine_78 {A0 : ab_H} {a : Nat} {R : Nat → Nat} {p0 : Int32} {Q : Int32 → ab_H → Prop} {QV : Int32 → RS → Prop}  (hQ : ∀ v (s : RS) (A : ab_H), Me A0 A a R s → QV v s → Q v A)  : ∀ (u2 : Int32) (u3 : Int32) (A : ab_H) (s : RS), Me A0 A a R s → vq_M_requestLine_78 p0 QV  u2 u3 s → wq_M_requestLine_78 a p0 Q  u2 u3 A := by
  intro u2 u3 A s H hv
  unfold vq_M_requestLine_78 at hv
  unfold wq_M_requestLine_78
  refine me_c H (vs_M_seek H hv (fun x10 s A H hv => ?_))
  refine me_if hv (fun hv => ?_) (fun hv => ?_)
  · exact vsq_M_requestLine_144 hQ  _ _ _ _ H hv
  · refine me_c H (vs_M_byteAt H hv (fun x11 s A H hv => ?_))
    refine me_if hv (fun hv => ?_) (fun hv => ?_)
    · refine me_if hv (fun hv => ?_) (fun hv => ?_)
      · refine me_c H (vs_M_byteAt H hv (fun x12 s A H hv => ?_))
        refine me_if hv (fun hv => ?_) (fun hv => ?_)
        · refine me_c H (vs_M_byteAt H hv (fun x13 s A H hv => ?_))
          refine me_if hv (fun hv => ?_) (fun hv => ?_)
          · exact vsq_M_requestLine_145 hQ  _ _ _ _ _ H hv
          · exact vsq_M_requestLine_144 hQ  _ _ _ _ H hv
        · exact vsq_M_requestLine_144 hQ  _ _ _ _ H hv
      · exact vsq_M_requestLine_144 hQ  _ _ _ _ H hv
    · exact vsq_M_requestLine_144 hQ  _ _ _ _ H hv
def vb_M_requestLine_34 (p0 : Int32) (Q : Int32 → RS → Prop)  (k34 : Int32 → Int32 → Int32 → RS → Prop) (u2 : Int32) (u3 : Int32) (u4 : Int32) (s : RS) : Prop := if u2 ≤ u4 then (vq_M_requestLine_78 p0 Q  u2 u3 s) else (if u3 = 0 then (k34 u2 (0 : Int32) (u4 + 1) s) else (vp_M_byteAt u4 s (fun x14 s => if x14 < (65 : Int32) then (k34 u2 (0 : Int32) (u4 + 1) s) else (vp_M_byteAt u4 s (fun x15 s => if (90 : Int32) < x15 then (k34 u2 (0 : Int32) (u4 + 1) s) else (k34 u2 (1 : Int32) (u4 + 1) s))))))
def vq_M_requestLine_34 (p0 : Int32) (Q : Int32 → RS → Prop)  : Nat → Int32 → Int32 → Int32 → RS → Prop
  | 0 => fun _ _ _ _ => False
  | n + 1 => vb_M_requestLine_34 p0 Q  (vq_M_requestLine_34 p0 Q  n)
set_option maxRecDepth 100000 in
set_option maxHeartbeats 4000000 in
theorem vsq_M_requestLine_34 {A0 : ab_H} {a : Nat} {R : Nat → Nat} {p0 : Int32} {Q : Int32 → ab_H → Prop} {QV : Int32 → RS → Prop}  (hQ : ∀ v (s : RS) (A : ab_H), Me A0 A a R s → QV v s → Q v A)  : ∀ (n : Nat) (u2 : Int32) (u3 : Int32) (u4 : Int32) (A : ab_H) (s : RS), Me A0 A a R s → vq_M_requestLine_34 p0 QV  n u2 u3 u4 s → wq_M_requestLine_34 a p0 Q  n u2 u3 u4 A := by
  intro n
  induction n with
  | zero =>
    intro u2 u3 u4 A s H hv
    exact absurd hv id
  | succ n hk34 =>
    intro u2 u3 u4 A s H hv
    have hv : vb_M_requestLine_34 p0 QV  (vq_M_requestLine_34 p0 QV  n) u2 u3 u4 s := hv
    show wb_M_requestLine_34 a p0 Q  (wq_M_requestLine_34 a p0 Q  n) u2 u3 u4 A
    unfold vb_M_requestLine_34 at hv
    unfold wb_M_requestLine_34
    refine me_if hv (fun hv => ?_) (fun hv => ?_)
    · exact vsq_M_requestLine_78 hQ  _ _ _ _ H hv
    · refine me_if hv (fun hv => ?_) (fun hv => ?_)
      · exact hk34 _ _ _ _ _ H hv
      · refine me_c H (vs_M_byteAt H hv (fun x14 s A H hv => ?_))
        refine me_if hv (fun hv => ?_) (fun hv => ?_)
        · exact hk34 _ _ _ _ _ H hv
        · refine me_c H (vs_M_byteAt H hv (fun x15 s A H hv => ?_))
          refine me_if hv (fun hv => ?_) (fun hv => ?_)
          · exact hk34 _ _ _ _ _ H hv
          · exact hk34 _ _ _ _ _ H hv
def vq_M_requestLine_30 (p0 : Int32) (Q : Int32 → RS → Prop)  (u2 : Int32) (s0 : Int32) (s : RS) : Prop := ∃ n, vq_M_requestLine_34 p0 Q  n u2 s0 (0 : Int32) s
set_option maxRecDepth 100000 in
set_option maxHeartbeats 4000000 in
theorem vsq_M_requestLine_30 {A0 : ab_H} {a : Nat} {R : Nat → Nat} {p0 : Int32} {Q : Int32 → ab_H → Prop} {QV : Int32 → RS → Prop}  (hQ : ∀ v (s : RS) (A : ab_H), Me A0 A a R s → QV v s → Q v A)  : ∀ (u2 : Int32) (s0 : Int32) (A : ab_H) (s : RS), Me A0 A a R s → vq_M_requestLine_30 p0 QV  u2 s0 s → wq_M_requestLine_30 a p0 Q  u2 s0 A := by
  intro u2 s0 A s H hv
  unfold vq_M_requestLine_30 at hv
  unfold wq_M_requestLine_30
  obtain ⟨n, hv⟩ := hv
  exact ⟨n, vsq_M_requestLine_34 hQ  n _ _ _ _ _ H hv⟩
def vq_M_requestLine_29 (p0 : Int32) (Q : Int32 → RS → Prop)  (u2 : Int32) (s : RS) : Prop := vq_M_requestLine_30 p0 Q  u2 (0 : Int32) s
set_option maxRecDepth 100000 in
set_option maxHeartbeats 4000000 in
theorem vsq_M_requestLine_29 {A0 : ab_H} {a : Nat} {R : Nat → Nat} {p0 : Int32} {Q : Int32 → ab_H → Prop} {QV : Int32 → RS → Prop}  (hQ : ∀ v (s : RS) (A : ab_H), Me A0 A a R s → QV v s → Q v A)  : ∀ (u2 : Int32) (A : ab_H) (s : RS), Me A0 A a R s → vq_M_requestLine_29 p0 QV  u2 s → wq_M_requestLine_29 a p0 Q  u2 A := by
  intro u2 A s H hv
  unfold vq_M_requestLine_29 at hv
  unfold wq_M_requestLine_29
  exact vsq_M_requestLine_30 hQ  _ _ _ _ H hv
def vp_M_requestLine (p0 : Int32) (s : RS) (Q : Int32 → RS → Prop) : Prop := vp_M_seek (32 : Int32) (0 : Int32) p0 s (fun x16 s => if x16 < (1 : Int32) then (vq_M_requestLine_29 p0 Q  x16 s) else (if (7 : Int32) < x16 then (vq_M_requestLine_29 p0 Q  x16 s) else (if p0 ≤ x16 then (vq_M_requestLine_29 p0 Q  x16 s) else (vq_M_requestLine_30 p0 Q  x16 (1 : Int32) s))))
set_option maxRecDepth 100000 in
set_option maxHeartbeats 4000000 in
theorem vs_M_requestLine {A0 : ab_H} {a : Nat} {R : Nat → Nat} {p0 : Int32} {A : ab_H} {s : RS} {Q : Int32 → ab_H → Prop} {QV : Int32 → RS → Prop} (H : Me A0 A a R s) (hv : vp_M_requestLine p0 s QV) (hQ : ∀ v (s : RS) (A : ab_H), Me A0 A a R s → QV v s → Q v A) : wp_M_requestLine a p0 A Q := by
  unfold vp_M_requestLine at hv
  unfold wp_M_requestLine
  refine me_c H (vs_M_seek H hv (fun x16 s A H hv => ?_))
  refine me_if hv (fun hv => ?_) (fun hv => ?_)
  · exact vsq_M_requestLine_29 hQ  _ _ _ H hv
  · refine me_if hv (fun hv => ?_) (fun hv => ?_)
    · exact vsq_M_requestLine_29 hQ  _ _ _ H hv
    · refine me_if hv (fun hv => ?_) (fun hv => ?_)
      · exact vsq_M_requestLine_29 hQ  _ _ _ H hv
      · exact vsq_M_requestLine_30 hQ  _ _ _ _ H hv
def vq_M_letter_12 (p0 : Int32) (Q : Int32 → RS → Prop)   (s : RS) : Prop := if p0 < (65 : Int32) then (Q (0 : Int32) s) else (if (90 : Int32) < p0 then (Q (0 : Int32) s) else (Q (1 : Int32) s))
set_option maxRecDepth 100000 in
set_option maxHeartbeats 4000000 in
theorem vsq_M_letter_12 {A0 : ab_H} {a : Nat} {R : Nat → Nat} {p0 : Int32} {Q : Int32 → ab_H → Prop} {QV : Int32 → RS → Prop}  (hQ : ∀ v (s : RS) (A : ab_H), Me A0 A a R s → QV v s → Q v A)  : ∀ (A : ab_H) (s : RS), Me A0 A a R s → vq_M_letter_12 p0 QV   s → wq_M_letter_12 p0 Q   A := by
  intro  A s H hv
  unfold vq_M_letter_12 at hv
  unfold wq_M_letter_12
  refine me_if hv (fun hv => ?_) (fun hv => ?_)
  · exact hQ _ _ _ H hv
  · refine me_if hv (fun hv => ?_) (fun hv => ?_)
    · exact hQ _ _ _ H hv
    · exact hQ _ _ _ H hv
def vp_M_letter (p0 : Int32) (s : RS) (Q : Int32 → RS → Prop) : Prop := if p0 < (97 : Int32) then (vq_M_letter_12 p0 Q   s) else (if p0 ≤ (122 : Int32) then (Q (1 : Int32) s) else (vq_M_letter_12 p0 Q   s))
set_option maxRecDepth 100000 in
set_option maxHeartbeats 4000000 in
theorem vs_M_letter {A0 : ab_H} {a : Nat} {R : Nat → Nat} {p0 : Int32} {A : ab_H} {s : RS} {Q : Int32 → ab_H → Prop} {QV : Int32 → RS → Prop} (H : Me A0 A a R s) (hv : vp_M_letter p0 s QV) (hQ : ∀ v (s : RS) (A : ab_H), Me A0 A a R s → QV v s → Q v A) : wp_M_letter p0 A Q := by
  unfold vp_M_letter at hv
  unfold wp_M_letter
  refine me_if hv (fun hv => ?_) (fun hv => ?_)
  · exact vsq_M_letter_12 hQ  _ _ H hv
  · refine me_if hv (fun hv => ?_) (fun hv => ?_)
    · exact hQ _ _ _ H hv
    · exact vsq_M_letter_12 hQ  _ _ H hv
def vb_M_valueAt_11 (p0 : Int32) (p1 : Int32) (Q : Int32 → RS → Prop)  (k11 : Int32 → RS → Prop) (u3 : Int32) (s : RS) : Prop := if p1 ≤ u3 then (Q u3 s) else (vp_M_byteAt u3 s (fun x1 s => if x1 = (32 : Int32) then (k11 (u3 + 1) s) else (Q u3 s)))
def vq_M_valueAt_11 (p0 : Int32) (p1 : Int32) (Q : Int32 → RS → Prop)  : Nat → Int32 → RS → Prop
  | 0 => fun _ _ => False
  | n + 1 => vb_M_valueAt_11 p0 p1 Q  (vq_M_valueAt_11 p0 p1 Q  n)
set_option maxRecDepth 100000 in
set_option maxHeartbeats 4000000 in
theorem vsq_M_valueAt_11 {A0 : ab_H} {a : Nat} {R : Nat → Nat} {p0 : Int32} {p1 : Int32} {Q : Int32 → ab_H → Prop} {QV : Int32 → RS → Prop}  (hQ : ∀ v (s : RS) (A : ab_H), Me A0 A a R s → QV v s → Q v A)  : ∀ (n : Nat) (u3 : Int32) (A : ab_H) (s : RS), Me A0 A a R s → vq_M_valueAt_11 p0 p1 QV  n u3 s → wq_M_valueAt_11 a p0 p1 Q  n u3 A := by
  intro n
  induction n with
  | zero =>
    intro u3 A s H hv
    exact absurd hv id
  | succ n hk11 =>
    intro u3 A s H hv
    have hv : vb_M_valueAt_11 p0 p1 QV  (vq_M_valueAt_11 p0 p1 QV  n) u3 s := hv
    show wb_M_valueAt_11 a p0 p1 Q  (wq_M_valueAt_11 a p0 p1 Q  n) u3 A
    unfold vb_M_valueAt_11 at hv
    unfold wb_M_valueAt_11
    refine me_if hv (fun hv => ?_) (fun hv => ?_)
    · exact hQ _ _ _ H hv
    · refine me_c H (vs_M_byteAt H hv (fun x1 s A H hv => ?_))
      refine me_if hv (fun hv => ?_) (fun hv => ?_)
      · exact hk11 _ _ _ H hv
      · exact hQ _ _ _ H hv
def vp_M_valueAt (p0 : Int32) (p1 : Int32) (s : RS) (Q : Int32 → RS → Prop) : Prop := vp_M_seek (58 : Int32) p0 p1 s (fun x2 s => wL ((x2 + (1 : Int32))) (fun x3 => ∃ n, vq_M_valueAt_11 p0 p1 Q  n x3 s))
set_option maxRecDepth 100000 in
set_option maxHeartbeats 4000000 in
theorem vs_M_valueAt {A0 : ab_H} {a : Nat} {R : Nat → Nat} {p0 : Int32} {p1 : Int32} {A : ab_H} {s : RS} {Q : Int32 → ab_H → Prop} {QV : Int32 → RS → Prop} (H : Me A0 A a R s) (hv : vp_M_valueAt p0 p1 s QV) (hQ : ∀ v (s : RS) (A : ab_H), Me A0 A a R s → QV v s → Q v A) : wp_M_valueAt a p0 p1 A Q := by
  unfold vp_M_valueAt at hv
  unfold wp_M_valueAt
  refine me_c H (vs_M_seek H hv (fun x2 s A H hv => ?_))
  refine vl_let hv (fun x3 hv => ?_)
  obtain ⟨n, hv⟩ := hv
  exact ⟨n, vsq_M_valueAt_11 hQ  n _ _ _ H hv⟩
def vb_M_valueEnd_2 (p0 : Int32) (p1 : Int32) (Q : Int32 → RS → Prop)  (k2 : Int32 → RS → Prop) (u3 : Int32) (s : RS) : Prop := vp_M_valueAt p0 p1 s (fun x1 s => if u3 ≤ x1 then (Q u3 s) else (vp_M_byteAt (u3 - (1 : Int32)) s (fun x2 s => if x2 = (32 : Int32) then (k2 (u3 - 1) s) else (Q u3 s))))
def vq_M_valueEnd_2 (p0 : Int32) (p1 : Int32) (Q : Int32 → RS → Prop)  : Nat → Int32 → RS → Prop
  | 0 => fun _ _ => False
  | n + 1 => vb_M_valueEnd_2 p0 p1 Q  (vq_M_valueEnd_2 p0 p1 Q  n)
set_option maxRecDepth 100000 in
set_option maxHeartbeats 4000000 in
theorem vsq_M_valueEnd_2 {A0 : ab_H} {a : Nat} {R : Nat → Nat} {p0 : Int32} {p1 : Int32} {Q : Int32 → ab_H → Prop} {QV : Int32 → RS → Prop}  (hQ : ∀ v (s : RS) (A : ab_H), Me A0 A a R s → QV v s → Q v A)  : ∀ (n : Nat) (u3 : Int32) (A : ab_H) (s : RS), Me A0 A a R s → vq_M_valueEnd_2 p0 p1 QV  n u3 s → wq_M_valueEnd_2 a p0 p1 Q  n u3 A := by
  intro n
  induction n with
  | zero =>
    intro u3 A s H hv
    exact absurd hv id
  | succ n hk2 =>
    intro u3 A s H hv
    have hv : vb_M_valueEnd_2 p0 p1 QV  (vq_M_valueEnd_2 p0 p1 QV  n) u3 s := hv
    show wb_M_valueEnd_2 a p0 p1 Q  (wq_M_valueEnd_2 a p0 p1 Q  n) u3 A
    unfold vb_M_valueEnd_2 at hv
    unfold wb_M_valueEnd_2
    refine me_c H (vs_M_valueAt H hv (fun x1 s A H hv => ?_))
    refine me_if hv (fun hv => ?_) (fun hv => ?_)
    · exact hQ _ _ _ H hv
    · refine me_c H (vs_M_byteAt H hv (fun x2 s A H hv => ?_))
      refine me_if hv (fun hv => ?_) (fun hv => ?_)
      · exact hk2 _ _ _ H hv
      · exact hQ _ _ _ H hv
def vp_M_valueEnd (p0 : Int32) (p1 : Int32) (s : RS) (Q : Int32 → RS → Prop) : Prop := ∃ n, vq_M_valueEnd_2 p0 p1 Q  n p1 s
set_option maxRecDepth 100000 in
set_option maxHeartbeats 4000000 in
theorem vs_M_valueEnd {A0 : ab_H} {a : Nat} {R : Nat → Nat} {p0 : Int32} {p1 : Int32} {A : ab_H} {s : RS} {Q : Int32 → ab_H → Prop} {QV : Int32 → RS → Prop} (H : Me A0 A a R s) (hv : vp_M_valueEnd p0 p1 s QV) (hQ : ∀ v (s : RS) (A : ab_H), Me A0 A a R s → QV v s → Q v A) : wp_M_valueEnd a p0 p1 A Q := by
  unfold vp_M_valueEnd at hv
  unfold wp_M_valueEnd
  obtain ⟨n, hv⟩ := hv
  exact ⟨n, vsq_M_valueEnd_2 hQ  n _ _ _ H hv⟩
def vp_M_small (p0 : Int32) (s : RS) (Q : Int32 → RS → Prop) : Prop := if p0 < (65 : Int32) then (Q p0 s) else (if (90 : Int32) < p0 then (Q p0 s) else (Q (p0 + (32 : Int32)) s))
set_option maxRecDepth 100000 in
set_option maxHeartbeats 4000000 in
theorem vs_M_small {A0 : ab_H} {a : Nat} {R : Nat → Nat} {p0 : Int32} {A : ab_H} {s : RS} {Q : Int32 → ab_H → Prop} {QV : Int32 → RS → Prop} (H : Me A0 A a R s) (hv : vp_M_small p0 s QV) (hQ : ∀ v (s : RS) (A : ab_H), Me A0 A a R s → QV v s → Q v A) : wp_M_small p0 A Q := by
  unfold vp_M_small at hv
  unfold wp_M_small
  refine me_if hv (fun hv => ?_) (fun hv => ?_)
  · exact hQ _ _ _ H hv
  · refine me_if hv (fun hv => ?_) (fun hv => ?_)
    · exact hQ _ _ _ H hv
    · exact hQ _ _ _ H hv
def vp_M_isNamed (p0 : Int32) (p1 : Int32) (p2 : Int32) (p3 : Int32) (p4 : Int32) (s : RS) (Q : Int32 → RS → Prop) : Prop := if (p1 - p0) < (3 : Int32) then (Q (0 : Int32) s) else (vp_M_byteAt p0 s (fun x1 s => vp_M_small x1 s (fun x2 s => if x2 = p2 then (vp_M_byteAt (p0 + (1 : Int32)) s (fun x3 s => vp_M_small x3 s (fun x4 s => if x4 = p3 then (vp_M_byteAt (p0 + (2 : Int32)) s (fun x5 s => vp_M_small x5 s (fun x6 s => if x6 = p4 then (Q (1 : Int32) s) else (Q (0 : Int32) s)))) else (Q (0 : Int32) s)))) else (Q (0 : Int32) s))))
set_option maxRecDepth 100000 in
set_option maxHeartbeats 4000000 in
theorem vs_M_isNamed {A0 : ab_H} {a : Nat} {R : Nat → Nat} {p0 : Int32} {p1 : Int32} {p2 : Int32} {p3 : Int32} {p4 : Int32} {A : ab_H} {s : RS} {Q : Int32 → ab_H → Prop} {QV : Int32 → RS → Prop} (H : Me A0 A a R s) (hv : vp_M_isNamed p0 p1 p2 p3 p4 s QV) (hQ : ∀ v (s : RS) (A : ab_H), Me A0 A a R s → QV v s → Q v A) : wp_M_isNamed a p0 p1 p2 p3 p4 A Q := by
  unfold vp_M_isNamed at hv
  unfold wp_M_isNamed
  refine me_if hv (fun hv => ?_) (fun hv => ?_)
  · exact hQ _ _ _ H hv
  · refine me_c H (vs_M_byteAt H hv (fun x1 s A H hv => ?_))
    refine vs_M_small H hv (fun x2 s A H hv => ?_)
    refine me_if hv (fun hv => ?_) (fun hv => ?_)
    · refine me_c H (vs_M_byteAt H hv (fun x3 s A H hv => ?_))
      refine vs_M_small H hv (fun x4 s A H hv => ?_)
      refine me_if hv (fun hv => ?_) (fun hv => ?_)
      · refine me_c H (vs_M_byteAt H hv (fun x5 s A H hv => ?_))
        refine vs_M_small H hv (fun x6 s A H hv => ?_)
        refine me_if hv (fun hv => ?_) (fun hv => ?_)
        · exact hQ _ _ _ H hv
        · exact hQ _ _ _ H hv
      · exact hQ _ _ _ H hv
    · exact hQ _ _ _ H hv
def vp_M_isChunked (p0 : Int32) (p1 : Int32) (s : RS) (Q : Int32 → RS → Prop) : Prop := if (p1 - p0) = (7 : Int32) then (vp_M_isNamed p0 p1 (99 : Int32) (104 : Int32) (117 : Int32) s (fun x1 s => if x1 = 0 then (Q (0 : Int32) s) else (vp_M_isNamed (p0 + (3 : Int32)) p1 (110 : Int32) (107 : Int32) (101 : Int32) s (fun x2 s => if x2 = 0 then (Q (0 : Int32) s) else (vp_M_byteAt (p0 + (6 : Int32)) s (fun x3 s => vp_M_small x3 s (fun x4 s => if x4 = (100 : Int32) then (Q (1 : Int32) s) else (Q (0 : Int32) s)))))))) else (Q (0 : Int32) s)
set_option maxRecDepth 100000 in
set_option maxHeartbeats 4000000 in
theorem vs_M_isChunked {A0 : ab_H} {a : Nat} {R : Nat → Nat} {p0 : Int32} {p1 : Int32} {A : ab_H} {s : RS} {Q : Int32 → ab_H → Prop} {QV : Int32 → RS → Prop} (H : Me A0 A a R s) (hv : vp_M_isChunked p0 p1 s QV) (hQ : ∀ v (s : RS) (A : ab_H), Me A0 A a R s → QV v s → Q v A) : wp_M_isChunked a p0 p1 A Q := by
  unfold vp_M_isChunked at hv
  unfold wp_M_isChunked
  refine me_if hv (fun hv => ?_) (fun hv => ?_)
  · refine me_c H (vs_M_isNamed H hv (fun x1 s A H hv => ?_))
    refine me_if hv (fun hv => ?_) (fun hv => ?_)
    · exact hQ _ _ _ H hv
    · refine me_c H (vs_M_isNamed H hv (fun x2 s A H hv => ?_))
      refine me_if hv (fun hv => ?_) (fun hv => ?_)
      · exact hQ _ _ _ H hv
      · refine me_c H (vs_M_byteAt H hv (fun x3 s A H hv => ?_))
        refine vs_M_small H hv (fun x4 s A H hv => ?_)
        refine me_if hv (fun hv => ?_) (fun hv => ?_)
        · exact hQ _ _ _ H hv
        · exact hQ _ _ _ H hv
  · exact hQ _ _ _ H hv
def vq_M_announce_101 (p0 : Int32) (p1 : Int32) (Q : Int32 → RS → Prop)  (u3 : Int32) (s : RS) : Prop := if u3 = 0 then (Q (400 : Int32) s) else (wL (s.1 35) (fun x1 => if x1 ≤ (40 : Int32) then (Q (0 : Int32) s) else (Q (413 : Int32) s)))
set_option maxRecDepth 100000 in
set_option maxHeartbeats 4000000 in
theorem vsq_M_announce_101 {A0 : ab_H} {a : Nat} {R : Nat → Nat} {p0 : Int32} {p1 : Int32} {Q : Int32 → ab_H → Prop} {QV : Int32 → RS → Prop}  (hQ : ∀ v (s : RS) (A : ab_H), Me A0 A a R s → QV v s → Q v A)  : ∀ (u3 : Int32) (A : ab_H) (s : RS), Me A0 A a R s → vq_M_announce_101 p0 p1 QV  u3 s → wq_M_announce_101 a p0 p1 Q  u3 A := by
  intro u3 A s H hv
  unfold vq_M_announce_101 at hv
  unfold wq_M_announce_101
  refine me_if hv (fun hv => ?_) (fun hv => ?_)
  · exact hQ _ _ _ H hv
  · refine me_gI H rfl (Nat.le_of_ble_eq_true rfl) hv (fun x1 hv => ?_)
    refine me_if hv (fun hv => ?_) (fun hv => ?_)
    · exact hQ _ _ _ H hv
    · exact hQ _ _ _ H hv
def vq_M_announce_92 (p0 : Int32) (p1 : Int32) (Q : Int32 → RS → Prop) (k28 : Int32 → Int32 → RS → Prop) (u3 : Int32) (u4 : Int32) (s1 : Int32) (s : RS) : Prop := vP s 35 s1 (fun s => k28 u3 (u4 + 1) s)
set_option maxRecDepth 100000 in
set_option maxHeartbeats 4000000 in
theorem vsq_M_announce_92 {A0 : ab_H} {a : Nat} {R : Nat → Nat} {p0 : Int32} {p1 : Int32} {Q : Int32 → ab_H → Prop} {QV : Int32 → RS → Prop} {k28 : Int32 → Int32 → ab_H → Prop} {kv28 : Int32 → Int32 → RS → Prop} (hQ : ∀ v (s : RS) (A : ab_H), Me A0 A a R s → QV v s → Q v A) (hk28 : ∀ (u3 : Int32) (u4 : Int32) (A : ab_H) (s : RS), Me A0 A a R s → kv28 u3 u4 s → k28 u3 u4 A) : ∀ (u3 : Int32) (u4 : Int32) (s1 : Int32) (A : ab_H) (s : RS), Me A0 A a R s → vq_M_announce_92 p0 p1 QV kv28 u3 u4 s1 s → wq_M_announce_92 a p0 p1 Q k28 u3 u4 (some a) s1 A := by
  intro u3 u4 s1 A s H hv
  unfold vq_M_announce_92 at hv
  unfold wq_M_announce_92
  refine me_p H rfl (Nat.le_of_ble_eq_true rfl) hv (fun A s H hv => ?_)
  exact hk28 _ _ _ _ H hv
def vq_M_announce_65 (p0 : Int32) (p1 : Int32) (Q : Int32 → RS → Prop) (k28 : Int32 → Int32 → RS → Prop) (u4 : Int32) (s0 : Int32) (s : RS) : Prop := if s0 = 0 then (vq_M_announce_92 p0 p1 Q k28 s0 u4 (0 : Int32) s) else (wL (s.1 35) (fun x2 => vp_M_byteAt u4 s (fun x3 s => vq_M_announce_92 p0 p1 Q k28 s0 u4 (((x2 * (10 : Int32)) + x3) - (48 : Int32)) s)))
set_option maxRecDepth 100000 in
set_option maxHeartbeats 4000000 in
theorem vsq_M_announce_65 {A0 : ab_H} {a : Nat} {R : Nat → Nat} {p0 : Int32} {p1 : Int32} {Q : Int32 → ab_H → Prop} {QV : Int32 → RS → Prop} {k28 : Int32 → Int32 → ab_H → Prop} {kv28 : Int32 → Int32 → RS → Prop} (hQ : ∀ v (s : RS) (A : ab_H), Me A0 A a R s → QV v s → Q v A) (hk28 : ∀ (u3 : Int32) (u4 : Int32) (A : ab_H) (s : RS), Me A0 A a R s → kv28 u3 u4 s → k28 u3 u4 A) : ∀ (u4 : Int32) (s0 : Int32) (A : ab_H) (s : RS), Me A0 A a R s → vq_M_announce_65 p0 p1 QV kv28 u4 s0 s → wq_M_announce_65 a p0 p1 Q k28 u4 s0 A := by
  intro u4 s0 A s H hv
  unfold vq_M_announce_65 at hv
  unfold wq_M_announce_65
  refine me_if hv (fun hv => ?_) (fun hv => ?_)
  · exact vsq_M_announce_92 hQ hk28 _ _ _ _ _ H hv
  · refine me_gI H rfl (Nat.le_of_ble_eq_true rfl) hv (fun x2 hv => ?_)
    refine me_c H (vs_M_byteAt H hv (fun x3 s A H hv => ?_))
    exact vsq_M_announce_92 hQ hk28 _ _ _ _ _ H hv
def vq_M_announce_64 (p0 : Int32) (p1 : Int32) (Q : Int32 → RS → Prop) (k28 : Int32 → Int32 → RS → Prop) (u4 : Int32) (s : RS) : Prop := vq_M_announce_65 p0 p1 Q k28 u4 (0 : Int32) s
set_option maxRecDepth 100000 in
set_option maxHeartbeats 4000000 in
theorem vsq_M_announce_64 {A0 : ab_H} {a : Nat} {R : Nat → Nat} {p0 : Int32} {p1 : Int32} {Q : Int32 → ab_H → Prop} {QV : Int32 → RS → Prop} {k28 : Int32 → Int32 → ab_H → Prop} {kv28 : Int32 → Int32 → RS → Prop} (hQ : ∀ v (s : RS) (A : ab_H), Me A0 A a R s → QV v s → Q v A) (hk28 : ∀ (u3 : Int32) (u4 : Int32) (A : ab_H) (s : RS), Me A0 A a R s → kv28 u3 u4 s → k28 u3 u4 A) : ∀ (u4 : Int32) (A : ab_H) (s : RS), Me A0 A a R s → vq_M_announce_64 p0 p1 QV kv28 u4 s → wq_M_announce_64 a p0 p1 Q k28 u4 A := by
  intro u4 A s H hv
  unfold vq_M_announce_64 at hv
  unfold wq_M_announce_64
  exact vsq_M_announce_65 hQ hk28 _ _ _ _ H hv
def vb_M_announce_28 (p0 : Int32) (p1 : Int32) (Q : Int32 → RS → Prop)  (k28 : Int32 → Int32 → RS → Prop) (u3 : Int32) (u4 : Int32) (s : RS) : Prop := if p1 ≤ u4 then (vq_M_announce_101 p0 p1 Q  u3 s) else (if u3 = 0 then (vq_M_announce_64 p0 p1 Q k28 u4 s) else (vp_M_byteAt u4 s (fun x4 s => if x4 < (48 : Int32) then (vq_M_announce_64 p0 p1 Q k28 u4 s) else (vp_M_byteAt u4 s (fun x5 s => if (57 : Int32) < x5 then (vq_M_announce_64 p0 p1 Q k28 u4 s) else (vq_M_announce_65 p0 p1 Q k28 u4 (1 : Int32) s))))))
def vq_M_announce_28 (p0 : Int32) (p1 : Int32) (Q : Int32 → RS → Prop)  : Nat → Int32 → Int32 → RS → Prop
  | 0 => fun _ _ _ => False
  | n + 1 => vb_M_announce_28 p0 p1 Q  (vq_M_announce_28 p0 p1 Q  n)
set_option maxRecDepth 100000 in
set_option maxHeartbeats 4000000 in
theorem vsq_M_announce_28 {A0 : ab_H} {a : Nat} {R : Nat → Nat} {p0 : Int32} {p1 : Int32} {Q : Int32 → ab_H → Prop} {QV : Int32 → RS → Prop}  (hQ : ∀ v (s : RS) (A : ab_H), Me A0 A a R s → QV v s → Q v A)  : ∀ (n : Nat) (u3 : Int32) (u4 : Int32) (A : ab_H) (s : RS), Me A0 A a R s → vq_M_announce_28 p0 p1 QV  n u3 u4 s → wq_M_announce_28 a p0 p1 Q  n u3 u4 A := by
  intro n
  induction n with
  | zero =>
    intro u3 u4 A s H hv
    exact absurd hv id
  | succ n hk28 =>
    intro u3 u4 A s H hv
    have hv : vb_M_announce_28 p0 p1 QV  (vq_M_announce_28 p0 p1 QV  n) u3 u4 s := hv
    show wb_M_announce_28 a p0 p1 Q  (wq_M_announce_28 a p0 p1 Q  n) u3 u4 A
    unfold vb_M_announce_28 at hv
    unfold wb_M_announce_28
    refine me_if hv (fun hv => ?_) (fun hv => ?_)
    · exact vsq_M_announce_101 hQ  _ _ _ H hv
    · refine me_if hv (fun hv => ?_) (fun hv => ?_)
      · exact vsq_M_announce_64 hQ hk28 _ _ _ H hv
      · refine me_c H (vs_M_byteAt H hv (fun x4 s A H hv => ?_))
        refine me_if hv (fun hv => ?_) (fun hv => ?_)
        · exact vsq_M_announce_64 hQ hk28 _ _ _ H hv
        · refine me_c H (vs_M_byteAt H hv (fun x5 s A H hv => ?_))
          refine me_if hv (fun hv => ?_) (fun hv => ?_)
          · exact vsq_M_announce_64 hQ hk28 _ _ _ H hv
          · exact vsq_M_announce_65 hQ hk28 _ _ _ _ H hv
def vq_M_announce_24 (p0 : Int32) (p1 : Int32) (Q : Int32 → RS → Prop)  (s0 : Int32) (s : RS) : Prop := ∃ n, vq_M_announce_28 p0 p1 Q  n s0 p0 s
set_option maxRecDepth 100000 in
set_option maxHeartbeats 4000000 in
theorem vsq_M_announce_24 {A0 : ab_H} {a : Nat} {R : Nat → Nat} {p0 : Int32} {p1 : Int32} {Q : Int32 → ab_H → Prop} {QV : Int32 → RS → Prop}  (hQ : ∀ v (s : RS) (A : ab_H), Me A0 A a R s → QV v s → Q v A)  : ∀ (s0 : Int32) (A : ab_H) (s : RS), Me A0 A a R s → vq_M_announce_24 p0 p1 QV  s0 s → wq_M_announce_24 a p0 p1 Q  s0 A := by
  intro s0 A s H hv
  unfold vq_M_announce_24 at hv
  unfold wq_M_announce_24
  obtain ⟨n, hv⟩ := hv
  exact ⟨n, vsq_M_announce_28 hQ  n _ _ _ _ H hv⟩
def vq_M_announce_23 (p0 : Int32) (p1 : Int32) (Q : Int32 → RS → Prop)   (s : RS) : Prop := vq_M_announce_24 p0 p1 Q  (0 : Int32) s
set_option maxRecDepth 100000 in
set_option maxHeartbeats 4000000 in
theorem vsq_M_announce_23 {A0 : ab_H} {a : Nat} {R : Nat → Nat} {p0 : Int32} {p1 : Int32} {Q : Int32 → ab_H → Prop} {QV : Int32 → RS → Prop}  (hQ : ∀ v (s : RS) (A : ab_H), Me A0 A a R s → QV v s → Q v A)  : ∀ (A : ab_H) (s : RS), Me A0 A a R s → vq_M_announce_23 p0 p1 QV   s → wq_M_announce_23 a p0 p1 Q   A := by
  intro  A s H hv
  unfold vq_M_announce_23 at hv
  unfold wq_M_announce_23
  exact vsq_M_announce_24 hQ  _ _ _ H hv
def vp_M_announce (p0 : Int32) (p1 : Int32) (s : RS) (Q : Int32 → RS → Prop) : Prop := vP s 35 (0 : Int32) (fun s => if (p1 - p0) < (1 : Int32) then (vq_M_announce_23 p0 p1 Q   s) else (if (3 : Int32) < (p1 - p0) then (vq_M_announce_23 p0 p1 Q   s) else (vq_M_announce_24 p0 p1 Q  (1 : Int32) s)))
set_option maxRecDepth 100000 in
set_option maxHeartbeats 4000000 in
theorem vs_M_announce {A0 : ab_H} {a : Nat} {R : Nat → Nat} {p0 : Int32} {p1 : Int32} {A : ab_H} {s : RS} {Q : Int32 → ab_H → Prop} {QV : Int32 → RS → Prop} (H : Me A0 A a R s) (hv : vp_M_announce p0 p1 s QV) (hQ : ∀ v (s : RS) (A : ab_H), Me A0 A a R s → QV v s → Q v A) : wp_M_announce a p0 p1 A Q := by
  unfold vp_M_announce at hv
  unfold wp_M_announce
  refine me_p H rfl (Nat.le_of_ble_eq_true rfl) hv (fun A s H hv => ?_)
  refine me_if hv (fun hv => ?_) (fun hv => ?_)
  · exact vsq_M_announce_23 hQ  _ _ H hv
  · refine me_if hv (fun hv => ?_) (fun hv => ?_)
    · exact vsq_M_announce_23 hQ  _ _ H hv
    · exact vsq_M_announce_24 hQ  _ _ _ H hv
def vq_M_header_388 (p0 : Int32) (p1 : Int32) (Q : Int32 → RS → Prop)  (u5 : Int32) (u6 : Int32) (u8 : Int32) (s1 : Int32) (s : RS) : Prop := wB s1 (vP s 34 s1 (fun s => if u8 = 0 then (Q (0 : Int32) s) else (vp_M_announce u5 u6 s (fun x1 s => Q x1 s))))
set_option maxRecDepth 100000 in
set_option maxHeartbeats 4000000 in
theorem vsq_M_header_388 {A0 : ab_H} {a : Nat} {R : Nat → Nat} {p0 : Int32} {p1 : Int32} {Q : Int32 → ab_H → Prop} {QV : Int32 → RS → Prop}  (hQ : ∀ v (s : RS) (A : ab_H), Me A0 A a R s → QV v s → Q v A)  : ∀ (u5 : Int32) (u6 : Int32) (u8 : Int32) (s1 : Int32) (A : ab_H) (s : RS), Me A0 A a R s → vq_M_header_388 p0 p1 QV  u5 u6 u8 s1 s → wq_M_header_388 a p0 p1 Q  u5 u6 u8 (some a) s1 A := by
  intro u5 u6 u8 s1 A s H hv
  unfold vq_M_header_388 at hv
  unfold wq_M_header_388
  obtain ⟨hb, hv⟩ := hv
  refine ⟨hb, ?_⟩
  refine me_p H rfl (Nat.le_of_ble_eq_true rfl) hv (fun A s H hv => ?_)
  refine me_if hv (fun hv => ?_) (fun hv => ?_)
  · exact hQ _ _ _ H hv
  · refine me_c H (vs_M_announce H hv (fun x1 s A H hv => ?_))
    exact hQ _ _ _ H hv
def vq_M_header_387 (p0 : Int32) (p1 : Int32) (Q : Int32 → RS → Prop)  (u5 : Int32) (u6 : Int32) (u8 : Int32) (s : RS) : Prop := vq_M_header_388 p0 p1 Q  u5 u6 u8 (0 : Int32) s
set_option maxRecDepth 100000 in
set_option maxHeartbeats 4000000 in
theorem vsq_M_header_387 {A0 : ab_H} {a : Nat} {R : Nat → Nat} {p0 : Int32} {p1 : Int32} {Q : Int32 → ab_H → Prop} {QV : Int32 → RS → Prop}  (hQ : ∀ v (s : RS) (A : ab_H), Me A0 A a R s → QV v s → Q v A)  : ∀ (u5 : Int32) (u6 : Int32) (u8 : Int32) (A : ab_H) (s : RS), Me A0 A a R s → vq_M_header_387 p0 p1 QV  u5 u6 u8 s → wq_M_header_387 a p0 p1 Q  u5 u6 u8 (some a) A := by
  intro u5 u6 u8 A s H hv
  unfold vq_M_header_387 at hv
  unfold wq_M_header_387
  exact vsq_M_header_388 hQ  _ _ _ _ _ _ H hv
def vq_M_header_383 (p0 : Int32) (p1 : Int32) (Q : Int32 → RS → Prop)  (u5 : Int32) (u6 : Int32) (u8 : Int32) (s : RS) : Prop := vq_M_header_388 p0 p1 Q  u5 u6 u8 (1 : Int32) s
set_option maxRecDepth 100000 in
set_option maxHeartbeats 4000000 in
theorem vsq_M_header_383 {A0 : ab_H} {a : Nat} {R : Nat → Nat} {p0 : Int32} {p1 : Int32} {Q : Int32 → ab_H → Prop} {QV : Int32 → RS → Prop}  (hQ : ∀ v (s : RS) (A : ab_H), Me A0 A a R s → QV v s → Q v A)  : ∀ (u5 : Int32) (u6 : Int32) (u8 : Int32) (A : ab_H) (s : RS), Me A0 A a R s → vq_M_header_383 p0 p1 QV  u5 u6 u8 s → wq_M_header_383 a p0 p1 Q  u5 u6 u8 (some a) A := by
  intro u5 u6 u8 A s H hv
  unfold vq_M_header_383 at hv
  unfold wq_M_header_383
  exact vsq_M_header_388 hQ  _ _ _ _ _ _ H hv
def vq_M_header_331 (p0 : Int32) (p1 : Int32) (Q : Int32 → RS → Prop)  (u3 : Int32) (u5 : Int32) (u6 : Int32) (u8 : Int32) (s0 : Int32) (s : RS) : Prop := wL (s.1 34) (fun x2 => if x2 = 0 then (if s0 = 0 then (vq_M_header_387 p0 p1 Q  u5 u6 u8 s) else (if (u3 - p0) = (4 : Int32) then (vp_M_isNamed p0 u3 (99 : Int32) (111 : Int32) (110 : Int32) s (fun x3 s => if x3 = 0 then (vq_M_header_387 p0 p1 Q  u5 u6 u8 s) else (vp_M_byteAt (p0 + (3 : Int32)) s (fun x4 s => vp_M_small x4 s (fun x5 s => if x5 = (110 : Int32) then (vq_M_header_383 p0 p1 Q  u5 u6 u8 s) else (vq_M_header_387 p0 p1 Q  u5 u6 u8 s)))))) else (vq_M_header_387 p0 p1 Q  u5 u6 u8 s))) else (vq_M_header_383 p0 p1 Q  u5 u6 u8 s))
set_option maxRecDepth 100000 in
set_option maxHeartbeats 4000000 in
theorem vsq_M_header_331 {A0 : ab_H} {a : Nat} {R : Nat → Nat} {p0 : Int32} {p1 : Int32} {Q : Int32 → ab_H → Prop} {QV : Int32 → RS → Prop}  (hQ : ∀ v (s : RS) (A : ab_H), Me A0 A a R s → QV v s → Q v A)  : ∀ (u3 : Int32) (u5 : Int32) (u6 : Int32) (u8 : Int32) (s0 : Int32) (A : ab_H) (s : RS), Me A0 A a R s → vq_M_header_331 p0 p1 QV  u3 u5 u6 u8 s0 s → wq_M_header_331 a p0 p1 Q  u3 u5 u6 u8 s0 A := by
  intro u3 u5 u6 u8 s0 A s H hv
  unfold vq_M_header_331 at hv
  unfold wq_M_header_331
  refine me_gI H rfl (Nat.le_of_ble_eq_true rfl) hv (fun x2 hv => ?_)
  refine me_if hv (fun hv => ?_) (fun hv => ?_)
  · refine me_if hv (fun hv => ?_) (fun hv => ?_)
    · exact vsq_M_header_387 hQ  _ _ _ _ _ H hv
    · refine me_if hv (fun hv => ?_) (fun hv => ?_)
      · refine me_c H (vs_M_isNamed H hv (fun x3 s A H hv => ?_))
        refine me_if hv (fun hv => ?_) (fun hv => ?_)
        · exact vsq_M_header_387 hQ  _ _ _ _ _ H hv
        · refine me_c H (vs_M_byteAt H hv (fun x4 s A H hv => ?_))
          refine vs_M_small H hv (fun x5 s A H hv => ?_)
          refine me_if hv (fun hv => ?_) (fun hv => ?_)
          · exact vsq_M_header_383 hQ  _ _ _ _ _ H hv
          · exact vsq_M_header_387 hQ  _ _ _ _ _ H hv
      · exact vsq_M_header_387 hQ  _ _ _ _ _ H hv
  · exact vsq_M_header_383 hQ  _ _ _ _ _ H hv
def vq_M_header_330 (p0 : Int32) (p1 : Int32) (Q : Int32 → RS → Prop)  (u3 : Int32) (u5 : Int32) (u6 : Int32) (u8 : Int32) (s : RS) : Prop := vq_M_header_331 p0 p1 Q  u3 u5 u6 u8 (0 : Int32) s
set_option maxRecDepth 100000 in
set_option maxHeartbeats 4000000 in
theorem vsq_M_header_330 {A0 : ab_H} {a : Nat} {R : Nat → Nat} {p0 : Int32} {p1 : Int32} {Q : Int32 → ab_H → Prop} {QV : Int32 → RS → Prop}  (hQ : ∀ v (s : RS) (A : ab_H), Me A0 A a R s → QV v s → Q v A)  : ∀ (u3 : Int32) (u5 : Int32) (u6 : Int32) (u8 : Int32) (A : ab_H) (s : RS), Me A0 A a R s → vq_M_header_330 p0 p1 QV  u3 u5 u6 u8 s → wq_M_header_330 a p0 p1 Q  u3 u5 u6 u8 A := by
  intro u3 u5 u6 u8 A s H hv
  unfold vq_M_header_330 at hv
  unfold wq_M_header_330
  exact vsq_M_header_331 hQ  _ _ _ _ _ _ _ H hv
def vq_M_header_190 (p0 : Int32) (p1 : Int32) (Q : Int32 → RS → Prop)  (u3 : Int32) (u5 : Int32) (u6 : Int32) (u7 : Int32) (u8 : Int32) (s : RS) : Prop := if u7 = 0 then (if (u6 - u5) = (5 : Int32) then (vp_M_byteAt u5 s (fun x6 s => if x6 = (99 : Int32) then (vp_M_byteAt (u5 + (1 : Int32)) s (fun x7 s => if x7 = (108 : Int32) then (vp_M_byteAt (u5 + (2 : Int32)) s (fun x8 s => if x8 = (111 : Int32) then (vp_M_byteAt (u5 + (3 : Int32)) s (fun x9 s => if x9 = (115 : Int32) then (vp_M_byteAt (u5 + (4 : Int32)) s (fun x10 s => if x10 = (101 : Int32) then (vq_M_header_331 p0 p1 Q  u3 u5 u6 u8 (1 : Int32) s) else (vq_M_header_330 p0 p1 Q  u3 u5 u6 u8 s))) else (vq_M_header_330 p0 p1 Q  u3 u5 u6 u8 s))) else (vq_M_header_330 p0 p1 Q  u3 u5 u6 u8 s))) else (vq_M_header_330 p0 p1 Q  u3 u5 u6 u8 s))) else (vq_M_header_330 p0 p1 Q  u3 u5 u6 u8 s))) else (vq_M_header_330 p0 p1 Q  u3 u5 u6 u8 s)) else (vP s 36 (1 : Int32) (fun s => if (u6 - u5) = (3 : Int32) then (vp_M_byteAt u5 s (fun x11 s => if x11 = (121 : Int32) then (vp_M_byteAt (u5 + (1 : Int32)) s (fun x12 s => if x12 = (101 : Int32) then (vp_M_byteAt (u5 + (2 : Int32)) s (fun x13 s => if x13 = (115 : Int32) then (Q (0 : Int32) s) else (Q (400 : Int32) s))) else (Q (400 : Int32) s))) else (Q (400 : Int32) s))) else (Q (400 : Int32) s)))
set_option maxRecDepth 100000 in
set_option maxHeartbeats 4000000 in
theorem vsq_M_header_190 {A0 : ab_H} {a : Nat} {R : Nat → Nat} {p0 : Int32} {p1 : Int32} {Q : Int32 → ab_H → Prop} {QV : Int32 → RS → Prop}  (hQ : ∀ v (s : RS) (A : ab_H), Me A0 A a R s → QV v s → Q v A)  : ∀ (u3 : Int32) (u5 : Int32) (u6 : Int32) (u7 : Int32) (u8 : Int32) (A : ab_H) (s : RS), Me A0 A a R s → vq_M_header_190 p0 p1 QV  u3 u5 u6 u7 u8 s → wq_M_header_190 a p0 p1 Q  u3 u5 u6 u7 u8 A := by
  intro u3 u5 u6 u7 u8 A s H hv
  unfold vq_M_header_190 at hv
  unfold wq_M_header_190
  refine me_if hv (fun hv => ?_) (fun hv => ?_)
  · refine me_if hv (fun hv => ?_) (fun hv => ?_)
    · refine me_c H (vs_M_byteAt H hv (fun x6 s A H hv => ?_))
      refine me_if hv (fun hv => ?_) (fun hv => ?_)
      · refine me_c H (vs_M_byteAt H hv (fun x7 s A H hv => ?_))
        refine me_if hv (fun hv => ?_) (fun hv => ?_)
        · refine me_c H (vs_M_byteAt H hv (fun x8 s A H hv => ?_))
          refine me_if hv (fun hv => ?_) (fun hv => ?_)
          · refine me_c H (vs_M_byteAt H hv (fun x9 s A H hv => ?_))
            refine me_if hv (fun hv => ?_) (fun hv => ?_)
            · refine me_c H (vs_M_byteAt H hv (fun x10 s A H hv => ?_))
              refine me_if hv (fun hv => ?_) (fun hv => ?_)
              · exact vsq_M_header_331 hQ  _ _ _ _ _ _ _ H hv
              · exact vsq_M_header_330 hQ  _ _ _ _ _ _ H hv
            · exact vsq_M_header_330 hQ  _ _ _ _ _ _ H hv
          · exact vsq_M_header_330 hQ  _ _ _ _ _ _ H hv
        · exact vsq_M_header_330 hQ  _ _ _ _ _ _ H hv
      · exact vsq_M_header_330 hQ  _ _ _ _ _ _ H hv
    · exact vsq_M_header_330 hQ  _ _ _ _ _ _ H hv
  · refine me_p H rfl (Nat.le_of_ble_eq_true rfl) hv (fun A s H hv => ?_)
    refine me_if hv (fun hv => ?_) (fun hv => ?_)
    · refine me_c H (vs_M_byteAt H hv (fun x11 s A H hv => ?_))
      refine me_if hv (fun hv => ?_) (fun hv => ?_)
      · refine me_c H (vs_M_byteAt H hv (fun x12 s A H hv => ?_))
        refine me_if hv (fun hv => ?_) (fun hv => ?_)
        · refine me_c H (vs_M_byteAt H hv (fun x13 s A H hv => ?_))
          refine me_if hv (fun hv => ?_) (fun hv => ?_)
          · exact hQ _ _ _ H hv
          · exact hQ _ _ _ H hv
        · exact hQ _ _ _ H hv
      · exact hQ _ _ _ H hv
    · exact hQ _ _ _ H hv
def vq_M_header_172 (p0 : Int32) (p1 : Int32) (Q : Int32 → RS → Prop)  (u3 : Int32) (u5 : Int32) (u6 : Int32) (u7 : Int32) (u8 : Int32) (s : RS) : Prop := wL (s.1 35) (fun x14 => if 0 ≤ x14 then (Q (400 : Int32) s) else (wL (s.1 36) (fun x15 => if x15 = 0 then (vq_M_header_190 p0 p1 Q  u3 u5 u6 u7 u8 s) else (Q (400 : Int32) s))))
set_option maxRecDepth 100000 in
set_option maxHeartbeats 4000000 in
theorem vsq_M_header_172 {A0 : ab_H} {a : Nat} {R : Nat → Nat} {p0 : Int32} {p1 : Int32} {Q : Int32 → ab_H → Prop} {QV : Int32 → RS → Prop}  (hQ : ∀ v (s : RS) (A : ab_H), Me A0 A a R s → QV v s → Q v A)  : ∀ (u3 : Int32) (u5 : Int32) (u6 : Int32) (u7 : Int32) (u8 : Int32) (A : ab_H) (s : RS), Me A0 A a R s → vq_M_header_172 p0 p1 QV  u3 u5 u6 u7 u8 s → wq_M_header_172 a p0 p1 Q  u3 u5 u6 u7 u8 A := by
  intro u3 u5 u6 u7 u8 A s H hv
  unfold vq_M_header_172 at hv
  unfold wq_M_header_172
  refine me_gI H rfl (Nat.le_of_ble_eq_true rfl) hv (fun x14 hv => ?_)
  refine me_if hv (fun hv => ?_) (fun hv => ?_)
  · exact hQ _ _ _ H hv
  · refine me_gI H rfl (Nat.le_of_ble_eq_true rfl) hv (fun x15 hv => ?_)
    refine me_if hv (fun hv => ?_) (fun hv => ?_)
    · exact vsq_M_header_190 hQ  _ _ _ _ _ _ _ H hv
    · exact hQ _ _ _ H hv
def vq_M_header_160 (p0 : Int32) (p1 : Int32) (Q : Int32 → RS → Prop)  (u3 : Int32) (u5 : Int32) (u6 : Int32) (u7 : Int32) (s0 : Int32) (s : RS) : Prop := if s0 = 0 then (if u7 = 0 then (vq_M_header_190 p0 p1 Q  u3 u5 u6 u7 s0 s) else (vq_M_header_172 p0 p1 Q  u3 u5 u6 u7 s0 s)) else (vq_M_header_172 p0 p1 Q  u3 u5 u6 u7 s0 s)
set_option maxRecDepth 100000 in
set_option maxHeartbeats 4000000 in
theorem vsq_M_header_160 {A0 : ab_H} {a : Nat} {R : Nat → Nat} {p0 : Int32} {p1 : Int32} {Q : Int32 → ab_H → Prop} {QV : Int32 → RS → Prop}  (hQ : ∀ v (s : RS) (A : ab_H), Me A0 A a R s → QV v s → Q v A)  : ∀ (u3 : Int32) (u5 : Int32) (u6 : Int32) (u7 : Int32) (s0 : Int32) (A : ab_H) (s : RS), Me A0 A a R s → vq_M_header_160 p0 p1 QV  u3 u5 u6 u7 s0 s → wq_M_header_160 a p0 p1 Q  u3 u5 u6 u7 s0 A := by
  intro u3 u5 u6 u7 s0 A s H hv
  unfold vq_M_header_160 at hv
  unfold wq_M_header_160
  refine me_if hv (fun hv => ?_) (fun hv => ?_)
  · refine me_if hv (fun hv => ?_) (fun hv => ?_)
    · exact vsq_M_header_190 hQ  _ _ _ _ _ _ _ H hv
    · exact vsq_M_header_172 hQ  _ _ _ _ _ _ _ H hv
  · exact vsq_M_header_172 hQ  _ _ _ _ _ _ _ H hv
def vq_M_header_159 (p0 : Int32) (p1 : Int32) (Q : Int32 → RS → Prop)  (u3 : Int32) (u5 : Int32) (u6 : Int32) (u7 : Int32) (s : RS) : Prop := vq_M_header_160 p0 p1 Q  u3 u5 u6 u7 (0 : Int32) s
set_option maxRecDepth 100000 in
set_option maxHeartbeats 4000000 in
theorem vsq_M_header_159 {A0 : ab_H} {a : Nat} {R : Nat → Nat} {p0 : Int32} {p1 : Int32} {Q : Int32 → ab_H → Prop} {QV : Int32 → RS → Prop}  (hQ : ∀ v (s : RS) (A : ab_H), Me A0 A a R s → QV v s → Q v A)  : ∀ (u3 : Int32) (u5 : Int32) (u6 : Int32) (u7 : Int32) (A : ab_H) (s : RS), Me A0 A a R s → vq_M_header_159 p0 p1 QV  u3 u5 u6 u7 s → wq_M_header_159 a p0 p1 Q  u3 u5 u6 u7 A := by
  intro u3 u5 u6 u7 A s H hv
  unfold vq_M_header_159 at hv
  unfold wq_M_header_159
  exact vsq_M_header_160 hQ  _ _ _ _ _ _ _ H hv
def vq_M_header_76 (p0 : Int32) (p1 : Int32) (Q : Int32 → RS → Prop)  (u3 : Int32) (u4 : Int32) (s : RS) : Prop := if u4 = 0 then (Q (400 : Int32) s) else (wL (s.1 29) (fun x16 => vS s 30 (x16 - (1 : Int32)) p0 (fun s => wL (s.1 29) (fun x17 => vS s 31 (x17 - (1 : Int32)) p1 (fun s => vp_M_valueAt p0 p1 s (fun x18 s => vp_M_valueEnd p0 p1 s (fun x19 s => vp_M_isChunked p0 u3 s (fun x20 s => if (u3 - p0) = (3 : Int32) then (vp_M_isNamed p0 u3 (108 : Int32) (101 : Int32) (110 : Int32) s (fun x21 s => if x21 = 0 then (vq_M_header_159 p0 p1 Q  u3 x18 x19 x20 s) else (vq_M_header_160 p0 p1 Q  u3 x18 x19 x20 (1 : Int32) s))) else (vq_M_header_159 p0 p1 Q  u3 x18 x19 x20 s)))))))))
set_option maxRecDepth 100000 in
set_option maxHeartbeats 4000000 in
theorem vsq_M_header_76 {A0 : ab_H} {a : Nat} {R : Nat → Nat} {p0 : Int32} {p1 : Int32} {Q : Int32 → ab_H → Prop} {QV : Int32 → RS → Prop}  (hQ : ∀ v (s : RS) (A : ab_H), Me A0 A a R s → QV v s → Q v A)  : ∀ (u3 : Int32) (u4 : Int32) (A : ab_H) (s : RS), Me A0 A a R s → vq_M_header_76 p0 p1 QV  u3 u4 s → wq_M_header_76 a p0 p1 Q  u3 u4 A := by
  intro u3 u4 A s H hv
  unfold vq_M_header_76 at hv
  unfold wq_M_header_76
  refine me_if hv (fun hv => ?_) (fun hv => ?_)
  · exact hQ _ _ _ H hv
  · refine me_gR H rfl (Nat.le_of_ble_eq_true rfl) ?_
    refine me_gI H rfl (Nat.le_of_ble_eq_true rfl) hv (fun x16 hv => ?_)
    refine me_s H rfl rfl hv (fun A s H hv => ?_)
    refine me_gR H rfl (Nat.le_of_ble_eq_true rfl) ?_
    refine me_gI H rfl (Nat.le_of_ble_eq_true rfl) hv (fun x17 hv => ?_)
    refine me_s H rfl rfl hv (fun A s H hv => ?_)
    refine me_c H (vs_M_valueAt H hv (fun x18 s A H hv => ?_))
    refine me_c H (vs_M_valueEnd H hv (fun x19 s A H hv => ?_))
    refine me_c H (vs_M_isChunked H hv (fun x20 s A H hv => ?_))
    refine me_if hv (fun hv => ?_) (fun hv => ?_)
    · refine me_c H (vs_M_isNamed H hv (fun x21 s A H hv => ?_))
      refine me_if hv (fun hv => ?_) (fun hv => ?_)
      · exact vsq_M_header_159 hQ  _ _ _ _ _ _ H hv
      · exact vsq_M_header_160 hQ  _ _ _ _ _ _ _ H hv
    · exact vsq_M_header_159 hQ  _ _ _ _ _ _ H hv
def vb_M_header_29 (p0 : Int32) (p1 : Int32) (Q : Int32 → RS → Prop)  (k29 : Int32 → Int32 → Int32 → RS → Prop) (u3 : Int32) (u4 : Int32) (u5 : Int32) (s : RS) : Prop := if u3 ≤ u5 then (vq_M_header_76 p0 p1 Q  u3 u4 s) else (if u4 = 0 then (k29 u3 (0 : Int32) (u5 + 1) s) else (vp_M_byteAt u5 s (fun x22 s => vp_M_letter x22 s (fun x23 s => if x23 = 0 then (vp_M_byteAt u5 s (fun x24 s => if x24 = (45 : Int32) then (k29 u3 (1 : Int32) (u5 + 1) s) else (k29 u3 (0 : Int32) (u5 + 1) s))) else (k29 u3 (1 : Int32) (u5 + 1) s)))))
def vq_M_header_29 (p0 : Int32) (p1 : Int32) (Q : Int32 → RS → Prop)  : Nat → Int32 → Int32 → Int32 → RS → Prop
  | 0 => fun _ _ _ _ => False
  | n + 1 => vb_M_header_29 p0 p1 Q  (vq_M_header_29 p0 p1 Q  n)
set_option maxRecDepth 100000 in
set_option maxHeartbeats 4000000 in
theorem vsq_M_header_29 {A0 : ab_H} {a : Nat} {R : Nat → Nat} {p0 : Int32} {p1 : Int32} {Q : Int32 → ab_H → Prop} {QV : Int32 → RS → Prop}  (hQ : ∀ v (s : RS) (A : ab_H), Me A0 A a R s → QV v s → Q v A)  : ∀ (n : Nat) (u3 : Int32) (u4 : Int32) (u5 : Int32) (A : ab_H) (s : RS), Me A0 A a R s → vq_M_header_29 p0 p1 QV  n u3 u4 u5 s → wq_M_header_29 a p0 p1 Q  n u3 u4 u5 A := by
  intro n
  induction n with
  | zero =>
    intro u3 u4 u5 A s H hv
    exact absurd hv id
  | succ n hk29 =>
    intro u3 u4 u5 A s H hv
    have hv : vb_M_header_29 p0 p1 QV  (vq_M_header_29 p0 p1 QV  n) u3 u4 u5 s := hv
    show wb_M_header_29 a p0 p1 Q  (wq_M_header_29 a p0 p1 Q  n) u3 u4 u5 A
    unfold vb_M_header_29 at hv
    unfold wb_M_header_29
    refine me_if hv (fun hv => ?_) (fun hv => ?_)
    · exact vsq_M_header_76 hQ  _ _ _ _ H hv
    · refine me_if hv (fun hv => ?_) (fun hv => ?_)
      · exact hk29 _ _ _ _ _ H hv
      · refine me_c H (vs_M_byteAt H hv (fun x22 s A H hv => ?_))
        refine vs_M_letter H hv (fun x23 s A H hv => ?_)
        refine me_if hv (fun hv => ?_) (fun hv => ?_)
        · refine me_c H (vs_M_byteAt H hv (fun x24 s A H hv => ?_))
          refine me_if hv (fun hv => ?_) (fun hv => ?_)
          · exact hk29 _ _ _ _ _ H hv
          · exact hk29 _ _ _ _ _ H hv
        · exact hk29 _ _ _ _ _ H hv
def vq_M_header_24 (p0 : Int32) (p1 : Int32) (Q : Int32 → RS → Prop)  (u3 : Int32) (s0 : Int32) (s : RS) : Prop := ∃ n, vq_M_header_29 p0 p1 Q  n u3 s0 p0 s
set_option maxRecDepth 100000 in
set_option maxHeartbeats 4000000 in
theorem vsq_M_header_24 {A0 : ab_H} {a : Nat} {R : Nat → Nat} {p0 : Int32} {p1 : Int32} {Q : Int32 → ab_H → Prop} {QV : Int32 → RS → Prop}  (hQ : ∀ v (s : RS) (A : ab_H), Me A0 A a R s → QV v s → Q v A)  : ∀ (u3 : Int32) (s0 : Int32) (A : ab_H) (s : RS), Me A0 A a R s → vq_M_header_24 p0 p1 QV  u3 s0 s → wq_M_header_24 a p0 p1 Q  u3 s0 A := by
  intro u3 s0 A s H hv
  unfold vq_M_header_24 at hv
  unfold wq_M_header_24
  obtain ⟨n, hv⟩ := hv
  exact ⟨n, vsq_M_header_29 hQ  n _ _ _ _ _ H hv⟩
def vq_M_header_23 (p0 : Int32) (p1 : Int32) (Q : Int32 → RS → Prop)  (u3 : Int32) (s : RS) : Prop := vq_M_header_24 p0 p1 Q  u3 (0 : Int32) s
set_option maxRecDepth 100000 in
set_option maxHeartbeats 4000000 in
theorem vsq_M_header_23 {A0 : ab_H} {a : Nat} {R : Nat → Nat} {p0 : Int32} {p1 : Int32} {Q : Int32 → ab_H → Prop} {QV : Int32 → RS → Prop}  (hQ : ∀ v (s : RS) (A : ab_H), Me A0 A a R s → QV v s → Q v A)  : ∀ (u3 : Int32) (A : ab_H) (s : RS), Me A0 A a R s → vq_M_header_23 p0 p1 QV  u3 s → wq_M_header_23 a p0 p1 Q  u3 A := by
  intro u3 A s H hv
  unfold vq_M_header_23 at hv
  unfold wq_M_header_23
  exact vsq_M_header_24 hQ  _ _ _ _ H hv
def vp_M_header (p0 : Int32) (p1 : Int32) (s : RS) (Q : Int32 → RS → Prop) : Prop := vp_M_seek (58 : Int32) p0 p1 s (fun x25 s => if x25 ≤ p0 then (vq_M_header_23 p0 p1 Q  x25 s) else (if p1 ≤ x25 then (vq_M_header_23 p0 p1 Q  x25 s) else (vq_M_header_24 p0 p1 Q  x25 (1 : Int32) s)))
set_option maxRecDepth 100000 in
set_option maxHeartbeats 4000000 in
theorem vs_M_header {A0 : ab_H} {a : Nat} {R : Nat → Nat} {p0 : Int32} {p1 : Int32} {A : ab_H} {s : RS} {Q : Int32 → ab_H → Prop} {QV : Int32 → RS → Prop} (H : Me A0 A a R s) (hv : vp_M_header p0 p1 s QV) (hQ : ∀ v (s : RS) (A : ab_H), Me A0 A a R s → QV v s → Q v A) : wp_M_header a p0 p1 A Q := by
  unfold vp_M_header at hv
  unfold wp_M_header
  refine me_c H (vs_M_seek H hv (fun x25 s A H hv => ?_))
  refine me_if hv (fun hv => ?_) (fun hv => ?_)
  · exact vsq_M_header_23 hQ  _ _ _ H hv
  · refine me_if hv (fun hv => ?_) (fun hv => ?_)
    · exact vsq_M_header_23 hQ  _ _ _ H hv
    · exact vsq_M_header_24 hQ  _ _ _ _ H hv
def vp_M_is (p0 : Int32) (p1 : Int32) (s : RS) (Q : Int32 → RS → Prop) : Prop := wL (s.1 28) (fun x1 => if p0 < x1 then (vp_M_byteAt p0 s (fun x2 s => if x2 = p1 then (Q (1 : Int32) s) else (Q (400 : Int32) s))) else (Q (0 : Int32) s))
set_option maxRecDepth 100000 in
set_option maxHeartbeats 4000000 in
theorem vs_M_is {A0 : ab_H} {a : Nat} {R : Nat → Nat} {p0 : Int32} {p1 : Int32} {A : ab_H} {s : RS} {Q : Int32 → ab_H → Prop} {QV : Int32 → RS → Prop} (H : Me A0 A a R s) (hv : vp_M_is p0 p1 s QV) (hQ : ∀ v (s : RS) (A : ab_H), Me A0 A a R s → QV v s → Q v A) : wp_M_is a p0 p1 A Q := by
  unfold vp_M_is at hv
  unfold wp_M_is
  refine me_gI H rfl (Nat.le_of_ble_eq_true rfl) hv (fun x1 hv => ?_)
  refine me_if hv (fun hv => ?_) (fun hv => ?_)
  · refine me_c H (vs_M_byteAt H hv (fun x2 s A H hv => ?_))
    refine me_if hv (fun hv => ?_) (fun hv => ?_)
    · exact hQ _ _ _ H hv
    · exact hQ _ _ _ H hv
  · exact hQ _ _ _ H hv
def vq_M_chunks_245 (p0 : Int32) (Q : Int32 → RS → Prop) (k7 : Int32 → Int32 → Int32 → RS → Prop) (u2 : Int32) (u3 : Int32) (u4 : Int32) (u6 : Int32) (s0 : Int32) (s : RS) : Prop := if s0 = (1 : Int32) then (if u6 = 0 then (Q s0 s) else (k7 (u2 + 2) u3 (u4 + 1) s)) else (Q s0 s)
set_option maxRecDepth 100000 in
set_option maxHeartbeats 4000000 in
theorem vsq_M_chunks_245 {A0 : ab_H} {a : Nat} {R : Nat → Nat} {p0 : Int32} {Q : Int32 → ab_H → Prop} {QV : Int32 → RS → Prop} {k7 : Int32 → Int32 → Int32 → ab_H → Prop} {kv7 : Int32 → Int32 → Int32 → RS → Prop} (hQ : ∀ v (s : RS) (A : ab_H), Me A0 A a R s → QV v s → Q v A) (hk7 : ∀ (u2 : Int32) (u3 : Int32) (u4 : Int32) (A : ab_H) (s : RS), Me A0 A a R s → kv7 u2 u3 u4 s → k7 u2 u3 u4 A) : ∀ (u2 : Int32) (u3 : Int32) (u4 : Int32) (u6 : Int32) (s0 : Int32) (A : ab_H) (s : RS), Me A0 A a R s → vq_M_chunks_245 p0 QV kv7 u2 u3 u4 u6 s0 s → wq_M_chunks_245 a p0 Q k7 u2 u3 u4 u6 s0 A := by
  intro u2 u3 u4 u6 s0 A s H hv
  unfold vq_M_chunks_245 at hv
  unfold wq_M_chunks_245
  refine me_if hv (fun hv => ?_) (fun hv => ?_)
  · refine me_if hv (fun hv => ?_) (fun hv => ?_)
    · exact hQ _ _ _ H hv
    · exact hk7 _ _ _ _ _ H hv
  · exact hQ _ _ _ H hv
def vq_M_chunks_215 (p0 : Int32) (Q : Int32 → RS → Prop) (k7 : Int32 → Int32 → Int32 → RS → Prop) (u2 : Int32) (u3 : Int32) (u4 : Int32) (u6 : Int32) (s : RS) : Prop := vp_M_is u2 (13 : Int32) s (fun x1 s => if x1 = (1 : Int32) then (vp_M_is (u2 + (1 : Int32)) (10 : Int32) s (fun x3 s => vq_M_chunks_245 p0 Q k7 u2 u3 u4 u6 x3 s)) else (vp_M_is u2 (13 : Int32) s (fun x2 s => vq_M_chunks_245 p0 Q k7 u2 u3 u4 u6 x2 s)))
set_option maxRecDepth 100000 in
set_option maxHeartbeats 4000000 in
theorem vsq_M_chunks_215 {A0 : ab_H} {a : Nat} {R : Nat → Nat} {p0 : Int32} {Q : Int32 → ab_H → Prop} {QV : Int32 → RS → Prop} {k7 : Int32 → Int32 → Int32 → ab_H → Prop} {kv7 : Int32 → Int32 → Int32 → RS → Prop} (hQ : ∀ v (s : RS) (A : ab_H), Me A0 A a R s → QV v s → Q v A) (hk7 : ∀ (u2 : Int32) (u3 : Int32) (u4 : Int32) (A : ab_H) (s : RS), Me A0 A a R s → kv7 u2 u3 u4 s → k7 u2 u3 u4 A) : ∀ (u2 : Int32) (u3 : Int32) (u4 : Int32) (u6 : Int32) (A : ab_H) (s : RS), Me A0 A a R s → vq_M_chunks_215 p0 QV kv7 u2 u3 u4 u6 s → wq_M_chunks_215 a p0 Q k7 u2 u3 u4 u6 A := by
  intro u2 u3 u4 u6 A s H hv
  unfold vq_M_chunks_215 at hv
  unfold wq_M_chunks_215
  refine me_c H (vs_M_is H hv (fun x1 s A H hv => ?_))
  refine me_if hv (fun hv => ?_) (fun hv => ?_)
  · refine me_c H (vs_M_is H hv (fun x3 s A H hv => ?_))
    exact vsq_M_chunks_245 hQ hk7 _ _ _ _ _ _ _ H hv
  · refine me_c H (vs_M_is H hv (fun x2 s A H hv => ?_))
    exact vsq_M_chunks_245 hQ hk7 _ _ _ _ _ _ _ H hv
def vb_M_chunks_165 (p0 : Int32) (Q : Int32 → RS → Prop) (k7 : Int32 → Int32 → Int32 → RS → Prop) (k165 : Int32 → Int32 → Int32 → Int32 → Int32 → RS → Prop) (u2 : Int32) (u3 : Int32) (u4 : Int32) (u6 : Int32) (u8 : Int32) (s : RS) : Prop := if u6 ≤ u8 then (vq_M_chunks_215 p0 Q k7 u2 u3 u4 u6 s) else (wL (s.1 28) (fun x4 => if u2 < x4 then (wL (s.1 32) (fun x5 => vp_M_byteAt u2 s (fun x6 s => vS s 33 x5 x6 (fun s => wL (s.1 32) (fun x7 => vP s 32 (x7 + (1 : Int32)) (fun s => k165 (u2 + 1) u3 u4 u6 (u8 + 1) s)))))) else (Q (0 : Int32) s)))
def vq_M_chunks_165 (p0 : Int32) (Q : Int32 → RS → Prop) (k7 : Int32 → Int32 → Int32 → RS → Prop) : Nat → Int32 → Int32 → Int32 → Int32 → Int32 → RS → Prop
  | 0 => fun _ _ _ _ _ _ => False
  | n + 1 => vb_M_chunks_165 p0 Q k7 (vq_M_chunks_165 p0 Q k7 n)
set_option maxRecDepth 100000 in
set_option maxHeartbeats 4000000 in
theorem vsq_M_chunks_165 {A0 : ab_H} {a : Nat} {R : Nat → Nat} {p0 : Int32} {Q : Int32 → ab_H → Prop} {QV : Int32 → RS → Prop} {k7 : Int32 → Int32 → Int32 → ab_H → Prop} {kv7 : Int32 → Int32 → Int32 → RS → Prop} (hQ : ∀ v (s : RS) (A : ab_H), Me A0 A a R s → QV v s → Q v A) (hk7 : ∀ (u2 : Int32) (u3 : Int32) (u4 : Int32) (A : ab_H) (s : RS), Me A0 A a R s → kv7 u2 u3 u4 s → k7 u2 u3 u4 A) : ∀ (n : Nat) (u2 : Int32) (u3 : Int32) (u4 : Int32) (u6 : Int32) (u8 : Int32) (A : ab_H) (s : RS), Me A0 A a R s → vq_M_chunks_165 p0 QV kv7 n u2 u3 u4 u6 u8 s → wq_M_chunks_165 a p0 Q k7 n u2 u3 u4 u6 u8 A := by
  intro n
  induction n with
  | zero =>
    intro u2 u3 u4 u6 u8 A s H hv
    exact absurd hv id
  | succ n hk165 =>
    intro u2 u3 u4 u6 u8 A s H hv
    have hv : vb_M_chunks_165 p0 QV kv7 (vq_M_chunks_165 p0 QV kv7 n) u2 u3 u4 u6 u8 s := hv
    show wb_M_chunks_165 a p0 Q k7 (wq_M_chunks_165 a p0 Q k7 n) u2 u3 u4 u6 u8 A
    unfold vb_M_chunks_165 at hv
    unfold wb_M_chunks_165
    refine me_if hv (fun hv => ?_) (fun hv => ?_)
    · exact vsq_M_chunks_215 hQ hk7 _ _ _ _ _ _ H hv
    · refine me_gI H rfl (Nat.le_of_ble_eq_true rfl) hv (fun x4 hv => ?_)
      refine me_if hv (fun hv => ?_) (fun hv => ?_)
      · refine me_gR H rfl (Nat.le_of_ble_eq_true rfl) ?_
        refine me_gI H rfl (Nat.le_of_ble_eq_true rfl) hv (fun x5 hv => ?_)
        refine me_c H (vs_M_byteAt H hv (fun x6 s A H hv => ?_))
        refine me_s H rfl rfl hv (fun A s H hv => ?_)
        refine me_gI H rfl (Nat.le_of_ble_eq_true rfl) hv (fun x7 hv => ?_)
        refine me_p H rfl (Nat.le_of_ble_eq_true rfl) hv (fun A s H hv => ?_)
        exact hk165 _ _ _ _ _ _ _ H hv
      · exact hQ _ _ _ H hv
def vq_M_chunks_133 (p0 : Int32) (Q : Int32 → RS → Prop) (k7 : Int32 → Int32 → Int32 → RS → Prop) (u2 : Int32) (u3 : Int32) (u4 : Int32) (u6 : Int32) (s0 : Int32) (s : RS) : Prop := if s0 = (1 : Int32) then (wL ((u3 + u6)) (fun x8 => if x8 ≤ (40 : Int32) then (∃ n, vq_M_chunks_165 p0 Q k7 n (u2 + 2) x8 u4 u6 (0 : Int32) s) else (Q (413 : Int32) s))) else (Q s0 s)
set_option maxRecDepth 100000 in
set_option maxHeartbeats 4000000 in
theorem vsq_M_chunks_133 {A0 : ab_H} {a : Nat} {R : Nat → Nat} {p0 : Int32} {Q : Int32 → ab_H → Prop} {QV : Int32 → RS → Prop} {k7 : Int32 → Int32 → Int32 → ab_H → Prop} {kv7 : Int32 → Int32 → Int32 → RS → Prop} (hQ : ∀ v (s : RS) (A : ab_H), Me A0 A a R s → QV v s → Q v A) (hk7 : ∀ (u2 : Int32) (u3 : Int32) (u4 : Int32) (A : ab_H) (s : RS), Me A0 A a R s → kv7 u2 u3 u4 s → k7 u2 u3 u4 A) : ∀ (u2 : Int32) (u3 : Int32) (u4 : Int32) (u6 : Int32) (s0 : Int32) (A : ab_H) (s : RS), Me A0 A a R s → vq_M_chunks_133 p0 QV kv7 u2 u3 u4 u6 s0 s → wq_M_chunks_133 a p0 Q k7 u2 u3 u4 u6 s0 A := by
  intro u2 u3 u4 u6 s0 A s H hv
  unfold vq_M_chunks_133 at hv
  unfold wq_M_chunks_133
  refine me_if hv (fun hv => ?_) (fun hv => ?_)
  · refine vl_let hv (fun x8 hv => ?_)
    refine me_if hv (fun hv => ?_) (fun hv => ?_)
    · obtain ⟨n, hv⟩ := hv
      exact ⟨n, vsq_M_chunks_165 hQ hk7 n _ _ _ _ _ _ _ H hv⟩
    · exact hQ _ _ _ H hv
  · exact hQ _ _ _ H hv
def vq_M_chunks_103 (p0 : Int32) (Q : Int32 → RS → Prop) (k7 : Int32 → Int32 → Int32 → RS → Prop) (u2 : Int32) (u3 : Int32) (u4 : Int32) (u6 : Int32) (s : RS) : Prop := vp_M_is u2 (13 : Int32) s (fun x9 s => if x9 = (1 : Int32) then (vp_M_is (u2 + (1 : Int32)) (10 : Int32) s (fun x11 s => vq_M_chunks_133 p0 Q k7 u2 u3 u4 u6 x11 s)) else (vp_M_is u2 (13 : Int32) s (fun x10 s => vq_M_chunks_133 p0 Q k7 u2 u3 u4 u6 x10 s)))
set_option maxRecDepth 100000 in
set_option maxHeartbeats 4000000 in
theorem vsq_M_chunks_103 {A0 : ab_H} {a : Nat} {R : Nat → Nat} {p0 : Int32} {Q : Int32 → ab_H → Prop} {QV : Int32 → RS → Prop} {k7 : Int32 → Int32 → Int32 → ab_H → Prop} {kv7 : Int32 → Int32 → Int32 → RS → Prop} (hQ : ∀ v (s : RS) (A : ab_H), Me A0 A a R s → QV v s → Q v A) (hk7 : ∀ (u2 : Int32) (u3 : Int32) (u4 : Int32) (A : ab_H) (s : RS), Me A0 A a R s → kv7 u2 u3 u4 s → k7 u2 u3 u4 A) : ∀ (u2 : Int32) (u3 : Int32) (u4 : Int32) (u6 : Int32) (A : ab_H) (s : RS), Me A0 A a R s → vq_M_chunks_103 p0 QV kv7 u2 u3 u4 u6 s → wq_M_chunks_103 a p0 Q k7 u2 u3 u4 u6 A := by
  intro u2 u3 u4 u6 A s H hv
  unfold vq_M_chunks_103 at hv
  unfold wq_M_chunks_103
  refine me_c H (vs_M_is H hv (fun x9 s A H hv => ?_))
  refine me_if hv (fun hv => ?_) (fun hv => ?_)
  · refine me_c H (vs_M_is H hv (fun x11 s A H hv => ?_))
    exact vsq_M_chunks_133 hQ hk7 _ _ _ _ _ _ _ H hv
  · refine me_c H (vs_M_is H hv (fun x10 s A H hv => ?_))
    exact vsq_M_chunks_133 hQ hk7 _ _ _ _ _ _ _ H hv
def vq_M_chunks_86 (p0 : Int32) (Q : Int32 → RS → Prop) (k7 : Int32 → Int32 → Int32 → RS → Prop) (u2 : Int32) (u3 : Int32) (u4 : Int32) (u5 : Int32) (u6 : Int32) (s : RS) : Prop := wL (s.1 28) (fun x12 => if x12 ≤ u2 then (vq_M_chunks_103 p0 Q k7 u2 u3 u4 u6 s) else (if u5 = 0 then (Q (400 : Int32) s) else (vq_M_chunks_103 p0 Q k7 u2 u3 u4 u6 s)))
set_option maxRecDepth 100000 in
set_option maxHeartbeats 4000000 in
theorem vsq_M_chunks_86 {A0 : ab_H} {a : Nat} {R : Nat → Nat} {p0 : Int32} {Q : Int32 → ab_H → Prop} {QV : Int32 → RS → Prop} {k7 : Int32 → Int32 → Int32 → ab_H → Prop} {kv7 : Int32 → Int32 → Int32 → RS → Prop} (hQ : ∀ v (s : RS) (A : ab_H), Me A0 A a R s → QV v s → Q v A) (hk7 : ∀ (u2 : Int32) (u3 : Int32) (u4 : Int32) (A : ab_H) (s : RS), Me A0 A a R s → kv7 u2 u3 u4 s → k7 u2 u3 u4 A) : ∀ (u2 : Int32) (u3 : Int32) (u4 : Int32) (u5 : Int32) (u6 : Int32) (A : ab_H) (s : RS), Me A0 A a R s → vq_M_chunks_86 p0 QV kv7 u2 u3 u4 u5 u6 s → wq_M_chunks_86 a p0 Q k7 u2 u3 u4 u5 u6 A := by
  intro u2 u3 u4 u5 u6 A s H hv
  unfold vq_M_chunks_86 at hv
  unfold wq_M_chunks_86
  refine me_gI H rfl (Nat.le_of_ble_eq_true rfl) hv (fun x12 hv => ?_)
  refine me_if hv (fun hv => ?_) (fun hv => ?_)
  · exact vsq_M_chunks_103 hQ hk7 _ _ _ _ _ _ H hv
  · refine me_if hv (fun hv => ?_) (fun hv => ?_)
    · exact hQ _ _ _ H hv
    · exact vsq_M_chunks_103 hQ hk7 _ _ _ _ _ _ H hv
def vb_M_chunks_20 (p0 : Int32) (Q : Int32 → RS → Prop) (k7 : Int32 → Int32 → Int32 → RS → Prop) (k20 : Int32 → Int32 → Int32 → Int32 → Int32 → RS → Prop) (u2 : Int32) (u3 : Int32) (u4 : Int32) (u5 : Int32) (u6 : Int32) (s : RS) : Prop := if (2 : Int32) ≤ u5 then (vq_M_chunks_86 p0 Q k7 u2 u3 u4 u5 u6 s) else (wL (s.1 28) (fun x13 => if x13 ≤ u2 then (vq_M_chunks_86 p0 Q k7 u2 u3 u4 u5 u6 s) else (vp_M_byteAt u2 s (fun x14 s => vp_M_hex x14 s (fun x15 s => if x15 < 0 then (vq_M_chunks_86 p0 Q k7 u2 u3 u4 u5 u6 s) else (vp_M_byteAt u2 s (fun x16 s => vp_M_byteAt u2 s (fun x17 s => vp_M_small x17 s (fun x18 s => if x16 = x18 then (vp_M_byteAt u2 s (fun x19 s => vp_M_hex x19 s (fun x20 s => wL ((((16 : Int32) * u6) + x20)) (fun x21 => k20 (u2 + 1) u3 u4 (u5 + 1) x21 s)))) else (vq_M_chunks_86 p0 Q k7 u2 u3 u4 u5 u6 s))))))))))
def vq_M_chunks_20 (p0 : Int32) (Q : Int32 → RS → Prop) (k7 : Int32 → Int32 → Int32 → RS → Prop) : Nat → Int32 → Int32 → Int32 → Int32 → Int32 → RS → Prop
  | 0 => fun _ _ _ _ _ _ => False
  | n + 1 => vb_M_chunks_20 p0 Q k7 (vq_M_chunks_20 p0 Q k7 n)
set_option maxRecDepth 100000 in
set_option maxHeartbeats 4000000 in
theorem vsq_M_chunks_20 {A0 : ab_H} {a : Nat} {R : Nat → Nat} {p0 : Int32} {Q : Int32 → ab_H → Prop} {QV : Int32 → RS → Prop} {k7 : Int32 → Int32 → Int32 → ab_H → Prop} {kv7 : Int32 → Int32 → Int32 → RS → Prop} (hQ : ∀ v (s : RS) (A : ab_H), Me A0 A a R s → QV v s → Q v A) (hk7 : ∀ (u2 : Int32) (u3 : Int32) (u4 : Int32) (A : ab_H) (s : RS), Me A0 A a R s → kv7 u2 u3 u4 s → k7 u2 u3 u4 A) : ∀ (n : Nat) (u2 : Int32) (u3 : Int32) (u4 : Int32) (u5 : Int32) (u6 : Int32) (A : ab_H) (s : RS), Me A0 A a R s → vq_M_chunks_20 p0 QV kv7 n u2 u3 u4 u5 u6 s → wq_M_chunks_20 a p0 Q k7 n u2 u3 u4 u5 u6 A := by
  intro n
  induction n with
  | zero =>
    intro u2 u3 u4 u5 u6 A s H hv
    exact absurd hv id
  | succ n hk20 =>
    intro u2 u3 u4 u5 u6 A s H hv
    have hv : vb_M_chunks_20 p0 QV kv7 (vq_M_chunks_20 p0 QV kv7 n) u2 u3 u4 u5 u6 s := hv
    show wb_M_chunks_20 a p0 Q k7 (wq_M_chunks_20 a p0 Q k7 n) u2 u3 u4 u5 u6 A
    unfold vb_M_chunks_20 at hv
    unfold wb_M_chunks_20
    refine me_if hv (fun hv => ?_) (fun hv => ?_)
    · exact vsq_M_chunks_86 hQ hk7 _ _ _ _ _ _ _ H hv
    · refine me_gI H rfl (Nat.le_of_ble_eq_true rfl) hv (fun x13 hv => ?_)
      refine me_if hv (fun hv => ?_) (fun hv => ?_)
      · exact vsq_M_chunks_86 hQ hk7 _ _ _ _ _ _ _ H hv
      · refine me_c H (vs_M_byteAt H hv (fun x14 s A H hv => ?_))
        refine vs_M_hex H hv (fun x15 s A H hv => ?_)
        refine me_if hv (fun hv => ?_) (fun hv => ?_)
        · exact vsq_M_chunks_86 hQ hk7 _ _ _ _ _ _ _ H hv
        · refine me_c H (vs_M_byteAt H hv (fun x16 s A H hv => ?_))
          refine me_c H (vs_M_byteAt H hv (fun x17 s A H hv => ?_))
          refine vs_M_small H hv (fun x18 s A H hv => ?_)
          refine me_if hv (fun hv => ?_) (fun hv => ?_)
          · refine me_c H (vs_M_byteAt H hv (fun x19 s A H hv => ?_))
            refine vs_M_hex H hv (fun x20 s A H hv => ?_)
            refine vl_let hv (fun x21 hv => ?_)
            exact hk20 _ _ _ _ _ _ _ H hv
          · exact vsq_M_chunks_86 hQ hk7 _ _ _ _ _ _ _ H hv
def vb_M_chunks_7 (p0 : Int32) (Q : Int32 → RS → Prop)  (k7 : Int32 → Int32 → Int32 → RS → Prop) (u2 : Int32) (u3 : Int32) (u4 : Int32) (s : RS) : Prop := if (100 : Int32) ≤ u4 then (Q (400 : Int32) s) else (∃ n, vq_M_chunks_20 p0 Q k7 n u2 u3 u4 (0 : Int32) (0 : Int32) s)
def vq_M_chunks_7 (p0 : Int32) (Q : Int32 → RS → Prop)  : Nat → Int32 → Int32 → Int32 → RS → Prop
  | 0 => fun _ _ _ _ => False
  | n + 1 => vb_M_chunks_7 p0 Q  (vq_M_chunks_7 p0 Q  n)
set_option maxRecDepth 100000 in
set_option maxHeartbeats 4000000 in
theorem vsq_M_chunks_7 {A0 : ab_H} {a : Nat} {R : Nat → Nat} {p0 : Int32} {Q : Int32 → ab_H → Prop} {QV : Int32 → RS → Prop}  (hQ : ∀ v (s : RS) (A : ab_H), Me A0 A a R s → QV v s → Q v A)  : ∀ (n : Nat) (u2 : Int32) (u3 : Int32) (u4 : Int32) (A : ab_H) (s : RS), Me A0 A a R s → vq_M_chunks_7 p0 QV  n u2 u3 u4 s → wq_M_chunks_7 a p0 Q  n u2 u3 u4 A := by
  intro n
  induction n with
  | zero =>
    intro u2 u3 u4 A s H hv
    exact absurd hv id
  | succ n hk7 =>
    intro u2 u3 u4 A s H hv
    have hv : vb_M_chunks_7 p0 QV  (vq_M_chunks_7 p0 QV  n) u2 u3 u4 s := hv
    show wb_M_chunks_7 a p0 Q  (wq_M_chunks_7 a p0 Q  n) u2 u3 u4 A
    unfold vb_M_chunks_7 at hv
    unfold wb_M_chunks_7
    refine me_if hv (fun hv => ?_) (fun hv => ?_)
    · exact hQ _ _ _ H hv
    · obtain ⟨n, hv⟩ := hv
      exact ⟨n, vsq_M_chunks_20 hQ hk7 n _ _ _ _ _ _ _ H hv⟩
def vp_M_chunks (p0 : Int32) (s : RS) (Q : Int32 → RS → Prop) : Prop := ∃ n, vq_M_chunks_7 p0 Q  n p0 (0 : Int32) (0 : Int32) s
set_option maxRecDepth 100000 in
set_option maxHeartbeats 4000000 in
theorem vs_M_chunks {A0 : ab_H} {a : Nat} {R : Nat → Nat} {p0 : Int32} {A : ab_H} {s : RS} {Q : Int32 → ab_H → Prop} {QV : Int32 → RS → Prop} (H : Me A0 A a R s) (hv : vp_M_chunks p0 s QV) (hQ : ∀ v (s : RS) (A : ab_H), Me A0 A a R s → QV v s → Q v A) : wp_M_chunks a p0 A Q := by
  unfold vp_M_chunks at hv
  unfold wp_M_chunks
  obtain ⟨n, hv⟩ := hv
  exact ⟨n, vsq_M_chunks_7 hQ  n _ _ _ _ _ H hv⟩
def vb_M_plain_2 (p0 : Int32) (Q : Int32 → RS → Prop)  (k2 : Int32 → RS → Prop) (u2 : Int32) (s : RS) : Prop := wL (s.1 35) (fun x1 => if x1 ≤ u2 then (Q (1 : Int32) s) else (wL (s.1 28) (fun x2 => if (p0 + u2) < x2 then (wL (s.1 32) (fun x3 => vp_M_byteAt (p0 + u2) s (fun x4 s => vS s 33 x3 x4 (fun s => wL (s.1 32) (fun x5 => vP s 32 (x5 + (1 : Int32)) (fun s => k2 (u2 + 1) s)))))) else (Q (0 : Int32) s))))
def vq_M_plain_2 (p0 : Int32) (Q : Int32 → RS → Prop)  : Nat → Int32 → RS → Prop
  | 0 => fun _ _ => False
  | n + 1 => vb_M_plain_2 p0 Q  (vq_M_plain_2 p0 Q  n)
set_option maxRecDepth 100000 in
set_option maxHeartbeats 4000000 in
theorem vsq_M_plain_2 {A0 : ab_H} {a : Nat} {R : Nat → Nat} {p0 : Int32} {Q : Int32 → ab_H → Prop} {QV : Int32 → RS → Prop}  (hQ : ∀ v (s : RS) (A : ab_H), Me A0 A a R s → QV v s → Q v A)  : ∀ (n : Nat) (u2 : Int32) (A : ab_H) (s : RS), Me A0 A a R s → vq_M_plain_2 p0 QV  n u2 s → wq_M_plain_2 a p0 Q  n u2 A := by
  intro n
  induction n with
  | zero =>
    intro u2 A s H hv
    exact absurd hv id
  | succ n hk2 =>
    intro u2 A s H hv
    have hv : vb_M_plain_2 p0 QV  (vq_M_plain_2 p0 QV  n) u2 s := hv
    show wb_M_plain_2 a p0 Q  (wq_M_plain_2 a p0 Q  n) u2 A
    unfold vb_M_plain_2 at hv
    unfold wb_M_plain_2
    refine me_gI H rfl (Nat.le_of_ble_eq_true rfl) hv (fun x1 hv => ?_)
    refine me_if hv (fun hv => ?_) (fun hv => ?_)
    · exact hQ _ _ _ H hv
    · refine me_gI H rfl (Nat.le_of_ble_eq_true rfl) hv (fun x2 hv => ?_)
      refine me_if hv (fun hv => ?_) (fun hv => ?_)
      · refine me_gR H rfl (Nat.le_of_ble_eq_true rfl) ?_
        refine me_gI H rfl (Nat.le_of_ble_eq_true rfl) hv (fun x3 hv => ?_)
        refine me_c H (vs_M_byteAt H hv (fun x4 s A H hv => ?_))
        refine me_s H rfl rfl hv (fun A s H hv => ?_)
        refine me_gI H rfl (Nat.le_of_ble_eq_true rfl) hv (fun x5 hv => ?_)
        refine me_p H rfl (Nat.le_of_ble_eq_true rfl) hv (fun A s H hv => ?_)
        exact hk2 _ _ _ H hv
      · exact hQ _ _ _ H hv
def vp_M_plain (p0 : Int32) (s : RS) (Q : Int32 → RS → Prop) : Prop := ∃ n, vq_M_plain_2 p0 Q  n (0 : Int32) s
set_option maxRecDepth 100000 in
set_option maxHeartbeats 4000000 in
theorem vs_M_plain {A0 : ab_H} {a : Nat} {R : Nat → Nat} {p0 : Int32} {A : ab_H} {s : RS} {Q : Int32 → ab_H → Prop} {QV : Int32 → RS → Prop} (H : Me A0 A a R s) (hv : vp_M_plain p0 s QV) (hQ : ∀ v (s : RS) (A : ab_H), Me A0 A a R s → QV v s → Q v A) : wp_M_plain a p0 A Q := by
  unfold vp_M_plain at hv
  unfold wp_M_plain
  obtain ⟨n, hv⟩ := hv
  exact ⟨n, vsq_M_plain_2 hQ  n _ _ _ H hv⟩
def vq_M_judge_183 (p0 : Int32) (Q : Int32 → RS → Prop)  (u2 : Int32) (s : RS) : Prop := wL (s.1 36) (fun x1 => if x1 = 0 then (vp_M_plain u2 s (fun x2 s => Q x2 s)) else (vp_M_chunks u2 s (fun x3 s => Q x3 s)))
set_option maxRecDepth 100000 in
set_option maxHeartbeats 4000000 in
theorem vsq_M_judge_183 {A0 : ab_H} {a : Nat} {R : Nat → Nat} {p0 : Int32} {Q : Int32 → ab_H → Prop} {QV : Int32 → RS → Prop}  (hQ : ∀ v (s : RS) (A : ab_H), Me A0 A a R s → QV v s → Q v A)  : ∀ (u2 : Int32) (A : ab_H) (s : RS), Me A0 A a R s → vq_M_judge_183 p0 QV  u2 s → wq_M_judge_183 a p0 Q  u2 A := by
  intro u2 A s H hv
  unfold vq_M_judge_183 at hv
  unfold wq_M_judge_183
  refine me_gI H rfl (Nat.le_of_ble_eq_true rfl) hv (fun x1 hv => ?_)
  refine me_if hv (fun hv => ?_) (fun hv => ?_)
  · refine me_c H (vs_M_plain H hv (fun x2 s A H hv => ?_))
    exact hQ _ _ _ H hv
  · refine me_c H (vs_M_chunks H hv (fun x3 s A H hv => ?_))
    exact hQ _ _ _ H hv
def vq_M_judge_164 (p0 : Int32) (Q : Int32 → RS → Prop) (k81 : Int32 → Int32 → Int32 → RS → Prop) (u3 : Int32) (u4 : Int32) (u5 : Int32) (s0 : Int32) (s : RS) : Prop := if s0 ≤ 0 then (k81 u5 u3 (u4 + 1) s) else (Q s0 s)
set_option maxRecDepth 100000 in
set_option maxHeartbeats 4000000 in
theorem vsq_M_judge_164 {A0 : ab_H} {a : Nat} {R : Nat → Nat} {p0 : Int32} {Q : Int32 → ab_H → Prop} {QV : Int32 → RS → Prop} {k81 : Int32 → Int32 → Int32 → ab_H → Prop} {kv81 : Int32 → Int32 → Int32 → RS → Prop} (hQ : ∀ v (s : RS) (A : ab_H), Me A0 A a R s → QV v s → Q v A) (hk81 : ∀ (u2 : Int32) (u3 : Int32) (u4 : Int32) (A : ab_H) (s : RS), Me A0 A a R s → kv81 u2 u3 u4 s → k81 u2 u3 u4 A) : ∀ (u3 : Int32) (u4 : Int32) (u5 : Int32) (s0 : Int32) (A : ab_H) (s : RS), Me A0 A a R s → vq_M_judge_164 p0 QV kv81 u3 u4 u5 s0 s → wq_M_judge_164 a p0 Q k81 u3 u4 u5 s0 A := by
  intro u3 u4 u5 s0 A s H hv
  unfold vq_M_judge_164 at hv
  unfold wq_M_judge_164
  refine me_if hv (fun hv => ?_) (fun hv => ?_)
  · exact hk81 _ _ _ _ _ H hv
  · exact hQ _ _ _ H hv
def vq_M_judge_126 (p0 : Int32) (Q : Int32 → RS → Prop) (k81 : Int32 → Int32 → Int32 → RS → Prop) (u2 : Int32) (u4 : Int32) (u5 : Int32) (s0 : Int32) (s : RS) : Prop := if s0 = 0 then (k81 u5 s0 (u4 + 1) s) else (wL (s.1 29) (fun x4 => vP s 29 (x4 + (1 : Int32)) (fun s => wL (s.1 29) (fun x5 => if x5 = (5 : Int32) then (vq_M_judge_164 p0 Q k81 s0 u4 u5 (431 : Int32) s) else (vp_M_header u2 (u5 - (2 : Int32)) s (fun x6 s => vq_M_judge_164 p0 Q k81 s0 u4 u5 x6 s))))))
set_option maxRecDepth 100000 in
set_option maxHeartbeats 4000000 in
theorem vsq_M_judge_126 {A0 : ab_H} {a : Nat} {R : Nat → Nat} {p0 : Int32} {Q : Int32 → ab_H → Prop} {QV : Int32 → RS → Prop} {k81 : Int32 → Int32 → Int32 → ab_H → Prop} {kv81 : Int32 → Int32 → Int32 → RS → Prop} (hQ : ∀ v (s : RS) (A : ab_H), Me A0 A a R s → QV v s → Q v A) (hk81 : ∀ (u2 : Int32) (u3 : Int32) (u4 : Int32) (A : ab_H) (s : RS), Me A0 A a R s → kv81 u2 u3 u4 s → k81 u2 u3 u4 A) : ∀ (u2 : Int32) (u4 : Int32) (u5 : Int32) (s0 : Int32) (A : ab_H) (s : RS), Me A0 A a R s → vq_M_judge_126 p0 QV kv81 u2 u4 u5 s0 s → wq_M_judge_126 a p0 Q k81 u2 u4 u5 s0 A := by
  intro u2 u4 u5 s0 A s H hv
  unfold vq_M_judge_126 at hv
  unfold wq_M_judge_126
  refine me_if hv (fun hv => ?_) (fun hv => ?_)
  · exact hk81 _ _ _ _ _ H hv
  · refine me_gI H rfl (Nat.le_of_ble_eq_true rfl) hv (fun x4 hv => ?_)
    refine me_p H rfl (Nat.le_of_ble_eq_true rfl) hv (fun A s H hv => ?_)
    refine me_gI H rfl (Nat.le_of_ble_eq_true rfl) hv (fun x5 hv => ?_)
    refine me_if hv (fun hv => ?_) (fun hv => ?_)
    · exact vsq_M_judge_164 hQ hk81 _ _ _ _ _ _ H hv
    · refine me_c H (vs_M_header H hv (fun x6 s A H hv => ?_))
      exact vsq_M_judge_164 hQ hk81 _ _ _ _ _ _ H hv
def vb_M_judge_81 (p0 : Int32) (Q : Int32 → RS → Prop)  (k81 : Int32 → Int32 → Int32 → RS → Prop) (u2 : Int32) (u3 : Int32) (u4 : Int32) (s : RS) : Prop := if (6 : Int32) ≤ u4 then (vq_M_judge_183 p0 Q  u2 s) else (if u3 = 0 then (vq_M_judge_183 p0 Q  u2 s) else (vp_M_lineEnd u2 (32 : Int32) (431 : Int32) s (fun x7 s => if 0 < x7 then (if (x7 - (2 : Int32)) ≤ u2 then (vq_M_judge_126 p0 Q k81 u2 u4 x7 (0 : Int32) s) else (vq_M_judge_126 p0 Q k81 u2 u4 x7 (1 : Int32) s)) else (Q (-x7) s))))
def vq_M_judge_81 (p0 : Int32) (Q : Int32 → RS → Prop)  : Nat → Int32 → Int32 → Int32 → RS → Prop
  | 0 => fun _ _ _ _ => False
  | n + 1 => vb_M_judge_81 p0 Q  (vq_M_judge_81 p0 Q  n)
set_option maxRecDepth 100000 in
set_option maxHeartbeats 4000000 in
theorem vsq_M_judge_81 {A0 : ab_H} {a : Nat} {R : Nat → Nat} {p0 : Int32} {Q : Int32 → ab_H → Prop} {QV : Int32 → RS → Prop}  (hQ : ∀ v (s : RS) (A : ab_H), Me A0 A a R s → QV v s → Q v A)  : ∀ (n : Nat) (u2 : Int32) (u3 : Int32) (u4 : Int32) (A : ab_H) (s : RS), Me A0 A a R s → vq_M_judge_81 p0 QV  n u2 u3 u4 s → wq_M_judge_81 a p0 Q  n u2 u3 u4 A := by
  intro n
  induction n with
  | zero =>
    intro u2 u3 u4 A s H hv
    exact absurd hv id
  | succ n hk81 =>
    intro u2 u3 u4 A s H hv
    have hv : vb_M_judge_81 p0 QV  (vq_M_judge_81 p0 QV  n) u2 u3 u4 s := hv
    show wb_M_judge_81 a p0 Q  (wq_M_judge_81 a p0 Q  n) u2 u3 u4 A
    unfold vb_M_judge_81 at hv
    unfold wb_M_judge_81
    refine me_if hv (fun hv => ?_) (fun hv => ?_)
    · exact vsq_M_judge_183 hQ  _ _ _ H hv
    · refine me_if hv (fun hv => ?_) (fun hv => ?_)
      · exact vsq_M_judge_183 hQ  _ _ _ H hv
      · refine me_c H (vs_M_lineEnd H hv (fun x7 s A H hv => ?_))
        refine me_if hv (fun hv => ?_) (fun hv => ?_)
        · refine me_if hv (fun hv => ?_) (fun hv => ?_)
          · exact vsq_M_judge_126 hQ hk81 _ _ _ _ _ _ H hv
          · exact vsq_M_judge_126 hQ hk81 _ _ _ _ _ _ H hv
        · exact hQ _ _ _ H hv
def vp_M_judge (p0 : Int32) (s : RS) (Q : Int32 → RS → Prop) : Prop := vP s 27 ((520 : Int32) * p0) (fun s => vA s 1 p0 (fun x8 => vP s 28 x8 (fun s => vP s 29 (0 : Int32) (fun s => vP s 32 (0 : Int32) (fun s => vP s 34 (0 : Int32) (fun s => vP s 35 ((-1) : Int32) (fun s => vP s 36 (0 : Int32) (fun s => vp_M_lineEnd (0 : Int32) (40 : Int32) (414 : Int32) s (fun x9 s => if 0 < x9 then (vp_M_requestLine (x9 - (2 : Int32)) s (fun x10 s => if x10 = 0 then (Q (400 : Int32) s) else (∃ n, vq_M_judge_81 p0 Q  n x9 (1 : Int32) (0 : Int32) s))) else (Q (-x9) s))))))))))
set_option maxRecDepth 100000 in
set_option maxHeartbeats 4000000 in
theorem vs_M_judge {A0 : ab_H} {a : Nat} {R : Nat → Nat} {p0 : Int32} {A : ab_H} {s : RS} {Q : Int32 → ab_H → Prop} {QV : Int32 → RS → Prop} (H : Me A0 A a R s) (hv : vp_M_judge p0 s QV) (hQ : ∀ v (s : RS) (A : ab_H), Me A0 A a R s → QV v s → Q v A) : wp_M_judge a p0 A Q := by
  unfold vp_M_judge at hv
  unfold wp_M_judge
  refine me_p H rfl (Nat.le_of_ble_eq_true rfl) hv (fun A s H hv => ?_)
  refine me_gR H rfl (Nat.le_of_ble_eq_true rfl) ?_
  refine me_l H rfl rfl hv (fun x8 hv => ?_)
  refine me_p H rfl (Nat.le_of_ble_eq_true rfl) hv (fun A s H hv => ?_)
  refine me_p H rfl (Nat.le_of_ble_eq_true rfl) hv (fun A s H hv => ?_)
  refine me_p H rfl (Nat.le_of_ble_eq_true rfl) hv (fun A s H hv => ?_)
  refine me_p H rfl (Nat.le_of_ble_eq_true rfl) hv (fun A s H hv => ?_)
  refine me_p H rfl (Nat.le_of_ble_eq_true rfl) hv (fun A s H hv => ?_)
  refine me_p H rfl (Nat.le_of_ble_eq_true rfl) hv (fun A s H hv => ?_)
  refine me_c H (vs_M_lineEnd H hv (fun x9 s A H hv => ?_))
  refine me_if hv (fun hv => ?_) (fun hv => ?_)
  · refine me_c H (vs_M_requestLine H hv (fun x10 s A H hv => ?_))
    refine me_if hv (fun hv => ?_) (fun hv => ?_)
    · exact hQ _ _ _ H hv
    · obtain ⟨n, hv⟩ := hv
      exact ⟨n, vsq_M_judge_81 hQ  n _ _ _ _ _ H hv⟩
  · exact hQ _ _ _ H hv
def vp_M_inScene (p0 : Int32) (s : RS) (Q : Int32 → RS → Prop) : Prop := vA s 24 p0 (fun x1 => if x1 < 0 then (Q (1 : Int32) s) else (vA s 24 p0 (fun x2 => vA s 8 x2 (fun x3 => vA s 25 p0 (fun x4 => if x3 = x4 then (Q (1 : Int32) s) else (Q (0 : Int32) s))))))
set_option maxRecDepth 100000 in
set_option maxHeartbeats 4000000 in
theorem vs_M_inScene {A0 : ab_H} {a : Nat} {R : Nat → Nat} {p0 : Int32} {A : ab_H} {s : RS} {Q : Int32 → ab_H → Prop} {QV : Int32 → RS → Prop} (H : Me A0 A a R s) (hv : vp_M_inScene p0 s QV) (hQ : ∀ v (s : RS) (A : ab_H), Me A0 A a R s → QV v s → Q v A) : wp_M_inScene a p0 A Q := by
  unfold vp_M_inScene at hv
  unfold wp_M_inScene
  refine me_gR H rfl (Nat.le_of_ble_eq_true rfl) ?_
  refine me_l H rfl rfl hv (fun x1 hv => ?_)
  refine me_if hv (fun hv => ?_) (fun hv => ?_)
  · exact hQ _ _ _ H hv
  · refine me_gR H rfl (Nat.le_of_ble_eq_true rfl) ?_
    refine me_gR H rfl (Nat.le_of_ble_eq_true rfl) ?_
    refine me_l H rfl rfl hv (fun x2 hv => ?_)
    refine me_l H rfl rfl hv (fun x3 hv => ?_)
    refine me_gR H rfl (Nat.le_of_ble_eq_true rfl) ?_
    refine me_l H rfl rfl hv (fun x4 hv => ?_)
    refine me_if hv (fun hv => ?_) (fun hv => ?_)
    · exact hQ _ _ _ H hv
    · exact hQ _ _ _ H hv
