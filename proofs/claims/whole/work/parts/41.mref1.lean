def vp_M_put (p0 : Int32) (s : RS) (Q : RS → Prop) : Prop := wL (s.1 40) (fun x1 => vS s 39 x1 p0 (fun s => wL (s.1 40) (fun x2 => vP s 40 (x2 + (1 : Int32)) (fun s => Q s))))
set_option maxRecDepth 100000 in
set_option maxHeartbeats 4000000 in
theorem vs_M_put {A0 : ab_H} {a : Nat} {R : Nat → Nat} {p0 : Int32} {A : ab_H} {s : RS} {Q : ab_H → Prop} {QV : RS → Prop} (H : Me A0 A a R s) (hv : vp_M_put p0 s QV) (hQ : ∀ (s : RS) (A : ab_H), Me A0 A a R s → QV s → Q A) : wp_M_put a p0 A Q := by
  unfold vp_M_put at hv
  unfold wp_M_put
  refine me_gR H rfl (Nat.le_of_ble_eq_true rfl) ?_
  refine me_gI H rfl (Nat.le_of_ble_eq_true rfl) hv (fun x1 hv => ?_)
  refine me_s H rfl rfl hv (fun A s H hv => ?_)
  refine me_gI H rfl (Nat.le_of_ble_eq_true rfl) hv (fun x2 hv => ?_)
  refine me_p H rfl (Nat.le_of_ble_eq_true rfl) hv (fun A s H hv => ?_)
  exact hQ _ _ H hv
def vq_M_decode_67 (p0 : Int32) (p1 : Int32) (Q : RS → Prop) (k7 : Int32 → RS → Prop) (u3 : Int32) (u4 : Int32) (s1 : Int32) (s : RS) : Prop := vp_M_put s1 s (fun s => if u4 = 0 then (k7 (u3 + 1) s) else (wL ((u3 + (2 : Int32))) (fun x1 => k7 (x1 + 1) s)))
set_option maxRecDepth 100000 in
set_option maxHeartbeats 4000000 in
theorem vsq_M_decode_67 {A0 : ab_H} {a : Nat} {R : Nat → Nat} {p0 : Int32} {p1 : Int32} {Q : ab_H → Prop} {QV : RS → Prop} {k7 : Int32 → ab_H → Prop} {kv7 : Int32 → RS → Prop} (hQ : ∀ (s : RS) (A : ab_H), Me A0 A a R s → QV s → Q A) (hk7 : ∀ (u3 : Int32) (A : ab_H) (s : RS), Me A0 A a R s → kv7 u3 s → k7 u3 A) : ∀ (u3 : Int32) (u4 : Int32) (s1 : Int32) (A : ab_H) (s : RS), Me A0 A a R s → vq_M_decode_67 p0 p1 QV kv7 u3 u4 s1 s → wq_M_decode_67 a p0 p1 Q k7 u3 u4 (some a) s1 A := by
  intro u3 u4 s1 A s H hv
  unfold vq_M_decode_67 at hv
  unfold wq_M_decode_67
  refine me_c H (vs_M_put H hv (fun s A H hv => ?_))
  refine me_if hv (fun hv => ?_) (fun hv => ?_)
  · exact hk7 _ _ _ H hv
  · refine vl_let hv (fun x1 hv => ?_)
    exact hk7 _ _ _ H hv
def vq_M_decode_27 (p0 : Int32) (p1 : Int32) (Q : RS → Prop) (k7 : Int32 → RS → Prop) (u3 : Int32) (s0 : Int32) (s : RS) : Prop := if s0 = 0 then (vp_M_byteAt u3 s (fun x2 s => vq_M_decode_67 p0 p1 Q k7 u3 s0 x2 s)) else (vp_M_byteAt (u3 + (1 : Int32)) s (fun x3 s => vp_M_hex x3 s (fun x4 s => vp_M_byteAt (u3 + (2 : Int32)) s (fun x5 s => vp_M_hex x5 s (fun x6 s => vq_M_decode_67 p0 p1 Q k7 u3 s0 (((16 : Int32) * x4) + x6) s)))))
set_option maxRecDepth 100000 in
set_option maxHeartbeats 4000000 in
theorem vsq_M_decode_27 {A0 : ab_H} {a : Nat} {R : Nat → Nat} {p0 : Int32} {p1 : Int32} {Q : ab_H → Prop} {QV : RS → Prop} {k7 : Int32 → ab_H → Prop} {kv7 : Int32 → RS → Prop} (hQ : ∀ (s : RS) (A : ab_H), Me A0 A a R s → QV s → Q A) (hk7 : ∀ (u3 : Int32) (A : ab_H) (s : RS), Me A0 A a R s → kv7 u3 s → k7 u3 A) : ∀ (u3 : Int32) (s0 : Int32) (A : ab_H) (s : RS), Me A0 A a R s → vq_M_decode_27 p0 p1 QV kv7 u3 s0 s → wq_M_decode_27 a p0 p1 Q k7 u3 s0 A := by
  intro u3 s0 A s H hv
  unfold vq_M_decode_27 at hv
  unfold wq_M_decode_27
  refine me_if hv (fun hv => ?_) (fun hv => ?_)
  · refine me_c H (vs_M_byteAt H hv (fun x2 s A H hv => ?_))
    exact vsq_M_decode_67 hQ hk7 _ _ _ _ _ H hv
  · refine me_c H (vs_M_byteAt H hv (fun x3 s A H hv => ?_))
    refine vs_M_hex H hv (fun x4 s A H hv => ?_)
    refine me_c H (vs_M_byteAt H hv (fun x5 s A H hv => ?_))
    refine vs_M_hex H hv (fun x6 s A H hv => ?_)
    exact vsq_M_decode_67 hQ hk7 _ _ _ _ _ H hv
def vb_M_decode_7 (p0 : Int32) (p1 : Int32) (Q : RS → Prop)  (k7 : Int32 → RS → Prop) (u3 : Int32) (s : RS) : Prop := if p1 ≤ u3 then (Q s) else (vp_M_byteAt u3 s (fun x7 s => if x7 = (37 : Int32) then (vq_M_decode_27 p0 p1 Q k7 u3 (1 : Int32) s) else (vq_M_decode_27 p0 p1 Q k7 u3 (0 : Int32) s)))
def vq_M_decode_7 (p0 : Int32) (p1 : Int32) (Q : RS → Prop)  : Nat → Int32 → RS → Prop
  | 0 => fun _ _ => False
  | n + 1 => vb_M_decode_7 p0 p1 Q  (vq_M_decode_7 p0 p1 Q  n)
set_option maxRecDepth 100000 in
set_option maxHeartbeats 4000000 in
theorem vsq_M_decode_7 {A0 : ab_H} {a : Nat} {R : Nat → Nat} {p0 : Int32} {p1 : Int32} {Q : ab_H → Prop} {QV : RS → Prop}  (hQ : ∀ (s : RS) (A : ab_H), Me A0 A a R s → QV s → Q A)  : ∀ (n : Nat) (u3 : Int32) (A : ab_H) (s : RS), Me A0 A a R s → vq_M_decode_7 p0 p1 QV  n u3 s → wq_M_decode_7 a p0 p1 Q  n u3 A := by
  intro n
  induction n with
  | zero =>
    intro u3 A s H hv
    exact absurd hv id
  | succ n hk7 =>
    intro u3 A s H hv
    have hv : vb_M_decode_7 p0 p1 QV  (vq_M_decode_7 p0 p1 QV  n) u3 s := hv
    show wb_M_decode_7 a p0 p1 Q  (wq_M_decode_7 a p0 p1 Q  n) u3 A
    unfold vb_M_decode_7 at hv
    unfold wb_M_decode_7
    refine me_if hv (fun hv => ?_) (fun hv => ?_)
    · exact hQ _ _ H hv
    · refine me_c H (vs_M_byteAt H hv (fun x7 s A H hv => ?_))
      refine me_if hv (fun hv => ?_) (fun hv => ?_)
      · exact vsq_M_decode_27 hQ hk7 _ _ _ _ H hv
      · exact vsq_M_decode_27 hQ hk7 _ _ _ _ H hv
def vp_M_decode (p0 : Int32) (p1 : Int32) (s : RS) (Q : RS → Prop) : Prop := vP s 40 (0 : Int32) (fun s => ∃ n, vq_M_decode_7 p0 p1 Q  n p0 s)
set_option maxRecDepth 100000 in
set_option maxHeartbeats 4000000 in
theorem vs_M_decode {A0 : ab_H} {a : Nat} {R : Nat → Nat} {p0 : Int32} {p1 : Int32} {A : ab_H} {s : RS} {Q : ab_H → Prop} {QV : RS → Prop} (H : Me A0 A a R s) (hv : vp_M_decode p0 p1 s QV) (hQ : ∀ (s : RS) (A : ab_H), Me A0 A a R s → QV s → Q A) : wp_M_decode a p0 p1 A Q := by
  unfold vp_M_decode at hv
  unfold wp_M_decode
  refine me_p H rfl (Nat.le_of_ble_eq_true rfl) hv (fun A s H hv => ?_)
  obtain ⟨n, hv⟩ := hv
  exact ⟨n, vsq_M_decode_7 hQ  n _ _ _ H hv⟩
def vb_M_isSought_19 (p0 : Int32) (Q : Int32 → RS → Prop)  (k19 : Int32 → Int32 → RS → Prop) (u2 : Int32) (u3 : Int32) (s : RS) : Prop := wL (s.1 40) (fun x1 => if x1 ≤ u3 then (wB u2 (Q u2 s)) else (if u2 = 0 then (wB u2 (Q u2 s)) else (if p0 = 0 then (vA s 39 u3 (fun x2 => vA s 37 u3 (fun x3 => if x2 = x3 then (k19 (1 : Int32) (u3 + 1) s) else (k19 (0 : Int32) (u3 + 1) s)))) else (vA s 39 u3 (fun x4 => vp_M_small x4 s (fun x5 s => vA s 37 u3 (fun x6 => vp_M_small x6 s (fun x7 s => if x5 = x7 then (k19 (1 : Int32) (u3 + 1) s) else (k19 (0 : Int32) (u3 + 1) s)))))))))
def vq_M_isSought_19 (p0 : Int32) (Q : Int32 → RS → Prop)  : Nat → Int32 → Int32 → RS → Prop
  | 0 => fun _ _ _ => False
  | n + 1 => vb_M_isSought_19 p0 Q  (vq_M_isSought_19 p0 Q  n)
set_option maxRecDepth 100000 in
set_option maxHeartbeats 4000000 in
theorem vsq_M_isSought_19 {A0 : ab_H} {a : Nat} {R : Nat → Nat} {p0 : Int32} {Q : Int32 → ab_H → Prop} {QV : Int32 → RS → Prop}  (hQ : ∀ v (s : RS) (A : ab_H), Me A0 A a R s → QV v s → Q v A)  : ∀ (n : Nat) (u2 : Int32) (u3 : Int32) (A : ab_H) (s : RS), Me A0 A a R s → vq_M_isSought_19 p0 QV  n u2 u3 s → wq_M_isSought_19 a p0 Q  n u2 u3 A := by
  intro n
  induction n with
  | zero =>
    intro u2 u3 A s H hv
    exact absurd hv id
  | succ n hk19 =>
    intro u2 u3 A s H hv
    have hv : vb_M_isSought_19 p0 QV  (vq_M_isSought_19 p0 QV  n) u2 u3 s := hv
    show wb_M_isSought_19 a p0 Q  (wq_M_isSought_19 a p0 Q  n) u2 u3 A
    unfold vb_M_isSought_19 at hv
    unfold wb_M_isSought_19
    refine me_gI H rfl (Nat.le_of_ble_eq_true rfl) hv (fun x1 hv => ?_)
    refine me_if hv (fun hv => ?_) (fun hv => ?_)
    · obtain ⟨hb, hv⟩ := hv
      exact ⟨hb, hQ _ _ _ H hv⟩
    · refine me_if hv (fun hv => ?_) (fun hv => ?_)
      · obtain ⟨hb, hv⟩ := hv
        exact ⟨hb, hQ _ _ _ H hv⟩
      · refine me_if hv (fun hv => ?_) (fun hv => ?_)
        · refine me_gR H rfl (Nat.le_of_ble_eq_true rfl) ?_
          refine me_l H rfl rfl hv (fun x2 hv => ?_)
          refine me_gR H rfl (Nat.le_of_ble_eq_true rfl) ?_
          refine me_l H rfl rfl hv (fun x3 hv => ?_)
          refine me_if hv (fun hv => ?_) (fun hv => ?_)
          · exact hk19 _ _ _ _ H hv
          · exact hk19 _ _ _ _ H hv
        · refine me_gR H rfl (Nat.le_of_ble_eq_true rfl) ?_
          refine me_l H rfl rfl hv (fun x4 hv => ?_)
          refine vs_M_small H hv (fun x5 s A H hv => ?_)
          refine me_gR H rfl (Nat.le_of_ble_eq_true rfl) ?_
          refine me_l H rfl rfl hv (fun x6 hv => ?_)
          refine vs_M_small H hv (fun x7 s A H hv => ?_)
          refine me_if hv (fun hv => ?_) (fun hv => ?_)
          · exact hk19 _ _ _ _ H hv
          · exact hk19 _ _ _ _ H hv
def vq_M_isSought_16 (p0 : Int32) (Q : Int32 → RS → Prop)  (s0 : Int32) (s : RS) : Prop := ∃ n, vq_M_isSought_19 p0 Q  n s0 (0 : Int32) s
set_option maxRecDepth 100000 in
set_option maxHeartbeats 4000000 in
theorem vsq_M_isSought_16 {A0 : ab_H} {a : Nat} {R : Nat → Nat} {p0 : Int32} {Q : Int32 → ab_H → Prop} {QV : Int32 → RS → Prop}  (hQ : ∀ v (s : RS) (A : ab_H), Me A0 A a R s → QV v s → Q v A)  : ∀ (s0 : Int32) (A : ab_H) (s : RS), Me A0 A a R s → vq_M_isSought_16 p0 QV  s0 s → wq_M_isSought_16 a p0 Q  s0 A := by
  intro s0 A s H hv
  unfold vq_M_isSought_16 at hv
  unfold wq_M_isSought_16
  obtain ⟨n, hv⟩ := hv
  exact ⟨n, vsq_M_isSought_19 hQ  n _ _ _ _ H hv⟩
def vp_M_isSought (p0 : Int32) (s : RS) (Q : Int32 → RS → Prop) : Prop := wL (s.1 40) (fun x8 => wL (s.1 38) (fun x9 => if x8 = x9 then (vq_M_isSought_16 p0 Q  (1 : Int32) s) else (vq_M_isSought_16 p0 Q  (0 : Int32) s)))
set_option maxRecDepth 100000 in
set_option maxHeartbeats 4000000 in
theorem vs_M_isSought {A0 : ab_H} {a : Nat} {R : Nat → Nat} {p0 : Int32} {A : ab_H} {s : RS} {Q : Int32 → ab_H → Prop} {QV : Int32 → RS → Prop} (H : Me A0 A a R s) (hv : vp_M_isSought p0 s QV) (hQ : ∀ v (s : RS) (A : ab_H), Me A0 A a R s → QV v s → Q v A) : wp_M_isSought a p0 A Q := by
  unfold vp_M_isSought at hv
  unfold wp_M_isSought
  refine me_gI H rfl (Nat.le_of_ble_eq_true rfl) hv (fun x8 hv => ?_)
  refine me_gI H rfl (Nat.le_of_ble_eq_true rfl) hv (fun x9 hv => ?_)
  refine me_if hv (fun hv => ?_) (fun hv => ?_)
  · exact vsq_M_isSought_16 hQ  _ _ _ H hv
  · exact vsq_M_isSought_16 hQ  _ _ _ H hv
def vq_M_parameter_66  (Q : Int32 → RS → Prop)  (u3 : Int32) (s1 : Int32) (s : RS) : Prop := vp_M_decode s1 u3 s (fun s => Q (1 : Int32) s)
set_option maxRecDepth 100000 in
set_option maxHeartbeats 4000000 in
theorem vsq_M_parameter_66 {A0 : ab_H} {a : Nat} {R : Nat → Nat}  {Q : Int32 → ab_H → Prop} {QV : Int32 → RS → Prop}  (hQ : ∀ v (s : RS) (A : ab_H), Me A0 A a R s → QV v s → Q v A)  : ∀ (u3 : Int32) (s1 : Int32) (A : ab_H) (s : RS), Me A0 A a R s → vq_M_parameter_66  QV  u3 s1 s → wq_M_parameter_66 a Q  u3 (some a) s1 A := by
  intro u3 s1 A s H hv
  unfold vq_M_parameter_66 at hv
  unfold wq_M_parameter_66
  refine me_c H (vs_M_decode H hv (fun s A H hv => ?_))
  exact hQ _ _ _ H hv
def vq_M_parameter_51  (Q : Int32 → RS → Prop)  (u3 : Int32) (u4 : Int32) (s : RS) : Prop := if u3 ≤ u4 then (vq_M_parameter_66  Q  u3 u3 s) else (vq_M_parameter_66  Q  u3 (u4 + (1 : Int32)) s)
set_option maxRecDepth 100000 in
set_option maxHeartbeats 4000000 in
theorem vsq_M_parameter_51 {A0 : ab_H} {a : Nat} {R : Nat → Nat}  {Q : Int32 → ab_H → Prop} {QV : Int32 → RS → Prop}  (hQ : ∀ v (s : RS) (A : ab_H), Me A0 A a R s → QV v s → Q v A)  : ∀ (u3 : Int32) (u4 : Int32) (A : ab_H) (s : RS), Me A0 A a R s → vq_M_parameter_51  QV  u3 u4 s → wq_M_parameter_51 a Q  u3 u4 A := by
  intro u3 u4 A s H hv
  unfold vq_M_parameter_51 at hv
  unfold wq_M_parameter_51
  refine me_if hv (fun hv => ?_) (fun hv => ?_)
  · exact vsq_M_parameter_66 hQ  _ _ _ _ H hv
  · exact vsq_M_parameter_66 hQ  _ _ _ _ H hv
def vb_M_parameter_12  (Q : Int32 → RS → Prop)  (k12 : Int32 → Int32 → RS → Prop) (u1 : Int32) (u2 : Int32) (s : RS) : Prop := if u1 ≤ u2 then (Q (0 : Int32) s) else (vp_M_seek (38 : Int32) u2 u1 s (fun x1 s => vp_M_seek (61 : Int32) u2 x1 s (fun x2 s => vp_M_decode u2 x2 s (fun s => vp_M_isSought (0 : Int32) s (fun x3 s => if x3 = 0 then (vp_M_seek (38 : Int32) u2 u1 s (fun x4 s => wL ((x4 + (1 : Int32))) (fun x5 => k12 u1 x5 s))) else (vq_M_parameter_51  Q  x1 x2 s))))))
def vq_M_parameter_12  (Q : Int32 → RS → Prop)  : Nat → Int32 → Int32 → RS → Prop
  | 0 => fun _ _ _ => False
  | n + 1 => vb_M_parameter_12  Q  (vq_M_parameter_12  Q  n)
set_option maxRecDepth 100000 in
set_option maxHeartbeats 4000000 in
theorem vsq_M_parameter_12 {A0 : ab_H} {a : Nat} {R : Nat → Nat}  {Q : Int32 → ab_H → Prop} {QV : Int32 → RS → Prop}  (hQ : ∀ v (s : RS) (A : ab_H), Me A0 A a R s → QV v s → Q v A)  : ∀ (n : Nat) (u1 : Int32) (u2 : Int32) (A : ab_H) (s : RS), Me A0 A a R s → vq_M_parameter_12  QV  n u1 u2 s → wq_M_parameter_12 a Q  n u1 u2 A := by
  intro n
  induction n with
  | zero =>
    intro u1 u2 A s H hv
    exact absurd hv id
  | succ n hk12 =>
    intro u1 u2 A s H hv
    have hv : vb_M_parameter_12  QV  (vq_M_parameter_12  QV  n) u1 u2 s := hv
    show wb_M_parameter_12 a Q  (wq_M_parameter_12 a Q  n) u1 u2 A
    unfold vb_M_parameter_12 at hv
    unfold wb_M_parameter_12
    refine me_if hv (fun hv => ?_) (fun hv => ?_)
    · exact hQ _ _ _ H hv
    · refine me_c H (vs_M_seek H hv (fun x1 s A H hv => ?_))
      refine me_c H (vs_M_seek H hv (fun x2 s A H hv => ?_))
      refine me_c H (vs_M_decode H hv (fun s A H hv => ?_))
      refine me_c H (vs_M_isSought H hv (fun x3 s A H hv => ?_))
      refine me_if hv (fun hv => ?_) (fun hv => ?_)
      · refine me_c H (vs_M_seek H hv (fun x4 s A H hv => ?_))
        refine vl_let hv (fun x5 hv => ?_)
        exact hk12 _ _ _ _ H hv
      · exact vsq_M_parameter_51 hQ  _ _ _ _ H hv
def vp_M_parameter  (s : RS) (Q : Int32 → RS → Prop) : Prop := vp_M_targetEnd  s (fun x6 s => vp_M_pathEnd  s (fun x7 s => wL ((x7 + (1 : Int32))) (fun x8 => ∃ n, vq_M_parameter_12  Q  n x6 x8 s)))
set_option maxRecDepth 100000 in
set_option maxHeartbeats 4000000 in
theorem vs_M_parameter {A0 : ab_H} {a : Nat} {R : Nat → Nat}  {A : ab_H} {s : RS} {Q : Int32 → ab_H → Prop} {QV : Int32 → RS → Prop} (H : Me A0 A a R s) (hv : vp_M_parameter  s QV) (hQ : ∀ v (s : RS) (A : ab_H), Me A0 A a R s → QV v s → Q v A) : wp_M_parameter a  A Q := by
  unfold vp_M_parameter at hv
  unfold wp_M_parameter
  refine me_c H (vs_M_targetEnd H hv (fun x6 s A H hv => ?_))
  refine me_c H (vs_M_pathEnd H hv (fun x7 s A H hv => ?_))
  refine vl_let hv (fun x8 hv => ?_)
  obtain ⟨n, hv⟩ := hv
  exact ⟨n, vsq_M_parameter_12 hQ  n _ _ _ _ H hv⟩
def vb_M_raw_7 (p0 : Int32) (p1 : Int32) (Q : RS → Prop)  (k7 : Int32 → RS → Prop) (u3 : Int32) (s : RS) : Prop := if p1 ≤ u3 then (Q s) else (vp_M_byteAt u3 s (fun x1 s => vp_M_put x1 s (fun s => k7 (u3 + 1) s)))
def vq_M_raw_7 (p0 : Int32) (p1 : Int32) (Q : RS → Prop)  : Nat → Int32 → RS → Prop
  | 0 => fun _ _ => False
  | n + 1 => vb_M_raw_7 p0 p1 Q  (vq_M_raw_7 p0 p1 Q  n)
set_option maxRecDepth 100000 in
set_option maxHeartbeats 4000000 in
theorem vsq_M_raw_7 {A0 : ab_H} {a : Nat} {R : Nat → Nat} {p0 : Int32} {p1 : Int32} {Q : ab_H → Prop} {QV : RS → Prop}  (hQ : ∀ (s : RS) (A : ab_H), Me A0 A a R s → QV s → Q A)  : ∀ (n : Nat) (u3 : Int32) (A : ab_H) (s : RS), Me A0 A a R s → vq_M_raw_7 p0 p1 QV  n u3 s → wq_M_raw_7 a p0 p1 Q  n u3 A := by
  intro n
  induction n with
  | zero =>
    intro u3 A s H hv
    exact absurd hv id
  | succ n hk7 =>
    intro u3 A s H hv
    have hv : vb_M_raw_7 p0 p1 QV  (vq_M_raw_7 p0 p1 QV  n) u3 s := hv
    show wb_M_raw_7 a p0 p1 Q  (wq_M_raw_7 a p0 p1 Q  n) u3 A
    unfold vb_M_raw_7 at hv
    unfold wb_M_raw_7
    refine me_if hv (fun hv => ?_) (fun hv => ?_)
    · exact hQ _ _ H hv
    · refine me_c H (vs_M_byteAt H hv (fun x1 s A H hv => ?_))
      refine me_c H (vs_M_put H hv (fun s A H hv => ?_))
      exact hk7 _ _ _ H hv
def vp_M_raw (p0 : Int32) (p1 : Int32) (s : RS) (Q : RS → Prop) : Prop := vP s 40 (0 : Int32) (fun s => ∃ n, vq_M_raw_7 p0 p1 Q  n p0 s)
set_option maxRecDepth 100000 in
set_option maxHeartbeats 4000000 in
theorem vs_M_raw {A0 : ab_H} {a : Nat} {R : Nat → Nat} {p0 : Int32} {p1 : Int32} {A : ab_H} {s : RS} {Q : ab_H → Prop} {QV : RS → Prop} (H : Me A0 A a R s) (hv : vp_M_raw p0 p1 s QV) (hQ : ∀ (s : RS) (A : ab_H), Me A0 A a R s → QV s → Q A) : wp_M_raw a p0 p1 A Q := by
  unfold vp_M_raw at hv
  unfold wp_M_raw
  refine me_p H rfl (Nat.le_of_ble_eq_true rfl) hv (fun A s H hv => ?_)
  obtain ⟨n, hv⟩ := hv
  exact ⟨n, vsq_M_raw_7 hQ  n _ _ _ H hv⟩
def vq_M_headerOf_46  (Q : Int32 → RS → Prop)  (u1 : Int32) (s : RS) : Prop := vA s 30 u1 (fun x1 => vA s 31 u1 (fun x2 => vp_M_valueAt x1 x2 s (fun x3 s => vA s 30 u1 (fun x4 => vA s 31 u1 (fun x5 => vp_M_valueEnd x4 x5 s (fun x6 s => vp_M_raw x3 x6 s (fun s => Q (1 : Int32) s)))))))
set_option maxRecDepth 100000 in
set_option maxHeartbeats 4000000 in
theorem vsq_M_headerOf_46 {A0 : ab_H} {a : Nat} {R : Nat → Nat}  {Q : Int32 → ab_H → Prop} {QV : Int32 → RS → Prop}  (hQ : ∀ v (s : RS) (A : ab_H), Me A0 A a R s → QV v s → Q v A)  : ∀ (u1 : Int32) (A : ab_H) (s : RS), Me A0 A a R s → vq_M_headerOf_46  QV  u1 s → wq_M_headerOf_46 a Q  u1 A := by
  intro u1 A s H hv
  unfold vq_M_headerOf_46 at hv
  unfold wq_M_headerOf_46
  refine me_gR H rfl (Nat.le_of_ble_eq_true rfl) ?_
  refine me_l H rfl rfl hv (fun x1 hv => ?_)
  refine me_gR H rfl (Nat.le_of_ble_eq_true rfl) ?_
  refine me_l H rfl rfl hv (fun x2 hv => ?_)
  refine me_c H (vs_M_valueAt H hv (fun x3 s A H hv => ?_))
  refine me_gR H rfl (Nat.le_of_ble_eq_true rfl) ?_
  refine me_l H rfl rfl hv (fun x4 hv => ?_)
  refine me_gR H rfl (Nat.le_of_ble_eq_true rfl) ?_
  refine me_l H rfl rfl hv (fun x5 hv => ?_)
  refine me_c H (vs_M_valueEnd H hv (fun x6 s A H hv => ?_))
  refine me_c H (vs_M_raw H hv (fun s A H hv => ?_))
  exact hQ _ _ _ H hv
def vb_M_headerOf_2  (Q : Int32 → RS → Prop)  (k2 : Int32 → RS → Prop) (u1 : Int32) (s : RS) : Prop := wL (s.1 29) (fun x7 => if x7 ≤ u1 then (Q (0 : Int32) s) else (vA s 30 u1 (fun x8 => vA s 30 u1 (fun x9 => vA s 31 u1 (fun x10 => vp_M_seek (58 : Int32) x9 x10 s (fun x11 s => vp_M_raw x8 x11 s (fun s => vp_M_isSought (1 : Int32) s (fun x12 s => if x12 = 0 then (k2 (u1 + 1) s) else (vq_M_headerOf_46  Q  u1 s)))))))))
def vq_M_headerOf_2  (Q : Int32 → RS → Prop)  : Nat → Int32 → RS → Prop
  | 0 => fun _ _ => False
  | n + 1 => vb_M_headerOf_2  Q  (vq_M_headerOf_2  Q  n)
set_option maxRecDepth 100000 in
set_option maxHeartbeats 4000000 in
theorem vsq_M_headerOf_2 {A0 : ab_H} {a : Nat} {R : Nat → Nat}  {Q : Int32 → ab_H → Prop} {QV : Int32 → RS → Prop}  (hQ : ∀ v (s : RS) (A : ab_H), Me A0 A a R s → QV v s → Q v A)  : ∀ (n : Nat) (u1 : Int32) (A : ab_H) (s : RS), Me A0 A a R s → vq_M_headerOf_2  QV  n u1 s → wq_M_headerOf_2 a Q  n u1 A := by
  intro n
  induction n with
  | zero =>
    intro u1 A s H hv
    exact absurd hv id
  | succ n hk2 =>
    intro u1 A s H hv
    have hv : vb_M_headerOf_2  QV  (vq_M_headerOf_2  QV  n) u1 s := hv
    show wb_M_headerOf_2 a Q  (wq_M_headerOf_2 a Q  n) u1 A
    unfold vb_M_headerOf_2 at hv
    unfold wb_M_headerOf_2
    refine me_gI H rfl (Nat.le_of_ble_eq_true rfl) hv (fun x7 hv => ?_)
    refine me_if hv (fun hv => ?_) (fun hv => ?_)
    · exact hQ _ _ _ H hv
    · refine me_gR H rfl (Nat.le_of_ble_eq_true rfl) ?_
      refine me_l H rfl rfl hv (fun x8 hv => ?_)
      refine me_gR H rfl (Nat.le_of_ble_eq_true rfl) ?_
      refine me_l H rfl rfl hv (fun x9 hv => ?_)
      refine me_gR H rfl (Nat.le_of_ble_eq_true rfl) ?_
      refine me_l H rfl rfl hv (fun x10 hv => ?_)
      refine me_c H (vs_M_seek H hv (fun x11 s A H hv => ?_))
      refine me_c H (vs_M_raw H hv (fun s A H hv => ?_))
      refine me_c H (vs_M_isSought H hv (fun x12 s A H hv => ?_))
      refine me_if hv (fun hv => ?_) (fun hv => ?_)
      · exact hk2 _ _ _ H hv
      · exact vsq_M_headerOf_46 hQ  _ _ _ H hv
def vp_M_headerOf  (s : RS) (Q : Int32 → RS → Prop) : Prop := ∃ n, vq_M_headerOf_2  Q  n (0 : Int32) s
set_option maxRecDepth 100000 in
set_option maxHeartbeats 4000000 in
theorem vs_M_headerOf {A0 : ab_H} {a : Nat} {R : Nat → Nat}  {A : ab_H} {s : RS} {Q : Int32 → ab_H → Prop} {QV : Int32 → RS → Prop} (H : Me A0 A a R s) (hv : vp_M_headerOf  s QV) (hQ : ∀ v (s : RS) (A : ab_H), Me A0 A a R s → QV v s → Q v A) : wp_M_headerOf a  A Q := by
  unfold vp_M_headerOf at hv
  unfold wp_M_headerOf
  obtain ⟨n, hv⟩ := hv
  exact ⟨n, vsq_M_headerOf_2 hQ  n _ _ _ H hv⟩
def vq_M_seekPart_107 (p0 : Int32) (Q : Int32 → RS → Prop)  (s1 : Int32) (s : RS) : Prop := vP s 40 s1 (fun s => Q (1 : Int32) s)
set_option maxRecDepth 100000 in
set_option maxHeartbeats 4000000 in
theorem vsq_M_seekPart_107 {A0 : ab_H} {a : Nat} {R : Nat → Nat} {p0 : Int32} {Q : Int32 → ab_H → Prop} {QV : Int32 → RS → Prop}  (hQ : ∀ v (s : RS) (A : ab_H), Me A0 A a R s → QV v s → Q v A)  : ∀ (s1 : Int32) (A : ab_H) (s : RS), Me A0 A a R s → vq_M_seekPart_107 p0 QV  s1 s → wq_M_seekPart_107 a p0 Q  (some a) s1 A := by
  intro s1 A s H hv
  unfold vq_M_seekPart_107 at hv
  unfold wq_M_seekPart_107
  refine me_p H rfl (Nat.le_of_ble_eq_true rfl) hv (fun A s H hv => ?_)
  exact hQ _ _ _ H hv
def vq_M_seekPart_90 (p0 : Int32) (Q : Int32 → RS → Prop)   (s : RS) : Prop := if p0 = (4 : Int32) then (wL (s.1 32) (fun x2 => vq_M_seekPart_107 p0 Q  x2 s)) else (wL (s.1 40) (fun x1 => vq_M_seekPart_107 p0 Q  x1 s))
set_option maxRecDepth 100000 in
set_option maxHeartbeats 4000000 in
theorem vsq_M_seekPart_90 {A0 : ab_H} {a : Nat} {R : Nat → Nat} {p0 : Int32} {Q : Int32 → ab_H → Prop} {QV : Int32 → RS → Prop}  (hQ : ∀ v (s : RS) (A : ab_H), Me A0 A a R s → QV v s → Q v A)  : ∀ (A : ab_H) (s : RS), Me A0 A a R s → vq_M_seekPart_90 p0 QV   s → wq_M_seekPart_90 a p0 Q   A := by
  intro  A s H hv
  unfold vq_M_seekPart_90 at hv
  unfold wq_M_seekPart_90
  refine me_if hv (fun hv => ?_) (fun hv => ?_)
  · refine me_gI H rfl (Nat.le_of_ble_eq_true rfl) hv (fun x2 hv => ?_)
    exact vsq_M_seekPart_107 hQ  _ _ _ H hv
  · refine me_gI H rfl (Nat.le_of_ble_eq_true rfl) hv (fun x1 hv => ?_)
    exact vsq_M_seekPart_107 hQ  _ _ _ H hv
def vb_M_seekPart_59 (p0 : Int32) (Q : Int32 → RS → Prop)  (k59 : Int32 → RS → Prop) (u2 : Int32) (s : RS) : Prop := wL (s.1 32) (fun x3 => if x3 ≤ u2 then (vq_M_seekPart_90 p0 Q   s) else (if p0 = (4 : Int32) then (vA s 33 u2 (fun x4 => vS s 39 u2 x4 (fun s => k59 (u2 + 1) s))) else (vq_M_seekPart_90 p0 Q   s)))
def vq_M_seekPart_59 (p0 : Int32) (Q : Int32 → RS → Prop)  : Nat → Int32 → RS → Prop
  | 0 => fun _ _ => False
  | n + 1 => vb_M_seekPart_59 p0 Q  (vq_M_seekPart_59 p0 Q  n)
set_option maxRecDepth 100000 in
set_option maxHeartbeats 4000000 in
theorem vsq_M_seekPart_59 {A0 : ab_H} {a : Nat} {R : Nat → Nat} {p0 : Int32} {Q : Int32 → ab_H → Prop} {QV : Int32 → RS → Prop}  (hQ : ∀ v (s : RS) (A : ab_H), Me A0 A a R s → QV v s → Q v A)  : ∀ (n : Nat) (u2 : Int32) (A : ab_H) (s : RS), Me A0 A a R s → vq_M_seekPart_59 p0 QV  n u2 s → wq_M_seekPart_59 a p0 Q  n u2 A := by
  intro n
  induction n with
  | zero =>
    intro u2 A s H hv
    exact absurd hv id
  | succ n hk59 =>
    intro u2 A s H hv
    have hv : vb_M_seekPart_59 p0 QV  (vq_M_seekPart_59 p0 QV  n) u2 s := hv
    show wb_M_seekPart_59 a p0 Q  (wq_M_seekPart_59 a p0 Q  n) u2 A
    unfold vb_M_seekPart_59 at hv
    unfold wb_M_seekPart_59
    refine me_gI H rfl (Nat.le_of_ble_eq_true rfl) hv (fun x3 hv => ?_)
    refine me_if hv (fun hv => ?_) (fun hv => ?_)
    · exact vsq_M_seekPart_90 hQ  _ _ H hv
    · refine me_if hv (fun hv => ?_) (fun hv => ?_)
      · refine me_gR H rfl (Nat.le_of_ble_eq_true rfl) ?_
        refine me_gR H rfl (Nat.le_of_ble_eq_true rfl) ?_
        refine me_l H rfl rfl hv (fun x4 hv => ?_)
        refine me_s H rfl rfl hv (fun A s H hv => ?_)
        exact hk59 _ _ _ H hv
      · exact vsq_M_seekPart_90 hQ  _ _ H hv
def vq_M_seekPart_57 (p0 : Int32) (Q : Int32 → RS → Prop)   (s : RS) : Prop := ∃ n, vq_M_seekPart_59 p0 Q  n (0 : Int32) s
set_option maxRecDepth 100000 in
set_option maxHeartbeats 4000000 in
theorem vsq_M_seekPart_57 {A0 : ab_H} {a : Nat} {R : Nat → Nat} {p0 : Int32} {Q : Int32 → ab_H → Prop} {QV : Int32 → RS → Prop}  (hQ : ∀ v (s : RS) (A : ab_H), Me A0 A a R s → QV v s → Q v A)  : ∀ (A : ab_H) (s : RS), Me A0 A a R s → vq_M_seekPart_57 p0 QV   s → wq_M_seekPart_57 a p0 Q   A := by
  intro  A s H hv
  unfold vq_M_seekPart_57 at hv
  unfold wq_M_seekPart_57
  obtain ⟨n, hv⟩ := hv
  exact ⟨n, vsq_M_seekPart_59 hQ  n _ _ _ H hv⟩
def vq_M_seekPart_40 (p0 : Int32) (Q : Int32 → RS → Prop)   (s : RS) : Prop := if p0 = (1 : Int32) then (vp_M_pathAt  s (fun x5 s => vp_M_pathEnd  s (fun x6 s => vp_M_decode x5 x6 s (fun s => vq_M_seekPart_57 p0 Q   s)))) else (vq_M_seekPart_57 p0 Q   s)
set_option maxRecDepth 100000 in
set_option maxHeartbeats 4000000 in
theorem vsq_M_seekPart_40 {A0 : ab_H} {a : Nat} {R : Nat → Nat} {p0 : Int32} {Q : Int32 → ab_H → Prop} {QV : Int32 → RS → Prop}  (hQ : ∀ v (s : RS) (A : ab_H), Me A0 A a R s → QV v s → Q v A)  : ∀ (A : ab_H) (s : RS), Me A0 A a R s → vq_M_seekPart_40 p0 QV   s → wq_M_seekPart_40 a p0 Q   A := by
  intro  A s H hv
  unfold vq_M_seekPart_40 at hv
  unfold wq_M_seekPart_40
  refine me_if hv (fun hv => ?_) (fun hv => ?_)
  · refine me_c H (vs_M_pathAt H hv (fun x5 s A H hv => ?_))
    refine me_c H (vs_M_pathEnd H hv (fun x6 s A H hv => ?_))
    refine me_c H (vs_M_decode H hv (fun s A H hv => ?_))
    exact vsq_M_seekPart_57 hQ  _ _ H hv
  · exact vsq_M_seekPart_57 hQ  _ _ H hv
def vp_M_seekPart (p0 : Int32) (s : RS) (Q : Int32 → RS → Prop) : Prop := if p0 = (2 : Int32) then (vp_M_parameter  s (fun x10 s => wB x10 (Q x10 s))) else (if p0 = (3 : Int32) then (vp_M_headerOf  s (fun x9 s => wB x9 (Q x9 s))) else (if p0 = 0 then (wL (s.1 28) (fun x7 => vp_M_seek (32 : Int32) (0 : Int32) x7 s (fun x8 s => vp_M_raw (0 : Int32) x8 s (fun s => vq_M_seekPart_40 p0 Q   s)))) else (vq_M_seekPart_40 p0 Q   s)))
set_option maxRecDepth 100000 in
set_option maxHeartbeats 4000000 in
theorem vs_M_seekPart {A0 : ab_H} {a : Nat} {R : Nat → Nat} {p0 : Int32} {A : ab_H} {s : RS} {Q : Int32 → ab_H → Prop} {QV : Int32 → RS → Prop} (H : Me A0 A a R s) (hv : vp_M_seekPart p0 s QV) (hQ : ∀ v (s : RS) (A : ab_H), Me A0 A a R s → QV v s → Q v A) : wp_M_seekPart a p0 A Q := by
  unfold vp_M_seekPart at hv
  unfold wp_M_seekPart
  refine me_if hv (fun hv => ?_) (fun hv => ?_)
  · refine me_c H (vs_M_parameter H hv (fun x10 s A H hv => ?_))
    obtain ⟨hb, hv⟩ := hv
    exact ⟨hb, hQ _ _ _ H hv⟩
  · refine me_if hv (fun hv => ?_) (fun hv => ?_)
    · refine me_c H (vs_M_headerOf H hv (fun x9 s A H hv => ?_))
      obtain ⟨hb, hv⟩ := hv
      exact ⟨hb, hQ _ _ _ H hv⟩
    · refine me_if hv (fun hv => ?_) (fun hv => ?_)
      · refine me_gI H rfl (Nat.le_of_ble_eq_true rfl) hv (fun x7 hv => ?_)
        refine me_c H (vs_M_seek H hv (fun x8 s A H hv => ?_))
        refine me_c H (vs_M_raw H hv (fun s A H hv => ?_))
        exact vsq_M_seekPart_40 hQ  _ _ H hv
      · exact vsq_M_seekPart_40 hQ  _ _ H hv
def vp_M_letterOf (p0 : Int32) (p1 : Int32) (s : RS) (Q : Int32 → RS → Prop) : Prop := vA s 14 p0 (fun x1 => if x1 ≤ p1 then (Q ((-1) : Int32) s) else (vA s 15 (((40 : Int32) * p0) + p1) (fun x2 => Q x2 s)))
set_option maxRecDepth 100000 in
set_option maxHeartbeats 4000000 in
theorem vs_M_letterOf {A0 : ab_H} {a : Nat} {R : Nat → Nat} {p0 : Int32} {p1 : Int32} {A : ab_H} {s : RS} {Q : Int32 → ab_H → Prop} {QV : Int32 → RS → Prop} (H : Me A0 A a R s) (hv : vp_M_letterOf p0 p1 s QV) (hQ : ∀ v (s : RS) (A : ab_H), Me A0 A a R s → QV v s → Q v A) : wp_M_letterOf a p0 p1 A Q := by
  unfold vp_M_letterOf at hv
  unfold wp_M_letterOf
  refine me_gR H rfl (Nat.le_of_ble_eq_true rfl) ?_
  refine me_l H rfl rfl hv (fun x1 hv => ?_)
  refine me_if hv (fun hv => ?_) (fun hv => ?_)
  · exact hQ _ _ _ H hv
  · refine me_gR H rfl (Nat.le_of_ble_eq_true rfl) ?_
    refine me_l H rfl rfl hv (fun x2 hv => ?_)
    exact hQ _ _ _ H hv
def vq_M_pieceEnd_93 (p0 : Int32) (p1 : Int32) (Q : Int32 → RS → Prop)  (u4 : Int32) (s : RS) : Prop := vp_M_letterOf p0 u4 s (fun x1 s => if x1 = (93 : Int32) then (if u4 ≤ (p1 + (1 : Int32)) then (Q ((-1) : Int32) s) else (Q (u4 + (1 : Int32)) s)) else (Q ((-1) : Int32) s))
set_option maxRecDepth 100000 in
set_option maxHeartbeats 4000000 in
theorem vsq_M_pieceEnd_93 {A0 : ab_H} {a : Nat} {R : Nat → Nat} {p0 : Int32} {p1 : Int32} {Q : Int32 → ab_H → Prop} {QV : Int32 → RS → Prop}  (hQ : ∀ v (s : RS) (A : ab_H), Me A0 A a R s → QV v s → Q v A)  : ∀ (u4 : Int32) (A : ab_H) (s : RS), Me A0 A a R s → vq_M_pieceEnd_93 p0 p1 QV  u4 s → wq_M_pieceEnd_93 a p0 p1 Q  u4 A := by
  intro u4 A s H hv
  unfold vq_M_pieceEnd_93 at hv
  unfold wq_M_pieceEnd_93
  refine me_c H (vs_M_letterOf H hv (fun x1 s A H hv => ?_))
  refine me_if hv (fun hv => ?_) (fun hv => ?_)
  · refine me_if hv (fun hv => ?_) (fun hv => ?_)
    · exact hQ _ _ _ H hv
    · exact hQ _ _ _ H hv
  · exact hQ _ _ _ H hv
def vb_M_pieceEnd_52 (p0 : Int32) (p1 : Int32) (Q : Int32 → RS → Prop)  (k52 : Int32 → RS → Prop) (u4 : Int32) (s : RS) : Prop := vA s 14 p0 (fun x2 => if x2 ≤ u4 then (vq_M_pieceEnd_93 p0 p1 Q  u4 s) else (vp_M_letterOf p0 u4 s (fun x3 s => if x3 = (91 : Int32) then (vq_M_pieceEnd_93 p0 p1 Q  u4 s) else (vp_M_letterOf p0 u4 s (fun x4 s => if x4 = (93 : Int32) then (vq_M_pieceEnd_93 p0 p1 Q  u4 s) else (k52 (u4 + 1) s))))))
def vq_M_pieceEnd_52 (p0 : Int32) (p1 : Int32) (Q : Int32 → RS → Prop)  : Nat → Int32 → RS → Prop
  | 0 => fun _ _ => False
  | n + 1 => vb_M_pieceEnd_52 p0 p1 Q  (vq_M_pieceEnd_52 p0 p1 Q  n)
set_option maxRecDepth 100000 in
set_option maxHeartbeats 4000000 in
theorem vsq_M_pieceEnd_52 {A0 : ab_H} {a : Nat} {R : Nat → Nat} {p0 : Int32} {p1 : Int32} {Q : Int32 → ab_H → Prop} {QV : Int32 → RS → Prop}  (hQ : ∀ v (s : RS) (A : ab_H), Me A0 A a R s → QV v s → Q v A)  : ∀ (n : Nat) (u4 : Int32) (A : ab_H) (s : RS), Me A0 A a R s → vq_M_pieceEnd_52 p0 p1 QV  n u4 s → wq_M_pieceEnd_52 a p0 p1 Q  n u4 A := by
  intro n
  induction n with
  | zero =>
    intro u4 A s H hv
    exact absurd hv id
  | succ n hk52 =>
    intro u4 A s H hv
    have hv : vb_M_pieceEnd_52 p0 p1 QV  (vq_M_pieceEnd_52 p0 p1 QV  n) u4 s := hv
    show wb_M_pieceEnd_52 a p0 p1 Q  (wq_M_pieceEnd_52 a p0 p1 Q  n) u4 A
    unfold vb_M_pieceEnd_52 at hv
    unfold wb_M_pieceEnd_52
    refine me_gR H rfl (Nat.le_of_ble_eq_true rfl) ?_
    refine me_l H rfl rfl hv (fun x2 hv => ?_)
    refine me_if hv (fun hv => ?_) (fun hv => ?_)
    · exact vsq_M_pieceEnd_93 hQ  _ _ _ H hv
    · refine me_c H (vs_M_letterOf H hv (fun x3 s A H hv => ?_))
      refine me_if hv (fun hv => ?_) (fun hv => ?_)
      · exact vsq_M_pieceEnd_93 hQ  _ _ _ H hv
      · refine me_c H (vs_M_letterOf H hv (fun x4 s A H hv => ?_))
        refine me_if hv (fun hv => ?_) (fun hv => ?_)
        · exact vsq_M_pieceEnd_93 hQ  _ _ _ H hv
        · exact hk52 _ _ _ H hv
def vp_M_pieceEnd (p0 : Int32) (p1 : Int32) (s : RS) (Q : Int32 → RS → Prop) : Prop := vp_M_letterOf p0 p1 s (fun x5 s => if x5 = (42 : Int32) then (Q ((-1) : Int32) s) else (if x5 = (63 : Int32) then (Q ((-1) : Int32) s) else (if x5 = (124 : Int32) then (Q ((-1) : Int32) s) else (if x5 = (93 : Int32) then (Q ((-1) : Int32) s) else (if 0 ≤ x5 then (if x5 = (91 : Int32) then (wL ((p1 + (1 : Int32))) (fun x6 => ∃ n, vq_M_pieceEnd_52 p0 p1 Q  n x6 s)) else (Q (p1 + (1 : Int32)) s)) else (Q ((-1) : Int32) s))))))
set_option maxRecDepth 100000 in
set_option maxHeartbeats 4000000 in
theorem vs_M_pieceEnd {A0 : ab_H} {a : Nat} {R : Nat → Nat} {p0 : Int32} {p1 : Int32} {A : ab_H} {s : RS} {Q : Int32 → ab_H → Prop} {QV : Int32 → RS → Prop} (H : Me A0 A a R s) (hv : vp_M_pieceEnd p0 p1 s QV) (hQ : ∀ v (s : RS) (A : ab_H), Me A0 A a R s → QV v s → Q v A) : wp_M_pieceEnd a p0 p1 A Q := by
  unfold vp_M_pieceEnd at hv
  unfold wp_M_pieceEnd
  refine me_c H (vs_M_letterOf H hv (fun x5 s A H hv => ?_))
  refine me_if hv (fun hv => ?_) (fun hv => ?_)
  · exact hQ _ _ _ H hv
  · refine me_if hv (fun hv => ?_) (fun hv => ?_)
    · exact hQ _ _ _ H hv
    · refine me_if hv (fun hv => ?_) (fun hv => ?_)
      · exact hQ _ _ _ H hv
      · refine me_if hv (fun hv => ?_) (fun hv => ?_)
        · exact hQ _ _ _ H hv
        · refine me_if hv (fun hv => ?_) (fun hv => ?_)
          · refine me_if hv (fun hv => ?_) (fun hv => ?_)
            · refine vl_let hv (fun x6 hv => ?_)
              obtain ⟨n, hv⟩ := hv
              exact ⟨n, vsq_M_pieceEnd_52 hQ  n _ _ _ H hv⟩
            · exact hQ _ _ _ H hv
          · exact hQ _ _ _ H hv
def vb_M_takes_49 (p0 : Int32) (p1 : Int32) (p2 : Int32) (p3 : Int32) (Q : Int32 → RS → Prop)  (k49 : Int32 → Int32 → RS → Prop) (u5 : Int32) (u6 : Int32) (s : RS) : Prop := if (p2 - (1 : Int32)) ≤ u6 then (wB u5 (Q u5 s)) else (if u5 = 0 then (vp_M_letterOf p0 u6 s (fun x1 s => if x1 = p3 then (k49 (1 : Int32) (u6 + 1) s) else (k49 (0 : Int32) (u6 + 1) s))) else (k49 (1 : Int32) (u6 + 1) s))
def vq_M_takes_49 (p0 : Int32) (p1 : Int32) (p2 : Int32) (p3 : Int32) (Q : Int32 → RS → Prop)  : Nat → Int32 → Int32 → RS → Prop
  | 0 => fun _ _ _ => False
  | n + 1 => vb_M_takes_49 p0 p1 p2 p3 Q  (vq_M_takes_49 p0 p1 p2 p3 Q  n)
set_option maxRecDepth 100000 in
set_option maxHeartbeats 4000000 in
theorem vsq_M_takes_49 {A0 : ab_H} {a : Nat} {R : Nat → Nat} {p0 : Int32} {p1 : Int32} {p2 : Int32} {p3 : Int32} {Q : Int32 → ab_H → Prop} {QV : Int32 → RS → Prop}  (hQ : ∀ v (s : RS) (A : ab_H), Me A0 A a R s → QV v s → Q v A)  : ∀ (n : Nat) (u5 : Int32) (u6 : Int32) (A : ab_H) (s : RS), Me A0 A a R s → vq_M_takes_49 p0 p1 p2 p3 QV  n u5 u6 s → wq_M_takes_49 a p0 p1 p2 p3 Q  n u5 u6 A := by
  intro n
  induction n with
  | zero =>
    intro u5 u6 A s H hv
    exact absurd hv id
  | succ n hk49 =>
    intro u5 u6 A s H hv
    have hv : vb_M_takes_49 p0 p1 p2 p3 QV  (vq_M_takes_49 p0 p1 p2 p3 QV  n) u5 u6 s := hv
    show wb_M_takes_49 a p0 p1 p2 p3 Q  (wq_M_takes_49 a p0 p1 p2 p3 Q  n) u5 u6 A
    unfold vb_M_takes_49 at hv
    unfold wb_M_takes_49
    refine me_if hv (fun hv => ?_) (fun hv => ?_)
    · obtain ⟨hb, hv⟩ := hv
      exact ⟨hb, hQ _ _ _ H hv⟩
    · refine me_if hv (fun hv => ?_) (fun hv => ?_)
      · refine me_c H (vs_M_letterOf H hv (fun x1 s A H hv => ?_))
        refine me_if hv (fun hv => ?_) (fun hv => ?_)
        · exact hk49 _ _ _ _ H hv
        · exact hk49 _ _ _ _ H hv
      · exact hk49 _ _ _ _ H hv
def vp_M_takes (p0 : Int32) (p1 : Int32) (p2 : Int32) (p3 : Int32) (s : RS) (Q : Int32 → RS → Prop) : Prop := vp_M_letterOf p0 p1 s (fun x2 s => if x2 = (46 : Int32) then (Q (1 : Int32) s) else (vp_M_letterOf p0 p1 s (fun x3 s => if x3 = (91 : Int32) then (wL ((p1 + (1 : Int32))) (fun x4 => ∃ n, vq_M_takes_49 p0 p1 p2 p3 Q  n (0 : Int32) x4 s)) else (vp_M_letterOf p0 p1 s (fun x5 s => if x5 = p3 then (Q (1 : Int32) s) else (Q (0 : Int32) s))))))
set_option maxRecDepth 100000 in
set_option maxHeartbeats 4000000 in
theorem vs_M_takes {A0 : ab_H} {a : Nat} {R : Nat → Nat} {p0 : Int32} {p1 : Int32} {p2 : Int32} {p3 : Int32} {A : ab_H} {s : RS} {Q : Int32 → ab_H → Prop} {QV : Int32 → RS → Prop} (H : Me A0 A a R s) (hv : vp_M_takes p0 p1 p2 p3 s QV) (hQ : ∀ v (s : RS) (A : ab_H), Me A0 A a R s → QV v s → Q v A) : wp_M_takes a p0 p1 p2 p3 A Q := by
  unfold vp_M_takes at hv
  unfold wp_M_takes
  refine me_c H (vs_M_letterOf H hv (fun x2 s A H hv => ?_))
  refine me_if hv (fun hv => ?_) (fun hv => ?_)
  · exact hQ _ _ _ H hv
  · refine me_c H (vs_M_letterOf H hv (fun x3 s A H hv => ?_))
    refine me_if hv (fun hv => ?_) (fun hv => ?_)
    · refine vl_let hv (fun x4 hv => ?_)
      obtain ⟨n, hv⟩ := hv
      exact ⟨n, vsq_M_takes_49 hQ  n _ _ _ _ H hv⟩
    · refine me_c H (vs_M_letterOf H hv (fun x5 s A H hv => ?_))
      refine me_if hv (fun hv => ?_) (fun hv => ?_)
      · exact hQ _ _ _ H hv
      · exact hQ _ _ _ H hv
def vq_M_through_113 (p0 : Int32) (p1 : Int32) (p2 : Int32) (p3 : Int64) (Q : Int64 → RS → Prop) (k33 : Int32 → Int64 → Int32 → RS → Prop) (u6 : Int32) (u9 : Int32) (s0 : Int64) (s : RS) : Prop := k33 u6 s0 (u9 + 1) s
set_option maxRecDepth 100000 in
set_option maxHeartbeats 4000000 in
theorem vsq_M_through_113 {A0 : ab_H} {a : Nat} {R : Nat → Nat} {p0 : Int32} {p1 : Int32} {p2 : Int32} {p3 : Int64} {Q : Int64 → ab_H → Prop} {QV : Int64 → RS → Prop} {k33 : Int32 → Int64 → Int32 → ab_H → Prop} {kv33 : Int32 → Int64 → Int32 → RS → Prop} (hQ : ∀ v (s : RS) (A : ab_H), Me A0 A a R s → QV v s → Q v A) (hk33 : ∀ (u6 : Int32) (u7 : Int64) (u9 : Int32) (A : ab_H) (s : RS), Me A0 A a R s → kv33 u6 u7 u9 s → k33 u6 u7 u9 A) : ∀ (u6 : Int32) (u9 : Int32) (s0 : Int64) (A : ab_H) (s : RS), Me A0 A a R s → vq_M_through_113 p0 p1 p2 p3 QV kv33 u6 u9 s0 s → wq_M_through_113 a p0 p1 p2 p3 Q k33 u6 u9 s0 A := by
  intro u6 u9 s0 A s H hv
  unfold vq_M_through_113 at hv
  unfold wq_M_through_113
  exact hk33 _ _ _ _ _ H hv
def vq_M_through_92 (p0 : Int32) (p1 : Int32) (p2 : Int32) (p3 : Int64) (Q : Int64 → RS → Prop) (k33 : Int32 → Int64 → Int32 → RS → Prop) (u6 : Int32) (u7 : Int64) (u9 : Int32) (s0 : Int32) (s : RS) : Prop := if s0 = 0 then (vq_M_through_113 p0 p1 p2 p3 Q k33 u6 u9 u7 s) else (vq_M_through_113 p0 p1 p2 p3 Q k33 u6 u9 (u7 ||| (wsl (1 : Int64) (u9 + (1 : Int32)))) s)
set_option maxRecDepth 100000 in
set_option maxHeartbeats 4000000 in
theorem vsq_M_through_92 {A0 : ab_H} {a : Nat} {R : Nat → Nat} {p0 : Int32} {p1 : Int32} {p2 : Int32} {p3 : Int64} {Q : Int64 → ab_H → Prop} {QV : Int64 → RS → Prop} {k33 : Int32 → Int64 → Int32 → ab_H → Prop} {kv33 : Int32 → Int64 → Int32 → RS → Prop} (hQ : ∀ v (s : RS) (A : ab_H), Me A0 A a R s → QV v s → Q v A) (hk33 : ∀ (u6 : Int32) (u7 : Int64) (u9 : Int32) (A : ab_H) (s : RS), Me A0 A a R s → kv33 u6 u7 u9 s → k33 u6 u7 u9 A) : ∀ (u6 : Int32) (u7 : Int64) (u9 : Int32) (s0 : Int32) (A : ab_H) (s : RS), Me A0 A a R s → vq_M_through_92 p0 p1 p2 p3 QV kv33 u6 u7 u9 s0 s → wq_M_through_92 a p0 p1 p2 p3 Q k33 u6 u7 u9 s0 A := by
  intro u6 u7 u9 s0 A s H hv
  unfold vq_M_through_92 at hv
  unfold wq_M_through_92
  refine me_if hv (fun hv => ?_) (fun hv => ?_)
  · exact vsq_M_through_113 hQ hk33 _ _ _ _ _ H hv
  · exact vsq_M_through_113 hQ hk33 _ _ _ _ _ H hv
def vq_M_through_91 (p0 : Int32) (p1 : Int32) (p2 : Int32) (p3 : Int64) (Q : Int64 → RS → Prop) (k33 : Int32 → Int64 → Int32 → RS → Prop) (u6 : Int32) (u7 : Int64) (u9 : Int32) (s : RS) : Prop := vq_M_through_92 p0 p1 p2 p3 Q k33 u6 u7 u9 (0 : Int32) s
set_option maxRecDepth 100000 in
set_option maxHeartbeats 4000000 in
theorem vsq_M_through_91 {A0 : ab_H} {a : Nat} {R : Nat → Nat} {p0 : Int32} {p1 : Int32} {p2 : Int32} {p3 : Int64} {Q : Int64 → ab_H → Prop} {QV : Int64 → RS → Prop} {k33 : Int32 → Int64 → Int32 → ab_H → Prop} {kv33 : Int32 → Int64 → Int32 → RS → Prop} (hQ : ∀ v (s : RS) (A : ab_H), Me A0 A a R s → QV v s → Q v A) (hk33 : ∀ (u6 : Int32) (u7 : Int64) (u9 : Int32) (A : ab_H) (s : RS), Me A0 A a R s → kv33 u6 u7 u9 s → k33 u6 u7 u9 A) : ∀ (u6 : Int32) (u7 : Int64) (u9 : Int32) (A : ab_H) (s : RS), Me A0 A a R s → vq_M_through_91 p0 p1 p2 p3 QV kv33 u6 u7 u9 s → wq_M_through_91 a p0 p1 p2 p3 Q k33 u6 u7 u9 A := by
  intro u6 u7 u9 A s H hv
  unfold vq_M_through_91 at hv
  unfold wq_M_through_91
  exact vsq_M_through_92 hQ hk33 _ _ _ _ _ _ H hv
def vq_M_through_56 (p0 : Int32) (p1 : Int32) (p2 : Int32) (p3 : Int64) (Q : Int64 → RS → Prop) (k33 : Int32 → Int64 → Int32 → RS → Prop) (u6 : Int32) (u7 : Int64) (u9 : Int32) (s0 : Int64) (s : RS) : Prop := if (lg_cmp ((wsr s0 u9) &&& (1 : Int64)) (1 : Int64)) = 0 then (vA s 39 u9 (fun x1 => vp_M_takes p0 p1 p2 x1 s (fun x2 s => if x2 = 0 then (vq_M_through_91 p0 p1 p2 p3 Q k33 u6 u7 u9 s) else (vq_M_through_92 p0 p1 p2 p3 Q k33 u6 u7 u9 (1 : Int32) s)))) else (vq_M_through_91 p0 p1 p2 p3 Q k33 u6 u7 u9 s)
set_option maxRecDepth 100000 in
set_option maxHeartbeats 4000000 in
theorem vsq_M_through_56 {A0 : ab_H} {a : Nat} {R : Nat → Nat} {p0 : Int32} {p1 : Int32} {p2 : Int32} {p3 : Int64} {Q : Int64 → ab_H → Prop} {QV : Int64 → RS → Prop} {k33 : Int32 → Int64 → Int32 → ab_H → Prop} {kv33 : Int32 → Int64 → Int32 → RS → Prop} (hQ : ∀ v (s : RS) (A : ab_H), Me A0 A a R s → QV v s → Q v A) (hk33 : ∀ (u6 : Int32) (u7 : Int64) (u9 : Int32) (A : ab_H) (s : RS), Me A0 A a R s → kv33 u6 u7 u9 s → k33 u6 u7 u9 A) : ∀ (u6 : Int32) (u7 : Int64) (u9 : Int32) (s0 : Int64) (A : ab_H) (s : RS), Me A0 A a R s → vq_M_through_56 p0 p1 p2 p3 QV kv33 u6 u7 u9 s0 s → wq_M_through_56 a p0 p1 p2 p3 Q k33 u6 u7 u9 s0 A := by
  intro u6 u7 u9 s0 A s H hv
  unfold vq_M_through_56 at hv
  unfold wq_M_through_56
  refine me_if hv (fun hv => ?_) (fun hv => ?_)
  · refine me_gR H rfl (Nat.le_of_ble_eq_true rfl) ?_
    refine me_l H rfl rfl hv (fun x1 hv => ?_)
    refine me_c H (vs_M_takes H hv (fun x2 s A H hv => ?_))
    refine me_if hv (fun hv => ?_) (fun hv => ?_)
    · exact vsq_M_through_91 hQ hk33 _ _ _ _ _ H hv
    · exact vsq_M_through_92 hQ hk33 _ _ _ _ _ _ H hv
  · exact vsq_M_through_91 hQ hk33 _ _ _ _ _ H hv
def vb_M_through_33 (p0 : Int32) (p1 : Int32) (p2 : Int32) (p3 : Int64) (Q : Int64 → RS → Prop)  (k33 : Int32 → Int64 → Int32 → RS → Prop) (u6 : Int32) (u7 : Int64) (u9 : Int32) (s : RS) : Prop := wL (s.1 40) (fun x3 => if x3 ≤ u9 then (Q u7 s) else (if u6 = (42 : Int32) then (vq_M_through_56 p0 p1 p2 p3 Q k33 u6 u7 u9 u7 s) else (vq_M_through_56 p0 p1 p2 p3 Q k33 u6 u7 u9 p3 s)))
def vq_M_through_33 (p0 : Int32) (p1 : Int32) (p2 : Int32) (p3 : Int64) (Q : Int64 → RS → Prop)  : Nat → Int32 → Int64 → Int32 → RS → Prop
  | 0 => fun _ _ _ _ => False
  | n + 1 => vb_M_through_33 p0 p1 p2 p3 Q  (vq_M_through_33 p0 p1 p2 p3 Q  n)
set_option maxRecDepth 100000 in
set_option maxHeartbeats 4000000 in
theorem vsq_M_through_33 {A0 : ab_H} {a : Nat} {R : Nat → Nat} {p0 : Int32} {p1 : Int32} {p2 : Int32} {p3 : Int64} {Q : Int64 → ab_H → Prop} {QV : Int64 → RS → Prop}  (hQ : ∀ v (s : RS) (A : ab_H), Me A0 A a R s → QV v s → Q v A)  : ∀ (n : Nat) (u6 : Int32) (u7 : Int64) (u9 : Int32) (A : ab_H) (s : RS), Me A0 A a R s → vq_M_through_33 p0 p1 p2 p3 QV  n u6 u7 u9 s → wq_M_through_33 a p0 p1 p2 p3 Q  n u6 u7 u9 A := by
  intro n
  induction n with
  | zero =>
    intro u6 u7 u9 A s H hv
    exact absurd hv id
  | succ n hk33 =>
    intro u6 u7 u9 A s H hv
    have hv : vb_M_through_33 p0 p1 p2 p3 QV  (vq_M_through_33 p0 p1 p2 p3 QV  n) u6 u7 u9 s := hv
    show wb_M_through_33 a p0 p1 p2 p3 Q  (wq_M_through_33 a p0 p1 p2 p3 Q  n) u6 u7 u9 A
    unfold vb_M_through_33 at hv
    unfold wb_M_through_33
    refine me_gI H rfl (Nat.le_of_ble_eq_true rfl) hv (fun x3 hv => ?_)
    refine me_if hv (fun hv => ?_) (fun hv => ?_)
    · exact hQ _ _ _ H hv
    · refine me_if hv (fun hv => ?_) (fun hv => ?_)
      · exact vsq_M_through_56 hQ hk33 _ _ _ _ _ _ H hv
      · exact vsq_M_through_56 hQ hk33 _ _ _ _ _ _ H hv
def vq_M_through_28 (p0 : Int32) (p1 : Int32) (p2 : Int32) (p3 : Int64) (Q : Int64 → RS → Prop)  (u6 : Int32) (s0 : Int64) (s : RS) : Prop := ∃ n, vq_M_through_33 p0 p1 p2 p3 Q  n u6 s0 (0 : Int32) s
set_option maxRecDepth 100000 in
set_option maxHeartbeats 4000000 in
theorem vsq_M_through_28 {A0 : ab_H} {a : Nat} {R : Nat → Nat} {p0 : Int32} {p1 : Int32} {p2 : Int32} {p3 : Int64} {Q : Int64 → ab_H → Prop} {QV : Int64 → RS → Prop}  (hQ : ∀ v (s : RS) (A : ab_H), Me A0 A a R s → QV v s → Q v A)  : ∀ (u6 : Int32) (s0 : Int64) (A : ab_H) (s : RS), Me A0 A a R s → vq_M_through_28 p0 p1 p2 p3 QV  u6 s0 s → wq_M_through_28 a p0 p1 p2 p3 Q  u6 s0 A := by
  intro u6 s0 A s H hv
  unfold vq_M_through_28 at hv
  unfold wq_M_through_28
  obtain ⟨n, hv⟩ := hv
  exact ⟨n, vsq_M_through_33 hQ  n _ _ _ _ _ H hv⟩
def vq_M_through_22 (p0 : Int32) (p1 : Int32) (p2 : Int32) (p3 : Int64) (Q : Int64 → RS → Prop)  (u6 : Int32) (s : RS) : Prop := vq_M_through_28 p0 p1 p2 p3 Q  u6 p3 s
set_option maxRecDepth 100000 in
set_option maxHeartbeats 4000000 in
theorem vsq_M_through_22 {A0 : ab_H} {a : Nat} {R : Nat → Nat} {p0 : Int32} {p1 : Int32} {p2 : Int32} {p3 : Int64} {Q : Int64 → ab_H → Prop} {QV : Int64 → RS → Prop}  (hQ : ∀ v (s : RS) (A : ab_H), Me A0 A a R s → QV v s → Q v A)  : ∀ (u6 : Int32) (A : ab_H) (s : RS), Me A0 A a R s → vq_M_through_22 p0 p1 p2 p3 QV  u6 s → wq_M_through_22 a p0 p1 p2 p3 Q  u6 A := by
  intro u6 A s H hv
  unfold vq_M_through_22 at hv
  unfold wq_M_through_22
  exact vsq_M_through_28 hQ  _ _ _ _ H hv
def vp_M_through (p0 : Int32) (p1 : Int32) (p2 : Int32) (p3 : Int64) (s : RS) (Q : Int64 → RS → Prop) : Prop := vp_M_letterOf p0 p2 s (fun x4 s => if x4 = (42 : Int32) then (vq_M_through_22 p0 p1 p2 p3 Q  x4 s) else (if x4 = (63 : Int32) then (vq_M_through_22 p0 p1 p2 p3 Q  x4 s) else (vq_M_through_28 p0 p1 p2 p3 Q  x4 (0 : Int64) s)))
set_option maxRecDepth 100000 in
set_option maxHeartbeats 4000000 in
theorem vs_M_through {A0 : ab_H} {a : Nat} {R : Nat → Nat} {p0 : Int32} {p1 : Int32} {p2 : Int32} {p3 : Int64} {A : ab_H} {s : RS} {Q : Int64 → ab_H → Prop} {QV : Int64 → RS → Prop} (H : Me A0 A a R s) (hv : vp_M_through p0 p1 p2 p3 s QV) (hQ : ∀ v (s : RS) (A : ab_H), Me A0 A a R s → QV v s → Q v A) : wp_M_through a p0 p1 p2 p3 A Q := by
  unfold vp_M_through at hv
  unfold wp_M_through
  refine me_c H (vs_M_letterOf H hv (fun x4 s A H hv => ?_))
  refine me_if hv (fun hv => ?_) (fun hv => ?_)
  · exact vsq_M_through_22 hQ  _ _ _ H hv
  · refine me_if hv (fun hv => ?_) (fun hv => ?_)
    · exact vsq_M_through_22 hQ  _ _ _ H hv
    · exact vsq_M_through_28 hQ  _ _ _ _ H hv
def vq_M_fits_129 (p0 : Int32) (Q : Int32 → RS → Prop)  (u2 : Int64) (u4 : Int32) (s : RS) : Prop := if u4 = 0 then (wL (s.1 40) (fun x1 => if (lg_cmp ((wsr u2 x1) &&& (1 : Int64)) (1 : Int64)) = 0 then (Q (1 : Int32) s) else (Q (0 : Int32) s))) else (Q (1 : Int32) s)
set_option maxRecDepth 100000 in
set_option maxHeartbeats 4000000 in
theorem vsq_M_fits_129 {A0 : ab_H} {a : Nat} {R : Nat → Nat} {p0 : Int32} {Q : Int32 → ab_H → Prop} {QV : Int32 → RS → Prop}  (hQ : ∀ v (s : RS) (A : ab_H), Me A0 A a R s → QV v s → Q v A)  : ∀ (u2 : Int64) (u4 : Int32) (A : ab_H) (s : RS), Me A0 A a R s → vq_M_fits_129 p0 QV  u2 u4 s → wq_M_fits_129 a p0 Q  u2 u4 A := by
  intro u2 u4 A s H hv
  unfold vq_M_fits_129 at hv
  unfold wq_M_fits_129
  refine me_if hv (fun hv => ?_) (fun hv => ?_)
  · refine me_gI H rfl (Nat.le_of_ble_eq_true rfl) hv (fun x1 hv => ?_)
    refine me_if hv (fun hv => ?_) (fun hv => ?_)
    · exact hQ _ _ _ H hv
    · exact hQ _ _ _ H hv
  · exact hQ _ _ _ H hv
def vq_M_fits_61 (p0 : Int32) (Q : Int32 → RS → Prop) (k15 : Int64 → Int32 → Int32 → RS → Prop) (u5 : Int32) (s0 : Int32) (s : RS) : Prop := k15 (1 : Int64) s0 (u5 + 1) s
set_option maxRecDepth 100000 in
set_option maxHeartbeats 4000000 in
theorem vsq_M_fits_61 {A0 : ab_H} {a : Nat} {R : Nat → Nat} {p0 : Int32} {Q : Int32 → ab_H → Prop} {QV : Int32 → RS → Prop} {k15 : Int64 → Int32 → Int32 → ab_H → Prop} {kv15 : Int64 → Int32 → Int32 → RS → Prop} (hQ : ∀ v (s : RS) (A : ab_H), Me A0 A a R s → QV v s → Q v A) (hk15 : ∀ (u2 : Int64) (u4 : Int32) (u5 : Int32) (A : ab_H) (s : RS), Me A0 A a R s → kv15 u2 u4 u5 s → k15 u2 u4 u5 A) : ∀ (u5 : Int32) (s0 : Int32) (A : ab_H) (s : RS), Me A0 A a R s → vq_M_fits_61 p0 QV kv15 u5 s0 s → wq_M_fits_61 a p0 Q k15 u5 s0 A := by
  intro u5 s0 A s H hv
  unfold vq_M_fits_61 at hv
  unfold wq_M_fits_61
  exact hk15 _ _ _ _ _ H hv
def vq_M_fits_56 (p0 : Int32) (Q : Int32 → RS → Prop) (k15 : Int64 → Int32 → Int32 → RS → Prop) (u5 : Int32) (s : RS) : Prop := vq_M_fits_61 p0 Q k15 u5 (1 : Int32) s
set_option maxRecDepth 100000 in
set_option maxHeartbeats 4000000 in
theorem vsq_M_fits_56 {A0 : ab_H} {a : Nat} {R : Nat → Nat} {p0 : Int32} {Q : Int32 → ab_H → Prop} {QV : Int32 → RS → Prop} {k15 : Int64 → Int32 → Int32 → ab_H → Prop} {kv15 : Int64 → Int32 → Int32 → RS → Prop} (hQ : ∀ v (s : RS) (A : ab_H), Me A0 A a R s → QV v s → Q v A) (hk15 : ∀ (u2 : Int64) (u4 : Int32) (u5 : Int32) (A : ab_H) (s : RS), Me A0 A a R s → kv15 u2 u4 u5 s → k15 u2 u4 u5 A) : ∀ (u5 : Int32) (A : ab_H) (s : RS), Me A0 A a R s → vq_M_fits_56 p0 QV kv15 u5 s → wq_M_fits_56 a p0 Q k15 u5 A := by
  intro u5 A s H hv
  unfold vq_M_fits_56 at hv
  unfold wq_M_fits_56
  exact vsq_M_fits_61 hQ hk15 _ _ _ _ H hv
def vb_M_fits_15 (p0 : Int32) (Q : Int32 → RS → Prop)  (k15 : Int64 → Int32 → Int32 → RS → Prop) (u2 : Int64) (u4 : Int32) (u5 : Int32) (s : RS) : Prop := vA s 14 p0 (fun x2 => if x2 ≤ u5 then (vq_M_fits_129 p0 Q  u2 u4 s) else (vp_M_letterOf p0 u5 s (fun x3 s => if x3 = (124 : Int32) then (if u4 = 0 then (wL (s.1 40) (fun x10 => if (lg_cmp ((wsr u2 x10) &&& (1 : Int64)) (1 : Int64)) = 0 then (vq_M_fits_56 p0 Q k15 u5 s) else (vq_M_fits_61 p0 Q k15 u5 (0 : Int32) s))) else (vq_M_fits_56 p0 Q k15 u5 s)) else (vp_M_pieceEnd p0 u5 s (fun x4 s => vp_M_through p0 u5 x4 u2 s (fun y5 s => vp_M_letterOf p0 x4 s (fun x6 s => if x6 = (42 : Int32) then (wL ((x4 + (1 : Int32))) (fun x7 => k15 y5 u4 x7 s)) else (vp_M_letterOf p0 x4 s (fun x8 s => if x8 = (63 : Int32) then (wL ((x4 + (1 : Int32))) (fun x9 => k15 y5 u4 x9 s)) else (k15 y5 u4 x4 s))))))))))
def vq_M_fits_15 (p0 : Int32) (Q : Int32 → RS → Prop)  : Nat → Int64 → Int32 → Int32 → RS → Prop
  | 0 => fun _ _ _ _ => False
  | n + 1 => vb_M_fits_15 p0 Q  (vq_M_fits_15 p0 Q  n)
set_option maxRecDepth 100000 in
set_option maxHeartbeats 4000000 in
theorem vsq_M_fits_15 {A0 : ab_H} {a : Nat} {R : Nat → Nat} {p0 : Int32} {Q : Int32 → ab_H → Prop} {QV : Int32 → RS → Prop}  (hQ : ∀ v (s : RS) (A : ab_H), Me A0 A a R s → QV v s → Q v A)  : ∀ (n : Nat) (u2 : Int64) (u4 : Int32) (u5 : Int32) (A : ab_H) (s : RS), Me A0 A a R s → vq_M_fits_15 p0 QV  n u2 u4 u5 s → wq_M_fits_15 a p0 Q  n u2 u4 u5 A := by
  intro n
  induction n with
  | zero =>
    intro u2 u4 u5 A s H hv
    exact absurd hv id
  | succ n hk15 =>
    intro u2 u4 u5 A s H hv
    have hv : vb_M_fits_15 p0 QV  (vq_M_fits_15 p0 QV  n) u2 u4 u5 s := hv
    show wb_M_fits_15 a p0 Q  (wq_M_fits_15 a p0 Q  n) u2 u4 u5 A
    unfold vb_M_fits_15 at hv
    unfold wb_M_fits_15
    refine me_gR H rfl (Nat.le_of_ble_eq_true rfl) ?_
    refine me_l H rfl rfl hv (fun x2 hv => ?_)
    refine me_if hv (fun hv => ?_) (fun hv => ?_)
    · exact vsq_M_fits_129 hQ  _ _ _ _ H hv
    · refine me_c H (vs_M_letterOf H hv (fun x3 s A H hv => ?_))
      refine me_if hv (fun hv => ?_) (fun hv => ?_)
      · refine me_if hv (fun hv => ?_) (fun hv => ?_)
        · refine me_gI H rfl (Nat.le_of_ble_eq_true rfl) hv (fun x10 hv => ?_)
          refine me_if hv (fun hv => ?_) (fun hv => ?_)
          · exact vsq_M_fits_56 hQ hk15 _ _ _ H hv
          · exact vsq_M_fits_61 hQ hk15 _ _ _ _ H hv
        · exact vsq_M_fits_56 hQ hk15 _ _ _ H hv
      · refine me_c H (vs_M_pieceEnd H hv (fun x4 s A H hv => ?_))
        refine me_c H (vs_M_through H hv (fun y5 s A H hv => ?_))
        refine me_c H (vs_M_letterOf H hv (fun x6 s A H hv => ?_))
        refine me_if hv (fun hv => ?_) (fun hv => ?_)
        · refine vl_let hv (fun x7 hv => ?_)
          exact hk15 _ _ _ _ _ H hv
        · refine me_c H (vs_M_letterOf H hv (fun x8 s A H hv => ?_))
          refine me_if hv (fun hv => ?_) (fun hv => ?_)
          · refine vl_let hv (fun x9 hv => ?_)
            exact hk15 _ _ _ _ _ H hv
          · exact hk15 _ _ _ _ _ H hv
def vp_M_fits (p0 : Int32) (s : RS) (Q : Int32 → RS → Prop) : Prop := vA s 13 p0 (fun x11 => wL ((x11 + (1 : Int32))) (fun x12 => ∃ n, vq_M_fits_15 p0 Q  n (1 : Int64) (0 : Int32) x12 s))
set_option maxRecDepth 100000 in
set_option maxHeartbeats 4000000 in
theorem vs_M_fits {A0 : ab_H} {a : Nat} {R : Nat → Nat} {p0 : Int32} {A : ab_H} {s : RS} {Q : Int32 → ab_H → Prop} {QV : Int32 → RS → Prop} (H : Me A0 A a R s) (hv : vp_M_fits p0 s QV) (hQ : ∀ v (s : RS) (A : ab_H), Me A0 A a R s → QV v s → Q v A) : wp_M_fits a p0 A Q := by
  unfold vp_M_fits at hv
  unfold wp_M_fits
  refine me_gR H rfl (Nat.le_of_ble_eq_true rfl) ?_
  refine me_l H rfl rfl hv (fun x11 hv => ?_)
  refine vl_let hv (fun x12 hv => ?_)
  obtain ⟨n, hv⟩ := hv
  exact ⟨n, vsq_M_fits_15 hQ  n _ _ _ _ _ H hv⟩
def vq_M_contains_92 (p0 : Int32) (Q : Int32 → RS → Prop) (k24 : Int32 → Int32 → Int32 → Int32 → RS → Prop) (u2 : Int32) (u3 : Int32) (u4 : Int32) (u5 : Int32) (u6 : Int32) (s : RS) : Prop := if u4 = 0 then (if u6 = 0 then (k24 u2 u3 (0 : Int32) (u5 + 1) s) else (k24 u2 u3 (1 : Int32) (u5 + 1) s)) else (k24 u2 u3 (1 : Int32) (u5 + 1) s)
set_option maxRecDepth 100000 in
set_option maxHeartbeats 4000000 in
theorem vsq_M_contains_92 {A0 : ab_H} {a : Nat} {R : Nat → Nat} {p0 : Int32} {Q : Int32 → ab_H → Prop} {QV : Int32 → RS → Prop} {k24 : Int32 → Int32 → Int32 → Int32 → ab_H → Prop} {kv24 : Int32 → Int32 → Int32 → Int32 → RS → Prop} (hQ : ∀ v (s : RS) (A : ab_H), Me A0 A a R s → QV v s → Q v A) (hk24 : ∀ (u2 : Int32) (u3 : Int32) (u4 : Int32) (u5 : Int32) (A : ab_H) (s : RS), Me A0 A a R s → kv24 u2 u3 u4 u5 s → k24 u2 u3 u4 u5 A) : ∀ (u2 : Int32) (u3 : Int32) (u4 : Int32) (u5 : Int32) (u6 : Int32) (A : ab_H) (s : RS), Me A0 A a R s → vq_M_contains_92 p0 QV kv24 u2 u3 u4 u5 u6 s → wq_M_contains_92 a p0 Q k24 u2 u3 u4 u5 u6 A := by
  intro u2 u3 u4 u5 u6 A s H hv
  unfold vq_M_contains_92 at hv
  unfold wq_M_contains_92
  refine me_if hv (fun hv => ?_) (fun hv => ?_)
  · refine me_if hv (fun hv => ?_) (fun hv => ?_)
    · exact hk24 _ _ _ _ _ _ H hv
    · exact hk24 _ _ _ _ _ _ H hv
  · exact hk24 _ _ _ _ _ _ H hv
def vb_M_contains_41 (p0 : Int32) (Q : Int32 → RS → Prop) (k24 : Int32 → Int32 → Int32 → Int32 → RS → Prop) (k41 : Int32 → Int32 → Int32 → Int32 → Int32 → Int32 → RS → Prop) (u2 : Int32) (u3 : Int32) (u4 : Int32) (u5 : Int32) (u6 : Int32) (u7 : Int32) (s : RS) : Prop := if u3 ≤ u7 then (vq_M_contains_92 p0 Q k24 u2 u3 u4 u5 u6 s) else (if u6 = 0 then (k41 u2 u3 u4 u5 (0 : Int32) (u7 + 1) s) else (vA s 39 (u5 + u7) (fun x1 => vA s 15 ((((40 : Int32) * p0) + u2) + u7) (fun x2 => if x1 = x2 then (k41 u2 u3 u4 u5 (1 : Int32) (u7 + 1) s) else (k41 u2 u3 u4 u5 (0 : Int32) (u7 + 1) s)))))
def vq_M_contains_41 (p0 : Int32) (Q : Int32 → RS → Prop) (k24 : Int32 → Int32 → Int32 → Int32 → RS → Prop) : Nat → Int32 → Int32 → Int32 → Int32 → Int32 → Int32 → RS → Prop
  | 0 => fun _ _ _ _ _ _ _ => False
  | n + 1 => vb_M_contains_41 p0 Q k24 (vq_M_contains_41 p0 Q k24 n)
set_option maxRecDepth 100000 in
set_option maxHeartbeats 4000000 in
theorem vsq_M_contains_41 {A0 : ab_H} {a : Nat} {R : Nat → Nat} {p0 : Int32} {Q : Int32 → ab_H → Prop} {QV : Int32 → RS → Prop} {k24 : Int32 → Int32 → Int32 → Int32 → ab_H → Prop} {kv24 : Int32 → Int32 → Int32 → Int32 → RS → Prop} (hQ : ∀ v (s : RS) (A : ab_H), Me A0 A a R s → QV v s → Q v A) (hk24 : ∀ (u2 : Int32) (u3 : Int32) (u4 : Int32) (u5 : Int32) (A : ab_H) (s : RS), Me A0 A a R s → kv24 u2 u3 u4 u5 s → k24 u2 u3 u4 u5 A) : ∀ (n : Nat) (u2 : Int32) (u3 : Int32) (u4 : Int32) (u5 : Int32) (u6 : Int32) (u7 : Int32) (A : ab_H) (s : RS), Me A0 A a R s → vq_M_contains_41 p0 QV kv24 n u2 u3 u4 u5 u6 u7 s → wq_M_contains_41 a p0 Q k24 n u2 u3 u4 u5 u6 u7 A := by
  intro n
  induction n with
  | zero =>
    intro u2 u3 u4 u5 u6 u7 A s H hv
    exact absurd hv id
  | succ n hk41 =>
    intro u2 u3 u4 u5 u6 u7 A s H hv
    have hv : vb_M_contains_41 p0 QV kv24 (vq_M_contains_41 p0 QV kv24 n) u2 u3 u4 u5 u6 u7 s := hv
    show wb_M_contains_41 a p0 Q k24 (wq_M_contains_41 a p0 Q k24 n) u2 u3 u4 u5 u6 u7 A
    unfold vb_M_contains_41 at hv
    unfold wb_M_contains_41
    refine me_if hv (fun hv => ?_) (fun hv => ?_)
    · exact vsq_M_contains_92 hQ hk24 _ _ _ _ _ _ _ H hv
    · refine me_if hv (fun hv => ?_) (fun hv => ?_)
      · exact hk41 _ _ _ _ _ _ _ _ H hv
      · refine me_gR H rfl (Nat.le_of_ble_eq_true rfl) ?_
        refine me_l H rfl rfl hv (fun x1 hv => ?_)
        refine me_gR H rfl (Nat.le_of_ble_eq_true rfl) ?_
        refine me_l H rfl rfl hv (fun x2 hv => ?_)
        refine me_if hv (fun hv => ?_) (fun hv => ?_)
        · exact hk41 _ _ _ _ _ _ _ _ H hv
        · exact hk41 _ _ _ _ _ _ _ _ H hv
def vb_M_contains_24 (p0 : Int32) (Q : Int32 → RS → Prop)  (k24 : Int32 → Int32 → Int32 → Int32 → RS → Prop) (u2 : Int32) (u3 : Int32) (u4 : Int32) (u5 : Int32) (s : RS) : Prop := wL (s.1 40) (fun x3 => if x3 < (u5 + u3) then (wB u4 (Q u4 s)) else (∃ n, vq_M_contains_41 p0 Q k24 n u2 u3 u4 u5 (1 : Int32) (0 : Int32) s))
def vq_M_contains_24 (p0 : Int32) (Q : Int32 → RS → Prop)  : Nat → Int32 → Int32 → Int32 → Int32 → RS → Prop
  | 0 => fun _ _ _ _ _ => False
  | n + 1 => vb_M_contains_24 p0 Q  (vq_M_contains_24 p0 Q  n)
set_option maxRecDepth 100000 in
set_option maxHeartbeats 4000000 in
theorem vsq_M_contains_24 {A0 : ab_H} {a : Nat} {R : Nat → Nat} {p0 : Int32} {Q : Int32 → ab_H → Prop} {QV : Int32 → RS → Prop}  (hQ : ∀ v (s : RS) (A : ab_H), Me A0 A a R s → QV v s → Q v A)  : ∀ (n : Nat) (u2 : Int32) (u3 : Int32) (u4 : Int32) (u5 : Int32) (A : ab_H) (s : RS), Me A0 A a R s → vq_M_contains_24 p0 QV  n u2 u3 u4 u5 s → wq_M_contains_24 a p0 Q  n u2 u3 u4 u5 A := by
  intro n
  induction n with
  | zero =>
    intro u2 u3 u4 u5 A s H hv
    exact absurd hv id
  | succ n hk24 =>
    intro u2 u3 u4 u5 A s H hv
    have hv : vb_M_contains_24 p0 QV  (vq_M_contains_24 p0 QV  n) u2 u3 u4 u5 s := hv
    show wb_M_contains_24 a p0 Q  (wq_M_contains_24 a p0 Q  n) u2 u3 u4 u5 A
    unfold vb_M_contains_24 at hv
    unfold wb_M_contains_24
    refine me_gI H rfl (Nat.le_of_ble_eq_true rfl) hv (fun x3 hv => ?_)
    refine me_if hv (fun hv => ?_) (fun hv => ?_)
    · obtain ⟨hb, hv⟩ := hv
      exact ⟨hb, hQ _ _ _ H hv⟩
    · obtain ⟨n, hv⟩ := hv
      exact ⟨n, vsq_M_contains_41 hQ hk24 n _ _ _ _ _ _ _ _ H hv⟩
def vp_M_contains (p0 : Int32) (s : RS) (Q : Int32 → RS → Prop) : Prop := vA s 13 p0 (fun x4 => wL ((x4 + (1 : Int32))) (fun x5 => vA s 14 p0 (fun x6 => wL ((x6 - x5)) (fun x7 => ∃ n, vq_M_contains_24 p0 Q  n x5 x7 (0 : Int32) (0 : Int32) s))))
set_option maxRecDepth 100000 in
set_option maxHeartbeats 4000000 in
theorem vs_M_contains {A0 : ab_H} {a : Nat} {R : Nat → Nat} {p0 : Int32} {A : ab_H} {s : RS} {Q : Int32 → ab_H → Prop} {QV : Int32 → RS → Prop} (H : Me A0 A a R s) (hv : vp_M_contains p0 s QV) (hQ : ∀ v (s : RS) (A : ab_H), Me A0 A a R s → QV v s → Q v A) : wp_M_contains a p0 A Q := by
  unfold vp_M_contains at hv
  unfold wp_M_contains
  refine me_gR H rfl (Nat.le_of_ble_eq_true rfl) ?_
  refine me_l H rfl rfl hv (fun x4 hv => ?_)
  refine vl_let hv (fun x5 hv => ?_)
  refine me_gR H rfl (Nat.le_of_ble_eq_true rfl) ?_
  refine me_l H rfl rfl hv (fun x6 hv => ?_)
  refine vl_let hv (fun x7 hv => ?_)
  obtain ⟨n, hv⟩ := hv
  exact ⟨n, vsq_M_contains_24 hQ  n _ _ _ _ _ _ H hv⟩
def vq_M_holds_93 (p0 : Int32) (Q : Int32 → RS → Prop)  (s0 : Int32) (s1 : Int32) (s : RS) : Prop := if s0 = s1 then (Q (1 : Int32) s) else (Q (0 : Int32) s)
set_option maxRecDepth 100000 in
set_option maxHeartbeats 4000000 in
theorem vsq_M_holds_93 {A0 : ab_H} {a : Nat} {R : Nat → Nat} {p0 : Int32} {Q : Int32 → ab_H → Prop} {QV : Int32 → RS → Prop}  (hQ : ∀ v (s : RS) (A : ab_H), Me A0 A a R s → QV v s → Q v A)  : ∀ (s0 : Int32) (s1 : Int32) (A : ab_H) (s : RS), Me A0 A a R s → vq_M_holds_93 p0 QV  s0 s1 s → wq_M_holds_93 a p0 Q  s0 s1 A := by
  intro s0 s1 A s H hv
  unfold vq_M_holds_93 at hv
  unfold wq_M_holds_93
  refine me_if hv (fun hv => ?_) (fun hv => ?_)
  · exact hQ _ _ _ H hv
  · exact hQ _ _ _ H hv
def vq_M_holds_56 (p0 : Int32) (Q : Int32 → RS → Prop)   (s : RS) : Prop := vA s 11 p0 (fun x1 => vp_M_seekPart x1 s (fun x2 s => vA s 12 p0 (fun x3 => if x3 < (3 : Int32) then (if x2 = 0 then (Q (0 : Int32) s) else (vA s 12 p0 (fun x4 => if x4 = (2 : Int32) then (vp_M_fits p0 s (fun x10 s => wB x10 (Q x10 s))) else (vp_M_contains p0 s (fun x5 s => if x5 = 0 then (Q (0 : Int32) s) else (vA s 12 p0 (fun x6 => if x6 = (1 : Int32) then (Q (1 : Int32) s) else (wL (s.1 40) (fun x7 => vA s 14 p0 (fun x8 => vA s 13 p0 (fun x9 => if x7 = ((x8 - x9) - (1 : Int32)) then (Q (1 : Int32) s) else (Q (0 : Int32) s)))))))))))) else (vA s 12 p0 (fun x11 => if x11 = (4 : Int32) then (vq_M_holds_93 p0 Q  x2 (1 : Int32) s) else (vq_M_holds_93 p0 Q  x2 (0 : Int32) s))))))
set_option maxRecDepth 100000 in
set_option maxHeartbeats 4000000 in
theorem vsq_M_holds_56 {A0 : ab_H} {a : Nat} {R : Nat → Nat} {p0 : Int32} {Q : Int32 → ab_H → Prop} {QV : Int32 → RS → Prop}  (hQ : ∀ v (s : RS) (A : ab_H), Me A0 A a R s → QV v s → Q v A)  : ∀ (A : ab_H) (s : RS), Me A0 A a R s → vq_M_holds_56 p0 QV   s → wq_M_holds_56 a p0 Q   A := by
  intro  A s H hv
  unfold vq_M_holds_56 at hv
  unfold wq_M_holds_56
  refine me_gR H rfl (Nat.le_of_ble_eq_true rfl) ?_
  refine me_l H rfl rfl hv (fun x1 hv => ?_)
  refine me_c H (vs_M_seekPart H hv (fun x2 s A H hv => ?_))
  refine me_gR H rfl (Nat.le_of_ble_eq_true rfl) ?_
  refine me_l H rfl rfl hv (fun x3 hv => ?_)
  refine me_if hv (fun hv => ?_) (fun hv => ?_)
  · refine me_if hv (fun hv => ?_) (fun hv => ?_)
    · exact hQ _ _ _ H hv
    · refine me_gR H rfl (Nat.le_of_ble_eq_true rfl) ?_
      refine me_l H rfl rfl hv (fun x4 hv => ?_)
      refine me_if hv (fun hv => ?_) (fun hv => ?_)
      · refine me_c H (vs_M_fits H hv (fun x10 s A H hv => ?_))
        obtain ⟨hb, hv⟩ := hv
        exact ⟨hb, hQ _ _ _ H hv⟩
      · refine me_c H (vs_M_contains H hv (fun x5 s A H hv => ?_))
        refine me_if hv (fun hv => ?_) (fun hv => ?_)
        · exact hQ _ _ _ H hv
        · refine me_gR H rfl (Nat.le_of_ble_eq_true rfl) ?_
          refine me_l H rfl rfl hv (fun x6 hv => ?_)
          refine me_if hv (fun hv => ?_) (fun hv => ?_)
          · exact hQ _ _ _ H hv
          · refine me_gI H rfl (Nat.le_of_ble_eq_true rfl) hv (fun x7 hv => ?_)
            refine me_gR H rfl (Nat.le_of_ble_eq_true rfl) ?_
            refine me_l H rfl rfl hv (fun x8 hv => ?_)
            refine me_gR H rfl (Nat.le_of_ble_eq_true rfl) ?_
            refine me_l H rfl rfl hv (fun x9 hv => ?_)
            refine me_if hv (fun hv => ?_) (fun hv => ?_)
            · exact hQ _ _ _ H hv
            · exact hQ _ _ _ H hv
  · refine me_gR H rfl (Nat.le_of_ble_eq_true rfl) ?_
    refine me_l H rfl rfl hv (fun x11 hv => ?_)
    refine me_if hv (fun hv => ?_) (fun hv => ?_)
    · exact vsq_M_holds_93 hQ  _ _ _ _ H hv
    · exact vsq_M_holds_93 hQ  _ _ _ _ H hv
def vb_M_holds_25 (p0 : Int32) (Q : Int32 → RS → Prop)  (k25 : Int32 → RS → Prop) (u2 : Int32) (s : RS) : Prop := wL (s.1 38) (fun x12 => if x12 ≤ u2 then (vq_M_holds_56 p0 Q   s) else (vA s 15 (((40 : Int32) * p0) + u2) (fun x13 => vS s 37 u2 x13 (fun s => k25 (u2 + 1) s))))
def vq_M_holds_25 (p0 : Int32) (Q : Int32 → RS → Prop)  : Nat → Int32 → RS → Prop
  | 0 => fun _ _ => False
  | n + 1 => vb_M_holds_25 p0 Q  (vq_M_holds_25 p0 Q  n)
set_option maxRecDepth 100000 in
set_option maxHeartbeats 4000000 in
theorem vsq_M_holds_25 {A0 : ab_H} {a : Nat} {R : Nat → Nat} {p0 : Int32} {Q : Int32 → ab_H → Prop} {QV : Int32 → RS → Prop}  (hQ : ∀ v (s : RS) (A : ab_H), Me A0 A a R s → QV v s → Q v A)  : ∀ (n : Nat) (u2 : Int32) (A : ab_H) (s : RS), Me A0 A a R s → vq_M_holds_25 p0 QV  n u2 s → wq_M_holds_25 a p0 Q  n u2 A := by
  intro n
  induction n with
  | zero =>
    intro u2 A s H hv
    exact absurd hv id
  | succ n hk25 =>
    intro u2 A s H hv
    have hv : vb_M_holds_25 p0 QV  (vq_M_holds_25 p0 QV  n) u2 s := hv
    show wb_M_holds_25 a p0 Q  (wq_M_holds_25 a p0 Q  n) u2 A
    unfold vb_M_holds_25 at hv
    unfold wb_M_holds_25
    refine me_gI H rfl (Nat.le_of_ble_eq_true rfl) hv (fun x12 hv => ?_)
    refine me_if hv (fun hv => ?_) (fun hv => ?_)
    · exact vsq_M_holds_56 hQ  _ _ H hv
    · refine me_gR H rfl (Nat.le_of_ble_eq_true rfl) ?_
      refine me_gR H rfl (Nat.le_of_ble_eq_true rfl) ?_
      refine me_l H rfl rfl hv (fun x13 hv => ?_)
      refine me_s H rfl rfl hv (fun A s H hv => ?_)
      exact hk25 _ _ _ H hv
def vq_M_holds_20 (p0 : Int32) (Q : Int32 → RS → Prop)  (s1 : Int32) (s : RS) : Prop := vP s 38 s1 (fun s => ∃ n, vq_M_holds_25 p0 Q  n (0 : Int32) s)
set_option maxRecDepth 100000 in
set_option maxHeartbeats 4000000 in
theorem vsq_M_holds_20 {A0 : ab_H} {a : Nat} {R : Nat → Nat} {p0 : Int32} {Q : Int32 → ab_H → Prop} {QV : Int32 → RS → Prop}  (hQ : ∀ v (s : RS) (A : ab_H), Me A0 A a R s → QV v s → Q v A)  : ∀ (s1 : Int32) (A : ab_H) (s : RS), Me A0 A a R s → vq_M_holds_20 p0 QV  s1 s → wq_M_holds_20 a p0 Q  (some a) s1 A := by
  intro s1 A s H hv
  unfold vq_M_holds_20 at hv
  unfold wq_M_holds_20
  refine me_p H rfl (Nat.le_of_ble_eq_true rfl) hv (fun A s H hv => ?_)
  obtain ⟨n, hv⟩ := hv
  exact ⟨n, vsq_M_holds_25 hQ  n _ _ _ H hv⟩
def vp_M_holds (p0 : Int32) (s : RS) (Q : Int32 → RS → Prop) : Prop := vA s 13 p0 (fun x14 => if 0 ≤ x14 then (vA s 13 p0 (fun x15 => vq_M_holds_20 p0 Q  x15 s)) else (vq_M_holds_20 p0 Q  (0 : Int32) s))
set_option maxRecDepth 100000 in
set_option maxHeartbeats 4000000 in
theorem vs_M_holds {A0 : ab_H} {a : Nat} {R : Nat → Nat} {p0 : Int32} {A : ab_H} {s : RS} {Q : Int32 → ab_H → Prop} {QV : Int32 → RS → Prop} (H : Me A0 A a R s) (hv : vp_M_holds p0 s QV) (hQ : ∀ v (s : RS) (A : ab_H), Me A0 A a R s → QV v s → Q v A) : wp_M_holds a p0 A Q := by
  unfold vp_M_holds at hv
  unfold wp_M_holds
  refine me_gR H rfl (Nat.le_of_ble_eq_true rfl) ?_
  refine me_l H rfl rfl hv (fun x14 hv => ?_)
  refine me_if hv (fun hv => ?_) (fun hv => ?_)
  · refine me_gR H rfl (Nat.le_of_ble_eq_true rfl) ?_
    refine me_l H rfl rfl hv (fun x15 hv => ?_)
    exact vsq_M_holds_20 hQ  _ _ _ H hv
  · exact vsq_M_holds_20 hQ  _ _ _ H hv
def vb_M_failing_16 (p0 : Int32) (Q : Int32 → RS → Prop)  (k16 : Int32 → Int32 → RS → Prop) (u2 : Int32) (u3 : Int32) (s : RS) : Prop := vA s 21 p0 (fun x1 => if x1 ≤ u3 then (Q u2 s) else (vp_M_holds ((((4 : Int32) * p0) + (4 : Int32)) + u3) s (fun x2 s => if x2 = 0 then (wL ((u2 + (1 : Int32))) (fun x3 => k16 x3 (u3 + 1) s)) else (wL ((u2 + (0 : Int32))) (fun x4 => k16 x4 (u3 + 1) s)))))
def vq_M_failing_16 (p0 : Int32) (Q : Int32 → RS → Prop)  : Nat → Int32 → Int32 → RS → Prop
  | 0 => fun _ _ _ => False
  | n + 1 => vb_M_failing_16 p0 Q  (vq_M_failing_16 p0 Q  n)
set_option maxRecDepth 100000 in
set_option maxHeartbeats 4000000 in
theorem vsq_M_failing_16 {A0 : ab_H} {a : Nat} {R : Nat → Nat} {p0 : Int32} {Q : Int32 → ab_H → Prop} {QV : Int32 → RS → Prop}  (hQ : ∀ v (s : RS) (A : ab_H), Me A0 A a R s → QV v s → Q v A)  : ∀ (n : Nat) (u2 : Int32) (u3 : Int32) (A : ab_H) (s : RS), Me A0 A a R s → vq_M_failing_16 p0 QV  n u2 u3 s → wq_M_failing_16 a p0 Q  n u2 u3 A := by
  intro n
  induction n with
  | zero =>
    intro u2 u3 A s H hv
    exact absurd hv id
  | succ n hk16 =>
    intro u2 u3 A s H hv
    have hv : vb_M_failing_16 p0 QV  (vq_M_failing_16 p0 QV  n) u2 u3 s := hv
    show wb_M_failing_16 a p0 Q  (wq_M_failing_16 a p0 Q  n) u2 u3 A
    unfold vb_M_failing_16 at hv
    unfold wb_M_failing_16
    refine me_gR H rfl (Nat.le_of_ble_eq_true rfl) ?_
    refine me_l H rfl rfl hv (fun x1 hv => ?_)
    refine me_if hv (fun hv => ?_) (fun hv => ?_)
    · exact hQ _ _ _ H hv
    · refine me_c H (vs_M_holds H hv (fun x2 s A H hv => ?_))
      refine me_if hv (fun hv => ?_) (fun hv => ?_)
      · refine vl_let hv (fun x3 hv => ?_)
        exact hk16 _ _ _ _ H hv
      · refine vl_let hv (fun x4 hv => ?_)
        exact hk16 _ _ _ _ H hv
def vq_M_failing_13 (p0 : Int32) (Q : Int32 → RS → Prop)  (s0 : Int32) (s : RS) : Prop := ∃ n, vq_M_failing_16 p0 Q  n s0 (0 : Int32) s
set_option maxRecDepth 100000 in
set_option maxHeartbeats 4000000 in
theorem vsq_M_failing_13 {A0 : ab_H} {a : Nat} {R : Nat → Nat} {p0 : Int32} {Q : Int32 → ab_H → Prop} {QV : Int32 → RS → Prop}  (hQ : ∀ v (s : RS) (A : ab_H), Me A0 A a R s → QV v s → Q v A)  : ∀ (s0 : Int32) (A : ab_H) (s : RS), Me A0 A a R s → vq_M_failing_13 p0 QV  s0 s → wq_M_failing_13 a p0 Q  s0 A := by
  intro s0 A s H hv
  unfold vq_M_failing_13 at hv
  unfold wq_M_failing_13
  obtain ⟨n, hv⟩ := hv
  exact ⟨n, vsq_M_failing_16 hQ  n _ _ _ _ H hv⟩
def vp_M_failing (p0 : Int32) (s : RS) (Q : Int32 → RS → Prop) : Prop := vp_M_inScene p0 s (fun x5 s => if x5 = 0 then (vq_M_failing_13 p0 Q  (1 : Int32) s) else (vq_M_failing_13 p0 Q  (0 : Int32) s))
set_option maxRecDepth 100000 in
set_option maxHeartbeats 4000000 in
theorem vs_M_failing {A0 : ab_H} {a : Nat} {R : Nat → Nat} {p0 : Int32} {A : ab_H} {s : RS} {Q : Int32 → ab_H → Prop} {QV : Int32 → RS → Prop} (H : Me A0 A a R s) (hv : vp_M_failing p0 s QV) (hQ : ∀ v (s : RS) (A : ab_H), Me A0 A a R s → QV v s → Q v A) : wp_M_failing a p0 A Q := by
  unfold vp_M_failing at hv
  unfold wp_M_failing
  refine me_c H (vs_M_inScene H hv (fun x5 s A H hv => ?_))
  refine me_if hv (fun hv => ?_) (fun hv => ?_)
  · exact vsq_M_failing_13 hQ  _ _ _ H hv
  · exact vsq_M_failing_13 hQ  _ _ _ H hv
def vp_M_before (p0 : Int32) (p1 : Int32) (s : RS) (Q : Int32 → RS → Prop) : Prop := if p1 < 0 then (Q (1 : Int32) s) else (vA s 19 p0 (fun x1 => vA s 19 p1 (fun x2 => if x1 < x2 then (Q (1 : Int32) s) else (vA s 19 p0 (fun x3 => vA s 19 p1 (fun x4 => if x3 = x4 then (vA s 18 p0 (fun x5 => vA s 18 p1 (fun x6 => if x5 ≤ x6 then (Q (0 : Int32) s) else (Q (1 : Int32) s)))) else (Q (0 : Int32) s)))))))
set_option maxRecDepth 100000 in
set_option maxHeartbeats 4000000 in
theorem vs_M_before {A0 : ab_H} {a : Nat} {R : Nat → Nat} {p0 : Int32} {p1 : Int32} {A : ab_H} {s : RS} {Q : Int32 → ab_H → Prop} {QV : Int32 → RS → Prop} (H : Me A0 A a R s) (hv : vp_M_before p0 p1 s QV) (hQ : ∀ v (s : RS) (A : ab_H), Me A0 A a R s → QV v s → Q v A) : wp_M_before a p0 p1 A Q := by
  unfold vp_M_before at hv
  unfold wp_M_before
  refine me_if hv (fun hv => ?_) (fun hv => ?_)
  · exact hQ _ _ _ H hv
  · refine me_gR H rfl (Nat.le_of_ble_eq_true rfl) ?_
    refine me_l H rfl rfl hv (fun x1 hv => ?_)
    refine me_gR H rfl (Nat.le_of_ble_eq_true rfl) ?_
    refine me_l H rfl rfl hv (fun x2 hv => ?_)
    refine me_if hv (fun hv => ?_) (fun hv => ?_)
    · exact hQ _ _ _ H hv
    · refine me_gR H rfl (Nat.le_of_ble_eq_true rfl) ?_
      refine me_l H rfl rfl hv (fun x3 hv => ?_)
      refine me_gR H rfl (Nat.le_of_ble_eq_true rfl) ?_
      refine me_l H rfl rfl hv (fun x4 hv => ?_)
      refine me_if hv (fun hv => ?_) (fun hv => ?_)
      · refine me_gR H rfl (Nat.le_of_ble_eq_true rfl) ?_
        refine me_l H rfl rfl hv (fun x5 hv => ?_)
        refine me_gR H rfl (Nat.le_of_ble_eq_true rfl) ?_
        refine me_l H rfl rfl hv (fun x6 hv => ?_)
        refine me_if hv (fun hv => ?_) (fun hv => ?_)
        · exact hQ _ _ _ H hv
        · exact hQ _ _ _ H hv
      · exact hQ _ _ _ H hv
def vp_M_make (p0 : Int32) (s : RS) (Q : RS → Prop) : Prop := wL (s.1 42) (fun x1 => if (60 : Int32) ≤ x1 then (Q s) else (wL (s.1 42) (fun x2 => vS s 41 x2 p0 (fun s => wL (s.1 42) (fun x3 => vP s 42 (x3 + (1 : Int32)) (fun s => Q s))))))
set_option maxRecDepth 100000 in
set_option maxHeartbeats 4000000 in
theorem vs_M_make {A0 : ab_H} {a : Nat} {R : Nat → Nat} {p0 : Int32} {A : ab_H} {s : RS} {Q : ab_H → Prop} {QV : RS → Prop} (H : Me A0 A a R s) (hv : vp_M_make p0 s QV) (hQ : ∀ (s : RS) (A : ab_H), Me A0 A a R s → QV s → Q A) : wp_M_make a p0 A Q := by
  unfold vp_M_make at hv
  unfold wp_M_make
  refine me_gI H rfl (Nat.le_of_ble_eq_true rfl) hv (fun x1 hv => ?_)
  refine me_if hv (fun hv => ?_) (fun hv => ?_)
  · exact hQ _ _ H hv
  · refine me_gR H rfl (Nat.le_of_ble_eq_true rfl) ?_
    refine me_gI H rfl (Nat.le_of_ble_eq_true rfl) hv (fun x2 hv => ?_)
    refine me_s H rfl rfl hv (fun A s H hv => ?_)
    refine me_gI H rfl (Nat.le_of_ble_eq_true rfl) hv (fun x3 hv => ?_)
    refine me_p H rfl (Nat.le_of_ble_eq_true rfl) hv (fun A s H hv => ?_)
    exact hQ _ _ H hv
def vb_M_makeNumber_20 (p0 : Int32) (Q : RS → Prop)  (k20 : Int32 → RS → Prop) (u3 : Int32) (s : RS) : Prop := if u3 ≤ 0 then (Q s) else ((¬ u3 = 0) ∧ (vp_M_make ((48 : Int32) + ((p0 / u3) - (p0 / u3) / (10 : Int32) * (10 : Int32))) s (fun s => wL ((u3 / (10 : Int32))) (fun x1 => k20 x1 s))))
def vq_M_makeNumber_20 (p0 : Int32) (Q : RS → Prop)  : Nat → Int32 → RS → Prop
  | 0 => fun _ _ => False
  | n + 1 => vb_M_makeNumber_20 p0 Q  (vq_M_makeNumber_20 p0 Q  n)
set_option maxRecDepth 100000 in
set_option maxHeartbeats 4000000 in
theorem vsq_M_makeNumber_20 {A0 : ab_H} {a : Nat} {R : Nat → Nat} {p0 : Int32} {Q : ab_H → Prop} {QV : RS → Prop}  (hQ : ∀ (s : RS) (A : ab_H), Me A0 A a R s → QV s → Q A)  : ∀ (n : Nat) (u3 : Int32) (A : ab_H) (s : RS), Me A0 A a R s → vq_M_makeNumber_20 p0 QV  n u3 s → wq_M_makeNumber_20 a p0 Q  n u3 A := by
  intro n
  induction n with
  | zero =>
    intro u3 A s H hv
    exact absurd hv id
  | succ n hk20 =>
    intro u3 A s H hv
    have hv : vb_M_makeNumber_20 p0 QV  (vq_M_makeNumber_20 p0 QV  n) u3 s := hv
    show wb_M_makeNumber_20 a p0 Q  (wq_M_makeNumber_20 a p0 Q  n) u3 A
    unfold vb_M_makeNumber_20 at hv
    unfold wb_M_makeNumber_20
    refine me_if hv (fun hv => ?_) (fun hv => ?_)
    · exact hQ _ _ H hv
    · obtain ⟨hz, hv⟩ := hv
      refine ⟨hz, ?_⟩
      refine me_c H (vs_M_make H hv (fun s A H hv => ?_))
      refine vl_let hv (fun x1 hv => ?_)
      exact hk20 _ _ _ H hv
def vq_M_makeNumber_18 (p0 : Int32) (Q : RS → Prop)  (u2 : Int32) (s : RS) : Prop := ∃ n, vq_M_makeNumber_20 p0 Q  n u2 s
set_option maxRecDepth 100000 in
set_option maxHeartbeats 4000000 in
theorem vsq_M_makeNumber_18 {A0 : ab_H} {a : Nat} {R : Nat → Nat} {p0 : Int32} {Q : ab_H → Prop} {QV : RS → Prop}  (hQ : ∀ (s : RS) (A : ab_H), Me A0 A a R s → QV s → Q A)  : ∀ (u2 : Int32) (A : ab_H) (s : RS), Me A0 A a R s → vq_M_makeNumber_18 p0 QV  u2 s → wq_M_makeNumber_18 a p0 Q  u2 A := by
  intro u2 A s H hv
  unfold vq_M_makeNumber_18 at hv
  unfold wq_M_makeNumber_18
  obtain ⟨n, hv⟩ := hv
  exact ⟨n, vsq_M_makeNumber_20 hQ  n _ _ _ H hv⟩
def vb_M_makeNumber_2 (p0 : Int32) (Q : RS → Prop)  (k2 : Int32 → RS → Prop) (u2 : Int32) (s : RS) : Prop := (¬ u2 = 0) ∧ (if (p0 / u2) < (10 : Int32) then (vq_M_makeNumber_18 p0 Q  u2 s) else (wL ((u2 * (10 : Int32))) (fun x2 => k2 x2 s)))
def vq_M_makeNumber_2 (p0 : Int32) (Q : RS → Prop)  : Nat → Int32 → RS → Prop
  | 0 => fun _ _ => False
  | n + 1 => vb_M_makeNumber_2 p0 Q  (vq_M_makeNumber_2 p0 Q  n)
set_option maxRecDepth 100000 in
set_option maxHeartbeats 4000000 in
theorem vsq_M_makeNumber_2 {A0 : ab_H} {a : Nat} {R : Nat → Nat} {p0 : Int32} {Q : ab_H → Prop} {QV : RS → Prop}  (hQ : ∀ (s : RS) (A : ab_H), Me A0 A a R s → QV s → Q A)  : ∀ (n : Nat) (u2 : Int32) (A : ab_H) (s : RS), Me A0 A a R s → vq_M_makeNumber_2 p0 QV  n u2 s → wq_M_makeNumber_2 a p0 Q  n u2 A := by
  intro n
  induction n with
  | zero =>
    intro u2 A s H hv
    exact absurd hv id
  | succ n hk2 =>
    intro u2 A s H hv
    have hv : vb_M_makeNumber_2 p0 QV  (vq_M_makeNumber_2 p0 QV  n) u2 s := hv
    show wb_M_makeNumber_2 a p0 Q  (wq_M_makeNumber_2 a p0 Q  n) u2 A
    unfold vb_M_makeNumber_2 at hv
    unfold wb_M_makeNumber_2
    obtain ⟨hz, hv⟩ := hv
    refine ⟨hz, ?_⟩
    refine me_if hv (fun hv => ?_) (fun hv => ?_)
    · exact vsq_M_makeNumber_18 hQ  _ _ _ H hv
    · refine vl_let hv (fun x2 hv => ?_)
      exact hk2 _ _ _ H hv
def vp_M_makeNumber (p0 : Int32) (s : RS) (Q : RS → Prop) : Prop := ∃ n, vq_M_makeNumber_2 p0 Q  n (1 : Int32) s
set_option maxRecDepth 100000 in
set_option maxHeartbeats 4000000 in
theorem vs_M_makeNumber {A0 : ab_H} {a : Nat} {R : Nat → Nat} {p0 : Int32} {A : ab_H} {s : RS} {Q : ab_H → Prop} {QV : RS → Prop} (H : Me A0 A a R s) (hv : vp_M_makeNumber p0 s QV) (hQ : ∀ (s : RS) (A : ab_H), Me A0 A a R s → QV s → Q A) : wp_M_makeNumber a p0 A Q := by
  unfold vp_M_makeNumber at hv
  unfold wp_M_makeNumber
  obtain ⟨n, hv⟩ := hv
  exact ⟨n, vsq_M_makeNumber_2 hQ  n _ _ _ H hv⟩
def vb_M_makePart_8 (p0 : Int32) (Q : RS → Prop)  (k8 : Int32 → Int32 → RS → Prop) (u2 : Int32) (u3 : Int32) (s : RS) : Prop := wL (s.1 40) (fun x1 => if x1 ≤ u3 then (Q s) else (if u2 = 0 then (Q s) else (vA s 39 u3 (fun x2 => vp_M_make x2 s (fun s => k8 u2 (u3 + 1) s)))))
def vq_M_makePart_8 (p0 : Int32) (Q : RS → Prop)  : Nat → Int32 → Int32 → RS → Prop
  | 0 => fun _ _ _ => False
  | n + 1 => vb_M_makePart_8 p0 Q  (vq_M_makePart_8 p0 Q  n)
set_option maxRecDepth 100000 in
set_option maxHeartbeats 4000000 in
theorem vsq_M_makePart_8 {A0 : ab_H} {a : Nat} {R : Nat → Nat} {p0 : Int32} {Q : ab_H → Prop} {QV : RS → Prop}  (hQ : ∀ (s : RS) (A : ab_H), Me A0 A a R s → QV s → Q A)  : ∀ (n : Nat) (u2 : Int32) (u3 : Int32) (A : ab_H) (s : RS), Me A0 A a R s → vq_M_makePart_8 p0 QV  n u2 u3 s → wq_M_makePart_8 a p0 Q  n u2 u3 A := by
  intro n
  induction n with
  | zero =>
    intro u2 u3 A s H hv
    exact absurd hv id
  | succ n hk8 =>
    intro u2 u3 A s H hv
    have hv : vb_M_makePart_8 p0 QV  (vq_M_makePart_8 p0 QV  n) u2 u3 s := hv
    show wb_M_makePart_8 a p0 Q  (wq_M_makePart_8 a p0 Q  n) u2 u3 A
    unfold vb_M_makePart_8 at hv
    unfold wb_M_makePart_8
    refine me_gI H rfl (Nat.le_of_ble_eq_true rfl) hv (fun x1 hv => ?_)
    refine me_if hv (fun hv => ?_) (fun hv => ?_)
    · exact hQ _ _ H hv
    · refine me_if hv (fun hv => ?_) (fun hv => ?_)
      · exact hQ _ _ H hv
      · refine me_gR H rfl (Nat.le_of_ble_eq_true rfl) ?_
        refine me_l H rfl rfl hv (fun x2 hv => ?_)
        refine me_c H (vs_M_make H hv (fun s A H hv => ?_))
        exact hk8 _ _ _ _ H hv
def vp_M_makePart (p0 : Int32) (s : RS) (Q : RS → Prop) : Prop := vp_M_seekPart p0 s (fun x3 s => ∃ n, vq_M_makePart_8 p0 Q  n x3 (0 : Int32) s)
set_option maxRecDepth 100000 in
set_option maxHeartbeats 4000000 in
theorem vs_M_makePart {A0 : ab_H} {a : Nat} {R : Nat → Nat} {p0 : Int32} {A : ab_H} {s : RS} {Q : ab_H → Prop} {QV : RS → Prop} (H : Me A0 A a R s) (hv : vp_M_makePart p0 s QV) (hQ : ∀ (s : RS) (A : ab_H), Me A0 A a R s → QV s → Q A) : wp_M_makePart a p0 A Q := by
  unfold vp_M_makePart at hv
  unfold wp_M_makePart
  refine me_c H (vs_M_seekPart H hv (fun x3 s A H hv => ?_))
  obtain ⟨n, hv⟩ := hv
  exact ⟨n, vsq_M_makePart_8 hQ  n _ _ _ _ H hv⟩
def vq_M_expand_326 (p0 : Int32) (p1 : Int32) (Q : Int32 → RS → Prop)  (u7 : Int32) (u8 : Int32) (u9 : Int32) (s : RS) : Prop := if u8 = 0 then (if u9 = 0 then (Q (p1 + (1 : Int32)) s) else (Q (u7 + (1 : Int32)) s)) else (Q (p1 + (3 : Int32)) s)
set_option maxRecDepth 100000 in
set_option maxHeartbeats 4000000 in
theorem vsq_M_expand_326 {A0 : ab_H} {a : Nat} {R : Nat → Nat} {p0 : Int32} {p1 : Int32} {Q : Int32 → ab_H → Prop} {QV : Int32 → RS → Prop}  (hQ : ∀ v (s : RS) (A : ab_H), Me A0 A a R s → QV v s → Q v A)  : ∀ (u7 : Int32) (u8 : Int32) (u9 : Int32) (A : ab_H) (s : RS), Me A0 A a R s → vq_M_expand_326 p0 p1 QV  u7 u8 u9 s → wq_M_expand_326 a p0 p1 Q  u7 u8 u9 A := by
  intro u7 u8 u9 A s H hv
  unfold vq_M_expand_326 at hv
  unfold wq_M_expand_326
  refine me_if hv (fun hv => ?_) (fun hv => ?_)
  · refine me_if hv (fun hv => ?_) (fun hv => ?_)
    · exact hQ _ _ _ H hv
    · exact hQ _ _ _ H hv
  · exact hQ _ _ _ H hv
def vq_M_expand_310 (p0 : Int32) (p1 : Int32) (Q : Int32 → RS → Prop)  (u5 : Int32) (u7 : Int32) (u8 : Int32) (u9 : Int32) (s : RS) : Prop := if u8 = 0 then (if u9 = 0 then (vp_M_make u5 s (fun s => vq_M_expand_326 p0 p1 Q  u7 u8 u9 s)) else (vq_M_expand_326 p0 p1 Q  u7 u8 u9 s)) else (vq_M_expand_326 p0 p1 Q  u7 u8 u9 s)
set_option maxRecDepth 100000 in
set_option maxHeartbeats 4000000 in
theorem vsq_M_expand_310 {A0 : ab_H} {a : Nat} {R : Nat → Nat} {p0 : Int32} {p1 : Int32} {Q : Int32 → ab_H → Prop} {QV : Int32 → RS → Prop}  (hQ : ∀ v (s : RS) (A : ab_H), Me A0 A a R s → QV v s → Q v A)  : ∀ (u5 : Int32) (u7 : Int32) (u8 : Int32) (u9 : Int32) (A : ab_H) (s : RS), Me A0 A a R s → vq_M_expand_310 p0 p1 QV  u5 u7 u8 u9 s → wq_M_expand_310 a p0 p1 Q  u5 u7 u8 u9 A := by
  intro u5 u7 u8 u9 A s H hv
  unfold vq_M_expand_310 at hv
  unfold wq_M_expand_310
  refine me_if hv (fun hv => ?_) (fun hv => ?_)
  · refine me_if hv (fun hv => ?_) (fun hv => ?_)
    · refine me_c H (vs_M_make H hv (fun s A H hv => ?_))
      exact vsq_M_expand_326 hQ  _ _ _ _ _ H hv
    · exact vsq_M_expand_326 hQ  _ _ _ _ _ H hv
  · exact vsq_M_expand_326 hQ  _ _ _ _ _ H hv
def vq_M_expand_307 (p0 : Int32) (p1 : Int32) (Q : Int32 → RS → Prop)  (u5 : Int32) (u7 : Int32) (u8 : Int32) (u9 : Int32) (s1 : Int32) (s : RS) : Prop := vp_M_makePart s1 s (fun s => vq_M_expand_310 p0 p1 Q  u5 u7 u8 u9 s)
set_option maxRecDepth 100000 in
set_option maxHeartbeats 4000000 in
theorem vsq_M_expand_307 {A0 : ab_H} {a : Nat} {R : Nat → Nat} {p0 : Int32} {p1 : Int32} {Q : Int32 → ab_H → Prop} {QV : Int32 → RS → Prop}  (hQ : ∀ v (s : RS) (A : ab_H), Me A0 A a R s → QV v s → Q v A)  : ∀ (u5 : Int32) (u7 : Int32) (u8 : Int32) (u9 : Int32) (s1 : Int32) (A : ab_H) (s : RS), Me A0 A a R s → vq_M_expand_307 p0 p1 QV  u5 u7 u8 u9 s1 s → wq_M_expand_307 a p0 p1 Q  u5 u7 u8 u9 (some a) s1 A := by
  intro u5 u7 u8 u9 s1 A s H hv
  unfold vq_M_expand_307 at hv
  unfold wq_M_expand_307
  refine me_c H (vs_M_makePart H hv (fun s A H hv => ?_))
  exact vsq_M_expand_310 hQ  _ _ _ _ _ _ H hv
def vq_M_expand_294 (p0 : Int32) (p1 : Int32) (Q : Int32 → RS → Prop)  (u5 : Int32) (u6 : Int32) (u7 : Int32) (u8 : Int32) (u9 : Int32) (s : RS) : Prop := if u6 = (113 : Int32) then (vq_M_expand_307 p0 p1 Q  u5 u7 u8 u9 (2 : Int32) s) else (vq_M_expand_307 p0 p1 Q  u5 u7 u8 u9 (3 : Int32) s)
set_option maxRecDepth 100000 in
set_option maxHeartbeats 4000000 in
theorem vsq_M_expand_294 {A0 : ab_H} {a : Nat} {R : Nat → Nat} {p0 : Int32} {p1 : Int32} {Q : Int32 → ab_H → Prop} {QV : Int32 → RS → Prop}  (hQ : ∀ v (s : RS) (A : ab_H), Me A0 A a R s → QV v s → Q v A)  : ∀ (u5 : Int32) (u6 : Int32) (u7 : Int32) (u8 : Int32) (u9 : Int32) (A : ab_H) (s : RS), Me A0 A a R s → vq_M_expand_294 p0 p1 QV  u5 u6 u7 u8 u9 s → wq_M_expand_294 a p0 p1 Q  u5 u6 u7 u8 u9 A := by
  intro u5 u6 u7 u8 u9 A s H hv
  unfold vq_M_expand_294 at hv
  unfold wq_M_expand_294
  refine me_if hv (fun hv => ?_) (fun hv => ?_)
  · exact vsq_M_expand_307 hQ  _ _ _ _ _ _ _ H hv
  · exact vsq_M_expand_307 hQ  _ _ _ _ _ _ _ H hv
def vb_M_expand_259 (p0 : Int32) (p1 : Int32) (Q : Int32 → RS → Prop)  (k259 : Int32 → Int32 → Int32 → Int32 → Int32 → Int32 → Int32 → RS → Prop) (u3 : Int32) (u5 : Int32) (u6 : Int32) (u7 : Int32) (u8 : Int32) (u9 : Int32) (u10 : Int32) (s : RS) : Prop := wL (s.1 38) (fun x1 => if x1 ≤ u10 then (vq_M_expand_294 p0 p1 Q  u5 u6 u7 u8 u9 s) else (vA s 22 (((u3 + p1) + (2 : Int32)) + u10) (fun x2 => vS s 37 u10 x2 (fun s => k259 u3 u5 u6 u7 u8 u9 (u10 + 1) s))))
def vq_M_expand_259 (p0 : Int32) (p1 : Int32) (Q : Int32 → RS → Prop)  : Nat → Int32 → Int32 → Int32 → Int32 → Int32 → Int32 → Int32 → RS → Prop
  | 0 => fun _ _ _ _ _ _ _ _ => False
  | n + 1 => vb_M_expand_259 p0 p1 Q  (vq_M_expand_259 p0 p1 Q  n)
set_option maxRecDepth 100000 in
set_option maxHeartbeats 4000000 in
theorem vsq_M_expand_259 {A0 : ab_H} {a : Nat} {R : Nat → Nat} {p0 : Int32} {p1 : Int32} {Q : Int32 → ab_H → Prop} {QV : Int32 → RS → Prop}  (hQ : ∀ v (s : RS) (A : ab_H), Me A0 A a R s → QV v s → Q v A)  : ∀ (n : Nat) (u3 : Int32) (u5 : Int32) (u6 : Int32) (u7 : Int32) (u8 : Int32) (u9 : Int32) (u10 : Int32) (A : ab_H) (s : RS), Me A0 A a R s → vq_M_expand_259 p0 p1 QV  n u3 u5 u6 u7 u8 u9 u10 s → wq_M_expand_259 a p0 p1 Q  n u3 u5 u6 u7 u8 u9 u10 A := by
  intro n
  induction n with
  | zero =>
    intro u3 u5 u6 u7 u8 u9 u10 A s H hv
    exact absurd hv id
  | succ n hk259 =>
    intro u3 u5 u6 u7 u8 u9 u10 A s H hv
    have hv : vb_M_expand_259 p0 p1 QV  (vq_M_expand_259 p0 p1 QV  n) u3 u5 u6 u7 u8 u9 u10 s := hv
    show wb_M_expand_259 a p0 p1 Q  (wq_M_expand_259 a p0 p1 Q  n) u3 u5 u6 u7 u8 u9 u10 A
    unfold vb_M_expand_259 at hv
    unfold wb_M_expand_259
    refine me_gI H rfl (Nat.le_of_ble_eq_true rfl) hv (fun x1 hv => ?_)
    refine me_if hv (fun hv => ?_) (fun hv => ?_)
    · exact vsq_M_expand_294 hQ  _ _ _ _ _ _ _ H hv
    · refine me_gR H rfl (Nat.le_of_ble_eq_true rfl) ?_
      refine me_gR H rfl (Nat.le_of_ble_eq_true rfl) ?_
      refine me_l H rfl rfl hv (fun x2 hv => ?_)
      refine me_s H rfl rfl hv (fun A s H hv => ?_)
      exact hk259 _ _ _ _ _ _ _ _ _ H hv
def vq_M_expand_241 (p0 : Int32) (p1 : Int32) (Q : Int32 → RS → Prop)  (u3 : Int32) (u5 : Int32) (u6 : Int32) (u7 : Int32) (u8 : Int32) (u9 : Int32) (s : RS) : Prop := if u9 = 0 then (vq_M_expand_310 p0 p1 Q  u5 u7 u8 u9 s) else (vP s 38 ((u7 - p1) - (2 : Int32)) (fun s => ∃ n, vq_M_expand_259 p0 p1 Q  n u3 u5 u6 u7 u8 u9 (0 : Int32) s))
set_option maxRecDepth 100000 in
set_option maxHeartbeats 4000000 in
theorem vsq_M_expand_241 {A0 : ab_H} {a : Nat} {R : Nat → Nat} {p0 : Int32} {p1 : Int32} {Q : Int32 → ab_H → Prop} {QV : Int32 → RS → Prop}  (hQ : ∀ v (s : RS) (A : ab_H), Me A0 A a R s → QV v s → Q v A)  : ∀ (u3 : Int32) (u5 : Int32) (u6 : Int32) (u7 : Int32) (u8 : Int32) (u9 : Int32) (A : ab_H) (s : RS), Me A0 A a R s → vq_M_expand_241 p0 p1 QV  u3 u5 u6 u7 u8 u9 s → wq_M_expand_241 a p0 p1 Q  u3 u5 u6 u7 u8 u9 A := by
  intro u3 u5 u6 u7 u8 u9 A s H hv
  unfold vq_M_expand_241 at hv
  unfold wq_M_expand_241
  refine me_if hv (fun hv => ?_) (fun hv => ?_)
  · exact vsq_M_expand_310 hQ  _ _ _ _ _ _ H hv
  · refine me_p H rfl (Nat.le_of_ble_eq_true rfl) hv (fun A s H hv => ?_)
    obtain ⟨n, hv⟩ := hv
    exact ⟨n, vsq_M_expand_259 hQ  n _ _ _ _ _ _ _ _ _ H hv⟩
def vq_M_expand_238 (p0 : Int32) (p1 : Int32) (Q : Int32 → RS → Prop)  (u3 : Int32) (u5 : Int32) (u6 : Int32) (u7 : Int32) (u8 : Int32) (u9 : Int32) (s1 : Int32) (s : RS) : Prop := vp_M_makePart s1 s (fun s => vq_M_expand_241 p0 p1 Q  u3 u5 u6 u7 u8 u9 s)
set_option maxRecDepth 100000 in
set_option maxHeartbeats 4000000 in
theorem vsq_M_expand_238 {A0 : ab_H} {a : Nat} {R : Nat → Nat} {p0 : Int32} {p1 : Int32} {Q : Int32 → ab_H → Prop} {QV : Int32 → RS → Prop}  (hQ : ∀ v (s : RS) (A : ab_H), Me A0 A a R s → QV v s → Q v A)  : ∀ (u3 : Int32) (u5 : Int32) (u6 : Int32) (u7 : Int32) (u8 : Int32) (u9 : Int32) (s1 : Int32) (A : ab_H) (s : RS), Me A0 A a R s → vq_M_expand_238 p0 p1 QV  u3 u5 u6 u7 u8 u9 s1 s → wq_M_expand_238 a p0 p1 Q  u3 u5 u6 u7 u8 u9 (some a) s1 A := by
  intro u3 u5 u6 u7 u8 u9 s1 A s H hv
  unfold vq_M_expand_238 at hv
  unfold wq_M_expand_238
  refine me_c H (vs_M_makePart H hv (fun s A H hv => ?_))
  exact vsq_M_expand_241 hQ  _ _ _ _ _ _ _ _ H hv
def vq_M_expand_202 (p0 : Int32) (p1 : Int32) (Q : Int32 → RS → Prop)  (u3 : Int32) (u5 : Int32) (u6 : Int32) (u7 : Int32) (u8 : Int32) (u9 : Int32) (s : RS) : Prop := if u8 = 0 then (vq_M_expand_241 p0 p1 Q  u3 u5 u6 u7 u8 u9 s) else (if u6 = (110 : Int32) then (vq_M_expand_241 p0 p1 Q  u3 u5 u6 u7 u8 u9 s) else (if u6 = (109 : Int32) then (vq_M_expand_238 p0 p1 Q  u3 u5 u6 u7 u8 u9 (0 : Int32) s) else (if u6 = (112 : Int32) then (vq_M_expand_238 p0 p1 Q  u3 u5 u6 u7 u8 u9 (1 : Int32) s) else (vq_M_expand_238 p0 p1 Q  u3 u5 u6 u7 u8 u9 (4 : Int32) s))))
set_option maxRecDepth 100000 in
set_option maxHeartbeats 4000000 in
theorem vsq_M_expand_202 {A0 : ab_H} {a : Nat} {R : Nat → Nat} {p0 : Int32} {p1 : Int32} {Q : Int32 → ab_H → Prop} {QV : Int32 → RS → Prop}  (hQ : ∀ v (s : RS) (A : ab_H), Me A0 A a R s → QV v s → Q v A)  : ∀ (u3 : Int32) (u5 : Int32) (u6 : Int32) (u7 : Int32) (u8 : Int32) (u9 : Int32) (A : ab_H) (s : RS), Me A0 A a R s → vq_M_expand_202 p0 p1 QV  u3 u5 u6 u7 u8 u9 s → wq_M_expand_202 a p0 p1 Q  u3 u5 u6 u7 u8 u9 A := by
  intro u3 u5 u6 u7 u8 u9 A s H hv
  unfold vq_M_expand_202 at hv
  unfold wq_M_expand_202
  refine me_if hv (fun hv => ?_) (fun hv => ?_)
  · exact vsq_M_expand_241 hQ  _ _ _ _ _ _ _ _ H hv
  · refine me_if hv (fun hv => ?_) (fun hv => ?_)
    · exact vsq_M_expand_241 hQ  _ _ _ _ _ _ _ _ H hv
    · refine me_if hv (fun hv => ?_) (fun hv => ?_)
      · exact vsq_M_expand_238 hQ  _ _ _ _ _ _ _ _ _ H hv
      · refine me_if hv (fun hv => ?_) (fun hv => ?_)
        · exact vsq_M_expand_238 hQ  _ _ _ _ _ _ _ _ _ H hv
        · exact vsq_M_expand_238 hQ  _ _ _ _ _ _ _ _ _ H hv
def vq_M_expand_180 (p0 : Int32) (p1 : Int32) (Q : Int32 → RS → Prop)  (u3 : Int32) (u5 : Int32) (u6 : Int32) (u7 : Int32) (u8 : Int32) (s0 : Int32) (s : RS) : Prop := if u8 = 0 then (vq_M_expand_202 p0 p1 Q  u3 u5 u6 u7 u8 s0 s) else (if u6 = (110 : Int32) then (wL (s.1 7) (fun x3 => vp_M_makeNumber x3 s (fun s => vq_M_expand_202 p0 p1 Q  u3 u5 u6 u7 u8 s0 s))) else (vq_M_expand_202 p0 p1 Q  u3 u5 u6 u7 u8 s0 s))
set_option maxRecDepth 100000 in
set_option maxHeartbeats 4000000 in
theorem vsq_M_expand_180 {A0 : ab_H} {a : Nat} {R : Nat → Nat} {p0 : Int32} {p1 : Int32} {Q : Int32 → ab_H → Prop} {QV : Int32 → RS → Prop}  (hQ : ∀ v (s : RS) (A : ab_H), Me A0 A a R s → QV v s → Q v A)  : ∀ (u3 : Int32) (u5 : Int32) (u6 : Int32) (u7 : Int32) (u8 : Int32) (s0 : Int32) (A : ab_H) (s : RS), Me A0 A a R s → vq_M_expand_180 p0 p1 QV  u3 u5 u6 u7 u8 s0 s → wq_M_expand_180 a p0 p1 Q  u3 u5 u6 u7 u8 s0 A := by
  intro u3 u5 u6 u7 u8 s0 A s H hv
  unfold vq_M_expand_180 at hv
  unfold wq_M_expand_180
  refine me_if hv (fun hv => ?_) (fun hv => ?_)
  · exact vsq_M_expand_202 hQ  _ _ _ _ _ _ _ _ H hv
  · refine me_if hv (fun hv => ?_) (fun hv => ?_)
    · refine me_gI H rfl (Nat.le_of_ble_eq_true rfl) hv (fun x3 hv => ?_)
      refine me_c H (vs_M_makeNumber H hv (fun s A H hv => ?_))
      exact vsq_M_expand_202 hQ  _ _ _ _ _ _ _ _ H hv
    · exact vsq_M_expand_202 hQ  _ _ _ _ _ _ _ _ H hv
def vq_M_expand_179 (p0 : Int32) (p1 : Int32) (Q : Int32 → RS → Prop)  (u3 : Int32) (u5 : Int32) (u6 : Int32) (u7 : Int32) (u8 : Int32) (s : RS) : Prop := vq_M_expand_180 p0 p1 Q  u3 u5 u6 u7 u8 (0 : Int32) s
set_option maxRecDepth 100000 in
set_option maxHeartbeats 4000000 in
theorem vsq_M_expand_179 {A0 : ab_H} {a : Nat} {R : Nat → Nat} {p0 : Int32} {p1 : Int32} {Q : Int32 → ab_H → Prop} {QV : Int32 → RS → Prop}  (hQ : ∀ v (s : RS) (A : ab_H), Me A0 A a R s → QV v s → Q v A)  : ∀ (u3 : Int32) (u5 : Int32) (u6 : Int32) (u7 : Int32) (u8 : Int32) (A : ab_H) (s : RS), Me A0 A a R s → vq_M_expand_179 p0 p1 QV  u3 u5 u6 u7 u8 s → wq_M_expand_179 a p0 p1 Q  u3 u5 u6 u7 u8 A := by
  intro u3 u5 u6 u7 u8 A s H hv
  unfold vq_M_expand_179 at hv
  unfold wq_M_expand_179
  exact vsq_M_expand_180 hQ  _ _ _ _ _ _ _ _ H hv
def vq_M_expand_160 (p0 : Int32) (p1 : Int32) (Q : Int32 → RS → Prop)  (u3 : Int32) (u4 : Int32) (u5 : Int32) (u6 : Int32) (u7 : Int32) (u8 : Int32) (s : RS) : Prop := if u4 ≤ u7 then (vq_M_expand_179 p0 p1 Q  u3 u5 u6 u7 u8 s) else (if u7 ≤ (p1 + (2 : Int32)) then (vq_M_expand_179 p0 p1 Q  u3 u5 u6 u7 u8 s) else (vq_M_expand_180 p0 p1 Q  u3 u5 u6 u7 u8 (1 : Int32) s))
set_option maxRecDepth 100000 in
set_option maxHeartbeats 4000000 in
theorem vsq_M_expand_160 {A0 : ab_H} {a : Nat} {R : Nat → Nat} {p0 : Int32} {p1 : Int32} {Q : Int32 → ab_H → Prop} {QV : Int32 → RS → Prop}  (hQ : ∀ v (s : RS) (A : ab_H), Me A0 A a R s → QV v s → Q v A)  : ∀ (u3 : Int32) (u4 : Int32) (u5 : Int32) (u6 : Int32) (u7 : Int32) (u8 : Int32) (A : ab_H) (s : RS), Me A0 A a R s → vq_M_expand_160 p0 p1 QV  u3 u4 u5 u6 u7 u8 s → wq_M_expand_160 a p0 p1 Q  u3 u4 u5 u6 u7 u8 A := by
  intro u3 u4 u5 u6 u7 u8 A s H hv
  unfold vq_M_expand_160 at hv
  unfold wq_M_expand_160
  refine me_if hv (fun hv => ?_) (fun hv => ?_)
  · exact vsq_M_expand_179 hQ  _ _ _ _ _ _ _ H hv
  · refine me_if hv (fun hv => ?_) (fun hv => ?_)
    · exact vsq_M_expand_179 hQ  _ _ _ _ _ _ _ H hv
    · exact vsq_M_expand_180 hQ  _ _ _ _ _ _ _ _ H hv
def vq_M_expand_144 (p0 : Int32) (p1 : Int32) (Q : Int32 → RS → Prop)  (u3 : Int32) (u4 : Int32) (u5 : Int32) (u6 : Int32) (u7 : Int32) (s0 : Int32) (s : RS) : Prop := if u6 = (113 : Int32) then (vq_M_expand_160 p0 p1 Q  u3 u4 u5 u6 u7 s0 s) else (if u6 = (104 : Int32) then (vq_M_expand_160 p0 p1 Q  u3 u4 u5 u6 u7 s0 s) else (vq_M_expand_179 p0 p1 Q  u3 u5 u6 u7 s0 s))
set_option maxRecDepth 100000 in
set_option maxHeartbeats 4000000 in
theorem vsq_M_expand_144 {A0 : ab_H} {a : Nat} {R : Nat → Nat} {p0 : Int32} {p1 : Int32} {Q : Int32 → ab_H → Prop} {QV : Int32 → RS → Prop}  (hQ : ∀ v (s : RS) (A : ab_H), Me A0 A a R s → QV v s → Q v A)  : ∀ (u3 : Int32) (u4 : Int32) (u5 : Int32) (u6 : Int32) (u7 : Int32) (s0 : Int32) (A : ab_H) (s : RS), Me A0 A a R s → vq_M_expand_144 p0 p1 QV  u3 u4 u5 u6 u7 s0 s → wq_M_expand_144 a p0 p1 Q  u3 u4 u5 u6 u7 s0 A := by
  intro u3 u4 u5 u6 u7 s0 A s H hv
  unfold vq_M_expand_144 at hv
  unfold wq_M_expand_144
  refine me_if hv (fun hv => ?_) (fun hv => ?_)
  · exact vsq_M_expand_160 hQ  _ _ _ _ _ _ _ _ H hv
  · refine me_if hv (fun hv => ?_) (fun hv => ?_)
    · exact vsq_M_expand_160 hQ  _ _ _ _ _ _ _ _ H hv
    · exact vsq_M_expand_179 hQ  _ _ _ _ _ _ _ H hv
def vq_M_expand_143 (p0 : Int32) (p1 : Int32) (Q : Int32 → RS → Prop)  (u3 : Int32) (u4 : Int32) (u5 : Int32) (u6 : Int32) (u7 : Int32) (s : RS) : Prop := vq_M_expand_144 p0 p1 Q  u3 u4 u5 u6 u7 (0 : Int32) s
set_option maxRecDepth 100000 in
set_option maxHeartbeats 4000000 in
theorem vsq_M_expand_143 {A0 : ab_H} {a : Nat} {R : Nat → Nat} {p0 : Int32} {p1 : Int32} {Q : Int32 → ab_H → Prop} {QV : Int32 → RS → Prop}  (hQ : ∀ v (s : RS) (A : ab_H), Me A0 A a R s → QV v s → Q v A)  : ∀ (u3 : Int32) (u4 : Int32) (u5 : Int32) (u6 : Int32) (u7 : Int32) (A : ab_H) (s : RS), Me A0 A a R s → vq_M_expand_143 p0 p1 QV  u3 u4 u5 u6 u7 s → wq_M_expand_143 a p0 p1 Q  u3 u4 u5 u6 u7 A := by
  intro u3 u4 u5 u6 u7 A s H hv
  unfold vq_M_expand_143 at hv
  unfold wq_M_expand_143
  exact vsq_M_expand_144 hQ  _ _ _ _ _ _ _ _ H hv
def vq_M_expand_139 (p0 : Int32) (p1 : Int32) (Q : Int32 → RS → Prop)  (u3 : Int32) (u4 : Int32) (u5 : Int32) (u6 : Int32) (u7 : Int32) (s : RS) : Prop := vq_M_expand_144 p0 p1 Q  u3 u4 u5 u6 u7 (1 : Int32) s
set_option maxRecDepth 100000 in
set_option maxHeartbeats 4000000 in
theorem vsq_M_expand_139 {A0 : ab_H} {a : Nat} {R : Nat → Nat} {p0 : Int32} {p1 : Int32} {Q : Int32 → ab_H → Prop} {QV : Int32 → RS → Prop}  (hQ : ∀ v (s : RS) (A : ab_H), Me A0 A a R s → QV v s → Q v A)  : ∀ (u3 : Int32) (u4 : Int32) (u5 : Int32) (u6 : Int32) (u7 : Int32) (A : ab_H) (s : RS), Me A0 A a R s → vq_M_expand_139 p0 p1 QV  u3 u4 u5 u6 u7 s → wq_M_expand_139 a p0 p1 Q  u3 u4 u5 u6 u7 A := by
  intro u3 u4 u5 u6 u7 A s H hv
  unfold vq_M_expand_139 at hv
  unfold wq_M_expand_139
  exact vsq_M_expand_144 hQ  _ _ _ _ _ _ _ _ H hv
def vq_M_expand_91 (p0 : Int32) (p1 : Int32) (Q : Int32 → RS → Prop)  (u3 : Int32) (u4 : Int32) (u5 : Int32) (u6 : Int32) (u7 : Int32) (s : RS) : Prop := if u6 ≤ 0 then (vq_M_expand_143 p0 p1 Q  u3 u4 u5 u6 u7 s) else (vA s 22 ((u3 + p1) + (2 : Int32)) (fun x4 => if x4 = (125 : Int32) then (if u6 = (109 : Int32) then (vq_M_expand_139 p0 p1 Q  u3 u4 u5 u6 u7 s) else (if u6 = (112 : Int32) then (vq_M_expand_139 p0 p1 Q  u3 u4 u5 u6 u7 s) else (if u6 = (98 : Int32) then (vq_M_expand_139 p0 p1 Q  u3 u4 u5 u6 u7 s) else (if u6 = (110 : Int32) then (vq_M_expand_139 p0 p1 Q  u3 u4 u5 u6 u7 s) else (vq_M_expand_143 p0 p1 Q  u3 u4 u5 u6 u7 s))))) else (vq_M_expand_143 p0 p1 Q  u3 u4 u5 u6 u7 s)))
set_option maxRecDepth 100000 in
set_option maxHeartbeats 4000000 in
theorem vsq_M_expand_91 {A0 : ab_H} {a : Nat} {R : Nat → Nat} {p0 : Int32} {p1 : Int32} {Q : Int32 → ab_H → Prop} {QV : Int32 → RS → Prop}  (hQ : ∀ v (s : RS) (A : ab_H), Me A0 A a R s → QV v s → Q v A)  : ∀ (u3 : Int32) (u4 : Int32) (u5 : Int32) (u6 : Int32) (u7 : Int32) (A : ab_H) (s : RS), Me A0 A a R s → vq_M_expand_91 p0 p1 QV  u3 u4 u5 u6 u7 s → wq_M_expand_91 a p0 p1 Q  u3 u4 u5 u6 u7 A := by
  intro u3 u4 u5 u6 u7 A s H hv
  unfold vq_M_expand_91 at hv
  unfold wq_M_expand_91
  refine me_if hv (fun hv => ?_) (fun hv => ?_)
  · exact vsq_M_expand_143 hQ  _ _ _ _ _ _ _ H hv
  · refine me_gR H rfl (Nat.le_of_ble_eq_true rfl) ?_
    refine me_l H rfl rfl hv (fun x4 hv => ?_)
    refine me_if hv (fun hv => ?_) (fun hv => ?_)
    · refine me_if hv (fun hv => ?_) (fun hv => ?_)
      · exact vsq_M_expand_139 hQ  _ _ _ _ _ _ _ H hv
      · refine me_if hv (fun hv => ?_) (fun hv => ?_)
        · exact vsq_M_expand_139 hQ  _ _ _ _ _ _ _ H hv
        · refine me_if hv (fun hv => ?_) (fun hv => ?_)
          · exact vsq_M_expand_139 hQ  _ _ _ _ _ _ _ H hv
          · refine me_if hv (fun hv => ?_) (fun hv => ?_)
            · exact vsq_M_expand_139 hQ  _ _ _ _ _ _ _ H hv
            · exact vsq_M_expand_143 hQ  _ _ _ _ _ _ _ H hv
    · exact vsq_M_expand_143 hQ  _ _ _ _ _ _ _ H hv
def vb_M_expand_59 (p0 : Int32) (p1 : Int32) (Q : Int32 → RS → Prop)  (k59 : Int32 → Int32 → Int32 → Int32 → Int32 → RS → Prop) (u3 : Int32) (u4 : Int32) (u5 : Int32) (u6 : Int32) (u7 : Int32) (s : RS) : Prop := if u6 ≤ 0 then (vq_M_expand_91 p0 p1 Q  u3 u4 u5 u6 u7 s) else (if u4 ≤ u7 then (vq_M_expand_91 p0 p1 Q  u3 u4 u5 u6 u7 s) else (vA s 22 (u3 + u7) (fun x5 => if x5 = (125 : Int32) then (vq_M_expand_91 p0 p1 Q  u3 u4 u5 u6 u7 s) else (k59 u3 u4 u5 u6 (u7 + 1) s))))
def vq_M_expand_59 (p0 : Int32) (p1 : Int32) (Q : Int32 → RS → Prop)  : Nat → Int32 → Int32 → Int32 → Int32 → Int32 → RS → Prop
  | 0 => fun _ _ _ _ _ _ => False
  | n + 1 => vb_M_expand_59 p0 p1 Q  (vq_M_expand_59 p0 p1 Q  n)
set_option maxRecDepth 100000 in
set_option maxHeartbeats 4000000 in
theorem vsq_M_expand_59 {A0 : ab_H} {a : Nat} {R : Nat → Nat} {p0 : Int32} {p1 : Int32} {Q : Int32 → ab_H → Prop} {QV : Int32 → RS → Prop}  (hQ : ∀ v (s : RS) (A : ab_H), Me A0 A a R s → QV v s → Q v A)  : ∀ (n : Nat) (u3 : Int32) (u4 : Int32) (u5 : Int32) (u6 : Int32) (u7 : Int32) (A : ab_H) (s : RS), Me A0 A a R s → vq_M_expand_59 p0 p1 QV  n u3 u4 u5 u6 u7 s → wq_M_expand_59 a p0 p1 Q  n u3 u4 u5 u6 u7 A := by
  intro n
  induction n with
  | zero =>
    intro u3 u4 u5 u6 u7 A s H hv
    exact absurd hv id
  | succ n hk59 =>
    intro u3 u4 u5 u6 u7 A s H hv
    have hv : vb_M_expand_59 p0 p1 QV  (vq_M_expand_59 p0 p1 QV  n) u3 u4 u5 u6 u7 s := hv
    show wb_M_expand_59 a p0 p1 Q  (wq_M_expand_59 a p0 p1 Q  n) u3 u4 u5 u6 u7 A
    unfold vb_M_expand_59 at hv
    unfold wb_M_expand_59
    refine me_if hv (fun hv => ?_) (fun hv => ?_)
    · exact vsq_M_expand_91 hQ  _ _ _ _ _ _ _ H hv
    · refine me_if hv (fun hv => ?_) (fun hv => ?_)
      · exact vsq_M_expand_91 hQ  _ _ _ _ _ _ _ H hv
      · refine me_gR H rfl (Nat.le_of_ble_eq_true rfl) ?_
        refine me_l H rfl rfl hv (fun x5 hv => ?_)
        refine me_if hv (fun hv => ?_) (fun hv => ?_)
        · exact vsq_M_expand_91 hQ  _ _ _ _ _ _ _ H hv
        · exact hk59 _ _ _ _ _ _ _ H hv
def vq_M_expand_52 (p0 : Int32) (p1 : Int32) (Q : Int32 → RS → Prop)  (u3 : Int32) (u4 : Int32) (u5 : Int32) (s0 : Int32) (s : RS) : Prop := wL ((p1 + (2 : Int32))) (fun x6 => ∃ n, vq_M_expand_59 p0 p1 Q  n u3 u4 u5 s0 x6 s)
set_option maxRecDepth 100000 in
set_option maxHeartbeats 4000000 in
theorem vsq_M_expand_52 {A0 : ab_H} {a : Nat} {R : Nat → Nat} {p0 : Int32} {p1 : Int32} {Q : Int32 → ab_H → Prop} {QV : Int32 → RS → Prop}  (hQ : ∀ v (s : RS) (A : ab_H), Me A0 A a R s → QV v s → Q v A)  : ∀ (u3 : Int32) (u4 : Int32) (u5 : Int32) (s0 : Int32) (A : ab_H) (s : RS), Me A0 A a R s → vq_M_expand_52 p0 p1 QV  u3 u4 u5 s0 s → wq_M_expand_52 a p0 p1 Q  u3 u4 u5 s0 A := by
  intro u3 u4 u5 s0 A s H hv
  unfold vq_M_expand_52 at hv
  unfold wq_M_expand_52
  refine vl_let hv (fun x6 hv => ?_)
  obtain ⟨n, hv⟩ := hv
  exact ⟨n, vsq_M_expand_59 hQ  n _ _ _ _ _ _ _ H hv⟩
def vq_M_expand_51 (p0 : Int32) (p1 : Int32) (Q : Int32 → RS → Prop)  (u3 : Int32) (u4 : Int32) (u5 : Int32) (s : RS) : Prop := vq_M_expand_52 p0 p1 Q  u3 u4 u5 (0 : Int32) s
set_option maxRecDepth 100000 in
set_option maxHeartbeats 4000000 in
theorem vsq_M_expand_51 {A0 : ab_H} {a : Nat} {R : Nat → Nat} {p0 : Int32} {p1 : Int32} {Q : Int32 → ab_H → Prop} {QV : Int32 → RS → Prop}  (hQ : ∀ v (s : RS) (A : ab_H), Me A0 A a R s → QV v s → Q v A)  : ∀ (u3 : Int32) (u4 : Int32) (u5 : Int32) (A : ab_H) (s : RS), Me A0 A a R s → vq_M_expand_51 p0 p1 QV  u3 u4 u5 s → wq_M_expand_51 a p0 p1 Q  u3 u4 u5 A := by
  intro u3 u4 u5 A s H hv
  unfold vq_M_expand_51 at hv
  unfold wq_M_expand_51
  exact vsq_M_expand_52 hQ  _ _ _ _ _ _ H hv
def vp_M_expand (p0 : Int32) (p1 : Int32) (s : RS) (Q : Int32 → RS → Prop) : Prop := wL (((40 : Int32) * p0)) (fun x7 => vA s 23 p0 (fun x8 => vA s 22 (x7 + p1) (fun x9 => if x9 = (123 : Int32) then (if x8 ≤ (p1 + (2 : Int32)) then (vq_M_expand_51 p0 p1 Q  x7 x8 x9 s) else (vA s 22 ((x7 + p1) + (1 : Int32)) (fun x10 => vq_M_expand_52 p0 p1 Q  x7 x8 x9 x10 s))) else (vq_M_expand_51 p0 p1 Q  x7 x8 x9 s))))
set_option maxRecDepth 100000 in
set_option maxHeartbeats 4000000 in
theorem vs_M_expand {A0 : ab_H} {a : Nat} {R : Nat → Nat} {p0 : Int32} {p1 : Int32} {A : ab_H} {s : RS} {Q : Int32 → ab_H → Prop} {QV : Int32 → RS → Prop} (H : Me A0 A a R s) (hv : vp_M_expand p0 p1 s QV) (hQ : ∀ v (s : RS) (A : ab_H), Me A0 A a R s → QV v s → Q v A) : wp_M_expand a p0 p1 A Q := by
  unfold vp_M_expand at hv
  unfold wp_M_expand
  refine vl_let hv (fun x7 hv => ?_)
  refine me_gR H rfl (Nat.le_of_ble_eq_true rfl) ?_
  refine me_l H rfl rfl hv (fun x8 hv => ?_)
  refine me_gR H rfl (Nat.le_of_ble_eq_true rfl) ?_
  refine me_l H rfl rfl hv (fun x9 hv => ?_)
  refine me_if hv (fun hv => ?_) (fun hv => ?_)
  · refine me_if hv (fun hv => ?_) (fun hv => ?_)
    · exact vsq_M_expand_51 hQ  _ _ _ _ _ H hv
    · refine me_gR H rfl (Nat.le_of_ble_eq_true rfl) ?_
      refine me_l H rfl rfl hv (fun x10 hv => ?_)
      exact vsq_M_expand_52 hQ  _ _ _ _ _ _ H hv
  · exact vsq_M_expand_51 hQ  _ _ _ _ _ H hv
def vq_M_respond_164 (p0 : Int32) (p1 : Int32) (Q : RS → Prop)  (u3 : Int32) (u4 : Int32) (u5 : Int32) (s : RS) : Prop := vS s 4 p0 (((u5 + (2 : Int32)) + u3) - u4) (fun s => Q s)
set_option maxRecDepth 100000 in
set_option maxHeartbeats 4000000 in
theorem vsq_M_respond_164 {A0 : ab_H} {a : Nat} {R : Nat → Nat} {p0 : Int32} {p1 : Int32} {Q : ab_H → Prop} {QV : RS → Prop}  (hQ : ∀ (s : RS) (A : ab_H), Me A0 A a R s → QV s → Q A)  : ∀ (u3 : Int32) (u4 : Int32) (u5 : Int32) (A : ab_H) (s : RS), Me A0 A a R s → vq_M_respond_164 p0 p1 QV  u3 u4 u5 s → wq_M_respond_164 a p0 p1 Q  u3 u4 u5 A := by
  intro u3 u4 u5 A s H hv
  unfold vq_M_respond_164 at hv
  unfold wq_M_respond_164
  refine me_gR H rfl (Nat.le_of_ble_eq_true rfl) ?_
  refine me_s H rfl rfl hv (fun A s H hv => ?_)
  exact hQ _ _ H hv
def vb_M_respond_133 (p0 : Int32) (p1 : Int32) (Q : RS → Prop)  (k133 : Int32 → Int32 → Int32 → Int32 → RS → Prop) (u3 : Int32) (u4 : Int32) (u5 : Int32) (u6 : Int32) (s : RS) : Prop := if u3 ≤ u6 then (vq_M_respond_164 p0 p1 Q  u3 u4 u5 s) else (vA s 41 u6 (fun x1 => vS s 3 ((u5 + (2 : Int32)) + u6) x1 (fun s => k133 u3 u4 u5 (u6 + 1) s)))
def vq_M_respond_133 (p0 : Int32) (p1 : Int32) (Q : RS → Prop)  : Nat → Int32 → Int32 → Int32 → Int32 → RS → Prop
  | 0 => fun _ _ _ _ _ => False
  | n + 1 => vb_M_respond_133 p0 p1 Q  (vq_M_respond_133 p0 p1 Q  n)
set_option maxRecDepth 100000 in
set_option maxHeartbeats 4000000 in
theorem vsq_M_respond_133 {A0 : ab_H} {a : Nat} {R : Nat → Nat} {p0 : Int32} {p1 : Int32} {Q : ab_H → Prop} {QV : RS → Prop}  (hQ : ∀ (s : RS) (A : ab_H), Me A0 A a R s → QV s → Q A)  : ∀ (n : Nat) (u3 : Int32) (u4 : Int32) (u5 : Int32) (u6 : Int32) (A : ab_H) (s : RS), Me A0 A a R s → vq_M_respond_133 p0 p1 QV  n u3 u4 u5 u6 s → wq_M_respond_133 a p0 p1 Q  n u3 u4 u5 u6 A := by
  intro n
  induction n with
  | zero =>
    intro u3 u4 u5 u6 A s H hv
    exact absurd hv id
  | succ n hk133 =>
    intro u3 u4 u5 u6 A s H hv
    have hv : vb_M_respond_133 p0 p1 QV  (vq_M_respond_133 p0 p1 QV  n) u3 u4 u5 u6 s := hv
    show wb_M_respond_133 a p0 p1 Q  (wq_M_respond_133 a p0 p1 Q  n) u3 u4 u5 u6 A
    unfold vb_M_respond_133 at hv
    unfold wb_M_respond_133
    refine me_if hv (fun hv => ?_) (fun hv => ?_)
    · exact vsq_M_respond_164 hQ  _ _ _ _ _ H hv
    · refine me_gR H rfl (Nat.le_of_ble_eq_true rfl) ?_
      refine me_gR H rfl (Nat.le_of_ble_eq_true rfl) ?_
      refine me_l H rfl rfl hv (fun x1 hv => ?_)
      refine me_s H rfl rfl hv (fun A s H hv => ?_)
      exact hk133 _ _ _ _ _ _ H hv
def vq_M_respond_105 (p0 : Int32) (p1 : Int32) (Q : RS → Prop)  (u3 : Int32) (u4 : Int32) (u5 : Int32) (s : RS) : Prop := vS s 3 u5 ((48 : Int32) + (u3 - u3 / (10 : Int32) * (10 : Int32))) (fun s => vS s 3 (u5 + (1 : Int32)) (10 : Int32) (fun s => ∃ n, vq_M_respond_133 p0 p1 Q  n u3 u4 u5 (0 : Int32) s))
set_option maxRecDepth 100000 in
set_option maxHeartbeats 4000000 in
theorem vsq_M_respond_105 {A0 : ab_H} {a : Nat} {R : Nat → Nat} {p0 : Int32} {p1 : Int32} {Q : ab_H → Prop} {QV : RS → Prop}  (hQ : ∀ (s : RS) (A : ab_H), Me A0 A a R s → QV s → Q A)  : ∀ (u3 : Int32) (u4 : Int32) (u5 : Int32) (A : ab_H) (s : RS), Me A0 A a R s → vq_M_respond_105 p0 p1 QV  u3 u4 u5 s → wq_M_respond_105 a p0 p1 Q  u3 u4 u5 A := by
  intro u3 u4 u5 A s H hv
  unfold vq_M_respond_105 at hv
  unfold wq_M_respond_105
  refine me_gR H rfl (Nat.le_of_ble_eq_true rfl) ?_
  refine me_s H rfl rfl hv (fun A s H hv => ?_)
  refine me_gR H rfl (Nat.le_of_ble_eq_true rfl) ?_
  refine me_s H rfl rfl hv (fun A s H hv => ?_)
  obtain ⟨n, hv⟩ := hv
  exact ⟨n, vsq_M_respond_133 hQ  n _ _ _ _ _ _ H hv⟩
def vp_M_respond (p0 : Int32) (p1 : Int32) (s : RS) (Q : RS → Prop) : Prop := wL (s.1 42) (fun x2 => vP s 42 (0 : Int32) (fun s => wL (((80 : Int32) * p0)) (fun x3 => vS s 3 x3 ((48 : Int32) + (p1 / (100 : Int32))) (fun s => vS s 3 (x3 + (1 : Int32)) ((48 : Int32) + ((p1 / (10 : Int32)) - (p1 / (10 : Int32)) / (10 : Int32) * (10 : Int32))) (fun s => vS s 3 (x3 + (2 : Int32)) ((48 : Int32) + (p1 - p1 / (10 : Int32) * (10 : Int32))) (fun s => vS s 3 (x3 + (3 : Int32)) (32 : Int32) (fun s => wL ((x3 + (4 : Int32))) (fun x4 => if x2 < (10 : Int32) then (vq_M_respond_105 p0 p1 Q  x2 x3 x4 s) else (vS s 3 x4 ((48 : Int32) + (x2 / (10 : Int32))) (fun s => vq_M_respond_105 p0 p1 Q  x2 x3 (x4 + 1) s))))))))))
set_option maxRecDepth 100000 in
set_option maxHeartbeats 4000000 in
theorem vs_M_respond {A0 : ab_H} {a : Nat} {R : Nat → Nat} {p0 : Int32} {p1 : Int32} {A : ab_H} {s : RS} {Q : ab_H → Prop} {QV : RS → Prop} (H : Me A0 A a R s) (hv : vp_M_respond p0 p1 s QV) (hQ : ∀ (s : RS) (A : ab_H), Me A0 A a R s → QV s → Q A) : wp_M_respond a p0 p1 A Q := by
  unfold vp_M_respond at hv
  unfold wp_M_respond
  refine me_gI H rfl (Nat.le_of_ble_eq_true rfl) hv (fun x2 hv => ?_)
  refine me_p H rfl (Nat.le_of_ble_eq_true rfl) hv (fun A s H hv => ?_)
  refine vl_let hv (fun x3 hv => ?_)
  refine me_gR H rfl (Nat.le_of_ble_eq_true rfl) ?_
  refine me_s H rfl rfl hv (fun A s H hv => ?_)
  refine me_gR H rfl (Nat.le_of_ble_eq_true rfl) ?_
  refine me_s H rfl rfl hv (fun A s H hv => ?_)
  refine me_gR H rfl (Nat.le_of_ble_eq_true rfl) ?_
  refine me_s H rfl rfl hv (fun A s H hv => ?_)
  refine me_gR H rfl (Nat.le_of_ble_eq_true rfl) ?_
  refine me_s H rfl rfl hv (fun A s H hv => ?_)
  refine vl_let hv (fun x4 hv => ?_)
  refine me_if hv (fun hv => ?_) (fun hv => ?_)
  · exact vsq_M_respond_105 hQ  _ _ _ _ _ H hv
  · refine me_gR H rfl (Nat.le_of_ble_eq_true rfl) ?_
    refine me_s H rfl rfl hv (fun A s H hv => ?_)
    exact vsq_M_respond_105 hQ  _ _ _ _ _ H hv
