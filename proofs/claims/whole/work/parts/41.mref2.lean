def vq_M_copy_42 (p0 : Int32) (p1 : Int32) (Q : RS → Prop)   (s : RS) : Prop := vA s 1 p0 (fun x1 => vS s 1 p1 x1 (fun s => vA s 6 p0 (fun x2 => vS s 6 p1 x2 (fun s => Q s))))
set_option maxRecDepth 100000 in
set_option maxHeartbeats 4000000 in
theorem vsq_M_copy_42 {A0 : ab_H} {a : Nat} {R : Nat → Nat} {p0 : Int32} {p1 : Int32} {Q : ab_H → Prop} {QV : RS → Prop}  (hQ : ∀ (s : RS) (A : ab_H), Me A0 A a R s → QV s → Q A)  : ∀ (A : ab_H) (s : RS), Me A0 A a R s → vq_M_copy_42 p0 p1 QV   s → wq_M_copy_42 a p0 p1 Q   A := by
  intro  A s H hv
  unfold vq_M_copy_42 at hv
  unfold wq_M_copy_42
  refine me_gR H rfl (Nat.le_of_ble_eq_true rfl) ?_
  refine me_gR H rfl (Nat.le_of_ble_eq_true rfl) ?_
  refine me_l H rfl rfl hv (fun x1 hv => ?_)
  refine me_s H rfl rfl hv (fun A s H hv => ?_)
  refine me_gR H rfl (Nat.le_of_ble_eq_true rfl) ?_
  refine me_gR H rfl (Nat.le_of_ble_eq_true rfl) ?_
  refine me_l H rfl rfl hv (fun x2 hv => ?_)
  refine me_s H rfl rfl hv (fun A s H hv => ?_)
  exact hQ _ _ H hv
def vb_M_copy_2 (p0 : Int32) (p1 : Int32) (Q : RS → Prop)  (k2 : Int32 → RS → Prop) (u3 : Int32) (s : RS) : Prop := vA s 1 p0 (fun x3 => if x3 ≤ u3 then (vq_M_copy_42 p0 p1 Q   s) else (vA s 0 (((520 : Int32) * p0) + u3) (fun x4 => vS s 0 (((520 : Int32) * p1) + u3) x4 (fun s => k2 (u3 + 1) s))))
def vq_M_copy_2 (p0 : Int32) (p1 : Int32) (Q : RS → Prop)  : Nat → Int32 → RS → Prop
  | 0 => fun _ _ => False
  | n + 1 => vb_M_copy_2 p0 p1 Q  (vq_M_copy_2 p0 p1 Q  n)
set_option maxRecDepth 100000 in
set_option maxHeartbeats 4000000 in
theorem vsq_M_copy_2 {A0 : ab_H} {a : Nat} {R : Nat → Nat} {p0 : Int32} {p1 : Int32} {Q : ab_H → Prop} {QV : RS → Prop}  (hQ : ∀ (s : RS) (A : ab_H), Me A0 A a R s → QV s → Q A)  : ∀ (n : Nat) (u3 : Int32) (A : ab_H) (s : RS), Me A0 A a R s → vq_M_copy_2 p0 p1 QV  n u3 s → wq_M_copy_2 a p0 p1 Q  n u3 A := by
  intro n
  induction n with
  | zero =>
    intro u3 A s H hv
    exact absurd hv id
  | succ n hk2 =>
    intro u3 A s H hv
    have hv : vb_M_copy_2 p0 p1 QV  (vq_M_copy_2 p0 p1 QV  n) u3 s := hv
    show wb_M_copy_2 a p0 p1 Q  (wq_M_copy_2 a p0 p1 Q  n) u3 A
    unfold vb_M_copy_2 at hv
    unfold wb_M_copy_2
    refine me_gR H rfl (Nat.le_of_ble_eq_true rfl) ?_
    refine me_l H rfl rfl hv (fun x3 hv => ?_)
    refine me_if hv (fun hv => ?_) (fun hv => ?_)
    · exact vsq_M_copy_42 hQ  _ _ H hv
    · refine me_gR H rfl (Nat.le_of_ble_eq_true rfl) ?_
      refine me_gR H rfl (Nat.le_of_ble_eq_true rfl) ?_
      refine me_l H rfl rfl hv (fun x4 hv => ?_)
      refine me_s H rfl rfl hv (fun A s H hv => ?_)
      exact hk2 _ _ _ H hv
def vp_M_copy (p0 : Int32) (p1 : Int32) (s : RS) (Q : RS → Prop) : Prop := ∃ n, vq_M_copy_2 p0 p1 Q  n (0 : Int32) s
set_option maxRecDepth 100000 in
set_option maxHeartbeats 4000000 in
theorem vs_M_copy {A0 : ab_H} {a : Nat} {R : Nat → Nat} {p0 : Int32} {p1 : Int32} {A : ab_H} {s : RS} {Q : ab_H → Prop} {QV : RS → Prop} (H : Me A0 A a R s) (hv : vp_M_copy p0 p1 s QV) (hQ : ∀ (s : RS) (A : ab_H), Me A0 A a R s → QV s → Q A) : wp_M_copy a p0 p1 A Q := by
  unfold vp_M_copy at hv
  unfold wp_M_copy
  obtain ⟨n, hv⟩ := hv
  exact ⟨n, vsq_M_copy_2 hQ  n _ _ _ H hv⟩
def vq_M_serve_214 (p0 : Int32) (Q : RS → Prop)  (s1 : Int32) (s2 : Int32) (s : RS) : Prop := vS s 6 s1 s2 (fun s => wL (s.1 5) (fun x1 => vP s 5 (x1 + (1 : Int32)) (fun s => Q s)))
set_option maxRecDepth 100000 in
set_option maxHeartbeats 4000000 in
theorem vsq_M_serve_214 {A0 : ab_H} {a : Nat} {R : Nat → Nat} {p0 : Int32} {Q : ab_H → Prop} {QV : RS → Prop}  (hQ : ∀ (s : RS) (A : ab_H), Me A0 A a R s → QV s → Q A)  : ∀ (s1 : Int32) (s2 : Int32) (A : ab_H) (s : RS), Me A0 A a R s → vq_M_serve_214 p0 QV  s1 s2 s → wq_M_serve_214 a p0 Q  (some (R 6)) s1 s2 A := by
  intro s1 s2 A s H hv
  unfold vq_M_serve_214 at hv
  unfold wq_M_serve_214
  refine me_s H rfl rfl hv (fun A s H hv => ?_)
  refine me_gI H rfl (Nat.le_of_ble_eq_true rfl) hv (fun x1 hv => ?_)
  refine me_p H rfl (Nat.le_of_ble_eq_true rfl) hv (fun A s H hv => ?_)
  exact hQ _ _ H hv
def vq_M_serve_179 (p0 : Int32) (Q : RS → Prop)  (u2 : Int32) (s : RS) : Prop := wL (s.1 5) (fun x2 => vp_M_copy p0 ((3 : Int32) + x2) s (fun s => wL (s.1 5) (fun x3 => if 0 ≤ u2 then (vA s 18 u2 (fun x4 => vq_M_serve_214 p0 Q  ((3 : Int32) + x3) x4 s)) else (vq_M_serve_214 p0 Q  ((3 : Int32) + x3) ((-1) : Int32) s))))
set_option maxRecDepth 100000 in
set_option maxHeartbeats 4000000 in
theorem vsq_M_serve_179 {A0 : ab_H} {a : Nat} {R : Nat → Nat} {p0 : Int32} {Q : ab_H → Prop} {QV : RS → Prop}  (hQ : ∀ (s : RS) (A : ab_H), Me A0 A a R s → QV s → Q A)  : ∀ (u2 : Int32) (A : ab_H) (s : RS), Me A0 A a R s → vq_M_serve_179 p0 QV  u2 s → wq_M_serve_179 a p0 Q  u2 A := by
  intro u2 A s H hv
  unfold vq_M_serve_179 at hv
  unfold wq_M_serve_179
  refine me_gI H rfl (Nat.le_of_ble_eq_true rfl) hv (fun x2 hv => ?_)
  refine me_c H (vs_M_copy H hv (fun s A H hv => ?_))
  refine me_gR H rfl (Nat.le_of_ble_eq_true rfl) ?_
  refine me_gI H rfl (Nat.le_of_ble_eq_true rfl) hv (fun x3 hv => ?_)
  refine me_if hv (fun hv => ?_) (fun hv => ?_)
  · refine me_gR H rfl (Nat.le_of_ble_eq_true rfl) ?_
    refine me_l H rfl rfl hv (fun x4 hv => ?_)
    exact vsq_M_serve_214 hQ  _ _ _ _ H hv
  · exact vsq_M_serve_214 hQ  _ _ _ _ H hv
def vq_M_serve_174 (p0 : Int32) (Q : RS → Prop)  (u2 : Int32) (s : RS) : Prop := vP s 5 (4 : Int32) (fun s => vq_M_serve_179 p0 Q  u2 s)
set_option maxRecDepth 100000 in
set_option maxHeartbeats 4000000 in
theorem vsq_M_serve_174 {A0 : ab_H} {a : Nat} {R : Nat → Nat} {p0 : Int32} {Q : ab_H → Prop} {QV : RS → Prop}  (hQ : ∀ (s : RS) (A : ab_H), Me A0 A a R s → QV s → Q A)  : ∀ (u2 : Int32) (A : ab_H) (s : RS), Me A0 A a R s → vq_M_serve_174 p0 QV  u2 s → wq_M_serve_174 a p0 Q  u2 A := by
  intro u2 A s H hv
  unfold vq_M_serve_174 at hv
  unfold wq_M_serve_174
  refine me_p H rfl (Nat.le_of_ble_eq_true rfl) hv (fun A s H hv => ?_)
  exact vsq_M_serve_179 hQ  _ _ _ H hv
def vb_M_serve_151 (p0 : Int32) (Q : RS → Prop)  (k151 : Int32 → Int32 → RS → Prop) (u2 : Int32) (u4 : Int32) (s : RS) : Prop := if (7 : Int32) ≤ u4 then (vq_M_serve_174 p0 Q  u2 s) else (vp_M_copy (u4 + (1 : Int32)) u4 s (fun s => k151 u2 (u4 + 1) s))
def vq_M_serve_151 (p0 : Int32) (Q : RS → Prop)  : Nat → Int32 → Int32 → RS → Prop
  | 0 => fun _ _ _ => False
  | n + 1 => vb_M_serve_151 p0 Q  (vq_M_serve_151 p0 Q  n)
set_option maxRecDepth 100000 in
set_option maxHeartbeats 4000000 in
theorem vsq_M_serve_151 {A0 : ab_H} {a : Nat} {R : Nat → Nat} {p0 : Int32} {Q : ab_H → Prop} {QV : RS → Prop}  (hQ : ∀ (s : RS) (A : ab_H), Me A0 A a R s → QV s → Q A)  : ∀ (n : Nat) (u2 : Int32) (u4 : Int32) (A : ab_H) (s : RS), Me A0 A a R s → vq_M_serve_151 p0 QV  n u2 u4 s → wq_M_serve_151 a p0 Q  n u2 u4 A := by
  intro n
  induction n with
  | zero =>
    intro u2 u4 A s H hv
    exact absurd hv id
  | succ n hk151 =>
    intro u2 u4 A s H hv
    have hv : vb_M_serve_151 p0 QV  (vq_M_serve_151 p0 QV  n) u2 u4 s := hv
    show wb_M_serve_151 a p0 Q  (wq_M_serve_151 a p0 Q  n) u2 u4 A
    unfold vb_M_serve_151 at hv
    unfold wb_M_serve_151
    refine me_if hv (fun hv => ?_) (fun hv => ?_)
    · exact vsq_M_serve_174 hQ  _ _ _ H hv
    · refine me_c H (vs_M_copy H hv (fun s A H hv => ?_))
      exact hk151 _ _ _ _ H hv
def vq_M_serve_140 (p0 : Int32) (Q : RS → Prop)  (u2 : Int32) (s : RS) : Prop := wL (s.1 5) (fun x5 => if x5 = (5 : Int32) then (∃ n, vq_M_serve_151 p0 Q  n u2 (3 : Int32) s) else (vq_M_serve_179 p0 Q  u2 s))
set_option maxRecDepth 100000 in
set_option maxHeartbeats 4000000 in
theorem vsq_M_serve_140 {A0 : ab_H} {a : Nat} {R : Nat → Nat} {p0 : Int32} {Q : ab_H → Prop} {QV : RS → Prop}  (hQ : ∀ (s : RS) (A : ab_H), Me A0 A a R s → QV s → Q A)  : ∀ (u2 : Int32) (A : ab_H) (s : RS), Me A0 A a R s → vq_M_serve_140 p0 QV  u2 s → wq_M_serve_140 a p0 Q  u2 A := by
  intro u2 A s H hv
  unfold vq_M_serve_140 at hv
  unfold wq_M_serve_140
  refine me_gI H rfl (Nat.le_of_ble_eq_true rfl) hv (fun x5 hv => ?_)
  refine me_if hv (fun hv => ?_) (fun hv => ?_)
  · obtain ⟨n, hv⟩ := hv
    exact ⟨n, vsq_M_serve_151 hQ  n _ _ _ _ H hv⟩
  · exact vsq_M_serve_179 hQ  _ _ _ H hv
def vq_M_serve_107 (p0 : Int32) (Q : RS → Prop)  (u2 : Int32) (s1 : Int32) (s2 : Int32) (s : RS) : Prop := vp_M_respond s1 s2 s (fun s => if u2 < 0 then (vq_M_serve_140 p0 Q  u2 s) else (vA s 24 u2 (fun x6 => if x6 < 0 then (vq_M_serve_140 p0 Q  u2 s) else (vA s 24 u2 (fun x7 => vA s 26 u2 (fun x8 => vS s 8 x7 x8 (fun s => vq_M_serve_140 p0 Q  u2 s)))))))
set_option maxRecDepth 100000 in
set_option maxHeartbeats 4000000 in
theorem vsq_M_serve_107 {A0 : ab_H} {a : Nat} {R : Nat → Nat} {p0 : Int32} {Q : ab_H → Prop} {QV : RS → Prop}  (hQ : ∀ (s : RS) (A : ab_H), Me A0 A a R s → QV s → Q A)  : ∀ (u2 : Int32) (s1 : Int32) (s2 : Int32) (A : ab_H) (s : RS), Me A0 A a R s → vq_M_serve_107 p0 QV  u2 s1 s2 s → wq_M_serve_107 a p0 Q  u2 (some a) s1 s2 A := by
  intro u2 s1 s2 A s H hv
  unfold vq_M_serve_107 at hv
  unfold wq_M_serve_107
  refine me_c H (vs_M_respond H hv (fun s A H hv => ?_))
  refine me_if hv (fun hv => ?_) (fun hv => ?_)
  · exact vsq_M_serve_140 hQ  _ _ _ H hv
  · refine me_gR H rfl (Nat.le_of_ble_eq_true rfl) ?_
    refine me_l H rfl rfl hv (fun x6 hv => ?_)
    refine me_if hv (fun hv => ?_) (fun hv => ?_)
    · exact vsq_M_serve_140 hQ  _ _ _ H hv
    · refine me_gR H rfl (Nat.le_of_ble_eq_true rfl) ?_
      refine me_gR H rfl (Nat.le_of_ble_eq_true rfl) ?_
      refine me_l H rfl rfl hv (fun x7 hv => ?_)
      refine me_gR H rfl (Nat.le_of_ble_eq_true rfl) ?_
      refine me_l H rfl rfl hv (fun x8 hv => ?_)
      refine me_s H rfl rfl hv (fun A s H hv => ?_)
      exact vsq_M_serve_140 hQ  _ _ _ H hv
def vq_M_serve_89 (p0 : Int32) (Q : RS → Prop)  (u2 : Int32) (s : RS) : Prop := if 0 ≤ u2 then (vA s 20 u2 (fun x9 => vq_M_serve_107 p0 Q  u2 p0 x9 s)) else (vq_M_serve_107 p0 Q  u2 p0 (404 : Int32) s)
set_option maxRecDepth 100000 in
set_option maxHeartbeats 4000000 in
theorem vsq_M_serve_89 {A0 : ab_H} {a : Nat} {R : Nat → Nat} {p0 : Int32} {Q : ab_H → Prop} {QV : RS → Prop}  (hQ : ∀ (s : RS) (A : ab_H), Me A0 A a R s → QV s → Q A)  : ∀ (u2 : Int32) (A : ab_H) (s : RS), Me A0 A a R s → vq_M_serve_89 p0 QV  u2 s → wq_M_serve_89 a p0 Q  u2 A := by
  intro u2 A s H hv
  unfold vq_M_serve_89 at hv
  unfold wq_M_serve_89
  refine me_if hv (fun hv => ?_) (fun hv => ?_)
  · refine me_gR H rfl (Nat.le_of_ble_eq_true rfl) ?_
    refine me_l H rfl rfl hv (fun x9 hv => ?_)
    exact vsq_M_serve_107 hQ  _ _ _ _ _ H hv
  · exact vsq_M_serve_107 hQ  _ _ _ _ _ H hv
def vb_M_serve_65 (p0 : Int32) (Q : RS → Prop)  (k65 : Int32 → Int32 → RS → Prop) (u2 : Int32) (u3 : Int32) (s : RS) : Prop := if u2 < 0 then (vq_M_serve_89 p0 Q  u2 s) else (vA s 23 u2 (fun x10 => if x10 ≤ u3 then (vq_M_serve_89 p0 Q  u2 s) else (vp_M_expand u2 u3 s (fun x11 s => k65 u2 x11 s))))
def vq_M_serve_65 (p0 : Int32) (Q : RS → Prop)  : Nat → Int32 → Int32 → RS → Prop
  | 0 => fun _ _ _ => False
  | n + 1 => vb_M_serve_65 p0 Q  (vq_M_serve_65 p0 Q  n)
set_option maxRecDepth 100000 in
set_option maxHeartbeats 4000000 in
theorem vsq_M_serve_65 {A0 : ab_H} {a : Nat} {R : Nat → Nat} {p0 : Int32} {Q : ab_H → Prop} {QV : RS → Prop}  (hQ : ∀ (s : RS) (A : ab_H), Me A0 A a R s → QV s → Q A)  : ∀ (n : Nat) (u2 : Int32) (u3 : Int32) (A : ab_H) (s : RS), Me A0 A a R s → vq_M_serve_65 p0 QV  n u2 u3 s → wq_M_serve_65 a p0 Q  n u2 u3 A := by
  intro n
  induction n with
  | zero =>
    intro u2 u3 A s H hv
    exact absurd hv id
  | succ n hk65 =>
    intro u2 u3 A s H hv
    have hv : vb_M_serve_65 p0 QV  (vq_M_serve_65 p0 QV  n) u2 u3 s := hv
    show wb_M_serve_65 a p0 Q  (wq_M_serve_65 a p0 Q  n) u2 u3 A
    unfold vb_M_serve_65 at hv
    unfold wb_M_serve_65
    refine me_if hv (fun hv => ?_) (fun hv => ?_)
    · exact vsq_M_serve_89 hQ  _ _ _ H hv
    · refine me_gR H rfl (Nat.le_of_ble_eq_true rfl) ?_
      refine me_l H rfl rfl hv (fun x10 hv => ?_)
      refine me_if hv (fun hv => ?_) (fun hv => ?_)
      · exact vsq_M_serve_89 hQ  _ _ _ H hv
      · refine me_c H (vs_M_expand H hv (fun x11 s A H hv => ?_))
        exact hk65 _ _ _ _ H hv
def vq_M_serve_48 (p0 : Int32) (Q : RS → Prop)  (u2 : Int32) (s : RS) : Prop := wL (s.1 7) (fun x12 => vP s 7 (x12 + (1 : Int32)) (fun s => vP s 42 (0 : Int32) (fun s => ∃ n, vq_M_serve_65 p0 Q  n u2 (0 : Int32) s)))
set_option maxRecDepth 100000 in
set_option maxHeartbeats 4000000 in
theorem vsq_M_serve_48 {A0 : ab_H} {a : Nat} {R : Nat → Nat} {p0 : Int32} {Q : ab_H → Prop} {QV : RS → Prop}  (hQ : ∀ (s : RS) (A : ab_H), Me A0 A a R s → QV s → Q A)  : ∀ (u2 : Int32) (A : ab_H) (s : RS), Me A0 A a R s → vq_M_serve_48 p0 QV  u2 s → wq_M_serve_48 a p0 Q  u2 A := by
  intro u2 A s H hv
  unfold vq_M_serve_48 at hv
  unfold wq_M_serve_48
  refine me_gI H rfl (Nat.le_of_ble_eq_true rfl) hv (fun x12 hv => ?_)
  refine me_p H rfl (Nat.le_of_ble_eq_true rfl) hv (fun A s H hv => ?_)
  refine me_p H rfl (Nat.le_of_ble_eq_true rfl) hv (fun A s H hv => ?_)
  obtain ⟨n, hv⟩ := hv
  exact ⟨n, vsq_M_serve_65 hQ  n _ _ _ _ H hv⟩
def vb_M_serve_4 (p0 : Int32) (Q : RS → Prop)  (k4 : Int32 → Int32 → RS → Prop) (u2 : Int32) (u3 : Int32) (s : RS) : Prop := if (8 : Int32) ≤ u3 then (vq_M_serve_48 p0 Q  u2 s) else (vA s 18 u3 (fun x13 => if x13 < 0 then (k4 u2 (u3 + 1) s) else (vp_M_failing u3 s (fun x14 s => if x14 = 0 then (vp_M_before u3 u2 s (fun x15 s => if x15 = 0 then (k4 u2 (u3 + 1) s) else (k4 u3 (u3 + 1) s))) else (k4 u2 (u3 + 1) s)))))
def vq_M_serve_4 (p0 : Int32) (Q : RS → Prop)  : Nat → Int32 → Int32 → RS → Prop
  | 0 => fun _ _ _ => False
  | n + 1 => vb_M_serve_4 p0 Q  (vq_M_serve_4 p0 Q  n)
set_option maxRecDepth 100000 in
set_option maxHeartbeats 4000000 in
theorem vsq_M_serve_4 {A0 : ab_H} {a : Nat} {R : Nat → Nat} {p0 : Int32} {Q : ab_H → Prop} {QV : RS → Prop}  (hQ : ∀ (s : RS) (A : ab_H), Me A0 A a R s → QV s → Q A)  : ∀ (n : Nat) (u2 : Int32) (u3 : Int32) (A : ab_H) (s : RS), Me A0 A a R s → vq_M_serve_4 p0 QV  n u2 u3 s → wq_M_serve_4 a p0 Q  n u2 u3 A := by
  intro n
  induction n with
  | zero =>
    intro u2 u3 A s H hv
    exact absurd hv id
  | succ n hk4 =>
    intro u2 u3 A s H hv
    have hv : vb_M_serve_4 p0 QV  (vq_M_serve_4 p0 QV  n) u2 u3 s := hv
    show wb_M_serve_4 a p0 Q  (wq_M_serve_4 a p0 Q  n) u2 u3 A
    unfold vb_M_serve_4 at hv
    unfold wb_M_serve_4
    refine me_if hv (fun hv => ?_) (fun hv => ?_)
    · exact vsq_M_serve_48 hQ  _ _ _ H hv
    · refine me_gR H rfl (Nat.le_of_ble_eq_true rfl) ?_
      refine me_l H rfl rfl hv (fun x13 hv => ?_)
      refine me_if hv (fun hv => ?_) (fun hv => ?_)
      · exact hk4 _ _ _ _ H hv
      · refine me_c H (vs_M_failing H hv (fun x14 s A H hv => ?_))
        refine me_if hv (fun hv => ?_) (fun hv => ?_)
        · refine me_c H (vs_M_before H hv (fun x15 s A H hv => ?_))
          refine me_if hv (fun hv => ?_) (fun hv => ?_)
          · exact hk4 _ _ _ _ H hv
          · exact hk4 _ _ _ _ H hv
        · exact hk4 _ _ _ _ H hv
def vp_M_serve (p0 : Int32) (s : RS) (Q : RS → Prop) : Prop := ∃ n, vq_M_serve_4 p0 Q  n ((-1) : Int32) (0 : Int32) s
set_option maxRecDepth 100000 in
set_option maxHeartbeats 4000000 in
theorem vs_M_serve {A0 : ab_H} {a : Nat} {R : Nat → Nat} {p0 : Int32} {A : ab_H} {s : RS} {Q : ab_H → Prop} {QV : RS → Prop} (H : Me A0 A a R s) (hv : vp_M_serve p0 s QV) (hQ : ∀ (s : RS) (A : ab_H), Me A0 A a R s → QV s → Q A) : wp_M_serve a p0 A Q := by
  unfold vp_M_serve at hv
  unfold wp_M_serve
  obtain ⟨n, hv⟩ := hv
  exact ⟨n, vsq_M_serve_4 hQ  n _ _ _ _ H hv⟩
def vq_M_arrive_86 (p0 : Int32) (p1 : Int32) (Q : RS → Prop)   (s : RS) : Prop := vS s 1 p0 (0 : Int32) (fun s => Q s)
set_option maxRecDepth 100000 in
set_option maxHeartbeats 4000000 in
theorem vsq_M_arrive_86 {A0 : ab_H} {a : Nat} {R : Nat → Nat} {p0 : Int32} {p1 : Int32} {Q : ab_H → Prop} {QV : RS → Prop}  (hQ : ∀ (s : RS) (A : ab_H), Me A0 A a R s → QV s → Q A)  : ∀ (A : ab_H) (s : RS), Me A0 A a R s → vq_M_arrive_86 p0 p1 QV   s → wq_M_arrive_86 a p0 p1 Q   A := by
  intro  A s H hv
  unfold vq_M_arrive_86 at hv
  unfold wq_M_arrive_86
  refine me_gR H rfl (Nat.le_of_ble_eq_true rfl) ?_
  refine me_s H rfl rfl hv (fun A s H hv => ?_)
  exact hQ _ _ H hv
def vp_M_arrive (p0 : Int32) (p1 : Int32) (s : RS) (Q : RS → Prop) : Prop := vA s 1 p0 (fun x1 => vS s 0 (((520 : Int32) * p0) + x1) p1 (fun s => vA s 1 p0 (fun x2 => vS s 1 p0 (x2 + (1 : Int32)) (fun s => vp_M_judge p0 s (fun x3 s => if x3 = 0 then (Q s) else (if x3 = (1 : Int32) then (vp_M_serve p0 s (fun s => vp_M_judge p0 s (fun x4 s => wL (s.1 34) (fun x5 => wB x5 (vS s 2 p0 x5 (fun s => vq_M_arrive_86 p0 p1 Q   s)))))) else (vP s 42 (0 : Int32) (fun s => vp_M_respond p0 x3 s (fun s => wB (1 : Int32) (vS s 2 p0 (1 : Int32) (fun s => vq_M_arrive_86 p0 p1 Q   s)))))))))))
set_option maxRecDepth 100000 in
set_option maxHeartbeats 4000000 in
theorem vs_M_arrive {A0 : ab_H} {a : Nat} {R : Nat → Nat} {p0 : Int32} {p1 : Int32} {A : ab_H} {s : RS} {Q : ab_H → Prop} {QV : RS → Prop} (H : Me A0 A a R s) (hv : vp_M_arrive p0 p1 s QV) (hQ : ∀ (s : RS) (A : ab_H), Me A0 A a R s → QV s → Q A) : wp_M_arrive a p0 p1 A Q := by
  unfold vp_M_arrive at hv
  unfold wp_M_arrive
  refine me_gR H rfl (Nat.le_of_ble_eq_true rfl) ?_
  refine me_gR H rfl (Nat.le_of_ble_eq_true rfl) ?_
  refine me_l H rfl rfl hv (fun x1 hv => ?_)
  refine me_s H rfl rfl hv (fun A s H hv => ?_)
  refine me_gR H rfl (Nat.le_of_ble_eq_true rfl) ?_
  refine me_l H rfl rfl hv (fun x2 hv => ?_)
  refine me_s H rfl rfl hv (fun A s H hv => ?_)
  refine me_c H (vs_M_judge H hv (fun x3 s A H hv => ?_))
  refine me_if hv (fun hv => ?_) (fun hv => ?_)
  · exact hQ _ _ H hv
  · refine me_if hv (fun hv => ?_) (fun hv => ?_)
    · refine me_c H (vs_M_serve H hv (fun s A H hv => ?_))
      refine me_c H (vs_M_judge H hv (fun x4 s A H hv => ?_))
      refine me_gR H rfl (Nat.le_of_ble_eq_true rfl) ?_
      refine me_gI H rfl (Nat.le_of_ble_eq_true rfl) hv (fun x5 hv => ?_)
      obtain ⟨hb, hv⟩ := hv
      refine me_sZ H rfl hb hv (fun A s H hv => ?_)
      exact vsq_M_arrive_86 hQ  _ _ H hv
    · refine me_p H rfl (Nat.le_of_ble_eq_true rfl) hv (fun A s H hv => ?_)
      refine me_c H (vs_M_respond H hv (fun s A H hv => ?_))
      refine me_gR H rfl (Nat.le_of_ble_eq_true rfl) ?_
      obtain ⟨hb, hv⟩ := hv
      refine me_sZ H rfl hb hv (fun A s H hv => ?_)
      exact vsq_M_arrive_86 hQ  _ _ H hv
def vb_M_send_38 (p0 : Int32) (p1 : Int32) (p2 : Int32) (Q : Int32 → RS → Prop)  (k38 : Int32 → Int32 → RS → Prop) (u4 : Int32) (u5 : Int32) (s : RS) : Prop := if u5 < 0 then (Q u4 s) else (vA s 2 p0 (fun x1 => if x1 = 0 then (vp_M_arrive p0 ((p1 >>> (((8 : Int32) * u5) &&& 31)) &&& (255 : Int32)) s (fun s => k38 (u4 + 1) (u5 - 1) s)) else (Q u4 s)))
def vq_M_send_38 (p0 : Int32) (p1 : Int32) (p2 : Int32) (Q : Int32 → RS → Prop)  : Nat → Int32 → Int32 → RS → Prop
  | 0 => fun _ _ _ => False
  | n + 1 => vb_M_send_38 p0 p1 p2 Q  (vq_M_send_38 p0 p1 p2 Q  n)
set_option maxRecDepth 100000 in
set_option maxHeartbeats 4000000 in
theorem vsq_M_send_38 {A0 : ab_H} {a : Nat} {R : Nat → Nat} {p0 : Int32} {p1 : Int32} {p2 : Int32} {Q : Int32 → ab_H → Prop} {QV : Int32 → RS → Prop}  (hQ : ∀ v (s : RS) (A : ab_H), Me A0 A a R s → QV v s → Q v A)  : ∀ (n : Nat) (u4 : Int32) (u5 : Int32) (A : ab_H) (s : RS), Me A0 A a R s → vq_M_send_38 p0 p1 p2 QV  n u4 u5 s → wq_M_send_38 a p0 p1 p2 Q  n u4 u5 A := by
  intro n
  induction n with
  | zero =>
    intro u4 u5 A s H hv
    exact absurd hv id
  | succ n hk38 =>
    intro u4 u5 A s H hv
    have hv : vb_M_send_38 p0 p1 p2 QV  (vq_M_send_38 p0 p1 p2 QV  n) u4 u5 s := hv
    show wb_M_send_38 a p0 p1 p2 Q  (wq_M_send_38 a p0 p1 p2 Q  n) u4 u5 A
    unfold vb_M_send_38 at hv
    unfold wb_M_send_38
    refine me_if hv (fun hv => ?_) (fun hv => ?_)
    · exact hQ _ _ _ H hv
    · refine me_gR H rfl (Nat.le_of_ble_eq_true rfl) ?_
      refine me_lZ H rfl hv (fun x1 hv => ?_)
      refine me_if hv (fun hv => ?_) (fun hv => ?_)
      · refine me_c H (vs_M_arrive H hv (fun s A H hv => ?_))
        exact hk38 _ _ _ _ H hv
      · exact hQ _ _ _ H hv
def vp_M_send (p0 : Int32) (p1 : Int32) (p2 : Int32) (s : RS) (Q : Int32 → RS → Prop) : Prop := if p0 < 0 then (Q ((-1) : Int32) s) else (if (2 : Int32) < p0 then (Q ((-1) : Int32) s) else (if p2 < (1 : Int32) then (Q ((-1) : Int32) s) else (if (4 : Int32) < p2 then (Q ((-1) : Int32) s) else (vA s 2 p0 (fun x2 => if x2 = 0 then (wL ((p2 - (1 : Int32))) (fun x3 => ∃ n, vq_M_send_38 p0 p1 p2 Q  n (0 : Int32) x3 s)) else (Q ((-1) : Int32) s))))))
set_option maxRecDepth 100000 in
set_option maxHeartbeats 4000000 in
theorem vs_M_send {A0 : ab_H} {a : Nat} {R : Nat → Nat} {p0 : Int32} {p1 : Int32} {p2 : Int32} {A : ab_H} {s : RS} {Q : Int32 → ab_H → Prop} {QV : Int32 → RS → Prop} (H : Me A0 A a R s) (hv : vp_M_send p0 p1 p2 s QV) (hQ : ∀ v (s : RS) (A : ab_H), Me A0 A a R s → QV v s → Q v A) : wp_M_send a p0 p1 p2 A Q := by
  unfold vp_M_send at hv
  unfold wp_M_send
  refine me_if hv (fun hv => ?_) (fun hv => ?_)
  · exact hQ _ _ _ H hv
  · refine me_if hv (fun hv => ?_) (fun hv => ?_)
    · exact hQ _ _ _ H hv
    · refine me_if hv (fun hv => ?_) (fun hv => ?_)
      · exact hQ _ _ _ H hv
      · refine me_if hv (fun hv => ?_) (fun hv => ?_)
        · exact hQ _ _ _ H hv
        · refine me_gR H rfl (Nat.le_of_ble_eq_true rfl) ?_
          refine me_lZ H rfl hv (fun x2 hv => ?_)
          refine me_if hv (fun hv => ?_) (fun hv => ?_)
          · refine vl_let hv (fun x3 hv => ?_)
            obtain ⟨n, hv⟩ := hv
            exact ⟨n, vsq_M_send_38 hQ  n _ _ _ _ H hv⟩
          · exact hQ _ _ _ H hv
def vp_M_open (p0 : Int32) (s : RS) (Q : Int32 → RS → Prop) : Prop := if p0 < 0 then (Q (0 : Int32) s) else (if p0 ≤ (2 : Int32) then (wB (0 : Int32) (vS s 2 p0 (0 : Int32) (fun s => vS s 1 p0 (0 : Int32) (fun s => vS s 4 p0 (0 : Int32) (fun s => Q (1 : Int32) s))))) else (Q (0 : Int32) s))
set_option maxRecDepth 100000 in
set_option maxHeartbeats 4000000 in
theorem vs_M_open {A0 : ab_H} {a : Nat} {R : Nat → Nat} {p0 : Int32} {A : ab_H} {s : RS} {Q : Int32 → ab_H → Prop} {QV : Int32 → RS → Prop} (H : Me A0 A a R s) (hv : vp_M_open p0 s QV) (hQ : ∀ v (s : RS) (A : ab_H), Me A0 A a R s → QV v s → Q v A) : wp_M_open a p0 A Q := by
  unfold vp_M_open at hv
  unfold wp_M_open
  refine me_if hv (fun hv => ?_) (fun hv => ?_)
  · exact hQ _ _ _ H hv
  · refine me_if hv (fun hv => ?_) (fun hv => ?_)
    · refine me_gR H rfl (Nat.le_of_ble_eq_true rfl) ?_
      obtain ⟨hb, hv⟩ := hv
      refine me_sZ H rfl hb hv (fun A s H hv => ?_)
      refine me_gR H rfl (Nat.le_of_ble_eq_true rfl) ?_
      refine me_s H rfl rfl hv (fun A s H hv => ?_)
      refine me_gR H rfl (Nat.le_of_ble_eq_true rfl) ?_
      refine me_s H rfl rfl hv (fun A s H hv => ?_)
      exact hQ _ _ _ H hv
    · exact hQ _ _ _ H hv
def vp_M_isOpen (p0 : Int32) (s : RS) (Q : Int32 → RS → Prop) : Prop := if p0 < 0 then (Q (0 : Int32) s) else (if (2 : Int32) < p0 then (Q (0 : Int32) s) else (vA s 2 p0 (fun x1 => if x1 = 0 then (Q (1 : Int32) s) else (Q (0 : Int32) s))))
set_option maxRecDepth 100000 in
set_option maxHeartbeats 4000000 in
theorem vs_M_isOpen {A0 : ab_H} {a : Nat} {R : Nat → Nat} {p0 : Int32} {A : ab_H} {s : RS} {Q : Int32 → ab_H → Prop} {QV : Int32 → RS → Prop} (H : Me A0 A a R s) (hv : vp_M_isOpen p0 s QV) (hQ : ∀ v (s : RS) (A : ab_H), Me A0 A a R s → QV v s → Q v A) : wp_M_isOpen a p0 A Q := by
  unfold vp_M_isOpen at hv
  unfold wp_M_isOpen
  refine me_if hv (fun hv => ?_) (fun hv => ?_)
  · exact hQ _ _ _ H hv
  · refine me_if hv (fun hv => ?_) (fun hv => ?_)
    · exact hQ _ _ _ H hv
    · refine me_gR H rfl (Nat.le_of_ble_eq_true rfl) ?_
      refine me_lZ H rfl hv (fun x1 hv => ?_)
      refine me_if hv (fun hv => ?_) (fun hv => ?_)
      · exact hQ _ _ _ H hv
      · exact hQ _ _ _ H hv
def vp_M_size (p0 : Int32) (s : RS) (Q : Int32 → RS → Prop) : Prop := if p0 < 0 then (Q (0 : Int32) s) else (if p0 ≤ (2 : Int32) then (vA s 4 p0 (fun x1 => Q x1 s)) else (Q (0 : Int32) s))
set_option maxRecDepth 100000 in
set_option maxHeartbeats 4000000 in
theorem vs_M_size {A0 : ab_H} {a : Nat} {R : Nat → Nat} {p0 : Int32} {A : ab_H} {s : RS} {Q : Int32 → ab_H → Prop} {QV : Int32 → RS → Prop} (H : Me A0 A a R s) (hv : vp_M_size p0 s QV) (hQ : ∀ v (s : RS) (A : ab_H), Me A0 A a R s → QV v s → Q v A) : wp_M_size a p0 A Q := by
  unfold vp_M_size at hv
  unfold wp_M_size
  refine me_if hv (fun hv => ?_) (fun hv => ?_)
  · exact hQ _ _ _ H hv
  · refine me_if hv (fun hv => ?_) (fun hv => ?_)
    · refine me_gR H rfl (Nat.le_of_ble_eq_true rfl) ?_
      refine me_l H rfl rfl hv (fun x1 hv => ?_)
      exact hQ _ _ _ H hv
    · exact hQ _ _ _ H hv
def vp_M_at (p0 : Int32) (p1 : Int32) (s : RS) (Q : Int32 → RS → Prop) : Prop := if p1 < 0 then (Q ((-1) : Int32) s) else (vp_M_size p0 s (fun x1 s => if p1 < x1 then (vA s 3 (((80 : Int32) * p0) + p1) (fun x2 => Q x2 s)) else (Q ((-1) : Int32) s)))
set_option maxRecDepth 100000 in
set_option maxHeartbeats 4000000 in
theorem vs_M_at {A0 : ab_H} {a : Nat} {R : Nat → Nat} {p0 : Int32} {p1 : Int32} {A : ab_H} {s : RS} {Q : Int32 → ab_H → Prop} {QV : Int32 → RS → Prop} (H : Me A0 A a R s) (hv : vp_M_at p0 p1 s QV) (hQ : ∀ v (s : RS) (A : ab_H), Me A0 A a R s → QV v s → Q v A) : wp_M_at a p0 p1 A Q := by
  unfold vp_M_at at hv
  unfold wp_M_at
  refine me_if hv (fun hv => ?_) (fun hv => ?_)
  · exact hQ _ _ _ H hv
  · refine me_c H (vs_M_size H hv (fun x1 s A H hv => ?_))
    refine me_if hv (fun hv => ?_) (fun hv => ?_)
    · refine me_gR H rfl (Nat.le_of_ble_eq_true rfl) ?_
      refine me_l H rfl rfl hv (fun x2 hv => ?_)
      exact hQ _ _ _ H hv
    · exact hQ _ _ _ H hv
def vb_M_type_89 (p0 : Int32) (p1 : Int32) (Q : Int32 → RS → Prop)  (k89 : Int32 → Int32 → RS → Prop) (u3 : Int32) (u4 : Int32) (s : RS) : Prop := if u4 < 0 then (wB u3 (Q u3 s)) else (if u3 = 0 then (wB u3 (Q u3 s)) else (wL (s.1 10) (fun x1 => vS s 9 x1 ((p0 >>> (((8 : Int32) * u4) &&& 31)) &&& (255 : Int32)) (fun s => wL (s.1 10) (fun x2 => vP s 10 (x2 + (1 : Int32)) (fun s => k89 u3 (u4 - 1) s))))))
def vq_M_type_89 (p0 : Int32) (p1 : Int32) (Q : Int32 → RS → Prop)  : Nat → Int32 → Int32 → RS → Prop
  | 0 => fun _ _ _ => False
  | n + 1 => vb_M_type_89 p0 p1 Q  (vq_M_type_89 p0 p1 Q  n)
set_option maxRecDepth 100000 in
set_option maxHeartbeats 4000000 in
theorem vsq_M_type_89 {A0 : ab_H} {a : Nat} {R : Nat → Nat} {p0 : Int32} {p1 : Int32} {Q : Int32 → ab_H → Prop} {QV : Int32 → RS → Prop}  (hQ : ∀ v (s : RS) (A : ab_H), Me A0 A a R s → QV v s → Q v A)  : ∀ (n : Nat) (u3 : Int32) (u4 : Int32) (A : ab_H) (s : RS), Me A0 A a R s → vq_M_type_89 p0 p1 QV  n u3 u4 s → wq_M_type_89 a p0 p1 Q  n u3 u4 A := by
  intro n
  induction n with
  | zero =>
    intro u3 u4 A s H hv
    exact absurd hv id
  | succ n hk89 =>
    intro u3 u4 A s H hv
    have hv : vb_M_type_89 p0 p1 QV  (vq_M_type_89 p0 p1 QV  n) u3 u4 s := hv
    show wb_M_type_89 a p0 p1 Q  (wq_M_type_89 a p0 p1 Q  n) u3 u4 A
    unfold vb_M_type_89 at hv
    unfold wb_M_type_89
    refine me_if hv (fun hv => ?_) (fun hv => ?_)
    · obtain ⟨hb, hv⟩ := hv
      exact ⟨hb, hQ _ _ _ H hv⟩
    · refine me_if hv (fun hv => ?_) (fun hv => ?_)
      · obtain ⟨hb, hv⟩ := hv
        exact ⟨hb, hQ _ _ _ H hv⟩
      · refine me_gR H rfl (Nat.le_of_ble_eq_true rfl) ?_
        refine me_gI H rfl (Nat.le_of_ble_eq_true rfl) hv (fun x1 hv => ?_)
        refine me_s H rfl rfl hv (fun A s H hv => ?_)
        refine me_gI H rfl (Nat.le_of_ble_eq_true rfl) hv (fun x2 hv => ?_)
        refine me_p H rfl (Nat.le_of_ble_eq_true rfl) hv (fun A s H hv => ?_)
        exact hk89 _ _ _ _ H hv
def vq_M_type_84 (p0 : Int32) (p1 : Int32) (Q : Int32 → RS → Prop)  (u3 : Int32) (s : RS) : Prop := wL ((p1 - (1 : Int32))) (fun x3 => ∃ n, vq_M_type_89 p0 p1 Q  n u3 x3 s)
set_option maxRecDepth 100000 in
set_option maxHeartbeats 4000000 in
theorem vsq_M_type_84 {A0 : ab_H} {a : Nat} {R : Nat → Nat} {p0 : Int32} {p1 : Int32} {Q : Int32 → ab_H → Prop} {QV : Int32 → RS → Prop}  (hQ : ∀ v (s : RS) (A : ab_H), Me A0 A a R s → QV v s → Q v A)  : ∀ (u3 : Int32) (A : ab_H) (s : RS), Me A0 A a R s → vq_M_type_84 p0 p1 QV  u3 s → wq_M_type_84 a p0 p1 Q  u3 A := by
  intro u3 A s H hv
  unfold vq_M_type_84 at hv
  unfold wq_M_type_84
  refine vl_let hv (fun x3 hv => ?_)
  obtain ⟨n, hv⟩ := hv
  exact ⟨n, vsq_M_type_89 hQ  n _ _ _ _ H hv⟩
def vb_M_type_30 (p0 : Int32) (p1 : Int32) (Q : Int32 → RS → Prop)  (k30 : Int32 → Int32 → RS → Prop) (u3 : Int32) (u4 : Int32) (s : RS) : Prop := if p1 ≤ u4 then (vq_M_type_84 p0 p1 Q  u3 s) else (if u3 = 0 then (vq_M_type_84 p0 p1 Q  u3 s) else (if ((p0 >>> (((8 : Int32) * u4) &&& 31)) &&& (255 : Int32)) < (32 : Int32) then (k30 (0 : Int32) (u4 + 1) s) else (if (126 : Int32) < ((p0 >>> (((8 : Int32) * u4) &&& 31)) &&& (255 : Int32)) then (k30 (0 : Int32) (u4 + 1) s) else (k30 (1 : Int32) (u4 + 1) s))))
def vq_M_type_30 (p0 : Int32) (p1 : Int32) (Q : Int32 → RS → Prop)  : Nat → Int32 → Int32 → RS → Prop
  | 0 => fun _ _ _ => False
  | n + 1 => vb_M_type_30 p0 p1 Q  (vq_M_type_30 p0 p1 Q  n)
set_option maxRecDepth 100000 in
set_option maxHeartbeats 4000000 in
theorem vsq_M_type_30 {A0 : ab_H} {a : Nat} {R : Nat → Nat} {p0 : Int32} {p1 : Int32} {Q : Int32 → ab_H → Prop} {QV : Int32 → RS → Prop}  (hQ : ∀ v (s : RS) (A : ab_H), Me A0 A a R s → QV v s → Q v A)  : ∀ (n : Nat) (u3 : Int32) (u4 : Int32) (A : ab_H) (s : RS), Me A0 A a R s → vq_M_type_30 p0 p1 QV  n u3 u4 s → wq_M_type_30 a p0 p1 Q  n u3 u4 A := by
  intro n
  induction n with
  | zero =>
    intro u3 u4 A s H hv
    exact absurd hv id
  | succ n hk30 =>
    intro u3 u4 A s H hv
    have hv : vb_M_type_30 p0 p1 QV  (vq_M_type_30 p0 p1 QV  n) u3 u4 s := hv
    show wb_M_type_30 a p0 p1 Q  (wq_M_type_30 a p0 p1 Q  n) u3 u4 A
    unfold vb_M_type_30 at hv
    unfold wb_M_type_30
    refine me_if hv (fun hv => ?_) (fun hv => ?_)
    · exact vsq_M_type_84 hQ  _ _ _ H hv
    · refine me_if hv (fun hv => ?_) (fun hv => ?_)
      · exact vsq_M_type_84 hQ  _ _ _ H hv
      · refine me_if hv (fun hv => ?_) (fun hv => ?_)
        · exact hk30 _ _ _ _ H hv
        · refine me_if hv (fun hv => ?_) (fun hv => ?_)
          · exact hk30 _ _ _ _ H hv
          · exact hk30 _ _ _ _ H hv
def vq_M_type_26 (p0 : Int32) (p1 : Int32) (Q : Int32 → RS → Prop)  (s0 : Int32) (s : RS) : Prop := ∃ n, vq_M_type_30 p0 p1 Q  n s0 (0 : Int32) s
set_option maxRecDepth 100000 in
set_option maxHeartbeats 4000000 in
theorem vsq_M_type_26 {A0 : ab_H} {a : Nat} {R : Nat → Nat} {p0 : Int32} {p1 : Int32} {Q : Int32 → ab_H → Prop} {QV : Int32 → RS → Prop}  (hQ : ∀ v (s : RS) (A : ab_H), Me A0 A a R s → QV v s → Q v A)  : ∀ (s0 : Int32) (A : ab_H) (s : RS), Me A0 A a R s → vq_M_type_26 p0 p1 QV  s0 s → wq_M_type_26 a p0 p1 Q  s0 A := by
  intro s0 A s H hv
  unfold vq_M_type_26 at hv
  unfold wq_M_type_26
  obtain ⟨n, hv⟩ := hv
  exact ⟨n, vsq_M_type_30 hQ  n _ _ _ _ H hv⟩
def vq_M_type_25 (p0 : Int32) (p1 : Int32) (Q : Int32 → RS → Prop)   (s : RS) : Prop := vq_M_type_26 p0 p1 Q  (0 : Int32) s
set_option maxRecDepth 100000 in
set_option maxHeartbeats 4000000 in
theorem vsq_M_type_25 {A0 : ab_H} {a : Nat} {R : Nat → Nat} {p0 : Int32} {p1 : Int32} {Q : Int32 → ab_H → Prop} {QV : Int32 → RS → Prop}  (hQ : ∀ v (s : RS) (A : ab_H), Me A0 A a R s → QV v s → Q v A)  : ∀ (A : ab_H) (s : RS), Me A0 A a R s → vq_M_type_25 p0 p1 QV   s → wq_M_type_25 a p0 p1 Q   A := by
  intro  A s H hv
  unfold vq_M_type_25 at hv
  unfold wq_M_type_25
  exact vsq_M_type_26 hQ  _ _ _ H hv
def vp_M_type (p0 : Int32) (p1 : Int32) (s : RS) (Q : Int32 → RS → Prop) : Prop := if p1 < (1 : Int32) then (vq_M_type_25 p0 p1 Q   s) else (if (4 : Int32) < p1 then (vq_M_type_25 p0 p1 Q   s) else (wL (s.1 10) (fun x4 => if (40 : Int32) < (x4 + p1) then (vq_M_type_25 p0 p1 Q   s) else (vq_M_type_26 p0 p1 Q  (1 : Int32) s))))
set_option maxRecDepth 100000 in
set_option maxHeartbeats 4000000 in
theorem vs_M_type {A0 : ab_H} {a : Nat} {R : Nat → Nat} {p0 : Int32} {p1 : Int32} {A : ab_H} {s : RS} {Q : Int32 → ab_H → Prop} {QV : Int32 → RS → Prop} (H : Me A0 A a R s) (hv : vp_M_type p0 p1 s QV) (hQ : ∀ v (s : RS) (A : ab_H), Me A0 A a R s → QV v s → Q v A) : wp_M_type a p0 p1 A Q := by
  unfold vp_M_type at hv
  unfold wp_M_type
  refine me_if hv (fun hv => ?_) (fun hv => ?_)
  · exact vsq_M_type_25 hQ  _ _ H hv
  · refine me_if hv (fun hv => ?_) (fun hv => ?_)
    · exact vsq_M_type_25 hQ  _ _ H hv
    · refine me_gI H rfl (Nat.le_of_ble_eq_true rfl) hv (fun x4 hv => ?_)
      refine me_if hv (fun hv => ?_) (fun hv => ?_)
      · exact vsq_M_type_25 hQ  _ _ H hv
      · exact vsq_M_type_26 hQ  _ _ _ H hv
def vb_M_isPattern_9 (p0 : Int32) (Q : Int32 → RS → Prop)  (k9 : Int32 → RS → Prop) (u2 : Int32) (s : RS) : Prop := vA s 14 p0 (fun x1 => if x1 ≤ u2 then (Q (1 : Int32) s) else (vp_M_letterOf p0 u2 s (fun x2 s => if x2 = (124 : Int32) then (k9 (u2 + 1) s) else (vp_M_pieceEnd p0 u2 s (fun x3 s => if 0 ≤ x3 then (vp_M_letterOf p0 x3 s (fun x4 s => if x4 = (42 : Int32) then (wL ((x3 + (1 : Int32))) (fun x5 => k9 x5 s)) else (vp_M_letterOf p0 x3 s (fun x6 s => if x6 = (63 : Int32) then (wL ((x3 + (1 : Int32))) (fun x7 => k9 x7 s)) else (k9 x3 s))))) else (Q (0 : Int32) s))))))
def vq_M_isPattern_9 (p0 : Int32) (Q : Int32 → RS → Prop)  : Nat → Int32 → RS → Prop
  | 0 => fun _ _ => False
  | n + 1 => vb_M_isPattern_9 p0 Q  (vq_M_isPattern_9 p0 Q  n)
set_option maxRecDepth 100000 in
set_option maxHeartbeats 4000000 in
theorem vsq_M_isPattern_9 {A0 : ab_H} {a : Nat} {R : Nat → Nat} {p0 : Int32} {Q : Int32 → ab_H → Prop} {QV : Int32 → RS → Prop}  (hQ : ∀ v (s : RS) (A : ab_H), Me A0 A a R s → QV v s → Q v A)  : ∀ (n : Nat) (u2 : Int32) (A : ab_H) (s : RS), Me A0 A a R s → vq_M_isPattern_9 p0 QV  n u2 s → wq_M_isPattern_9 a p0 Q  n u2 A := by
  intro n
  induction n with
  | zero =>
    intro u2 A s H hv
    exact absurd hv id
  | succ n hk9 =>
    intro u2 A s H hv
    have hv : vb_M_isPattern_9 p0 QV  (vq_M_isPattern_9 p0 QV  n) u2 s := hv
    show wb_M_isPattern_9 a p0 Q  (wq_M_isPattern_9 a p0 Q  n) u2 A
    unfold vb_M_isPattern_9 at hv
    unfold wb_M_isPattern_9
    refine me_gR H rfl (Nat.le_of_ble_eq_true rfl) ?_
    refine me_l H rfl rfl hv (fun x1 hv => ?_)
    refine me_if hv (fun hv => ?_) (fun hv => ?_)
    · exact hQ _ _ _ H hv
    · refine me_c H (vs_M_letterOf H hv (fun x2 s A H hv => ?_))
      refine me_if hv (fun hv => ?_) (fun hv => ?_)
      · exact hk9 _ _ _ H hv
      · refine me_c H (vs_M_pieceEnd H hv (fun x3 s A H hv => ?_))
        refine me_if hv (fun hv => ?_) (fun hv => ?_)
        · refine me_c H (vs_M_letterOf H hv (fun x4 s A H hv => ?_))
          refine me_if hv (fun hv => ?_) (fun hv => ?_)
          · refine vl_let hv (fun x5 hv => ?_)
            exact hk9 _ _ _ H hv
          · refine me_c H (vs_M_letterOf H hv (fun x6 s A H hv => ?_))
            refine me_if hv (fun hv => ?_) (fun hv => ?_)
            · refine vl_let hv (fun x7 hv => ?_)
              exact hk9 _ _ _ H hv
            · exact hk9 _ _ _ H hv
        · exact hQ _ _ _ H hv
def vp_M_isPattern (p0 : Int32) (s : RS) (Q : Int32 → RS → Prop) : Prop := vA s 13 p0 (fun x8 => wL ((x8 + (1 : Int32))) (fun x9 => ∃ n, vq_M_isPattern_9 p0 Q  n x9 s))
set_option maxRecDepth 100000 in
set_option maxHeartbeats 4000000 in
theorem vs_M_isPattern {A0 : ab_H} {a : Nat} {R : Nat → Nat} {p0 : Int32} {A : ab_H} {s : RS} {Q : Int32 → ab_H → Prop} {QV : Int32 → RS → Prop} (H : Me A0 A a R s) (hv : vp_M_isPattern p0 s QV) (hQ : ∀ v (s : RS) (A : ab_H), Me A0 A a R s → QV v s → Q v A) : wp_M_isPattern a p0 A Q := by
  unfold vp_M_isPattern at hv
  unfold wp_M_isPattern
  refine me_gR H rfl (Nat.le_of_ble_eq_true rfl) ?_
  refine me_l H rfl rfl hv (fun x8 hv => ?_)
  refine vl_let hv (fun x9 hv => ?_)
  obtain ⟨n, hv⟩ := hv
  exact ⟨n, vsq_M_isPattern_9 hQ  n _ _ _ H hv⟩
def vq_M_match_212 (p0 : Int32) (p1 : Int32) (Q : Int32 → RS → Prop)  (u6 : Int32) (s : RS) : Prop := vS s 11 u6 p0 (fun s => vS s 12 u6 p1 (fun s => wL (s.1 16) (fun x1 => vP s 16 (x1 + (1 : Int32)) (fun s => vP s 10 (0 : Int32) (fun s => Q (1 : Int32) s)))))
set_option maxRecDepth 100000 in
set_option maxHeartbeats 4000000 in
theorem vsq_M_match_212 {A0 : ab_H} {a : Nat} {R : Nat → Nat} {p0 : Int32} {p1 : Int32} {Q : Int32 → ab_H → Prop} {QV : Int32 → RS → Prop}  (hQ : ∀ v (s : RS) (A : ab_H), Me A0 A a R s → QV v s → Q v A)  : ∀ (u6 : Int32) (A : ab_H) (s : RS), Me A0 A a R s → vq_M_match_212 p0 p1 QV  u6 s → wq_M_match_212 a p0 p1 Q  u6 A := by
  intro u6 A s H hv
  unfold vq_M_match_212 at hv
  unfold wq_M_match_212
  refine me_gR H rfl (Nat.le_of_ble_eq_true rfl) ?_
  refine me_s H rfl rfl hv (fun A s H hv => ?_)
  refine me_gR H rfl (Nat.le_of_ble_eq_true rfl) ?_
  refine me_s H rfl rfl hv (fun A s H hv => ?_)
  refine me_gI H rfl (Nat.le_of_ble_eq_true rfl) hv (fun x1 hv => ?_)
  refine me_p H rfl (Nat.le_of_ble_eq_true rfl) hv (fun A s H hv => ?_)
  refine me_p H rfl (Nat.le_of_ble_eq_true rfl) hv (fun A s H hv => ?_)
  exact hQ _ _ _ H hv
def vq_M_match_196 (p0 : Int32) (p1 : Int32) (Q : Int32 → RS → Prop)  (u6 : Int32) (s : RS) : Prop := if p1 = (2 : Int32) then (vp_M_isPattern u6 s (fun x2 s => if x2 = 0 then (Q (0 : Int32) s) else (vq_M_match_212 p0 p1 Q  u6 s))) else (vq_M_match_212 p0 p1 Q  u6 s)
set_option maxRecDepth 100000 in
set_option maxHeartbeats 4000000 in
theorem vsq_M_match_196 {A0 : ab_H} {a : Nat} {R : Nat → Nat} {p0 : Int32} {p1 : Int32} {Q : Int32 → ab_H → Prop} {QV : Int32 → RS → Prop}  (hQ : ∀ v (s : RS) (A : ab_H), Me A0 A a R s → QV v s → Q v A)  : ∀ (u6 : Int32) (A : ab_H) (s : RS), Me A0 A a R s → vq_M_match_196 p0 p1 QV  u6 s → wq_M_match_196 a p0 p1 Q  u6 A := by
  intro u6 A s H hv
  unfold vq_M_match_196 at hv
  unfold wq_M_match_196
  refine me_if hv (fun hv => ?_) (fun hv => ?_)
  · refine me_c H (vs_M_isPattern H hv (fun x2 s A H hv => ?_))
    refine me_if hv (fun hv => ?_) (fun hv => ?_)
    · exact hQ _ _ _ H hv
    · exact vsq_M_match_212 hQ  _ _ _ H hv
  · exact vsq_M_match_212 hQ  _ _ _ H hv
def vb_M_match_161 (p0 : Int32) (p1 : Int32) (Q : Int32 → RS → Prop)  (k161 : Int32 → Int32 → RS → Prop) (u6 : Int32) (u7 : Int32) (s : RS) : Prop := wL (s.1 10) (fun x3 => if x3 ≤ u7 then (vq_M_match_196 p0 p1 Q  u6 s) else (vA s 9 u7 (fun x4 => vS s 15 (((40 : Int32) * u6) + u7) x4 (fun s => k161 u6 (u7 + 1) s))))
def vq_M_match_161 (p0 : Int32) (p1 : Int32) (Q : Int32 → RS → Prop)  : Nat → Int32 → Int32 → RS → Prop
  | 0 => fun _ _ _ => False
  | n + 1 => vb_M_match_161 p0 p1 Q  (vq_M_match_161 p0 p1 Q  n)
set_option maxRecDepth 100000 in
set_option maxHeartbeats 4000000 in
theorem vsq_M_match_161 {A0 : ab_H} {a : Nat} {R : Nat → Nat} {p0 : Int32} {p1 : Int32} {Q : Int32 → ab_H → Prop} {QV : Int32 → RS → Prop}  (hQ : ∀ v (s : RS) (A : ab_H), Me A0 A a R s → QV v s → Q v A)  : ∀ (n : Nat) (u6 : Int32) (u7 : Int32) (A : ab_H) (s : RS), Me A0 A a R s → vq_M_match_161 p0 p1 QV  n u6 u7 s → wq_M_match_161 a p0 p1 Q  n u6 u7 A := by
  intro n
  induction n with
  | zero =>
    intro u6 u7 A s H hv
    exact absurd hv id
  | succ n hk161 =>
    intro u6 u7 A s H hv
    have hv : vb_M_match_161 p0 p1 QV  (vq_M_match_161 p0 p1 QV  n) u6 u7 s := hv
    show wb_M_match_161 a p0 p1 Q  (wq_M_match_161 a p0 p1 Q  n) u6 u7 A
    unfold vb_M_match_161 at hv
    unfold wb_M_match_161
    refine me_gI H rfl (Nat.le_of_ble_eq_true rfl) hv (fun x3 hv => ?_)
    refine me_if hv (fun hv => ?_) (fun hv => ?_)
    · exact vsq_M_match_196 hQ  _ _ _ H hv
    · refine me_gR H rfl (Nat.le_of_ble_eq_true rfl) ?_
      refine me_gR H rfl (Nat.le_of_ble_eq_true rfl) ?_
      refine me_l H rfl rfl hv (fun x4 hv => ?_)
      refine me_s H rfl rfl hv (fun A s H hv => ?_)
      exact hk161 _ _ _ _ H hv
def vq_M_match_146 (p0 : Int32) (p1 : Int32) (Q : Int32 → RS → Prop)  (u6 : Int32) (s1 : Int32) (s2 : Int32) (s : RS) : Prop := vS s 13 s1 s2 (fun s => wL (s.1 10) (fun x5 => vS s 14 u6 x5 (fun s => ∃ n, vq_M_match_161 p0 p1 Q  n u6 (0 : Int32) s)))
set_option maxRecDepth 100000 in
set_option maxHeartbeats 4000000 in
theorem vsq_M_match_146 {A0 : ab_H} {a : Nat} {R : Nat → Nat} {p0 : Int32} {p1 : Int32} {Q : Int32 → ab_H → Prop} {QV : Int32 → RS → Prop}  (hQ : ∀ v (s : RS) (A : ab_H), Me A0 A a R s → QV v s → Q v A)  : ∀ (u6 : Int32) (s1 : Int32) (s2 : Int32) (A : ab_H) (s : RS), Me A0 A a R s → vq_M_match_146 p0 p1 QV  u6 s1 s2 s → wq_M_match_146 a p0 p1 Q  u6 (some (R 13)) s1 s2 A := by
  intro u6 s1 s2 A s H hv
  unfold vq_M_match_146 at hv
  unfold wq_M_match_146
  refine me_s H rfl rfl hv (fun A s H hv => ?_)
  refine me_gR H rfl (Nat.le_of_ble_eq_true rfl) ?_
  refine me_gI H rfl (Nat.le_of_ble_eq_true rfl) hv (fun x5 hv => ?_)
  refine me_s H rfl rfl hv (fun A s H hv => ?_)
  obtain ⟨n, hv⟩ := hv
  exact ⟨n, vsq_M_match_161 hQ  n _ _ _ _ H hv⟩
def vq_M_match_124 (p0 : Int32) (p1 : Int32) (Q : Int32 → RS → Prop)  (u3 : Int32) (u4 : Int32) (s : RS) : Prop := wL (s.1 16) (fun x6 => if u3 = 0 then (vq_M_match_146 p0 p1 Q  x6 x6 ((-1) : Int32) s) else (vq_M_match_146 p0 p1 Q  x6 x6 u4 s))
set_option maxRecDepth 100000 in
set_option maxHeartbeats 4000000 in
theorem vsq_M_match_124 {A0 : ab_H} {a : Nat} {R : Nat → Nat} {p0 : Int32} {p1 : Int32} {Q : Int32 → ab_H → Prop} {QV : Int32 → RS → Prop}  (hQ : ∀ v (s : RS) (A : ab_H), Me A0 A a R s → QV v s → Q v A)  : ∀ (u3 : Int32) (u4 : Int32) (A : ab_H) (s : RS), Me A0 A a R s → vq_M_match_124 p0 p1 QV  u3 u4 s → wq_M_match_124 a p0 p1 Q  u3 u4 A := by
  intro u3 u4 A s H hv
  unfold vq_M_match_124 at hv
  unfold wq_M_match_124
  refine me_gI H rfl (Nat.le_of_ble_eq_true rfl) hv (fun x6 hv => ?_)
  refine me_gR H rfl (Nat.le_of_ble_eq_true rfl) ?_
  refine me_if hv (fun hv => ?_) (fun hv => ?_)
  · exact vsq_M_match_146 hQ  _ _ _ _ _ H hv
  · exact vsq_M_match_146 hQ  _ _ _ _ _ H hv
def vq_M_match_119 (p0 : Int32) (p1 : Int32) (Q : Int32 → RS → Prop)  (u3 : Int32) (u4 : Int32) (s0 : Int32) (s1 : Int32) (s : RS) : Prop := if s0 = s1 then (vq_M_match_124 p0 p1 Q  u3 u4 s) else (Q (0 : Int32) s)
set_option maxRecDepth 100000 in
set_option maxHeartbeats 4000000 in
theorem vsq_M_match_119 {A0 : ab_H} {a : Nat} {R : Nat → Nat} {p0 : Int32} {p1 : Int32} {Q : Int32 → ab_H → Prop} {QV : Int32 → RS → Prop}  (hQ : ∀ v (s : RS) (A : ab_H), Me A0 A a R s → QV v s → Q v A)  : ∀ (u3 : Int32) (u4 : Int32) (s0 : Int32) (s1 : Int32) (A : ab_H) (s : RS), Me A0 A a R s → vq_M_match_119 p0 p1 QV  u3 u4 s0 s1 s → wq_M_match_119 a p0 p1 Q  u3 u4 s0 s1 A := by
  intro u3 u4 s0 s1 A s H hv
  unfold vq_M_match_119 at hv
  unfold wq_M_match_119
  refine me_if hv (fun hv => ?_) (fun hv => ?_)
  · exact vsq_M_match_124 hQ  _ _ _ _ H hv
  · exact hQ _ _ _ H hv
def vq_M_match_92 (p0 : Int32) (p1 : Int32) (Q : Int32 → RS → Prop)  (u3 : Int32) (u4 : Int32) (s0 : Int32) (s : RS) : Prop := if u3 = 0 then (vq_M_match_124 p0 p1 Q  u3 u4 s) else (if u4 = 0 then (Q (0 : Int32) s) else (wL (s.1 10) (fun x7 => if u4 = x7 then (vq_M_match_119 p0 p1 Q  u3 u4 s0 (1 : Int32) s) else (vq_M_match_119 p0 p1 Q  u3 u4 s0 (0 : Int32) s))))
set_option maxRecDepth 100000 in
set_option maxHeartbeats 4000000 in
theorem vsq_M_match_92 {A0 : ab_H} {a : Nat} {R : Nat → Nat} {p0 : Int32} {p1 : Int32} {Q : Int32 → ab_H → Prop} {QV : Int32 → RS → Prop}  (hQ : ∀ v (s : RS) (A : ab_H), Me A0 A a R s → QV v s → Q v A)  : ∀ (u3 : Int32) (u4 : Int32) (s0 : Int32) (A : ab_H) (s : RS), Me A0 A a R s → vq_M_match_92 p0 p1 QV  u3 u4 s0 s → wq_M_match_92 a p0 p1 Q  u3 u4 s0 A := by
  intro u3 u4 s0 A s H hv
  unfold vq_M_match_92 at hv
  unfold wq_M_match_92
  refine me_if hv (fun hv => ?_) (fun hv => ?_)
  · exact vsq_M_match_124 hQ  _ _ _ _ H hv
  · refine me_if hv (fun hv => ?_) (fun hv => ?_)
    · exact hQ _ _ _ H hv
    · refine me_gI H rfl (Nat.le_of_ble_eq_true rfl) hv (fun x7 hv => ?_)
      refine me_if hv (fun hv => ?_) (fun hv => ?_)
      · exact vsq_M_match_119 hQ  _ _ _ _ _ _ H hv
      · exact vsq_M_match_119 hQ  _ _ _ _ _ _ H hv
def vq_M_match_82 (p0 : Int32) (p1 : Int32) (Q : Int32 → RS → Prop)  (u3 : Int32) (u4 : Int32) (s : RS) : Prop := if p1 < (3 : Int32) then (vq_M_match_92 p0 p1 Q  u3 u4 (0 : Int32) s) else (vq_M_match_92 p0 p1 Q  u3 u4 (1 : Int32) s)
set_option maxRecDepth 100000 in
set_option maxHeartbeats 4000000 in
theorem vsq_M_match_82 {A0 : ab_H} {a : Nat} {R : Nat → Nat} {p0 : Int32} {p1 : Int32} {Q : Int32 → ab_H → Prop} {QV : Int32 → RS → Prop}  (hQ : ∀ v (s : RS) (A : ab_H), Me A0 A a R s → QV v s → Q v A)  : ∀ (u3 : Int32) (u4 : Int32) (A : ab_H) (s : RS), Me A0 A a R s → vq_M_match_82 p0 p1 QV  u3 u4 s → wq_M_match_82 a p0 p1 Q  u3 u4 A := by
  intro u3 u4 A s H hv
  unfold vq_M_match_82 at hv
  unfold wq_M_match_82
  refine me_if hv (fun hv => ?_) (fun hv => ?_)
  · exact vsq_M_match_92 hQ  _ _ _ _ _ H hv
  · exact vsq_M_match_92 hQ  _ _ _ _ _ H hv
def vb_M_match_55 (p0 : Int32) (p1 : Int32) (Q : Int32 → RS → Prop)  (k55 : Int32 → Int32 → RS → Prop) (u3 : Int32) (u4 : Int32) (s : RS) : Prop := wL (s.1 10) (fun x8 => if x8 ≤ u4 then (vq_M_match_82 p0 p1 Q  u3 u4 s) else (vA s 9 u4 (fun x9 => if x9 = (32 : Int32) then (vq_M_match_82 p0 p1 Q  u3 u4 s) else (k55 u3 (u4 + 1) s))))
def vq_M_match_55 (p0 : Int32) (p1 : Int32) (Q : Int32 → RS → Prop)  : Nat → Int32 → Int32 → RS → Prop
  | 0 => fun _ _ _ => False
  | n + 1 => vb_M_match_55 p0 p1 Q  (vq_M_match_55 p0 p1 Q  n)
set_option maxRecDepth 100000 in
set_option maxHeartbeats 4000000 in
theorem vsq_M_match_55 {A0 : ab_H} {a : Nat} {R : Nat → Nat} {p0 : Int32} {p1 : Int32} {Q : Int32 → ab_H → Prop} {QV : Int32 → RS → Prop}  (hQ : ∀ v (s : RS) (A : ab_H), Me A0 A a R s → QV v s → Q v A)  : ∀ (n : Nat) (u3 : Int32) (u4 : Int32) (A : ab_H) (s : RS), Me A0 A a R s → vq_M_match_55 p0 p1 QV  n u3 u4 s → wq_M_match_55 a p0 p1 Q  n u3 u4 A := by
  intro n
  induction n with
  | zero =>
    intro u3 u4 A s H hv
    exact absurd hv id
  | succ n hk55 =>
    intro u3 u4 A s H hv
    have hv : vb_M_match_55 p0 p1 QV  (vq_M_match_55 p0 p1 QV  n) u3 u4 s := hv
    show wb_M_match_55 a p0 p1 Q  (wq_M_match_55 a p0 p1 Q  n) u3 u4 A
    unfold vb_M_match_55 at hv
    unfold wb_M_match_55
    refine me_gI H rfl (Nat.le_of_ble_eq_true rfl) hv (fun x8 hv => ?_)
    refine me_if hv (fun hv => ?_) (fun hv => ?_)
    · exact vsq_M_match_82 hQ  _ _ _ _ H hv
    · refine me_gR H rfl (Nat.le_of_ble_eq_true rfl) ?_
      refine me_l H rfl rfl hv (fun x9 hv => ?_)
      refine me_if hv (fun hv => ?_) (fun hv => ?_)
      · exact vsq_M_match_82 hQ  _ _ _ _ H hv
      · exact hk55 _ _ _ _ H hv
def vq_M_match_39 (p0 : Int32) (p1 : Int32) (Q : Int32 → RS → Prop)  (u3 : Int32) (s0 : Int32) (s1 : Int32) (s : RS) : Prop := if s1 < s0 then (Q (0 : Int32) s) else (wL (s.1 16) (fun x10 => if x10 = (4 : Int32) then (Q (0 : Int32) s) else (∃ n, vq_M_match_55 p0 p1 Q  n u3 (0 : Int32) s)))
set_option maxRecDepth 100000 in
set_option maxHeartbeats 4000000 in
theorem vsq_M_match_39 {A0 : ab_H} {a : Nat} {R : Nat → Nat} {p0 : Int32} {p1 : Int32} {Q : Int32 → ab_H → Prop} {QV : Int32 → RS → Prop}  (hQ : ∀ v (s : RS) (A : ab_H), Me A0 A a R s → QV v s → Q v A)  : ∀ (u3 : Int32) (s0 : Int32) (s1 : Int32) (A : ab_H) (s : RS), Me A0 A a R s → vq_M_match_39 p0 p1 QV  u3 s0 s1 s → wq_M_match_39 a p0 p1 Q  u3 s0 s1 A := by
  intro u3 s0 s1 A s H hv
  unfold vq_M_match_39 at hv
  unfold wq_M_match_39
  refine me_if hv (fun hv => ?_) (fun hv => ?_)
  · exact hQ _ _ _ H hv
  · refine me_gI H rfl (Nat.le_of_ble_eq_true rfl) hv (fun x10 hv => ?_)
    refine me_if hv (fun hv => ?_) (fun hv => ?_)
    · exact hQ _ _ _ H hv
    · obtain ⟨n, hv⟩ := hv
      exact ⟨n, vsq_M_match_55 hQ  n _ _ _ _ H hv⟩
def vq_M_match_15 (p0 : Int32) (p1 : Int32) (Q : Int32 → RS → Prop)  (s0 : Int32) (s : RS) : Prop := if p0 < 0 then (Q (0 : Int32) s) else (if (4 : Int32) < p0 then (Q (0 : Int32) s) else (if p1 < 0 then (Q (0 : Int32) s) else (if s0 = 0 then (vq_M_match_39 p0 p1 Q  s0 p1 (2 : Int32) s) else (vq_M_match_39 p0 p1 Q  s0 p1 (4 : Int32) s))))
set_option maxRecDepth 100000 in
set_option maxHeartbeats 4000000 in
theorem vsq_M_match_15 {A0 : ab_H} {a : Nat} {R : Nat → Nat} {p0 : Int32} {p1 : Int32} {Q : Int32 → ab_H → Prop} {QV : Int32 → RS → Prop}  (hQ : ∀ v (s : RS) (A : ab_H), Me A0 A a R s → QV v s → Q v A)  : ∀ (s0 : Int32) (A : ab_H) (s : RS), Me A0 A a R s → vq_M_match_15 p0 p1 QV  s0 s → wq_M_match_15 a p0 p1 Q  s0 A := by
  intro s0 A s H hv
  unfold vq_M_match_15 at hv
  unfold wq_M_match_15
  refine me_if hv (fun hv => ?_) (fun hv => ?_)
  · exact hQ _ _ _ H hv
  · refine me_if hv (fun hv => ?_) (fun hv => ?_)
    · exact hQ _ _ _ H hv
    · refine me_if hv (fun hv => ?_) (fun hv => ?_)
      · exact hQ _ _ _ H hv
      · refine me_if hv (fun hv => ?_) (fun hv => ?_)
        · exact vsq_M_match_39 hQ  _ _ _ _ _ H hv
        · exact vsq_M_match_39 hQ  _ _ _ _ _ H hv
def vq_M_match_10 (p0 : Int32) (p1 : Int32) (Q : Int32 → RS → Prop)   (s : RS) : Prop := vq_M_match_15 p0 p1 Q  (1 : Int32) s
set_option maxRecDepth 100000 in
set_option maxHeartbeats 4000000 in
theorem vsq_M_match_10 {A0 : ab_H} {a : Nat} {R : Nat → Nat} {p0 : Int32} {p1 : Int32} {Q : Int32 → ab_H → Prop} {QV : Int32 → RS → Prop}  (hQ : ∀ v (s : RS) (A : ab_H), Me A0 A a R s → QV v s → Q v A)  : ∀ (A : ab_H) (s : RS), Me A0 A a R s → vq_M_match_10 p0 p1 QV   s → wq_M_match_10 a p0 p1 Q   A := by
  intro  A s H hv
  unfold vq_M_match_10 at hv
  unfold wq_M_match_10
  exact vsq_M_match_15 hQ  _ _ _ H hv
def vp_M_match (p0 : Int32) (p1 : Int32) (s : RS) (Q : Int32 → RS → Prop) : Prop := if p0 = (2 : Int32) then (vq_M_match_10 p0 p1 Q   s) else (if p0 = (3 : Int32) then (vq_M_match_10 p0 p1 Q   s) else (vq_M_match_15 p0 p1 Q  (0 : Int32) s))
set_option maxRecDepth 100000 in
set_option maxHeartbeats 4000000 in
theorem vs_M_match {A0 : ab_H} {a : Nat} {R : Nat → Nat} {p0 : Int32} {p1 : Int32} {A : ab_H} {s : RS} {Q : Int32 → ab_H → Prop} {QV : Int32 → RS → Prop} (H : Me A0 A a R s) (hv : vp_M_match p0 p1 s QV) (hQ : ∀ v (s : RS) (A : ab_H), Me A0 A a R s → QV v s → Q v A) : wp_M_match a p0 p1 A Q := by
  unfold vp_M_match at hv
  unfold wp_M_match
  refine me_if hv (fun hv => ?_) (fun hv => ?_)
  · exact vsq_M_match_10 hQ  _ _ H hv
  · refine me_if hv (fun hv => ?_) (fun hv => ?_)
    · exact vsq_M_match_10 hQ  _ _ H hv
    · exact vsq_M_match_15 hQ  _ _ _ H hv
def vq_M_stub_227 (p0 : Int32) (p1 : Int32) (Q : Int32 → RS → Prop)  (u3 : Int32) (s : RS) : Prop := wL (s.1 10) (fun x1 => vS s 23 u3 x1 (fun s => wL (s.1 17) (fun x2 => vS s 18 u3 x2 (fun s => vS s 19 u3 p0 (fun s => vS s 20 u3 p1 (fun s => wL (s.1 16) (fun x3 => vS s 21 u3 x3 (fun s => vS s 24 u3 ((-1) : Int32) (fun s => vP s 16 (0 : Int32) (fun s => vP s 10 (0 : Int32) (fun s => wL (s.1 17) (fun x4 => vP s 17 (x4 + (1 : Int32)) (fun s => wL (s.1 17) (fun x5 => Q (x5 - (1 : Int32)) s))))))))))))))
set_option maxRecDepth 100000 in
set_option maxHeartbeats 4000000 in
theorem vsq_M_stub_227 {A0 : ab_H} {a : Nat} {R : Nat → Nat} {p0 : Int32} {p1 : Int32} {Q : Int32 → ab_H → Prop} {QV : Int32 → RS → Prop}  (hQ : ∀ v (s : RS) (A : ab_H), Me A0 A a R s → QV v s → Q v A)  : ∀ (u3 : Int32) (A : ab_H) (s : RS), Me A0 A a R s → vq_M_stub_227 p0 p1 QV  u3 s → wq_M_stub_227 a p0 p1 Q  u3 A := by
  intro u3 A s H hv
  unfold vq_M_stub_227 at hv
  unfold wq_M_stub_227
  refine me_gR H rfl (Nat.le_of_ble_eq_true rfl) ?_
  refine me_gI H rfl (Nat.le_of_ble_eq_true rfl) hv (fun x1 hv => ?_)
  refine me_s H rfl rfl hv (fun A s H hv => ?_)
  refine me_gR H rfl (Nat.le_of_ble_eq_true rfl) ?_
  refine me_gI H rfl (Nat.le_of_ble_eq_true rfl) hv (fun x2 hv => ?_)
  refine me_s H rfl rfl hv (fun A s H hv => ?_)
  refine me_gR H rfl (Nat.le_of_ble_eq_true rfl) ?_
  refine me_s H rfl rfl hv (fun A s H hv => ?_)
  refine me_gR H rfl (Nat.le_of_ble_eq_true rfl) ?_
  refine me_s H rfl rfl hv (fun A s H hv => ?_)
  refine me_gR H rfl (Nat.le_of_ble_eq_true rfl) ?_
  refine me_gI H rfl (Nat.le_of_ble_eq_true rfl) hv (fun x3 hv => ?_)
  refine me_s H rfl rfl hv (fun A s H hv => ?_)
  refine me_gR H rfl (Nat.le_of_ble_eq_true rfl) ?_
  refine me_s H rfl rfl hv (fun A s H hv => ?_)
  refine me_p H rfl (Nat.le_of_ble_eq_true rfl) hv (fun A s H hv => ?_)
  refine me_p H rfl (Nat.le_of_ble_eq_true rfl) hv (fun A s H hv => ?_)
  refine me_gI H rfl (Nat.le_of_ble_eq_true rfl) hv (fun x4 hv => ?_)
  refine me_p H rfl (Nat.le_of_ble_eq_true rfl) hv (fun A s H hv => ?_)
  refine me_gI H rfl (Nat.le_of_ble_eq_true rfl) hv (fun x5 hv => ?_)
  exact hQ _ _ _ H hv
def vb_M_stub_193 (p0 : Int32) (p1 : Int32) (Q : Int32 → RS → Prop)  (k193 : Int32 → Int32 → RS → Prop) (u3 : Int32) (u4 : Int32) (s : RS) : Prop := wL (s.1 10) (fun x6 => if x6 ≤ u4 then (vq_M_stub_227 p0 p1 Q  u3 s) else (vA s 9 u4 (fun x7 => vS s 22 (((40 : Int32) * u3) + u4) x7 (fun s => k193 u3 (u4 + 1) s))))
def vq_M_stub_193 (p0 : Int32) (p1 : Int32) (Q : Int32 → RS → Prop)  : Nat → Int32 → Int32 → RS → Prop
  | 0 => fun _ _ _ => False
  | n + 1 => vb_M_stub_193 p0 p1 Q  (vq_M_stub_193 p0 p1 Q  n)
set_option maxRecDepth 100000 in
set_option maxHeartbeats 4000000 in
theorem vsq_M_stub_193 {A0 : ab_H} {a : Nat} {R : Nat → Nat} {p0 : Int32} {p1 : Int32} {Q : Int32 → ab_H → Prop} {QV : Int32 → RS → Prop}  (hQ : ∀ v (s : RS) (A : ab_H), Me A0 A a R s → QV v s → Q v A)  : ∀ (n : Nat) (u3 : Int32) (u4 : Int32) (A : ab_H) (s : RS), Me A0 A a R s → vq_M_stub_193 p0 p1 QV  n u3 u4 s → wq_M_stub_193 a p0 p1 Q  n u3 u4 A := by
  intro n
  induction n with
  | zero =>
    intro u3 u4 A s H hv
    exact absurd hv id
  | succ n hk193 =>
    intro u3 u4 A s H hv
    have hv : vb_M_stub_193 p0 p1 QV  (vq_M_stub_193 p0 p1 QV  n) u3 u4 s := hv
    show wb_M_stub_193 a p0 p1 Q  (wq_M_stub_193 a p0 p1 Q  n) u3 u4 A
    unfold vb_M_stub_193 at hv
    unfold wb_M_stub_193
    refine me_gI H rfl (Nat.le_of_ble_eq_true rfl) hv (fun x6 hv => ?_)
    refine me_if hv (fun hv => ?_) (fun hv => ?_)
    · exact vsq_M_stub_227 hQ  _ _ _ H hv
    · refine me_gR H rfl (Nat.le_of_ble_eq_true rfl) ?_
      refine me_gR H rfl (Nat.le_of_ble_eq_true rfl) ?_
      refine me_l H rfl rfl hv (fun x7 hv => ?_)
      refine me_s H rfl rfl hv (fun A s H hv => ?_)
      exact hk193 _ _ _ _ H hv
def vq_M_stub_190 (p0 : Int32) (p1 : Int32) (Q : Int32 → RS → Prop)  (u3 : Int32) (s : RS) : Prop := ∃ n, vq_M_stub_193 p0 p1 Q  n u3 (0 : Int32) s
set_option maxRecDepth 100000 in
set_option maxHeartbeats 4000000 in
theorem vsq_M_stub_190 {A0 : ab_H} {a : Nat} {R : Nat → Nat} {p0 : Int32} {p1 : Int32} {Q : Int32 → ab_H → Prop} {QV : Int32 → RS → Prop}  (hQ : ∀ v (s : RS) (A : ab_H), Me A0 A a R s → QV v s → Q v A)  : ∀ (u3 : Int32) (A : ab_H) (s : RS), Me A0 A a R s → vq_M_stub_190 p0 p1 QV  u3 s → wq_M_stub_190 a p0 p1 Q  u3 A := by
  intro u3 A s H hv
  unfold vq_M_stub_190 at hv
  unfold wq_M_stub_190
  obtain ⟨n, hv⟩ := hv
  exact ⟨n, vsq_M_stub_193 hQ  n _ _ _ _ H hv⟩
def vb_M_stub_145 (p0 : Int32) (p1 : Int32) (Q : Int32 → RS → Prop) (k67 : Int32 → Int32 → RS → Prop) (k145 : Int32 → Int32 → Int32 → Int32 → RS → Prop) (u3 : Int32) (u4 : Int32) (u5 : Int32) (u6 : Int32) (s : RS) : Prop := if (40 : Int32) ≤ u6 then (k67 u3 (u4 + 1) s) else (vA s 15 (((40 : Int32) * u4) + u6) (fun x8 => vS s 15 (((40 : Int32) * u5) + u6) x8 (fun s => k145 u3 u4 u5 (u6 + 1) s)))
def vq_M_stub_145 (p0 : Int32) (p1 : Int32) (Q : Int32 → RS → Prop) (k67 : Int32 → Int32 → RS → Prop) : Nat → Int32 → Int32 → Int32 → Int32 → RS → Prop
  | 0 => fun _ _ _ _ _ => False
  | n + 1 => vb_M_stub_145 p0 p1 Q k67 (vq_M_stub_145 p0 p1 Q k67 n)
set_option maxRecDepth 100000 in
set_option maxHeartbeats 4000000 in
theorem vsq_M_stub_145 {A0 : ab_H} {a : Nat} {R : Nat → Nat} {p0 : Int32} {p1 : Int32} {Q : Int32 → ab_H → Prop} {QV : Int32 → RS → Prop} {k67 : Int32 → Int32 → ab_H → Prop} {kv67 : Int32 → Int32 → RS → Prop} (hQ : ∀ v (s : RS) (A : ab_H), Me A0 A a R s → QV v s → Q v A) (hk67 : ∀ (u3 : Int32) (u4 : Int32) (A : ab_H) (s : RS), Me A0 A a R s → kv67 u3 u4 s → k67 u3 u4 A) : ∀ (n : Nat) (u3 : Int32) (u4 : Int32) (u5 : Int32) (u6 : Int32) (A : ab_H) (s : RS), Me A0 A a R s → vq_M_stub_145 p0 p1 QV kv67 n u3 u4 u5 u6 s → wq_M_stub_145 a p0 p1 Q k67 n u3 u4 u5 u6 A := by
  intro n
  induction n with
  | zero =>
    intro u3 u4 u5 u6 A s H hv
    exact absurd hv id
  | succ n hk145 =>
    intro u3 u4 u5 u6 A s H hv
    have hv : vb_M_stub_145 p0 p1 QV kv67 (vq_M_stub_145 p0 p1 QV kv67 n) u3 u4 u5 u6 s := hv
    show wb_M_stub_145 a p0 p1 Q k67 (wq_M_stub_145 a p0 p1 Q k67 n) u3 u4 u5 u6 A
    unfold vb_M_stub_145 at hv
    unfold wb_M_stub_145
    refine me_if hv (fun hv => ?_) (fun hv => ?_)
    · exact hk67 _ _ _ _ H hv
    · refine me_gR H rfl (Nat.le_of_ble_eq_true rfl) ?_
      refine me_gR H rfl (Nat.le_of_ble_eq_true rfl) ?_
      refine me_l H rfl rfl hv (fun x8 hv => ?_)
      refine me_s H rfl rfl hv (fun A s H hv => ?_)
      exact hk145 _ _ _ _ _ _ H hv
def vb_M_stub_67 (p0 : Int32) (p1 : Int32) (Q : Int32 → RS → Prop)  (k67 : Int32 → Int32 → RS → Prop) (u3 : Int32) (u4 : Int32) (s : RS) : Prop := wL (s.1 16) (fun x9 => if x9 ≤ u4 then (vq_M_stub_190 p0 p1 Q  u3 s) else (wL (((((4 : Int32) * u3) + (4 : Int32)) + u4)) (fun x10 => vA s 11 u4 (fun x11 => vS s 11 x10 x11 (fun s => vA s 12 u4 (fun x12 => vS s 12 x10 x12 (fun s => vA s 13 u4 (fun x13 => vS s 13 x10 x13 (fun s => vA s 14 u4 (fun x14 => vS s 14 x10 x14 (fun s => ∃ n, vq_M_stub_145 p0 p1 Q k67 n u3 u4 x10 (0 : Int32) s)))))))))))
def vq_M_stub_67 (p0 : Int32) (p1 : Int32) (Q : Int32 → RS → Prop)  : Nat → Int32 → Int32 → RS → Prop
  | 0 => fun _ _ _ => False
  | n + 1 => vb_M_stub_67 p0 p1 Q  (vq_M_stub_67 p0 p1 Q  n)
set_option maxRecDepth 100000 in
set_option maxHeartbeats 4000000 in
theorem vsq_M_stub_67 {A0 : ab_H} {a : Nat} {R : Nat → Nat} {p0 : Int32} {p1 : Int32} {Q : Int32 → ab_H → Prop} {QV : Int32 → RS → Prop}  (hQ : ∀ v (s : RS) (A : ab_H), Me A0 A a R s → QV v s → Q v A)  : ∀ (n : Nat) (u3 : Int32) (u4 : Int32) (A : ab_H) (s : RS), Me A0 A a R s → vq_M_stub_67 p0 p1 QV  n u3 u4 s → wq_M_stub_67 a p0 p1 Q  n u3 u4 A := by
  intro n
  induction n with
  | zero =>
    intro u3 u4 A s H hv
    exact absurd hv id
  | succ n hk67 =>
    intro u3 u4 A s H hv
    have hv : vb_M_stub_67 p0 p1 QV  (vq_M_stub_67 p0 p1 QV  n) u3 u4 s := hv
    show wb_M_stub_67 a p0 p1 Q  (wq_M_stub_67 a p0 p1 Q  n) u3 u4 A
    unfold vb_M_stub_67 at hv
    unfold wb_M_stub_67
    refine me_gI H rfl (Nat.le_of_ble_eq_true rfl) hv (fun x9 hv => ?_)
    refine me_if hv (fun hv => ?_) (fun hv => ?_)
    · exact vsq_M_stub_190 hQ  _ _ _ H hv
    · refine vl_let hv (fun x10 hv => ?_)
      refine me_gR H rfl (Nat.le_of_ble_eq_true rfl) ?_
      refine me_gR H rfl (Nat.le_of_ble_eq_true rfl) ?_
      refine me_l H rfl rfl hv (fun x11 hv => ?_)
      refine me_s H rfl rfl hv (fun A s H hv => ?_)
      refine me_gR H rfl (Nat.le_of_ble_eq_true rfl) ?_
      refine me_gR H rfl (Nat.le_of_ble_eq_true rfl) ?_
      refine me_l H rfl rfl hv (fun x12 hv => ?_)
      refine me_s H rfl rfl hv (fun A s H hv => ?_)
      refine me_gR H rfl (Nat.le_of_ble_eq_true rfl) ?_
      refine me_gR H rfl (Nat.le_of_ble_eq_true rfl) ?_
      refine me_l H rfl rfl hv (fun x13 hv => ?_)
      refine me_s H rfl rfl hv (fun A s H hv => ?_)
      refine me_gR H rfl (Nat.le_of_ble_eq_true rfl) ?_
      refine me_gR H rfl (Nat.le_of_ble_eq_true rfl) ?_
      refine me_l H rfl rfl hv (fun x14 hv => ?_)
      refine me_s H rfl rfl hv (fun A s H hv => ?_)
      obtain ⟨n, hv⟩ := hv
      exact ⟨n, vsq_M_stub_145 hQ hk67 n _ _ _ _ _ _ H hv⟩
def vq_M_stub_35 (p0 : Int32) (p1 : Int32) (Q : Int32 → RS → Prop)  (u3 : Int32) (s : RS) : Prop := if p0 < 0 then (Q ((-1) : Int32) s) else (if (9 : Int32) < p0 then (Q ((-1) : Int32) s) else (if p1 < (100 : Int32) then (Q ((-1) : Int32) s) else (if (599 : Int32) < p1 then (Q ((-1) : Int32) s) else (if 0 ≤ u3 then (∃ n, vq_M_stub_67 p0 p1 Q  n u3 (0 : Int32) s) else (Q ((-1) : Int32) s)))))
set_option maxRecDepth 100000 in
set_option maxHeartbeats 4000000 in
theorem vsq_M_stub_35 {A0 : ab_H} {a : Nat} {R : Nat → Nat} {p0 : Int32} {p1 : Int32} {Q : Int32 → ab_H → Prop} {QV : Int32 → RS → Prop}  (hQ : ∀ v (s : RS) (A : ab_H), Me A0 A a R s → QV v s → Q v A)  : ∀ (u3 : Int32) (A : ab_H) (s : RS), Me A0 A a R s → vq_M_stub_35 p0 p1 QV  u3 s → wq_M_stub_35 a p0 p1 Q  u3 A := by
  intro u3 A s H hv
  unfold vq_M_stub_35 at hv
  unfold wq_M_stub_35
  refine me_if hv (fun hv => ?_) (fun hv => ?_)
  · exact hQ _ _ _ H hv
  · refine me_if hv (fun hv => ?_) (fun hv => ?_)
    · exact hQ _ _ _ H hv
    · refine me_if hv (fun hv => ?_) (fun hv => ?_)
      · exact hQ _ _ _ H hv
      · refine me_if hv (fun hv => ?_) (fun hv => ?_)
        · exact hQ _ _ _ H hv
        · refine me_if hv (fun hv => ?_) (fun hv => ?_)
          · obtain ⟨n, hv⟩ := hv
            exact ⟨n, vsq_M_stub_67 hQ  n _ _ _ _ H hv⟩
          · exact hQ _ _ _ H hv
def vb_M_stub_5 (p0 : Int32) (p1 : Int32) (Q : Int32 → RS → Prop)  (k5 : Int32 → Int32 → RS → Prop) (u3 : Int32) (u4 : Int32) (s : RS) : Prop := if (8 : Int32) ≤ u4 then (vq_M_stub_35 p0 p1 Q  u3 s) else (vA s 18 u4 (fun x15 => if 0 ≤ x15 then (k5 u3 (u4 + 1) s) else (k5 u4 (u4 + 1) s)))
def vq_M_stub_5 (p0 : Int32) (p1 : Int32) (Q : Int32 → RS → Prop)  : Nat → Int32 → Int32 → RS → Prop
  | 0 => fun _ _ _ => False
  | n + 1 => vb_M_stub_5 p0 p1 Q  (vq_M_stub_5 p0 p1 Q  n)
set_option maxRecDepth 100000 in
set_option maxHeartbeats 4000000 in
theorem vsq_M_stub_5 {A0 : ab_H} {a : Nat} {R : Nat → Nat} {p0 : Int32} {p1 : Int32} {Q : Int32 → ab_H → Prop} {QV : Int32 → RS → Prop}  (hQ : ∀ v (s : RS) (A : ab_H), Me A0 A a R s → QV v s → Q v A)  : ∀ (n : Nat) (u3 : Int32) (u4 : Int32) (A : ab_H) (s : RS), Me A0 A a R s → vq_M_stub_5 p0 p1 QV  n u3 u4 s → wq_M_stub_5 a p0 p1 Q  n u3 u4 A := by
  intro n
  induction n with
  | zero =>
    intro u3 u4 A s H hv
    exact absurd hv id
  | succ n hk5 =>
    intro u3 u4 A s H hv
    have hv : vb_M_stub_5 p0 p1 QV  (vq_M_stub_5 p0 p1 QV  n) u3 u4 s := hv
    show wb_M_stub_5 a p0 p1 Q  (wq_M_stub_5 a p0 p1 Q  n) u3 u4 A
    unfold vb_M_stub_5 at hv
    unfold wb_M_stub_5
    refine me_if hv (fun hv => ?_) (fun hv => ?_)
    · exact vsq_M_stub_35 hQ  _ _ _ H hv
    · refine me_gR H rfl (Nat.le_of_ble_eq_true rfl) ?_
      refine me_l H rfl rfl hv (fun x15 hv => ?_)
      refine me_if hv (fun hv => ?_) (fun hv => ?_)
      · exact hk5 _ _ _ _ H hv
      · exact hk5 _ _ _ _ H hv
def vp_M_stub (p0 : Int32) (p1 : Int32) (s : RS) (Q : Int32 → RS → Prop) : Prop := ∃ n, vq_M_stub_5 p0 p1 Q  n ((-1) : Int32) (0 : Int32) s
set_option maxRecDepth 100000 in
set_option maxHeartbeats 4000000 in
theorem vs_M_stub {A0 : ab_H} {a : Nat} {R : Nat → Nat} {p0 : Int32} {p1 : Int32} {A : ab_H} {s : RS} {Q : Int32 → ab_H → Prop} {QV : Int32 → RS → Prop} (H : Me A0 A a R s) (hv : vp_M_stub p0 p1 s QV) (hQ : ∀ v (s : RS) (A : ab_H), Me A0 A a R s → QV v s → Q v A) : wp_M_stub a p0 p1 A Q := by
  unfold vp_M_stub at hv
  unfold wp_M_stub
  obtain ⟨n, hv⟩ := hv
  exact ⟨n, vsq_M_stub_5 hQ  n _ _ _ _ H hv⟩
def vb_M_placeOf_4 (p0 : Int32) (Q : Int32 → RS → Prop)  (k4 : Int32 → Int32 → RS → Prop) (u2 : Int32) (u3 : Int32) (s : RS) : Prop := if (8 : Int32) ≤ u3 then (Q u2 s) else (if p0 < 0 then (k4 u2 (u3 + 1) s) else (vA s 18 u3 (fun x1 => if x1 = p0 then (k4 u3 (u3 + 1) s) else (k4 u2 (u3 + 1) s))))
def vq_M_placeOf_4 (p0 : Int32) (Q : Int32 → RS → Prop)  : Nat → Int32 → Int32 → RS → Prop
  | 0 => fun _ _ _ => False
  | n + 1 => vb_M_placeOf_4 p0 Q  (vq_M_placeOf_4 p0 Q  n)
set_option maxRecDepth 100000 in
set_option maxHeartbeats 4000000 in
theorem vsq_M_placeOf_4 {A0 : ab_H} {a : Nat} {R : Nat → Nat} {p0 : Int32} {Q : Int32 → ab_H → Prop} {QV : Int32 → RS → Prop}  (hQ : ∀ v (s : RS) (A : ab_H), Me A0 A a R s → QV v s → Q v A)  : ∀ (n : Nat) (u2 : Int32) (u3 : Int32) (A : ab_H) (s : RS), Me A0 A a R s → vq_M_placeOf_4 p0 QV  n u2 u3 s → wq_M_placeOf_4 a p0 Q  n u2 u3 A := by
  intro n
  induction n with
  | zero =>
    intro u2 u3 A s H hv
    exact absurd hv id
  | succ n hk4 =>
    intro u2 u3 A s H hv
    have hv : vb_M_placeOf_4 p0 QV  (vq_M_placeOf_4 p0 QV  n) u2 u3 s := hv
    show wb_M_placeOf_4 a p0 Q  (wq_M_placeOf_4 a p0 Q  n) u2 u3 A
    unfold vb_M_placeOf_4 at hv
    unfold wb_M_placeOf_4
    refine me_if hv (fun hv => ?_) (fun hv => ?_)
    · exact hQ _ _ _ H hv
    · refine me_if hv (fun hv => ?_) (fun hv => ?_)
      · exact hk4 _ _ _ _ H hv
      · refine me_gR H rfl (Nat.le_of_ble_eq_true rfl) ?_
        refine me_l H rfl rfl hv (fun x1 hv => ?_)
        refine me_if hv (fun hv => ?_) (fun hv => ?_)
        · exact hk4 _ _ _ _ H hv
        · exact hk4 _ _ _ _ H hv
def vp_M_placeOf (p0 : Int32) (s : RS) (Q : Int32 → RS → Prop) : Prop := ∃ n, vq_M_placeOf_4 p0 Q  n ((-1) : Int32) (0 : Int32) s
set_option maxRecDepth 100000 in
set_option maxHeartbeats 4000000 in
theorem vs_M_placeOf {A0 : ab_H} {a : Nat} {R : Nat → Nat} {p0 : Int32} {A : ab_H} {s : RS} {Q : Int32 → ab_H → Prop} {QV : Int32 → RS → Prop} (H : Me A0 A a R s) (hv : vp_M_placeOf p0 s QV) (hQ : ∀ v (s : RS) (A : ab_H), Me A0 A a R s → QV v s → Q v A) : wp_M_placeOf a p0 A Q := by
  unfold vp_M_placeOf at hv
  unfold wp_M_placeOf
  obtain ⟨n, hv⟩ := hv
  exact ⟨n, vsq_M_placeOf_4 hQ  n _ _ _ _ H hv⟩
def vp_M_scene (p0 : Int32) (p1 : Int32) (p2 : Int32) (p3 : Int32) (s : RS) (Q : Int32 → RS → Prop) : Prop := vp_M_placeOf p0 s (fun x1 s => if x1 < 0 then (Q (0 : Int32) s) else (if p1 < 0 then (Q (0 : Int32) s) else (if (2 : Int32) < p1 then (Q (0 : Int32) s) else (if p2 < 0 then (Q (0 : Int32) s) else (if (3 : Int32) < p2 then (Q (0 : Int32) s) else (if p3 < 0 then (Q (0 : Int32) s) else (if p3 ≤ (3 : Int32) then (vS s 24 x1 p1 (fun s => vS s 25 x1 p2 (fun s => vS s 26 x1 p3 (fun s => Q (1 : Int32) s)))) else (Q (0 : Int32) s))))))))
set_option maxRecDepth 100000 in
set_option maxHeartbeats 4000000 in
theorem vs_M_scene {A0 : ab_H} {a : Nat} {R : Nat → Nat} {p0 : Int32} {p1 : Int32} {p2 : Int32} {p3 : Int32} {A : ab_H} {s : RS} {Q : Int32 → ab_H → Prop} {QV : Int32 → RS → Prop} (H : Me A0 A a R s) (hv : vp_M_scene p0 p1 p2 p3 s QV) (hQ : ∀ v (s : RS) (A : ab_H), Me A0 A a R s → QV v s → Q v A) : wp_M_scene a p0 p1 p2 p3 A Q := by
  unfold vp_M_scene at hv
  unfold wp_M_scene
  refine me_c H (vs_M_placeOf H hv (fun x1 s A H hv => ?_))
  refine me_if hv (fun hv => ?_) (fun hv => ?_)
  · exact hQ _ _ _ H hv
  · refine me_if hv (fun hv => ?_) (fun hv => ?_)
    · exact hQ _ _ _ H hv
    · refine me_if hv (fun hv => ?_) (fun hv => ?_)
      · exact hQ _ _ _ H hv
      · refine me_if hv (fun hv => ?_) (fun hv => ?_)
        · exact hQ _ _ _ H hv
        · refine me_if hv (fun hv => ?_) (fun hv => ?_)
          · exact hQ _ _ _ H hv
          · refine me_if hv (fun hv => ?_) (fun hv => ?_)
            · exact hQ _ _ _ H hv
            · refine me_if hv (fun hv => ?_) (fun hv => ?_)
              · refine me_gR H rfl (Nat.le_of_ble_eq_true rfl) ?_
                refine me_s H rfl rfl hv (fun A s H hv => ?_)
                refine me_gR H rfl (Nat.le_of_ble_eq_true rfl) ?_
                refine me_s H rfl rfl hv (fun A s H hv => ?_)
                refine me_gR H rfl (Nat.le_of_ble_eq_true rfl) ?_
                refine me_s H rfl rfl hv (fun A s H hv => ?_)
                exact hQ _ _ _ H hv
              · exact hQ _ _ _ H hv
def vp_M_remove (p0 : Int32) (s : RS) (Q : Int32 → RS → Prop) : Prop := vp_M_placeOf p0 s (fun x1 s => if 0 ≤ x1 then (vS s 18 x1 ((-1) : Int32) (fun s => Q (1 : Int32) s)) else (Q (0 : Int32) s))
set_option maxRecDepth 100000 in
set_option maxHeartbeats 4000000 in
theorem vs_M_remove {A0 : ab_H} {a : Nat} {R : Nat → Nat} {p0 : Int32} {A : ab_H} {s : RS} {Q : Int32 → ab_H → Prop} {QV : Int32 → RS → Prop} (H : Me A0 A a R s) (hv : vp_M_remove p0 s QV) (hQ : ∀ v (s : RS) (A : ab_H), Me A0 A a R s → QV v s → Q v A) : wp_M_remove a p0 A Q := by
  unfold vp_M_remove at hv
  unfold wp_M_remove
  refine me_c H (vs_M_placeOf H hv (fun x1 s A H hv => ?_))
  refine me_if hv (fun hv => ?_) (fun hv => ?_)
  · refine me_gR H rfl (Nat.le_of_ble_eq_true rfl) ?_
    refine me_s H rfl rfl hv (fun A s H hv => ?_)
    exact hQ _ _ _ H hv
  · exact hQ _ _ _ H hv
def vb_M_reset_12  (Q : Int32 → RS → Prop)  (k12 : Int32 → Int32 → RS → Prop) (u1 : Int32) (u2 : Int32) (s : RS) : Prop := if (3 : Int32) ≤ u2 then (Q u1 s) else (vS s 8 u2 (0 : Int32) (fun s => k12 u1 (u2 + 1) s))
def vq_M_reset_12  (Q : Int32 → RS → Prop)  : Nat → Int32 → Int32 → RS → Prop
  | 0 => fun _ _ _ => False
  | n + 1 => vb_M_reset_12  Q  (vq_M_reset_12  Q  n)
set_option maxRecDepth 100000 in
set_option maxHeartbeats 4000000 in
theorem vsq_M_reset_12 {A0 : ab_H} {a : Nat} {R : Nat → Nat}  {Q : Int32 → ab_H → Prop} {QV : Int32 → RS → Prop}  (hQ : ∀ v (s : RS) (A : ab_H), Me A0 A a R s → QV v s → Q v A)  : ∀ (n : Nat) (u1 : Int32) (u2 : Int32) (A : ab_H) (s : RS), Me A0 A a R s → vq_M_reset_12  QV  n u1 u2 s → wq_M_reset_12 a Q  n u1 u2 A := by
  intro n
  induction n with
  | zero =>
    intro u1 u2 A s H hv
    exact absurd hv id
  | succ n hk12 =>
    intro u1 u2 A s H hv
    have hv : vb_M_reset_12  QV  (vq_M_reset_12  QV  n) u1 u2 s := hv
    show wb_M_reset_12 a Q  (wq_M_reset_12 a Q  n) u1 u2 A
    unfold vb_M_reset_12 at hv
    unfold wb_M_reset_12
    refine me_if hv (fun hv => ?_) (fun hv => ?_)
    · exact hQ _ _ _ H hv
    · refine me_gR H rfl (Nat.le_of_ble_eq_true rfl) ?_
      refine me_s H rfl rfl hv (fun A s H hv => ?_)
      exact hk12 _ _ _ _ H hv
def vp_M_reset  (s : RS) (Q : Int32 → RS → Prop) : Prop := wL (s.1 5) (fun x1 => vP s 5 (0 : Int32) (fun s => ∃ n, vq_M_reset_12  Q  n x1 (0 : Int32) s))
set_option maxRecDepth 100000 in
set_option maxHeartbeats 4000000 in
theorem vs_M_reset {A0 : ab_H} {a : Nat} {R : Nat → Nat}  {A : ab_H} {s : RS} {Q : Int32 → ab_H → Prop} {QV : Int32 → RS → Prop} (H : Me A0 A a R s) (hv : vp_M_reset  s QV) (hQ : ∀ v (s : RS) (A : ab_H), Me A0 A a R s → QV v s → Q v A) : wp_M_reset a  A Q := by
  unfold vp_M_reset at hv
  unfold wp_M_reset
  refine me_gI H rfl (Nat.le_of_ble_eq_true rfl) hv (fun x1 hv => ?_)
  refine me_p H rfl (Nat.le_of_ble_eq_true rfl) hv (fun A s H hv => ?_)
  obtain ⟨n, hv⟩ := hv
  exact ⟨n, vsq_M_reset_12 hQ  n _ _ _ _ H hv⟩
def vq_M_count_77  (Q : Int32 → RS → Prop)  (u1 : Int32) (s : RS) : Prop := vP s 16 (0 : Int32) (fun s => Q u1 s)
set_option maxRecDepth 100000 in
set_option maxHeartbeats 4000000 in
theorem vsq_M_count_77 {A0 : ab_H} {a : Nat} {R : Nat → Nat}  {Q : Int32 → ab_H → Prop} {QV : Int32 → RS → Prop}  (hQ : ∀ v (s : RS) (A : ab_H), Me A0 A a R s → QV v s → Q v A)  : ∀ (u1 : Int32) (A : ab_H) (s : RS), Me A0 A a R s → vq_M_count_77  QV  u1 s → wq_M_count_77 a Q  u1 A := by
  intro u1 A s H hv
  unfold vq_M_count_77 at hv
  unfold wq_M_count_77
  refine me_p H rfl (Nat.le_of_ble_eq_true rfl) hv (fun A s H hv => ?_)
  exact hQ _ _ _ H hv
def vq_M_count_59  (Q : Int32 → RS → Prop) (k4 : Int32 → Int32 → RS → Prop) (u1 : Int32) (u2 : Int32) (u3 : Int32) (s : RS) : Prop := if u3 = 0 then (wL ((u1 + (0 : Int32))) (fun x1 => k4 x1 (u2 + 1) s)) else (wL ((u1 + (1 : Int32))) (fun x2 => k4 x2 (u2 + 1) s))
set_option maxRecDepth 100000 in
set_option maxHeartbeats 4000000 in
theorem vsq_M_count_59 {A0 : ab_H} {a : Nat} {R : Nat → Nat}  {Q : Int32 → ab_H → Prop} {QV : Int32 → RS → Prop} {k4 : Int32 → Int32 → ab_H → Prop} {kv4 : Int32 → Int32 → RS → Prop} (hQ : ∀ v (s : RS) (A : ab_H), Me A0 A a R s → QV v s → Q v A) (hk4 : ∀ (u1 : Int32) (u2 : Int32) (A : ab_H) (s : RS), Me A0 A a R s → kv4 u1 u2 s → k4 u1 u2 A) : ∀ (u1 : Int32) (u2 : Int32) (u3 : Int32) (A : ab_H) (s : RS), Me A0 A a R s → vq_M_count_59  QV kv4 u1 u2 u3 s → wq_M_count_59 a Q k4 u1 u2 u3 A := by
  intro u1 u2 u3 A s H hv
  unfold vq_M_count_59 at hv
  unfold wq_M_count_59
  refine me_if hv (fun hv => ?_) (fun hv => ?_)
  · refine vl_let hv (fun x1 hv => ?_)
    exact hk4 _ _ _ _ H hv
  · refine vl_let hv (fun x2 hv => ?_)
    exact hk4 _ _ _ _ H hv
def vb_M_count_25  (Q : Int32 → RS → Prop) (k4 : Int32 → Int32 → RS → Prop) (k25 : Int32 → Int32 → Int32 → Int32 → RS → Prop) (u1 : Int32) (u2 : Int32) (u3 : Int32) (u4 : Int32) (s : RS) : Prop := wL (s.1 16) (fun x3 => if x3 ≤ u4 then (vq_M_count_59  Q k4 u1 u2 u3 s) else (if u3 = 0 then (k25 u1 u2 (0 : Int32) (u4 + 1) s) else (vp_M_holds u4 s (fun x4 s => if x4 = 0 then (k25 u1 u2 (0 : Int32) (u4 + 1) s) else (k25 u1 u2 (1 : Int32) (u4 + 1) s)))))
def vq_M_count_25  (Q : Int32 → RS → Prop) (k4 : Int32 → Int32 → RS → Prop) : Nat → Int32 → Int32 → Int32 → Int32 → RS → Prop
  | 0 => fun _ _ _ _ _ => False
  | n + 1 => vb_M_count_25  Q k4 (vq_M_count_25  Q k4 n)
set_option maxRecDepth 100000 in
set_option maxHeartbeats 4000000 in
theorem vsq_M_count_25 {A0 : ab_H} {a : Nat} {R : Nat → Nat}  {Q : Int32 → ab_H → Prop} {QV : Int32 → RS → Prop} {k4 : Int32 → Int32 → ab_H → Prop} {kv4 : Int32 → Int32 → RS → Prop} (hQ : ∀ v (s : RS) (A : ab_H), Me A0 A a R s → QV v s → Q v A) (hk4 : ∀ (u1 : Int32) (u2 : Int32) (A : ab_H) (s : RS), Me A0 A a R s → kv4 u1 u2 s → k4 u1 u2 A) : ∀ (n : Nat) (u1 : Int32) (u2 : Int32) (u3 : Int32) (u4 : Int32) (A : ab_H) (s : RS), Me A0 A a R s → vq_M_count_25  QV kv4 n u1 u2 u3 u4 s → wq_M_count_25 a Q k4 n u1 u2 u3 u4 A := by
  intro n
  induction n with
  | zero =>
    intro u1 u2 u3 u4 A s H hv
    exact absurd hv id
  | succ n hk25 =>
    intro u1 u2 u3 u4 A s H hv
    have hv : vb_M_count_25  QV kv4 (vq_M_count_25  QV kv4 n) u1 u2 u3 u4 s := hv
    show wb_M_count_25 a Q k4 (wq_M_count_25 a Q k4 n) u1 u2 u3 u4 A
    unfold vb_M_count_25 at hv
    unfold wb_M_count_25
    refine me_gI H rfl (Nat.le_of_ble_eq_true rfl) hv (fun x3 hv => ?_)
    refine me_if hv (fun hv => ?_) (fun hv => ?_)
    · exact vsq_M_count_59 hQ hk4 _ _ _ _ _ H hv
    · refine me_if hv (fun hv => ?_) (fun hv => ?_)
      · exact hk25 _ _ _ _ _ _ H hv
      · refine me_c H (vs_M_holds H hv (fun x4 s A H hv => ?_))
        refine me_if hv (fun hv => ?_) (fun hv => ?_)
        · exact hk25 _ _ _ _ _ _ H hv
        · exact hk25 _ _ _ _ _ _ H hv
def vb_M_count_4  (Q : Int32 → RS → Prop)  (k4 : Int32 → Int32 → RS → Prop) (u1 : Int32) (u2 : Int32) (s : RS) : Prop := wL (s.1 5) (fun x5 => if x5 ≤ u2 then (vq_M_count_77  Q  u1 s) else (vp_M_judge ((3 : Int32) + u2) s (fun x6 s => ∃ n, vq_M_count_25  Q k4 n u1 u2 (1 : Int32) (0 : Int32) s)))
def vq_M_count_4  (Q : Int32 → RS → Prop)  : Nat → Int32 → Int32 → RS → Prop
  | 0 => fun _ _ _ => False
  | n + 1 => vb_M_count_4  Q  (vq_M_count_4  Q  n)
set_option maxRecDepth 100000 in
set_option maxHeartbeats 4000000 in
theorem vsq_M_count_4 {A0 : ab_H} {a : Nat} {R : Nat → Nat}  {Q : Int32 → ab_H → Prop} {QV : Int32 → RS → Prop}  (hQ : ∀ v (s : RS) (A : ab_H), Me A0 A a R s → QV v s → Q v A)  : ∀ (n : Nat) (u1 : Int32) (u2 : Int32) (A : ab_H) (s : RS), Me A0 A a R s → vq_M_count_4  QV  n u1 u2 s → wq_M_count_4 a Q  n u1 u2 A := by
  intro n
  induction n with
  | zero =>
    intro u1 u2 A s H hv
    exact absurd hv id
  | succ n hk4 =>
    intro u1 u2 A s H hv
    have hv : vb_M_count_4  QV  (vq_M_count_4  QV  n) u1 u2 s := hv
    show wb_M_count_4 a Q  (wq_M_count_4 a Q  n) u1 u2 A
    unfold vb_M_count_4 at hv
    unfold wb_M_count_4
    refine me_gI H rfl (Nat.le_of_ble_eq_true rfl) hv (fun x5 hv => ?_)
    refine me_if hv (fun hv => ?_) (fun hv => ?_)
    · exact vsq_M_count_77 hQ  _ _ _ H hv
    · refine me_c H (vs_M_judge H hv (fun x6 s A H hv => ?_))
      obtain ⟨n, hv⟩ := hv
      exact ⟨n, vsq_M_count_25 hQ hk4 n _ _ _ _ _ _ H hv⟩
def vp_M_count  (s : RS) (Q : Int32 → RS → Prop) : Prop := ∃ n, vq_M_count_4  Q  n (0 : Int32) (0 : Int32) s
set_option maxRecDepth 100000 in
set_option maxHeartbeats 4000000 in
theorem vs_M_count {A0 : ab_H} {a : Nat} {R : Nat → Nat}  {A : ab_H} {s : RS} {Q : Int32 → ab_H → Prop} {QV : Int32 → RS → Prop} (H : Me A0 A a R s) (hv : vp_M_count  s QV) (hQ : ∀ v (s : RS) (A : ab_H), Me A0 A a R s → QV v s → Q v A) : wp_M_count a  A Q := by
  unfold vp_M_count at hv
  unfold wp_M_count
  obtain ⟨n, hv⟩ := hv
  exact ⟨n, vsq_M_count_4 hQ  n _ _ _ _ H hv⟩
def vp_M_journal  (s : RS) (Q : Int32 → RS → Prop) : Prop := wL (s.1 5) (fun x1 => Q x1 s)
set_option maxRecDepth 100000 in
set_option maxHeartbeats 4000000 in
theorem vs_M_journal {A0 : ab_H} {a : Nat} {R : Nat → Nat}  {A : ab_H} {s : RS} {Q : Int32 → ab_H → Prop} {QV : Int32 → RS → Prop} (H : Me A0 A a R s) (hv : vp_M_journal  s QV) (hQ : ∀ v (s : RS) (A : ab_H), Me A0 A a R s → QV v s → Q v A) : wp_M_journal a  A Q := by
  unfold vp_M_journal at hv
  unfold wp_M_journal
  refine me_gI H rfl (Nat.le_of_ble_eq_true rfl) hv (fun x1 hv => ?_)
  exact hQ _ _ _ H hv
def vp_M_chosen (p0 : Int32) (s : RS) (Q : Int32 → RS → Prop) : Prop := if p0 < 0 then (Q ((-2) : Int32) s) else (wL (s.1 5) (fun x1 => if p0 < x1 then (vA s 6 ((3 : Int32) + p0) (fun x2 => Q x2 s)) else (Q ((-2) : Int32) s)))
set_option maxRecDepth 100000 in
set_option maxHeartbeats 4000000 in
theorem vs_M_chosen {A0 : ab_H} {a : Nat} {R : Nat → Nat} {p0 : Int32} {A : ab_H} {s : RS} {Q : Int32 → ab_H → Prop} {QV : Int32 → RS → Prop} (H : Me A0 A a R s) (hv : vp_M_chosen p0 s QV) (hQ : ∀ v (s : RS) (A : ab_H), Me A0 A a R s → QV v s → Q v A) : wp_M_chosen a p0 A Q := by
  unfold vp_M_chosen at hv
  unfold wp_M_chosen
  refine me_if hv (fun hv => ?_) (fun hv => ?_)
  · exact hQ _ _ _ H hv
  · refine me_gI H rfl (Nat.le_of_ble_eq_true rfl) hv (fun x1 hv => ?_)
    refine me_if hv (fun hv => ?_) (fun hv => ?_)
    · refine me_gR H rfl (Nat.le_of_ble_eq_true rfl) ?_
      refine me_l H rfl rfl hv (fun x2 hv => ?_)
      exact hQ _ _ _ H hv
    · exact hQ _ _ _ H hv
def vq_M_near_107 (p0 : Int32) (Q : Int32 → RS → Prop)  (u2 : Int32) (u3 : Int32) (s : RS) : Prop := if 0 ≤ u2 then (vA s 18 u2 (fun x1 => Q (((100 : Int32) * x1) + u3) s)) else (Q ((-1) : Int32) s)
set_option maxRecDepth 100000 in
set_option maxHeartbeats 4000000 in
theorem vsq_M_near_107 {A0 : ab_H} {a : Nat} {R : Nat → Nat} {p0 : Int32} {Q : Int32 → ab_H → Prop} {QV : Int32 → RS → Prop}  (hQ : ∀ v (s : RS) (A : ab_H), Me A0 A a R s → QV v s → Q v A)  : ∀ (u2 : Int32) (u3 : Int32) (A : ab_H) (s : RS), Me A0 A a R s → vq_M_near_107 p0 QV  u2 u3 s → wq_M_near_107 a p0 Q  u2 u3 A := by
  intro u2 u3 A s H hv
  unfold vq_M_near_107 at hv
  unfold wq_M_near_107
  refine me_if hv (fun hv => ?_) (fun hv => ?_)
  · refine me_gR H rfl (Nat.le_of_ble_eq_true rfl) ?_
    refine me_l H rfl rfl hv (fun x1 hv => ?_)
    exact hQ _ _ _ H hv
  · exact hQ _ _ _ H hv
def vq_M_near_57 (p0 : Int32) (Q : Int32 → RS → Prop) (k29 : Int32 → Int32 → Int32 → RS → Prop) (u2 : Int32) (u3 : Int32) (u4 : Int32) (s0 : Int32) (s : RS) : Prop := vA s 18 u4 (fun x2 => if x2 < 0 then (k29 u2 u3 (u4 + 1) s) else (if u2 < 0 then (k29 u4 s0 (u4 + 1) s) else (if s0 < u3 then (k29 u4 s0 (u4 + 1) s) else (if s0 = u3 then (vp_M_before u4 u2 s (fun x3 s => if x3 = 0 then (k29 u2 u3 (u4 + 1) s) else (k29 u4 s0 (u4 + 1) s))) else (k29 u2 u3 (u4 + 1) s)))))
set_option maxRecDepth 100000 in
set_option maxHeartbeats 4000000 in
theorem vsq_M_near_57 {A0 : ab_H} {a : Nat} {R : Nat → Nat} {p0 : Int32} {Q : Int32 → ab_H → Prop} {QV : Int32 → RS → Prop} {k29 : Int32 → Int32 → Int32 → ab_H → Prop} {kv29 : Int32 → Int32 → Int32 → RS → Prop} (hQ : ∀ v (s : RS) (A : ab_H), Me A0 A a R s → QV v s → Q v A) (hk29 : ∀ (u2 : Int32) (u3 : Int32) (u4 : Int32) (A : ab_H) (s : RS), Me A0 A a R s → kv29 u2 u3 u4 s → k29 u2 u3 u4 A) : ∀ (u2 : Int32) (u3 : Int32) (u4 : Int32) (s0 : Int32) (A : ab_H) (s : RS), Me A0 A a R s → vq_M_near_57 p0 QV kv29 u2 u3 u4 s0 s → wq_M_near_57 a p0 Q k29 u2 u3 u4 s0 A := by
  intro u2 u3 u4 s0 A s H hv
  unfold vq_M_near_57 at hv
  unfold wq_M_near_57
  refine me_gR H rfl (Nat.le_of_ble_eq_true rfl) ?_
  refine me_l H rfl rfl hv (fun x2 hv => ?_)
  refine me_if hv (fun hv => ?_) (fun hv => ?_)
  · exact hk29 _ _ _ _ _ H hv
  · refine me_if hv (fun hv => ?_) (fun hv => ?_)
    · exact hk29 _ _ _ _ _ H hv
    · refine me_if hv (fun hv => ?_) (fun hv => ?_)
      · exact hk29 _ _ _ _ _ H hv
      · refine me_if hv (fun hv => ?_) (fun hv => ?_)
        · refine me_c H (vs_M_before H hv (fun x3 s A H hv => ?_))
          refine me_if hv (fun hv => ?_) (fun hv => ?_)
          · exact hk29 _ _ _ _ _ H hv
          · exact hk29 _ _ _ _ _ H hv
        · exact hk29 _ _ _ _ _ H hv
def vb_M_near_29 (p0 : Int32) (Q : Int32 → RS → Prop)  (k29 : Int32 → Int32 → Int32 → RS → Prop) (u2 : Int32) (u3 : Int32) (u4 : Int32) (s : RS) : Prop := if (8 : Int32) ≤ u4 then (vq_M_near_107 p0 Q  u2 u3 s) else (vA s 18 u4 (fun x4 => if 0 ≤ x4 then (vp_M_failing u4 s (fun x5 s => vq_M_near_57 p0 Q k29 u2 u3 u4 x5 s)) else (vq_M_near_57 p0 Q k29 u2 u3 u4 (99 : Int32) s)))
def vq_M_near_29 (p0 : Int32) (Q : Int32 → RS → Prop)  : Nat → Int32 → Int32 → Int32 → RS → Prop
  | 0 => fun _ _ _ _ => False
  | n + 1 => vb_M_near_29 p0 Q  (vq_M_near_29 p0 Q  n)
set_option maxRecDepth 100000 in
set_option maxHeartbeats 4000000 in
theorem vsq_M_near_29 {A0 : ab_H} {a : Nat} {R : Nat → Nat} {p0 : Int32} {Q : Int32 → ab_H → Prop} {QV : Int32 → RS → Prop}  (hQ : ∀ v (s : RS) (A : ab_H), Me A0 A a R s → QV v s → Q v A)  : ∀ (n : Nat) (u2 : Int32) (u3 : Int32) (u4 : Int32) (A : ab_H) (s : RS), Me A0 A a R s → vq_M_near_29 p0 QV  n u2 u3 u4 s → wq_M_near_29 a p0 Q  n u2 u3 u4 A := by
  intro n
  induction n with
  | zero =>
    intro u2 u3 u4 A s H hv
    exact absurd hv id
  | succ n hk29 =>
    intro u2 u3 u4 A s H hv
    have hv : vb_M_near_29 p0 QV  (vq_M_near_29 p0 QV  n) u2 u3 u4 s := hv
    show wb_M_near_29 a p0 Q  (wq_M_near_29 a p0 Q  n) u2 u3 u4 A
    unfold vb_M_near_29 at hv
    unfold wb_M_near_29
    refine me_if hv (fun hv => ?_) (fun hv => ?_)
    · exact vsq_M_near_107 hQ  _ _ _ _ H hv
    · refine me_gR H rfl (Nat.le_of_ble_eq_true rfl) ?_
      refine me_l H rfl rfl hv (fun x4 hv => ?_)
      refine me_if hv (fun hv => ?_) (fun hv => ?_)
      · refine me_c H (vs_M_failing H hv (fun x5 s A H hv => ?_))
        exact vsq_M_near_57 hQ hk29 _ _ _ _ _ _ H hv
      · exact vsq_M_near_57 hQ hk29 _ _ _ _ _ _ H hv
def vp_M_near (p0 : Int32) (s : RS) (Q : Int32 → RS → Prop) : Prop := if p0 < 0 then (Q ((-1) : Int32) s) else (wL (s.1 5) (fun x6 => if p0 < x6 then (vp_M_judge ((3 : Int32) + p0) s (fun x7 s => ∃ n, vq_M_near_29 p0 Q  n ((-1) : Int32) (0 : Int32) (0 : Int32) s)) else (Q ((-1) : Int32) s)))
set_option maxRecDepth 100000 in
set_option maxHeartbeats 4000000 in
theorem vs_M_near {A0 : ab_H} {a : Nat} {R : Nat → Nat} {p0 : Int32} {A : ab_H} {s : RS} {Q : Int32 → ab_H → Prop} {QV : Int32 → RS → Prop} (H : Me A0 A a R s) (hv : vp_M_near p0 s QV) (hQ : ∀ v (s : RS) (A : ab_H), Me A0 A a R s → QV v s → Q v A) : wp_M_near a p0 A Q := by
  unfold vp_M_near at hv
  unfold wp_M_near
  refine me_if hv (fun hv => ?_) (fun hv => ?_)
  · exact hQ _ _ _ H hv
  · refine me_gI H rfl (Nat.le_of_ble_eq_true rfl) hv (fun x6 hv => ?_)
    refine me_if hv (fun hv => ?_) (fun hv => ?_)
    · refine me_c H (vs_M_judge H hv (fun x7 s A H hv => ?_))
      obtain ⟨n, hv⟩ := hv
      exact ⟨n, vsq_M_near_29 hQ  n _ _ _ _ _ H hv⟩
    · exact hQ _ _ _ H hv
def vp_M_state (p0 : Int32) (s : RS) (Q : Int32 → RS → Prop) : Prop := if p0 < 0 then (Q ((-1) : Int32) s) else (if p0 ≤ (2 : Int32) then (vA s 8 p0 (fun x1 => Q x1 s)) else (Q ((-1) : Int32) s))
set_option maxRecDepth 100000 in
set_option maxHeartbeats 4000000 in
theorem vs_M_state {A0 : ab_H} {a : Nat} {R : Nat → Nat} {p0 : Int32} {A : ab_H} {s : RS} {Q : Int32 → ab_H → Prop} {QV : Int32 → RS → Prop} (H : Me A0 A a R s) (hv : vp_M_state p0 s QV) (hQ : ∀ v (s : RS) (A : ab_H), Me A0 A a R s → QV v s → Q v A) : wp_M_state a p0 A Q := by
  unfold vp_M_state at hv
  unfold wp_M_state
  refine me_if hv (fun hv => ?_) (fun hv => ?_)
  · exact hQ _ _ _ H hv
  · refine me_if hv (fun hv => ?_) (fun hv => ?_)
    · refine me_gR H rfl (Nat.le_of_ble_eq_true rfl) ?_
      refine me_l H rfl rfl hv (fun x1 hv => ?_)
      exact hQ _ _ _ H hv
    · exact hQ _ _ _ H hv
def vp_M_served  (s : RS) (Q : Int32 → RS → Prop) : Prop := wL (s.1 7) (fun x1 => Q x1 s)
set_option maxRecDepth 100000 in
set_option maxHeartbeats 4000000 in
theorem vs_M_served {A0 : ab_H} {a : Nat} {R : Nat → Nat}  {A : ab_H} {s : RS} {Q : Int32 → ab_H → Prop} {QV : Int32 → RS → Prop} (H : Me A0 A a R s) (hv : vp_M_served  s QV) (hQ : ∀ v (s : RS) (A : ab_H), Me A0 A a R s → QV v s → Q v A) : wp_M_served a  A Q := by
  unfold vp_M_served at hv
  unfold wp_M_served
  refine me_gI H rfl (Nat.le_of_ble_eq_true rfl) hv (fun x1 hv => ?_)
  exact hQ _ _ _ H hv
