def wb_X1_sortOf_20 (n : Nat) (p0 : Int32)  (K : Mm → Int32 → Prop) (M : Mm)  : Prop := (p0 < 48 → K M 3) ∧ (¬ p0 < 48 → (57 < p0 → K M 3) ∧ (¬ 57 < p0 → K M 2))
set_option maxHeartbeats 4000000 in
set_option maxRecDepth 100000 in
theorem lb_X1_sortOf_20 {g : Gm} {E : En} {A : Nat → Prop} {K : Mm → Int32 → Prop} (X : CX g cX1_sortOf RX1 (some .int) 0 E A 1) (p0 : Int32)   (M : Mm)  (h : wb_X1_sortOf_20 (eN E) p0  K M ) : AW g E A 1 (MQ (gB g) (QI E K A) (gA g) (gS g) (gk g) (gn g) A) 20 [(0, .int p0)] [] M := by
  unfold wb_X1_sortOf_20 at h
  refine aw_iload_n X dX1_sortOf_20 0 rfl ?_
  refine aw_bipush (v := 48) X dX1_sortOf_21 (by decide) ?_
  refine aw_icmp_lt (tgt := 36) X dX1_sortOf_23 (by decide) (fun c => ?_) (fun c => ?_)
  · have h := h.1 c
    refine aw_iconst (v := 3) X dX1_sortOf_36 (by decide) ?_
    exact aw_iret X dX1_sortOf_37 h
  · have h := h.2 c
    refine aw_iload_n X dX1_sortOf_26 0 rfl ?_
    refine aw_bipush (v := 57) X dX1_sortOf_27 (by decide) ?_
    refine aw_icmp_gt (tgt := 36) X dX1_sortOf_29 (by decide) (fun c => ?_) (fun c => ?_)
    · have h := h.1 c
      refine aw_iconst (v := 3) X dX1_sortOf_36 (by decide) ?_
      exact aw_iret X dX1_sortOf_37 h
    · have h := h.2 c
      refine aw_iconst (v := 2) X dX1_sortOf_32 (by decide) ?_
      refine aw_goto (tgt := 37) X dX1_sortOf_33 (by decide) ?_
      exact aw_iret X dX1_sortOf_37 h
def wp_X1_sortOf (n : Nat)  (M : Mm) (p0 : Int32) (K : Mm → Int32 → Prop) : Prop := (0 ≤ p0 → (p0 < 97 → wb_X1_sortOf_20 n p0 K M ) ∧ (¬ p0 < 97 → (122 < p0 → wb_X1_sortOf_20 n p0 K M ) ∧ (¬ 122 < p0 → K M 1))) ∧ (¬ 0 ≤ p0 → K M 0)
set_option maxHeartbeats 4000000 in
set_option maxRecDepth 100000 in
theorem c_X1_sortOf {l : Launch} {E : En} {M : Mm} {p0 : Int32} {K : Mm → Int32 → Prop}  (h : wp_X1_sortOf (eN E)  M p0 K) : Ctr l E yX1_sortOf cX1_sortOf 1 (some .int) 0 [.int p0] M (QI E K) := by
  refine Ctr.of (by decide +kernel) (Nat.le_of_ble_eq_true rfl) (fun g A hgl X => ?_)
  subst hgl
  have X : CX g cX1_sortOf RX1 (some .int) 0 E A 1 := X
  show AW g E A 1 _ 0 [(0, .int p0)] [] M
  unfold wp_X1_sortOf at h
  refine aw_iload_n X dX1_sortOf_0 0 rfl ?_
  refine aw_if_ge (tgt := 6) X dX1_sortOf_1 (by decide) (fun c => ?_) (fun c => ?_)
  · have h := h.1 c
    refine aw_iload_n X dX1_sortOf_6 0 rfl ?_
    refine aw_bipush (v := 97) X dX1_sortOf_7 (by decide) ?_
    refine aw_icmp_lt (tgt := 20) X dX1_sortOf_9 (by decide) (fun c => ?_) (fun c => ?_)
    · have h := h.1 c
      exact aw_sub [0] rfl (lb_X1_sortOf_20 X p0  _ h)
    · have h := h.2 c
      refine aw_iload_n X dX1_sortOf_12 0 rfl ?_
      refine aw_bipush (v := 122) X dX1_sortOf_13 (by decide) ?_
      refine aw_icmp_gt (tgt := 20) X dX1_sortOf_15 (by decide) (fun c => ?_) (fun c => ?_)
      · have h := h.1 c
        exact aw_sub [0] rfl (lb_X1_sortOf_20 X p0  _ h)
      · have h := h.2 c
        refine aw_iconst (v := 1) X dX1_sortOf_18 (by decide) ?_
        exact aw_iret X dX1_sortOf_19 h
  · have h := h.2 c
    refine aw_iconst (v := 0) X dX1_sortOf_4 (by decide) ?_
    exact aw_iret X dX1_sortOf_5 h
def wb_X1_next_193 (n : Nat)   (K : Mm → Prop) (M : Mm) (s0 : Int32) : Prop := (¬ s0 = 0 → ∀ M18 : Mm, M18 = wr M 37 4 4 → K M18) ∧ (s0 = 0 → (¬ (M 37 4) = 2 → K M) ∧ ((M 37 4) = 2 → (((M 37 3) - (M 37 2)) ≤ 4 → K M) ∧ (¬ ((M 37 3) - (M 37 2)) ≤ 4 → ∀ M19 : Mm, M19 = wr M 37 4 4 → K M19)))
set_option maxHeartbeats 4000000 in
set_option maxRecDepth 100000 in
theorem lb_X1_next_193 {g : Gm} {E : En} {A : Nat → Prop} {K : Mm → Prop} (X : CX g cX1_next RX1 none 1 E A 4)    (M : Mm) (s0 : Int32) (h : wb_X1_next_193 (eN E)   K M s0) : AW g E A 4 (MQ (gB g) (QV E K A) (gA g) (gS g) (gk g) (gn g) A) 193 [(0, .ref (eA E 37))] [.int s0] M := by
  unfold wb_X1_next_193 at h
  refine aw_istore_n (lv' := [(3, .int s0), (0, .ref (eA E 37))]) X dX1_next_193 (by decide) rfl ?_
  refine aw_iload_n X dX1_next_194 0 rfl ?_
  refine aw_if_ne (tgt := 219) X dX1_next_195 (by decide) (fun c => ?_) (fun c => ?_)
  · have h := h.1 c
    refine aw_aload_n X dX1_next_219 1 rfl ?_
    refine aw_iconst (v := 4) X dX1_next_220 (by decide) ?_
    refine aw_put X dX1_next_221 (X.lt (by decide)) (sh_6 (rfl : tp 37 = 6) _) fl_RX1_33 fw_1_4 (Nat.le_of_ble_eq_true rfl) (sp_6_4 (rfl : tp 37 = 6) _ _) (fun M18 eM18 => ?_)
    have h := h M18 eM18
    exact aw_vret X dX1_next_224 h
  · have h := h.2 c
    refine aw_aload_n X dX1_next_198 1 rfl ?_
    refine aw_get X dX1_next_199 (X.lt (by decide)) (sh_6 (rfl : tp 37 = 6) _) fl_RX1_33 rfl ?_
    refine aw_iconst (v := 2) X dX1_next_202 (by decide) ?_
    refine aw_icmp_ne (tgt := 224) X dX1_next_203 (by decide) (fun c => ?_) (fun c => ?_)
    · have h := h.1 c
      exact aw_vret X dX1_next_224 h
    · have h := h.2 c
      refine aw_aload_n X dX1_next_206 1 rfl ?_
      refine aw_get X dX1_next_207 (X.lt (by decide)) (sh_6 (rfl : tp 37 = 6) _) fl_RX1_30 rfl ?_
      refine aw_aload_n X dX1_next_210 1 rfl ?_
      refine aw_get X dX1_next_211 (X.lt (by decide)) (sh_6 (rfl : tp 37 = 6) _) fl_RX1_65 rfl ?_
      refine aw_isub X dX1_next_214 ?_
      refine aw_iconst (v := 4) X dX1_next_215 (by decide) ?_
      refine aw_icmp_le (tgt := 224) X dX1_next_216 (by decide) (fun c => ?_) (fun c => ?_)
      · have h := h.1 c
        exact aw_vret X dX1_next_224 h
      · have h := h.2 c
        refine aw_aload_n X dX1_next_219 1 rfl ?_
        refine aw_iconst (v := 4) X dX1_next_220 (by decide) ?_
        refine aw_put X dX1_next_221 (X.lt (by decide)) (sh_6 (rfl : tp 37 = 6) _) fl_RX1_33 fw_1_4 (Nat.le_of_ble_eq_true rfl) (sp_6_4 (rfl : tp 37 = 6) _ _) (fun M19 eM19 => ?_)
        have h := h M19 eM19
        exact aw_vret X dX1_next_224 h
def wb_X1_next_192 (n : Nat)   (K : Mm → Prop) (M : Mm)  : Prop := wb_X1_next_193 n K M 0
set_option maxHeartbeats 4000000 in
set_option maxRecDepth 100000 in
theorem lb_X1_next_192 {g : Gm} {E : En} {A : Nat → Prop} {K : Mm → Prop} (X : CX g cX1_next RX1 none 1 E A 4)    (M : Mm)  (h : wb_X1_next_192 (eN E)   K M ) : AW g E A 4 (MQ (gB g) (QV E K A) (gA g) (gS g) (gk g) (gn g) A) 192 [(0, .ref (eA E 37))] [] M := by
  unfold wb_X1_next_192 at h
  refine aw_iconst (v := 0) X dX1_next_192 (by decide) ?_
  exact aw_sub [0] rfl (lb_X1_next_193 X   _ _ h)
def wb_X1_next_176 (n : Nat)   (K : Mm → Prop) (M : Mm) (x1 : Int32) (x2 : Int32) : Prop := (x1 = 0 → wb_X1_next_192 n K M ) ∧ (¬ x1 = 0 → (¬ (M 37 2) = x2 → wb_X1_next_192 n K M ) ∧ ((M 37 2) = x2 → wb_X1_next_193 n K M 1))
set_option maxHeartbeats 4000000 in
set_option maxRecDepth 100000 in
theorem lb_X1_next_176 {g : Gm} {E : En} {A : Nat → Prop} {K : Mm → Prop} (X : CX g cX1_next RX1 none 1 E A 4)    (M : Mm) (x1 : Int32) (x2 : Int32) (h : wb_X1_next_176 (eN E)   K M x1 x2) : AW g E A 4 (MQ (gB g) (QV E K A) (gA g) (gS g) (gk g) (gn g) A) 176 [(0, .ref (eA E 37)), (1, .int x1), (2, .int x2)] [] M := by
  unfold wb_X1_next_176 at h
  refine aw_iload_n X dX1_next_176 1 rfl ?_
  refine aw_if_eq (tgt := 192) X dX1_next_177 (by decide) (fun c => ?_) (fun c => ?_)
  · have h := h.1 c
    exact aw_sub [0] rfl (lb_X1_next_192 X   _ h)
  · have h := h.2 c
    refine aw_aload_n X dX1_next_180 0 rfl ?_
    refine aw_get X dX1_next_181 (X.lt (by decide)) (sh_6 (rfl : tp 37 = 6) _) fl_RX1_65 rfl ?_
    refine aw_iload_n X dX1_next_184 2 rfl ?_
    refine aw_icmp_ne (tgt := 192) X dX1_next_185 (by decide) (fun c => ?_) (fun c => ?_)
    · have h := h.1 c
      exact aw_sub [0] rfl (lb_X1_next_192 X   _ h)
    · have h := h.2 c
      refine aw_iconst (v := 1) X dX1_next_188 (by decide) ?_
      refine aw_goto (tgt := 193) X dX1_next_189 (by decide) ?_
      exact aw_sub [0] rfl (lb_X1_next_193 X   _ _ h)
def wl_X1_next_128 (n : Nat)   (K : Mm → Prop) : Nat → Mm → Int32 → Int32 → Prop
  | 0, _, _, _ => False
  | k + 1, M, x1, x2 => ((M 38 1) ≤ (M 37 3) → wb_X1_next_176 n K M x1 x2) ∧ (¬ (M 38 1) ≤ (M 37 3) → wp_X2_at n M 38 (M 37 3) (fun M13 r14 => wp_X1_sortOf n M13 r14 (fun M15 r16 => (¬ r16 = (M15 37 4) → wb_X1_next_176 n K M15 x1 x2) ∧ (r16 = (M15 37 4) → ∀ M17 : Mm, M17 = wr M15 37 3 ((M15 37 3) + 1) → wl_X1_next_128 n K k M17 x1 x2))))
set_option maxHeartbeats 4000000 in
set_option maxRecDepth 100000 in
theorem lw_X1_next_128 {g : Gm} {E : En} {A : Nat → Prop} {K : Mm → Prop} (X : CX g cX1_next RX1 none 1 E A 4)    : ∀ (k : Nat) (M : Mm) (x1 : Int32) (x2 : Int32), wl_X1_next_128 (eN E)   K k M x1 x2 → AW g E A 4 (MQ (gB g) (QV E K A) (gA g) (gS g) (gk g) (gn g) A) 128 [(0, .ref (eA E 37)), (1, .int x1), (2, .int x2)] [] M := by
  intro k
  induction k with
  | zero => intro M x1 x2 h; exact h.elim
  | succ k ih =>
    intro M x1 x2 h
    rw [wl_X1_next_128] at h
    refine aw_aload_n X dX1_next_128 0 rfl ?_
    refine aw_get X dX1_next_129 (X.lt (by decide)) (sh_6 (rfl : tp 37 = 6) _) fl_RX1_30 rfl ?_
    refine aw_aload_n X dX1_next_132 0 rfl ?_
    refine aw_get X dX1_next_133 (X.lt (by decide)) (sh_6 (rfl : tp 37 = 6) _) fl_RX1_14 rfl ?_
    refine aw_get X dX1_next_136 (X.lt (by decide)) (sh_7 (rfl : tp 38 = 7) _) fl_RX1_23 rfl ?_
    refine aw_icmp_ge (tgt := 176) X dX1_next_139 (by decide) (fun c => ?_) (fun c => ?_)
    · have h := h.1 c
      exact aw_sub [0, 1, 2] rfl (lb_X1_next_176 X   _ _ _ h)
    · have h := h.2 c
      refine aw_aload_n X dX1_next_142 0 rfl ?_
      refine aw_get X dX1_next_143 (X.lt (by decide)) (sh_6 (rfl : tp 37 = 6) _) fl_RX1_14 rfl ?_
      refine aw_aload_n X dX1_next_146 0 rfl ?_
      refine aw_get X dX1_next_147 (X.lt (by decide)) (sh_6 (rfl : tp 37 = 6) _) fl_RX1_30 rfl ?_
      refine ca_i X (rn_vn X [.int (M 37 3)] [] (X.lt (by decide)) (sh_7 (rfl : tp 38 = 7) _) rfl rfl kw651 kw34 (c_X2_at h) cal_yX2_at kw649 (Nat.le_of_ble_eq_true rfl) rfl rfl (Nat.le_of_ble_eq_true rfl) dX1_next_150) (fun M13 r14 h => ?_)
      refine ca_i X (rn_s X [.int r14] [] kw654 (c_X1_sortOf h) cal_yX1_sortOf kw653 (Nat.le_of_ble_eq_true rfl) rfl rfl (Nat.le_of_ble_eq_true rfl) dX1_next_153) (fun M15 r16 h => ?_)
      refine aw_aload_n X dX1_next_156 0 rfl ?_
      refine aw_get X dX1_next_157 (X.lt (by decide)) (sh_6 (rfl : tp 37 = 6) _) fl_RX1_33 rfl ?_
      refine aw_icmp_ne (tgt := 176) X dX1_next_160 (by decide) (fun c => ?_) (fun c => ?_)
      · have h := h.1 c
        exact aw_sub [0, 1, 2] rfl (lb_X1_next_176 X   _ _ _ h)
      · have h := h.2 c
        refine aw_aload_n X dX1_next_163 0 rfl ?_
        refine aw_dup X dX1_next_164 rfl ?_
        refine aw_get X dX1_next_165 (X.lt (by decide)) (sh_6 (rfl : tp 37 = 6) _) fl_RX1_30 rfl ?_
        refine aw_iconst (v := 1) X dX1_next_168 (by decide) ?_
        refine aw_iadd X dX1_next_169 ?_
        refine aw_put X dX1_next_170 (X.lt (by decide)) (sh_6 (rfl : tp 37 = 6) _) fl_RX1_30 fw_1_3 (Nat.le_of_ble_eq_true rfl) (sp_6_3 (rfl : tp 37 = 6) _ _) (fun M17 eM17 => ?_)
        have h := h M17 eM17
        refine aw_goto (tgt := 128) X dX1_next_173 (by decide) ?_
        exact aw_sub [0, 1, 2] rfl (ih _ _ _ h)
def wb_X1_next_75 (n : Nat)   (K : Mm → Prop) (M : Mm) (x1 : Int32) (x2 : Int32) : Prop := wp_X2_at n M 38 (M 37 2) (fun M6 r7 => wp_X1_sortOf n M6 r7 (fun M8 r9 => ∀ M10 : Mm, M10 = wr M8 37 4 r9 → ∀ M11 : Mm, M11 = wr M10 37 3 (M10 37 2) → (¬ (M11 37 4) = 0 → ∀ M12 : Mm, M12 = wr M11 37 3 ((M11 37 3) + 1) → (¬ (M12 37 4) = 3 → ∃ kf : Nat, wl_X1_next_128 n K kf M12 x1 x2) ∧ ((M12 37 4) = 3 → K M12)) ∧ ((M11 37 4) = 0 → K M11)))
set_option maxHeartbeats 4000000 in
set_option maxRecDepth 100000 in
theorem lb_X1_next_75 {g : Gm} {E : En} {A : Nat → Prop} {K : Mm → Prop} (X : CX g cX1_next RX1 none 1 E A 4)    (M : Mm) (x1 : Int32) (x2 : Int32) (h : wb_X1_next_75 (eN E)   K M x1 x2) : AW g E A 4 (MQ (gB g) (QV E K A) (gA g) (gS g) (gk g) (gn g) A) 75 [(0, .ref (eA E 37)), (1, .int x1), (2, .int x2)] [] M := by
  unfold wb_X1_next_75 at h
  refine aw_aload_n X dX1_next_75 0 rfl ?_
  refine aw_aload_n X dX1_next_76 0 rfl ?_
  refine aw_get X dX1_next_77 (X.lt (by decide)) (sh_6 (rfl : tp 37 = 6) _) fl_RX1_14 rfl ?_
  refine aw_aload_n X dX1_next_80 0 rfl ?_
  refine aw_get X dX1_next_81 (X.lt (by decide)) (sh_6 (rfl : tp 37 = 6) _) fl_RX1_65 rfl ?_
  refine ca_i X (rn_vn X [.int (M 37 2)] [.ref (eA E 37)] (X.lt (by decide)) (sh_7 (rfl : tp 38 = 7) _) rfl rfl kw651 kw34 (c_X2_at h) cal_yX2_at kw649 (Nat.le_of_ble_eq_true rfl) rfl rfl (Nat.le_of_ble_eq_true rfl) dX1_next_84) (fun M6 r7 h => ?_)
  refine ca_i X (rn_s X [.int r7] [.ref (eA E 37)] kw654 (c_X1_sortOf h) cal_yX1_sortOf kw653 (Nat.le_of_ble_eq_true rfl) rfl rfl (Nat.le_of_ble_eq_true rfl) dX1_next_87) (fun M8 r9 h => ?_)
  refine aw_put X dX1_next_90 (X.lt (by decide)) (sh_6 (rfl : tp 37 = 6) _) fl_RX1_33 fw_1_4 (Nat.le_of_ble_eq_true rfl) (sp_6_4 (rfl : tp 37 = 6) _ _) (fun M10 eM10 => ?_)
  have h := h M10 eM10
  refine aw_aload_n X dX1_next_93 0 rfl ?_
  refine aw_aload_n X dX1_next_94 0 rfl ?_
  refine aw_get X dX1_next_95 (X.lt (by decide)) (sh_6 (rfl : tp 37 = 6) _) fl_RX1_65 rfl ?_
  refine aw_put X dX1_next_98 (X.lt (by decide)) (sh_6 (rfl : tp 37 = 6) _) fl_RX1_30 fw_1_3 (Nat.le_of_ble_eq_true rfl) (sp_6_3 (rfl : tp 37 = 6) _ _) (fun M11 eM11 => ?_)
  have h := h M11 eM11
  refine aw_aload_n X dX1_next_101 0 rfl ?_
  refine aw_get X dX1_next_102 (X.lt (by decide)) (sh_6 (rfl : tp 37 = 6) _) fl_RX1_33 rfl ?_
  refine aw_if_ne (tgt := 109) X dX1_next_105 (by decide) (fun c => ?_) (fun c => ?_)
  · have h := h.1 c
    refine aw_aload_n X dX1_next_109 0 rfl ?_
    refine aw_dup X dX1_next_110 rfl ?_
    refine aw_get X dX1_next_111 (X.lt (by decide)) (sh_6 (rfl : tp 37 = 6) _) fl_RX1_30 rfl ?_
    refine aw_iconst (v := 1) X dX1_next_114 (by decide) ?_
    refine aw_iadd X dX1_next_115 ?_
    refine aw_put X dX1_next_116 (X.lt (by decide)) (sh_6 (rfl : tp 37 = 6) _) fl_RX1_30 fw_1_3 (Nat.le_of_ble_eq_true rfl) (sp_6_3 (rfl : tp 37 = 6) _ _) (fun M12 eM12 => ?_)
    have h := h M12 eM12
    refine aw_aload_n X dX1_next_119 0 rfl ?_
    refine aw_get X dX1_next_120 (X.lt (by decide)) (sh_6 (rfl : tp 37 = 6) _) fl_RX1_33 rfl ?_
    refine aw_iconst (v := 3) X dX1_next_123 (by decide) ?_
    refine aw_icmp_ne (tgt := 128) X dX1_next_124 (by decide) (fun c => ?_) (fun c => ?_)
    · have h := h.1 c
      obtain ⟨kf, h⟩ := h
      exact aw_sub [0, 1, 2] rfl (lw_X1_next_128 X   kf _ _ _ h)
    · have h := h.2 c
      exact aw_vret X dX1_next_127 h
  · have h := h.2 c
    exact aw_vret X dX1_next_108 h
def wl_X1_next_32 (n : Nat)   (K : Mm → Prop) : Nat → Mm → Int32 → Int32 → Prop
  | 0, _, _, _ => False
  | k + 1, M, x1, x2 => ((M 38 1) ≤ (M 37 2) → wb_X1_next_75 n K M x1 x2) ∧ (¬ (M 38 1) ≤ (M 37 2) → wp_X2_at n M 38 (M 37 2) (fun M3 r4 => (¬ r4 = 32 → wb_X1_next_75 n K M3 x1 x2) ∧ (r4 = 32 → ∀ M5 : Mm, M5 = wr M3 37 2 ((M3 37 2) + 1) → wl_X1_next_32 n K k M5 x1 x2)))
set_option maxHeartbeats 4000000 in
set_option maxRecDepth 100000 in
theorem lw_X1_next_32 {g : Gm} {E : En} {A : Nat → Prop} {K : Mm → Prop} (X : CX g cX1_next RX1 none 1 E A 4)    : ∀ (k : Nat) (M : Mm) (x1 : Int32) (x2 : Int32), wl_X1_next_32 (eN E)   K k M x1 x2 → AW g E A 4 (MQ (gB g) (QV E K A) (gA g) (gS g) (gk g) (gn g) A) 32 [(0, .ref (eA E 37)), (1, .int x1), (2, .int x2)] [] M := by
  intro k
  induction k with
  | zero => intro M x1 x2 h; exact h.elim
  | succ k ih =>
    intro M x1 x2 h
    rw [wl_X1_next_32] at h
    refine aw_aload_n X dX1_next_32 0 rfl ?_
    refine aw_get X dX1_next_33 (X.lt (by decide)) (sh_6 (rfl : tp 37 = 6) _) fl_RX1_65 rfl ?_
    refine aw_aload_n X dX1_next_36 0 rfl ?_
    refine aw_get X dX1_next_37 (X.lt (by decide)) (sh_6 (rfl : tp 37 = 6) _) fl_RX1_14 rfl ?_
    refine aw_get X dX1_next_40 (X.lt (by decide)) (sh_7 (rfl : tp 38 = 7) _) fl_RX1_23 rfl ?_
    refine aw_icmp_ge (tgt := 75) X dX1_next_43 (by decide) (fun c => ?_) (fun c => ?_)
    · have h := h.1 c
      exact aw_sub [0, 1, 2] rfl (lb_X1_next_75 X   _ _ _ h)
    · have h := h.2 c
      refine aw_aload_n X dX1_next_46 0 rfl ?_
      refine aw_get X dX1_next_47 (X.lt (by decide)) (sh_6 (rfl : tp 37 = 6) _) fl_RX1_14 rfl ?_
      refine aw_aload_n X dX1_next_50 0 rfl ?_
      refine aw_get X dX1_next_51 (X.lt (by decide)) (sh_6 (rfl : tp 37 = 6) _) fl_RX1_65 rfl ?_
      refine ca_i X (rn_vn X [.int (M 37 2)] [] (X.lt (by decide)) (sh_7 (rfl : tp 38 = 7) _) rfl rfl kw651 kw34 (c_X2_at h) cal_yX2_at kw649 (Nat.le_of_ble_eq_true rfl) rfl rfl (Nat.le_of_ble_eq_true rfl) dX1_next_54) (fun M3 r4 h => ?_)
      refine aw_bipush (v := 32) X dX1_next_57 (by decide) ?_
      refine aw_icmp_ne (tgt := 75) X dX1_next_59 (by decide) (fun c => ?_) (fun c => ?_)
      · have h := h.1 c
        exact aw_sub [0, 1, 2] rfl (lb_X1_next_75 X   _ _ _ h)
      · have h := h.2 c
        refine aw_aload_n X dX1_next_62 0 rfl ?_
        refine aw_dup X dX1_next_63 rfl ?_
        refine aw_get X dX1_next_64 (X.lt (by decide)) (sh_6 (rfl : tp 37 = 6) _) fl_RX1_65 rfl ?_
        refine aw_iconst (v := 1) X dX1_next_67 (by decide) ?_
        refine aw_iadd X dX1_next_68 ?_
        refine aw_put X dX1_next_69 (X.lt (by decide)) (sh_6 (rfl : tp 37 = 6) _) fl_RX1_65 fw_1_2 (Nat.le_of_ble_eq_true rfl) (sp_6_2 (rfl : tp 37 = 6) _ _) (fun M5 eM5 => ?_)
        have h := h M5 eM5
        refine aw_goto (tgt := 32) X dX1_next_72 (by decide) ?_
        exact aw_sub [0, 1, 2] rfl (ih _ _ _ h)
def wb_X1_next_21 (n : Nat)   (K : Mm → Prop) (M : Mm) (s0 : Int32) : Prop := ∀ v1 : Int32, v1 = M 37 3 → ∀ M2 : Mm, M2 = wr M 37 2 v1 → ∃ kf : Nat, wl_X1_next_32 n K kf M2 s0 v1
set_option maxHeartbeats 4000000 in
set_option maxRecDepth 100000 in
theorem lb_X1_next_21 {g : Gm} {E : En} {A : Nat → Prop} {K : Mm → Prop} (X : CX g cX1_next RX1 none 1 E A 4)    (M : Mm) (s0 : Int32) (h : wb_X1_next_21 (eN E)   K M s0) : AW g E A 4 (MQ (gB g) (QV E K A) (gA g) (gS g) (gk g) (gn g) A) 21 [(0, .ref (eA E 37))] [.int s0] M := by
  unfold wb_X1_next_21 at h
  refine aw_istore_n (lv' := [(1, .int s0), (0, .ref (eA E 37))]) X dX1_next_21 (by decide) rfl ?_
  refine aw_aload_n X dX1_next_22 1 rfl ?_
  refine aw_get X dX1_next_23 (X.lt (by decide)) (sh_6 (rfl : tp 37 = 6) _) fl_RX1_30 rfl ?_
  refine aw_top (fun v1 ev1 => ?_)
  have h := h v1 ev1
  refine aw_istore_n (lv' := [(2, .int v1), (1, .int s0), (0, .ref (eA E 37))]) X dX1_next_26 (by decide) rfl ?_
  refine aw_aload_n X dX1_next_27 2 rfl ?_
  refine aw_iload_n X dX1_next_28 0 rfl ?_
  refine aw_put X dX1_next_29 (X.lt (by decide)) (sh_6 (rfl : tp 37 = 6) _) fl_RX1_65 fw_1_2 (Nat.le_of_ble_eq_true rfl) (sp_6_2 (rfl : tp 37 = 6) _ _) (fun M2 eM2 => ?_)
  have h := h M2 eM2
  obtain ⟨kf, h⟩ := h
  exact aw_sub [2, 1, 0] rfl (lw_X1_next_32 X   kf _ _ _ h)
def wb_X1_next_16 (n : Nat)   (K : Mm → Prop) (M : Mm)  : Prop := wb_X1_next_21 n K M 1
set_option maxHeartbeats 4000000 in
set_option maxRecDepth 100000 in
theorem lb_X1_next_16 {g : Gm} {E : En} {A : Nat → Prop} {K : Mm → Prop} (X : CX g cX1_next RX1 none 1 E A 4)    (M : Mm)  (h : wb_X1_next_16 (eN E)   K M ) : AW g E A 4 (MQ (gB g) (QV E K A) (gA g) (gS g) (gk g) (gn g) A) 16 [(0, .ref (eA E 37))] [] M := by
  unfold wb_X1_next_16 at h
  refine aw_iconst (v := 1) X dX1_next_16 (by decide) ?_
  refine aw_goto (tgt := 21) X dX1_next_17 (by decide) ?_
  exact aw_sub [0] rfl (lb_X1_next_21 X   _ _ h)
def wp_X1_next (n : Nat)  (M : Mm)  (K : Mm → Prop) : Prop := ((M 37 4) = 1 → wb_X1_next_16 n K M ) ∧ (¬ (M 37 4) = 1 → (¬ (M 37 4) = 2 → wb_X1_next_21 n K M 0) ∧ ((M 37 4) = 2 → wb_X1_next_16 n K M ))
set_option maxHeartbeats 4000000 in
set_option maxRecDepth 100000 in
theorem c_X1_next {l : Launch} {E : En} {M : Mm}  {K : Mm → Prop}  (h : wp_X1_next (eN E)  M  K) : Ctr l E yX1_next cX1_next 4 none 1 [.ref (eA E 37)] M (QV E K) := by
  refine Ctr.of (by decide +kernel) (Nat.le_of_ble_eq_true rfl) (fun g A hgl X => ?_)
  subst hgl
  have X : CX g cX1_next RX1 none 1 E A 4 := X
  show AW g E A 4 _ 0 [(0, .ref (eA E 37))] [] M
  unfold wp_X1_next at h
  refine aw_aload_n X dX1_next_0 0 rfl ?_
  refine aw_get X dX1_next_1 (X.lt (by decide)) (sh_6 (rfl : tp 37 = 6) _) fl_RX1_33 rfl ?_
  refine aw_iconst (v := 1) X dX1_next_4 (by decide) ?_
  refine aw_icmp_eq (tgt := 16) X dX1_next_5 (by decide) (fun c => ?_) (fun c => ?_)
  · have h := h.1 c
    exact aw_sub [0] rfl (lb_X1_next_16 X   _ h)
  · have h := h.2 c
    refine aw_aload_n X dX1_next_8 0 rfl ?_
    refine aw_get X dX1_next_9 (X.lt (by decide)) (sh_6 (rfl : tp 37 = 6) _) fl_RX1_33 rfl ?_
    refine aw_iconst (v := 2) X dX1_next_12 (by decide) ?_
    refine aw_icmp_ne (tgt := 20) X dX1_next_13 (by decide) (fun c => ?_) (fun c => ?_)
    · have h := h.1 c
      refine aw_iconst (v := 0) X dX1_next_20 (by decide) ?_
      exact aw_sub [0] rfl (lb_X1_next_21 X   _ _ h)
    · have h := h.2 c
      exact aw_sub [0] rfl (lb_X1_next_16 X   _ h)
def wp_J0_coder_7d493 (n : Nat)  (M : Mm) (this : Nat) (K : Mm → Int32 → Prop) : Prop := (this < 6) ∧ (((1 : Int32) = 0 → (narrow .byte (.int 1) = .int 1) ∧ K M 1) ∧ (¬ (1 : Int32) = 0 → (narrow .byte (.int 0) = .int 0) ∧ K M 0))
set_option maxHeartbeats 4000000 in
set_option maxRecDepth 100000 in
theorem c_J0_coder_7d493 {l : Launch} {E : En} {M : Mm} {this : Nat} {K : Mm → Int32 → Prop}  (h : wp_J0_coder_7d493 (eN E)  M this K) : Ctr l E yJ0_coder_7d493 cJ0_coder_7d493 1 (some .byte) 0 [.ref (eS E (10 + this))] M (QI E K) := by
  refine Ctr.of (by decide +kernel) (Nat.le_of_ble_eq_true rfl) (fun g A hgl X => ?_)
  subst hgl
  have X : CX g cJ0_coder_7d493 RJ0 (some .byte) 0 E A 1 := X
  show AW g E A 1 _ 0 [(0, .ref (eS E (10 + this)))] [] M
  unfold wp_J0_coder_7d493 at h
  obtain ⟨hthis, h⟩ := h
  refine aw_gets X dJ0_coder_7d493_0 X.sta.2.2.1 kw673 rfl ?_
  refine aw_if_eq (tgt := 13) X dJ0_coder_7d493_3 (by decide) (fun c => ?_) (fun c => ?_)
  · have h := h.1 c
    refine aw_iconst (v := 1) X dJ0_coder_7d493_13 (by decide) ?_
    exact aw_nret X dJ0_coder_7d493_14 h.1 h.2
  · have h := h.2 c
    refine aw_aload_n X dJ0_coder_7d493_6 0 rfl ?_
    refine aw_tget X dJ0_coder_7d493_7 (X.sta.2.1.1 this hthis).2.1 kw1445 rfl ?_
    refine aw_goto (tgt := 14) X dJ0_coder_7d493_10 (by decide) ?_
    exact aw_nret X dJ0_coder_7d493_14 h.1 h.2
def wp_J0_length_8abf5 (n : Nat)  (M : Mm) (this : Nat) (K : Mm → Int32 → Prop) : Prop := (this < 6) ∧ (wp_J0_coder_7d493 n M this (fun M1 r2 => K M1 ((Int32.ofNat (sLen.getD this 0)) >>> (r2 &&& 31))))
set_option maxHeartbeats 4000000 in
set_option maxRecDepth 100000 in
theorem c_J0_length_8abf5 {l : Launch} {E : En} {M : Mm} {this : Nat} {K : Mm → Int32 → Prop}  (h : wp_J0_length_8abf5 (eN E)  M this K) : Ctr l E yJ0_length_8abf5 cJ0_length_8abf5 1 (some .int) 1 [.ref (eS E (10 + this))] M (QI E K) := by
  refine Ctr.of (by decide +kernel) (Nat.le_of_ble_eq_true rfl) (fun g A hgl X => ?_)
  subst hgl
  have X : CX g cJ0_length_8abf5 RJ0 (some .int) 1 E A 1 := X
  show AW g E A 1 _ 0 [(0, .ref (eS E (10 + this)))] [] M
  unfold wp_J0_length_8abf5 at h
  obtain ⟨hthis, h⟩ := h
  refine aw_aload_n X dJ0_length_8abf5_0 0 rfl ?_
  refine aw_tget X dJ0_length_8abf5_1 (X.sta.2.1.1 this hthis).2.2.1 kw1444 rfl ?_
  refine aw_tlen (v := Int32.ofNat (sLen.getD this 0)) X dJ0_length_8abf5_4 (X.sta.2.1.1 this hthis).2.2.2 rfl ?_
  refine aw_aload_n X dJ0_length_8abf5_5 0 rfl ?_
  refine ca_i X (rn_t X [] [.int (Int32.ofNat (sLen.getD this 0))] this hthis kw670 kw671 rfl (c_J0_coder_7d493 h) cal_yJ0_coder_7d493 kw669 (Nat.le_of_ble_eq_true rfl) rfl rfl (Nat.le_of_ble_eq_true rfl) dJ0_length_8abf5_6) (fun M1 r2 h => ?_)
  refine aw_ishr X dJ0_length_8abf5_9 ?_
  exact aw_iret X dJ0_length_8abf5_10 h
def wp_J0_isLatin1_aae02 (n : Nat)  (M : Mm) (this : Nat) (K : Mm → Int32 → Prop) : Prop := (this < 6) ∧ (((1 : Int32) = 0 → K M 0) ∧ (¬ (1 : Int32) = 0 → (¬ (0 : Int32) = 0 → K M 0) ∧ ((0 : Int32) = 0 → K M 1)))
set_option maxHeartbeats 4000000 in
set_option maxRecDepth 100000 in
theorem c_J0_isLatin1_aae02 {l : Launch} {E : En} {M : Mm} {this : Nat} {K : Mm → Int32 → Prop}  (h : wp_J0_isLatin1_aae02 (eN E)  M this K) : Ctr l E yJ0_isLatin1_aae02 cJ0_isLatin1_aae02 1 (some .boolean) 0 [.ref (eS E (10 + this))] M (QI E K) := by
  refine Ctr.of (by decide +kernel) (Nat.le_of_ble_eq_true rfl) (fun g A hgl X => ?_)
  subst hgl
  have X : CX g cJ0_isLatin1_aae02 RJ0 (some .boolean) 0 E A 1 := X
  show AW g E A 1 _ 0 [(0, .ref (eS E (10 + this)))] [] M
  unfold wp_J0_isLatin1_aae02 at h
  obtain ⟨hthis, h⟩ := h
  refine aw_gets X dJ0_isLatin1_aae02_0 X.sta.2.2.1 kw673 rfl ?_
  refine aw_if_eq (tgt := 17) X dJ0_isLatin1_aae02_3 (by decide) (fun c => ?_) (fun c => ?_)
  · have h := h.1 c
    refine aw_iconst (v := 0) X dJ0_isLatin1_aae02_17 (by decide) ?_
    exact aw_zret X dJ0_isLatin1_aae02_18 (by decide) h
  · have h := h.2 c
    refine aw_aload_n X dJ0_isLatin1_aae02_6 0 rfl ?_
    refine aw_tget X dJ0_isLatin1_aae02_7 (X.sta.2.1.1 this hthis).2.1 kw1445 rfl ?_
    refine aw_if_ne (tgt := 17) X dJ0_isLatin1_aae02_10 (by decide) (fun c => ?_) (fun c => ?_)
    · have h := h.1 c
      refine aw_iconst (v := 0) X dJ0_isLatin1_aae02_17 (by decide) ?_
      exact aw_zret X dJ0_isLatin1_aae02_18 (by decide) h
    · have h := h.2 c
      refine aw_iconst (v := 1) X dJ0_isLatin1_aae02_13 (by decide) ?_
      refine aw_goto (tgt := 18) X dJ0_isLatin1_aae02_14 (by decide) ?_
      exact aw_zret X dJ0_isLatin1_aae02_18 (by decide) h
def wb_J3_checkIndex_8e157_9 (n : Nat) (p0 : Int32) (p1 : Int32) (p2 : Nat)  (K : Mm → Int32 → Prop) (M : Mm)  : Prop := False
set_option maxHeartbeats 4000000 in
set_option maxRecDepth 100000 in
theorem lb_J3_checkIndex_8e157_9 {g : Gm} {E : En} {A : Nat → Prop} {K : Mm → Int32 → Prop} (X : CX g cJ3_checkIndex_8e157 RJ3 (some .int) 0 E A 3) (p0 : Int32) (p1 : Int32) (p2 : Nat)   (M : Mm)  (h : wb_J3_checkIndex_8e157_9 (eN E) p0 p1 p2  K M ) : AW g E A 3 (MQ (gB g) (QI E K A) (gA g) (gS g) (gk g) (gn g) A) 9 [(0, .int p0), (1, .int p1), (2, .ref p2)] [] M := by
  unfold wb_J3_checkIndex_8e157_9 at h
  refine aw_aload_n X dJ3_checkIndex_8e157_9 2 rfl ?_
  refine aw_iload_n X dJ3_checkIndex_8e157_10 0 rfl ?_
  refine aw_iload_n X dJ3_checkIndex_8e157_11 1 rfl ?_
  exact h.elim
def wp_J3_checkIndex_8e157 (n : Nat)  (M : Mm) (p0 : Int32) (p1 : Int32) (p2 : Nat) (K : Mm → Int32 → Prop) : Prop := (p0 < 0 → wb_J3_checkIndex_8e157_9 n p0 p1 p2 K M ) ∧ (¬ p0 < 0 → (p0 < p1 → K M p0) ∧ (¬ p0 < p1 → wb_J3_checkIndex_8e157_9 n p0 p1 p2 K M ))
set_option maxHeartbeats 4000000 in
set_option maxRecDepth 100000 in
theorem c_J3_checkIndex_8e157 {l : Launch} {E : En} {M : Mm} {p0 : Int32} {p1 : Int32} {p2 : Nat} {K : Mm → Int32 → Prop}  (h : wp_J3_checkIndex_8e157 (eN E)  M p0 p1 p2 K) : Ctr l E yJ3_checkIndex_8e157 cJ3_checkIndex_8e157 3 (some .int) 0 [.int p0, .int p1, .ref p2] M (QI E K) := by
  refine Ctr.of (by decide +kernel) (Nat.le_of_ble_eq_true rfl) (fun g A hgl X => ?_)
  subst hgl
  have X : CX g cJ3_checkIndex_8e157 RJ3 (some .int) 0 E A 3 := X
  show AW g E A 3 _ 0 [(0, .int p0), (1, .int p1), (2, .ref p2)] [] M
  unfold wp_J3_checkIndex_8e157 at h
  refine aw_iload_n X dJ3_checkIndex_8e157_0 0 rfl ?_
  refine aw_if_lt (tgt := 9) X dJ3_checkIndex_8e157_1 (by decide) (fun c => ?_) (fun c => ?_)
  · have h := h.1 c
    exact aw_sub [0, 1, 2] rfl (lb_J3_checkIndex_8e157_9 X p0 p1 p2  _ h)
  · have h := h.2 c
    refine aw_iload_n X dJ3_checkIndex_8e157_4 0 rfl ?_
    refine aw_iload_n X dJ3_checkIndex_8e157_5 1 rfl ?_
    refine aw_icmp_lt (tgt := 16) X dJ3_checkIndex_8e157_6 (by decide) (fun c => ?_) (fun c => ?_)
    · have h := h.1 c
      refine aw_iload_n X dJ3_checkIndex_8e157_16 0 rfl ?_
      exact aw_iret X dJ3_checkIndex_8e157_17 h
    · have h := h.2 c
      exact aw_sub [0, 1, 2] rfl (lb_J3_checkIndex_8e157_9 X p0 p1 p2  _ h)
def wb_J3_checkIndex_8e157N_9 (n : Nat) (p0 : Int32) (p1 : Int32)  (K : Mm → Int32 → Prop) (M : Mm)  : Prop := False
set_option maxHeartbeats 4000000 in
set_option maxRecDepth 100000 in
theorem lb_J3_checkIndex_8e157N_9 {g : Gm} {E : En} {A : Nat → Prop} {K : Mm → Int32 → Prop} (X : CX g cJ3_checkIndex_8e157 RJ3 (some .int) 0 E A 3) (p0 : Int32) (p1 : Int32)   (M : Mm)  (h : wb_J3_checkIndex_8e157N_9 (eN E) p0 p1  K M ) : AW g E A 3 (MQ (gB g) (QI E K A) (gA g) (gS g) (gk g) (gn g) A) 9 [(0, .int p0), (1, .int p1), (2, .null)] [] M := by
  unfold wb_J3_checkIndex_8e157N_9 at h
  refine aw_aload_nN X dJ3_checkIndex_8e157_9 2 rfl ?_
  refine aw_iload_n X dJ3_checkIndex_8e157_10 0 rfl ?_
  refine aw_iload_n X dJ3_checkIndex_8e157_11 1 rfl ?_
  exact h.elim
def wp_J3_checkIndex_8e157N (n : Nat)  (M : Mm) (p0 : Int32) (p1 : Int32) (K : Mm → Int32 → Prop) : Prop := (p0 < 0 → wb_J3_checkIndex_8e157N_9 n p0 p1 K M ) ∧ (¬ p0 < 0 → (p0 < p1 → K M p0) ∧ (¬ p0 < p1 → wb_J3_checkIndex_8e157N_9 n p0 p1 K M ))
set_option maxHeartbeats 4000000 in
set_option maxRecDepth 100000 in
theorem c_J3_checkIndex_8e157N {l : Launch} {E : En} {M : Mm} {p0 : Int32} {p1 : Int32} {K : Mm → Int32 → Prop}  (h : wp_J3_checkIndex_8e157N (eN E)  M p0 p1 K) : Ctr l E yJ3_checkIndex_8e157 cJ3_checkIndex_8e157 3 (some .int) 0 [.int p0, .int p1, .null] M (QI E K) := by
  refine Ctr.of (by decide +kernel) (Nat.le_of_ble_eq_true rfl) (fun g A hgl X => ?_)
  subst hgl
  have X : CX g cJ3_checkIndex_8e157 RJ3 (some .int) 0 E A 3 := X
  show AW g E A 3 _ 0 [(0, .int p0), (1, .int p1), (2, .null)] [] M
  unfold wp_J3_checkIndex_8e157N at h
  refine aw_iload_n X dJ3_checkIndex_8e157_0 0 rfl ?_
  refine aw_if_lt (tgt := 9) X dJ3_checkIndex_8e157_1 (by decide) (fun c => ?_) (fun c => ?_)
  · have h := h.1 c
    exact aw_sub [0, 1, 2] rfl (lb_J3_checkIndex_8e157N_9 X p0 p1  _ h)
  · have h := h.2 c
    refine aw_iload_n X dJ3_checkIndex_8e157_4 0 rfl ?_
    refine aw_iload_n X dJ3_checkIndex_8e157_5 1 rfl ?_
    refine aw_icmp_lt (tgt := 16) X dJ3_checkIndex_8e157_6 (by decide) (fun c => ?_) (fun c => ?_)
    · have h := h.1 c
      refine aw_iload_n X dJ3_checkIndex_8e157_16 0 rfl ?_
      exact aw_iret X dJ3_checkIndex_8e157_17 h
    · have h := h.2 c
      exact aw_sub [0, 1, 2] rfl (lb_J3_checkIndex_8e157N_9 X p0 p1  _ h)
def wp_J0_checkIndex_df160 (n : Nat)  (M : Mm) (p0 : Int32) (p1 : Int32) (K : Mm → Prop) : Prop := (wp_J3_checkIndex_8e157N n M p0 p1 (fun M1 r2 => K M1)) ∧ (∀ tq : Nat, wp_J3_checkIndex_8e157 n M p0 p1 tq (fun M3 r4 => K M3))
set_option maxHeartbeats 4000000 in
set_option maxRecDepth 100000 in
theorem c_J0_checkIndex_df160 {l : Launch} {E : En} {M : Mm} {p0 : Int32} {p1 : Int32} {K : Mm → Prop}  (h : wp_J0_checkIndex_df160 (eN E)  M p0 p1 K) : Ctr l E yJ0_checkIndex_df160 cJ0_checkIndex_df160 2 none 1 [.int p0, .int p1] M (QV E K) := by
  refine Ctr.of (by decide +kernel) (Nat.le_of_ble_eq_true rfl) (fun g A hgl X => ?_)
  subst hgl
  have X : CX g cJ0_checkIndex_df160 RJ0 none 1 E A 2 := X
  show AW g E A 2 _ 0 [(0, .int p0), (1, .int p1)] [] M
  unfold wp_J0_checkIndex_df160 at h
  refine aw_iload_n X dJ0_checkIndex_df160_0 0 rfl ?_
  refine aw_iload_n X dJ0_checkIndex_df160_1 1 rfl ?_
  refine aw_getsq X dJ0_checkIndex_df160_2 X.sta.2.2.2 kw689 rfl ?_ (fun tq => ?_)
  · have h := h.1
    refine ca_i X (rn_s X [.int p0, .int p1, .null] [] kw692 (c_J3_checkIndex_8e157N h) cal_yJ3_checkIndex_8e157 kw691 (Nat.le_of_ble_eq_true rfl) rfl rfl (Nat.le_of_ble_eq_true rfl) dJ0_checkIndex_df160_5) (fun M1 r2 h => ?_)
    refine aw_pop X dJ0_checkIndex_df160_8 rfl ?_
    exact aw_vret X dJ0_checkIndex_df160_9 h
  · have h := h.2 tq
    refine ca_i X (rn_s X [.int p0, .int p1, .ref tq] [] kw692 (c_J3_checkIndex_8e157 h) cal_yJ3_checkIndex_8e157 kw691 (Nat.le_of_ble_eq_true rfl) rfl rfl (Nat.le_of_ble_eq_true rfl) dJ0_checkIndex_df160_5) (fun M3 r4 h => ?_)
    refine aw_pop X dJ0_checkIndex_df160_8 rfl ?_
    exact aw_vret X dJ0_checkIndex_df160_9 h
def wp_J1_charAt_3b067 (n : Nat)  (M : Mm) (p0 : Nat) (p1 : Int32) (K : Mm → Int32 → Prop) : Prop := (p0 < 6) ∧ (wp_J0_checkIndex_df160 n M p1 (Int32.ofNat (sLen.getD p0 0)) (fun M1 => vp_in p1 (sLen.getD p0 0) ∧ ((narrow .char (.int (((((sByt.getD p0 []).getD p1.toNatClampNeg 0) &&& 255).toUInt32 % 65536).toInt32)) = .int (((((sByt.getD p0 []).getD p1.toNatClampNeg 0) &&& 255).toUInt32 % 65536).toInt32)) ∧ K M1 (((((sByt.getD p0 []).getD p1.toNatClampNeg 0) &&& 255).toUInt32 % 65536).toInt32))))
set_option maxHeartbeats 4000000 in
set_option maxRecDepth 100000 in
theorem c_J1_charAt_3b067 {l : Launch} {E : En} {M : Mm} {p0 : Nat} {p1 : Int32} {K : Mm → Int32 → Prop}  (h : wp_J1_charAt_3b067 (eN E)  M p0 p1 K) : Ctr l E yJ1_charAt_3b067 cJ1_charAt_3b067 2 (some .char) 2 [.ref (eS E (20 + p0)), .int p1] M (QI E K) := by
  refine Ctr.of (by decide +kernel) (Nat.le_of_ble_eq_true rfl) (fun g A hgl X => ?_)
  subst hgl
  have X : CX g cJ1_charAt_3b067 RJ1 (some .char) 2 E A 2 := X
  show AW g E A 2 _ 0 [(0, .ref (eS E (20 + p0))), (1, .int p1)] [] M
  unfold wp_J1_charAt_3b067 at h
  obtain ⟨hp0, h⟩ := h
  refine aw_iload_n X dJ1_charAt_3b067_0 1 rfl ?_
  refine aw_aload_n X dJ1_charAt_3b067_1 0 rfl ?_
  refine aw_tlen (v := Int32.ofNat (sLen.getD p0 0)) X dJ1_charAt_3b067_2 (X.sta.2.1.1 p0 hp0).2.2.2 rfl ?_
  refine ca_v X (rn_s X [.int p1, .int (Int32.ofNat (sLen.getD p0 0))] [] kw687 (c_J0_checkIndex_df160 h) cal_yJ0_checkIndex_df160 kw686 (Nat.le_of_ble_eq_true rfl) rfl rfl (Nat.le_of_ble_eq_true rfl) dJ1_charAt_3b067_3) (fun M1 h => ?_)
  refine aw_aload_n X dJ1_charAt_3b067_6 0 rfl ?_
  refine aw_iload_n X dJ1_charAt_3b067_7 1 rfl ?_
  obtain ⟨hin, h⟩ := h
  refine aw_tb X hp0 dJ1_charAt_3b067_8 hin ?_
  refine aw_sipush (v := 255) X dJ1_charAt_3b067_9 (by decide) ?_
  refine aw_iand X dJ1_charAt_3b067_12 ?_
  refine aw_i2c X dJ1_charAt_3b067_13 ?_
  exact aw_nret X dJ1_charAt_3b067_14 h.1 h.2
def wp_J0_charAt_5068e (n : Nat)  (M : Mm) (this : Nat) (p1 : Int32) (K : Mm → Int32 → Prop) : Prop := (this < 6) ∧ (wp_J0_isLatin1_aae02 n M this (fun M1 r2 => (r2 = 0 → False) ∧ (¬ r2 = 0 → wp_J1_charAt_3b067 n M1 this p1 (fun M3 r4 => (narrow .char (.int r4) = .int r4) ∧ K M3 r4))))
set_option maxHeartbeats 4000000 in
set_option maxRecDepth 100000 in
theorem c_J0_charAt_5068e {l : Launch} {E : En} {M : Mm} {this : Nat} {p1 : Int32} {K : Mm → Int32 → Prop}  (h : wp_J0_charAt_5068e (eN E)  M this p1 K) : Ctr l E yJ0_charAt_5068e cJ0_charAt_5068e 2 (some .char) 3 [.ref (eS E (10 + this)), .int p1] M (QI E K) := by
  refine Ctr.of (by decide +kernel) (Nat.le_of_ble_eq_true rfl) (fun g A hgl X => ?_)
  subst hgl
  have X : CX g cJ0_charAt_5068e RJ0 (some .char) 3 E A 2 := X
  show AW g E A 2 _ 0 [(0, .ref (eS E (10 + this))), (1, .int p1)] [] M
  unfold wp_J0_charAt_5068e at h
  obtain ⟨hthis, h⟩ := h
  refine aw_aload_n X dJ0_charAt_5068e_0 0 rfl ?_
  refine ca_i X (rn_t X [] [] this hthis kw680 kw681 rfl (c_J0_isLatin1_aae02 h) cal_yJ0_isLatin1_aae02 kw679 (Nat.le_of_ble_eq_true rfl) rfl rfl (Nat.le_of_ble_eq_true rfl) dJ0_charAt_5068e_1) (fun M1 r2 h => ?_)
  refine aw_if_eq (tgt := 16) X dJ0_charAt_5068e_4 (by decide) (fun c => ?_) (fun c => ?_)
  · have h := h.1 c
    refine aw_aload_n X dJ0_charAt_5068e_16 0 rfl ?_
    refine aw_tget X dJ0_charAt_5068e_17 (X.sta.2.1.1 this hthis).2.2.1 kw1444 rfl ?_
    refine aw_iload_n X dJ0_charAt_5068e_20 1 rfl ?_
    exact h.elim
  · have h := h.2 c
    refine aw_aload_n X dJ0_charAt_5068e_7 0 rfl ?_
    refine aw_tget X dJ0_charAt_5068e_8 (X.sta.2.1.1 this hthis).2.2.1 kw1444 rfl ?_
    refine aw_iload_n X dJ0_charAt_5068e_11 1 rfl ?_
    refine ca_i X (rn_s X [.ref (eS E (20 + this)), .int p1] [] kw684 (c_J1_charAt_3b067 h) cal_yJ1_charAt_3b067 kw683 (Nat.le_of_ble_eq_true rfl) rfl rfl (Nat.le_of_ble_eq_true rfl) dJ0_charAt_5068e_12) (fun M3 r4 h => ?_)
    exact aw_nret X dJ0_charAt_5068e_15 h.1 h.2
def wl_X1_isWord_28 (n : Nat) (p1 : Nat)  (K : Mm → Int32 → Prop) : Nat → Mm → Int32 → Prop
  | 0, _, _ => False
  | k + 1, M, x2 => wp_J0_length_8abf5 n M p1 (fun M3 r4 => (r4 ≤ x2 → K M3 1) ∧ (¬ r4 ≤ x2 → wp_X2_at n M3 38 ((M3 37 2) + x2) (fun M5 r6 => wp_J0_charAt_5068e n M5 p1 x2 (fun M7 r8 => (r6 = r8 → ∀ v9 : Int32, v9 = x2 + 1 → wl_X1_isWord_28 n p1 K k M7 v9) ∧ (¬ r6 = r8 → K M7 0)))))
set_option maxHeartbeats 4000000 in
set_option maxRecDepth 100000 in
theorem lw_X1_isWord_28 {g : Gm} {E : En} {A : Nat → Prop} {K : Mm → Int32 → Prop} (X : CX g cX1_isWord RX1 (some .boolean) 4 E A 3) (p1 : Nat)  (hp1 : p1 < 6) : ∀ (k : Nat) (M : Mm) (x2 : Int32), wl_X1_isWord_28 (eN E) p1  K k M x2 → AW g E A 3 (MQ (gB g) (QI E K A) (gA g) (gS g) (gk g) (gn g) A) 28 [(0, .ref (eA E 37)), (1, .ref (eS E (10 + p1))), (2, .int x2)] [] M := by
  intro k
  induction k with
  | zero => intro M x2 h; exact h.elim
  | succ k ih =>
    intro M x2 h
    rw [wl_X1_isWord_28] at h
    refine aw_iload_n X dX1_isWord_28 2 rfl ?_
    refine aw_aload_n X dX1_isWord_29 1 rfl ?_
    refine ca_i X (rn_t X [] [.int x2] p1 hp1 kw666 kw667 rfl (c_J0_length_8abf5 h) cal_yJ0_length_8abf5 kw665 (Nat.le_of_ble_eq_true rfl) rfl rfl (Nat.le_of_ble_eq_true rfl) dX1_isWord_30) (fun M3 r4 h => ?_)
    refine aw_icmp_ge (tgt := 65) X dX1_isWord_33 (by decide) (fun c => ?_) (fun c => ?_)
    · have h := h.1 c
      refine aw_iconst (v := 1) X dX1_isWord_65 (by decide) ?_
      exact aw_zret X dX1_isWord_66 (by decide) h
    · have h := h.2 c
      refine aw_aload_n X dX1_isWord_36 0 rfl ?_
      refine aw_get X dX1_isWord_37 (X.lt (by decide)) (sh_6 (rfl : tp 37 = 6) _) fl_RX1_14 rfl ?_
      refine aw_aload_n X dX1_isWord_40 0 rfl ?_
      refine aw_get X dX1_isWord_41 (X.lt (by decide)) (sh_6 (rfl : tp 37 = 6) _) fl_RX1_65 rfl ?_
      refine aw_iload_n X dX1_isWord_44 2 rfl ?_
      refine aw_iadd X dX1_isWord_45 ?_
      refine ca_i X (rn_vn X [.int ((M3 37 2) + x2)] [] (X.lt (by decide)) (sh_7 (rfl : tp 38 = 7) _) rfl rfl kw651 kw34 (c_X2_at h) cal_yX2_at kw649 (Nat.le_of_ble_eq_true rfl) rfl rfl (Nat.le_of_ble_eq_true rfl) dX1_isWord_46) (fun M5 r6 h => ?_)
      refine aw_aload_n X dX1_isWord_49 1 rfl ?_
      refine aw_iload_n X dX1_isWord_50 2 rfl ?_
      refine ca_i X (rn_t X [.int x2] [.int r6] p1 hp1 kw676 kw677 rfl (c_J0_charAt_5068e h) cal_yJ0_charAt_5068e kw675 (Nat.le_of_ble_eq_true rfl) rfl rfl (Nat.le_of_ble_eq_true rfl) dX1_isWord_51) (fun M7 r8 h => ?_)
      refine aw_icmp_eq (tgt := 59) X dX1_isWord_54 (by decide) (fun c => ?_) (fun c => ?_)
      · have h := h.1 c
        obtain ⟨v9, ev9⟩ : ∃ y : Int32, y = x2 + 1 := ⟨_, rfl⟩
        have h := h v9 ev9
        refine aw_iinc (v := v9) (lv' := [(2, .int v9), (0, .ref (eA E 37)), (1, .ref (eS E (10 + p1)))]) X dX1_isWord_59 2 rfl (by rw [ev9]; rfl) (by decide) rfl ?_
        refine aw_goto (tgt := 28) X dX1_isWord_62 (by decide) ?_
        exact aw_sub [1, 2, 0] rfl (ih _ _ h)
      · have h := h.2 c
        refine aw_iconst (v := 0) X dX1_isWord_57 (by decide) ?_
        exact aw_zret X dX1_isWord_58 (by decide) h
def wp_X1_isWord (n : Nat)  (M : Mm) (p1 : Nat) (K : Mm → Int32 → Prop) : Prop := (p1 < 6) ∧ ((¬ (M 37 4) = 1 → K M 0) ∧ ((M 37 4) = 1 → wp_J0_length_8abf5 n M p1 (fun M1 r2 => (((M 37 3) - (M 37 2)) = r2 → ∃ kf : Nat, wl_X1_isWord_28 n p1 K kf M1 0) ∧ (¬ ((M 37 3) - (M 37 2)) = r2 → K M1 0))))
set_option maxHeartbeats 4000000 in
set_option maxRecDepth 100000 in
theorem c_X1_isWord {l : Launch} {E : En} {M : Mm} {p1 : Nat} {K : Mm → Int32 → Prop}  (h : wp_X1_isWord (eN E)  M p1 K) : Ctr l E yX1_isWord cX1_isWord 3 (some .boolean) 4 [.ref (eA E 37), .ref (eS E (10 + p1))] M (QI E K) := by
  refine Ctr.of (by decide +kernel) (Nat.le_of_ble_eq_true rfl) (fun g A hgl X => ?_)
  subst hgl
  have X : CX g cX1_isWord RX1 (some .boolean) 4 E A 3 := X
  show AW g E A 3 _ 0 [(0, .ref (eA E 37)), (1, .ref (eS E (10 + p1)))] [] M
  unfold wp_X1_isWord at h
  obtain ⟨hp1, h⟩ := h
  refine aw_aload_n X dX1_isWord_0 0 rfl ?_
  refine aw_get X dX1_isWord_1 (X.lt (by decide)) (sh_6 (rfl : tp 37 = 6) _) fl_RX1_33 rfl ?_
  refine aw_iconst (v := 1) X dX1_isWord_4 (by decide) ?_
  refine aw_icmp_ne (tgt := 24) X dX1_isWord_5 (by decide) (fun c => ?_) (fun c => ?_)
  · have h := h.1 c
    refine aw_iconst (v := 0) X dX1_isWord_24 (by decide) ?_
    exact aw_zret X dX1_isWord_25 (by decide) h
  · have h := h.2 c
    refine aw_aload_n X dX1_isWord_8 0 rfl ?_
    refine aw_get X dX1_isWord_9 (X.lt (by decide)) (sh_6 (rfl : tp 37 = 6) _) fl_RX1_30 rfl ?_
    refine aw_aload_n X dX1_isWord_12 0 rfl ?_
    refine aw_get X dX1_isWord_13 (X.lt (by decide)) (sh_6 (rfl : tp 37 = 6) _) fl_RX1_65 rfl ?_
    refine aw_isub X dX1_isWord_16 ?_
    refine aw_aload_n X dX1_isWord_17 1 rfl ?_
    refine ca_i X (rn_t X [] [.int ((M 37 3) - (M 37 2))] p1 hp1 kw666 kw667 rfl (c_J0_length_8abf5 h) cal_yJ0_length_8abf5 kw665 (Nat.le_of_ble_eq_true rfl) rfl rfl (Nat.le_of_ble_eq_true rfl) dX1_isWord_18) (fun M1 r2 h => ?_)
    refine aw_icmp_eq (tgt := 26) X dX1_isWord_21 (by decide) (fun c => ?_) (fun c => ?_)
    · have h := h.1 c
      refine aw_iconst (v := 0) X dX1_isWord_26 (by decide) ?_
      refine aw_istore_n (lv' := [(2, .int 0), (0, .ref (eA E 37)), (1, .ref (eS E (10 + p1)))]) X dX1_isWord_27 (by decide) rfl ?_
      obtain ⟨kf, h⟩ := h
      exact aw_sub [1, 2, 0] rfl (lw_X1_isWord_28 X p1 hp1  kf _ _ h)
    · have h := h.2 c
      refine aw_iconst (v := 0) X dX1_isWord_24 (by decide) ?_
      exact aw_zret X dX1_isWord_25 (by decide) h
def wp_X1_keyHere (n : Nat)  (M : Mm)  (K : Mm → Int32 → Prop) : Prop := wp_X1_isWord n M 0 (fun M1 r2 => (r2 = 0 → wp_X1_isWord n M1 1 (fun M3 r4 => (r4 = 0 → wp_X1_isWord n M3 2 (fun M5 r6 => (r6 = 0 → K M5 (-1)) ∧ (¬ r6 = 0 → K M5 2))) ∧ (¬ r4 = 0 → K M3 1))) ∧ (¬ r2 = 0 → K M1 0))
set_option maxHeartbeats 4000000 in
set_option maxRecDepth 100000 in
theorem c_X1_keyHere {l : Launch} {E : En} {M : Mm}  {K : Mm → Int32 → Prop}  (h : wp_X1_keyHere (eN E)  M  K) : Ctr l E yX1_keyHere cX1_keyHere 1 (some .int) 5 [.ref (eA E 37)] M (QI E K) := by
  refine Ctr.of (by decide +kernel) (Nat.le_of_ble_eq_true rfl) (fun g A hgl X => ?_)
  subst hgl
  have X : CX g cX1_keyHere RX1 (some .int) 5 E A 1 := X
  show AW g E A 1 _ 0 [(0, .ref (eA E 37))] [] M
  unfold wp_X1_keyHere at h
  refine aw_aload_n X dX1_keyHere_0 0 rfl ?_
  refine aw_ldcS X dX1_keyHere_1 X.str.1 ?_
  refine ca_i X (rn_v X [.ref (eS E (10 + 0))] [] (X.lt (by decide)) (sh_6 (rfl : tp 37 = 6) _) rfl rfl kw663 kw36 (c_X1_isWord h) cal_yX1_isWord kw661 (Nat.le_of_ble_eq_true rfl) rfl rfl (Nat.le_of_ble_eq_true rfl) dX1_keyHere_3) (fun M1 r2 h => ?_)
  refine aw_if_eq (tgt := 11) X dX1_keyHere_6 (by decide) (fun c => ?_) (fun c => ?_)
  · have h := h.1 c
    refine aw_aload_n X dX1_keyHere_11 0 rfl ?_
    refine aw_ldcS X dX1_keyHere_12 X.str.2.1 ?_
    refine ca_i X (rn_v X [.ref (eS E (10 + 1))] [] (X.lt (by decide)) (sh_6 (rfl : tp 37 = 6) _) rfl rfl kw663 kw36 (c_X1_isWord h) cal_yX1_isWord kw661 (Nat.le_of_ble_eq_true rfl) rfl rfl (Nat.le_of_ble_eq_true rfl) dX1_keyHere_14) (fun M3 r4 h => ?_)
    refine aw_if_eq (tgt := 22) X dX1_keyHere_17 (by decide) (fun c => ?_) (fun c => ?_)
    · have h := h.1 c
      refine aw_aload_n X dX1_keyHere_22 0 rfl ?_
      refine aw_ldcS X dX1_keyHere_23 X.str.2.2.1 ?_
      refine ca_i X (rn_v X [.ref (eS E (10 + 2))] [] (X.lt (by decide)) (sh_6 (rfl : tp 37 = 6) _) rfl rfl kw663 kw36 (c_X1_isWord h) cal_yX1_isWord kw661 (Nat.le_of_ble_eq_true rfl) rfl rfl (Nat.le_of_ble_eq_true rfl) dX1_keyHere_25) (fun M5 r6 h => ?_)
      refine aw_if_eq (tgt := 35) X dX1_keyHere_28 (by decide) (fun c => ?_) (fun c => ?_)
      · have h := h.1 c
        refine aw_iconst (v := (-1)) X dX1_keyHere_35 (by decide) ?_
        exact aw_iret X dX1_keyHere_36 h
      · have h := h.2 c
        refine aw_iconst (v := 2) X dX1_keyHere_31 (by decide) ?_
        refine aw_goto (tgt := 36) X dX1_keyHere_32 (by decide) ?_
        exact aw_iret X dX1_keyHere_36 h
    · have h := h.2 c
      refine aw_iconst (v := 1) X dX1_keyHere_20 (by decide) ?_
      exact aw_iret X dX1_keyHere_21 h
  · have h := h.2 c
    refine aw_iconst (v := 0) X dX1_keyHere_9 (by decide) ?_
    exact aw_iret X dX1_keyHere_10 h
def wp_X1_addPiece (n : Nat)  (M : Mm) (p1 : Int32) (K : Mm → Prop) : Prop := wp_X2_add n M 40 p1 (fun M1 => ∀ M3 : Mm, M3 = wr M1 37 6 ((M1 37 6) + 1) → wp_X1_next n M3 (fun M4 => K M4))
set_option maxHeartbeats 4000000 in
set_option maxRecDepth 100000 in
theorem c_X1_addPiece {l : Launch} {E : En} {M : Mm} {p1 : Int32} {K : Mm → Prop}  (h : wp_X1_addPiece (eN E)  M p1 K) : Ctr l E yX1_addPiece cX1_addPiece 2 none 2 [.ref (eA E 37), .int p1] M (QV E K) := by
  refine Ctr.of (by decide +kernel) (Nat.le_of_ble_eq_true rfl) (fun g A hgl X => ?_)
  subst hgl
  have X : CX g cX1_addPiece RX1 none 2 E A 2 := X
  show AW g E A 2 _ 0 [(0, .ref (eA E 37)), (1, .int p1)] [] M
  unfold wp_X1_addPiece at h
  refine aw_aload_n X dX1_addPiece_0 0 rfl ?_
  refine aw_get X dX1_addPiece_1 (X.lt (by decide)) (sh_6 (rfl : tp 37 = 6) _) fl_RX1_20 rfl ?_
  refine aw_iload_n X dX1_addPiece_4 1 rfl ?_
  refine ca_v X (rn_vn X [.int p1] [] (X.lt (by decide)) (sh_7 (rfl : tp 40 = 7) _) rfl rfl kw631 kw31 (c_X2_add h) cal_yX2_add kw731 (Nat.le_of_ble_eq_true rfl) rfl rfl (Nat.le_of_ble_eq_true rfl) dX1_addPiece_5) (fun M1 h => ?_)
  refine aw_aload_n X dX1_addPiece_8 0 rfl ?_
  refine aw_dup X dX1_addPiece_9 rfl ?_
  refine aw_get X dX1_addPiece_10 (X.lt (by decide)) (sh_6 (rfl : tp 37 = 6) _) fl_RX1_27 rfl ?_
  refine aw_iconst (v := 1) X dX1_addPiece_13 (by decide) ?_
  refine aw_iadd X dX1_addPiece_14 ?_
  refine aw_put X dX1_addPiece_15 (X.lt (by decide)) (sh_6 (rfl : tp 37 = 6) _) fl_RX1_27 fw_1_6 (Nat.le_of_ble_eq_true rfl) (sp_6_6 (rfl : tp 37 = 6) _ _) (fun M3 eM3 => ?_)
  have h := h M3 eM3
  refine aw_aload_n X dX1_addPiece_18 0 rfl ?_
  refine ca_v X (rn_v X [] [] (X.lt (by decide)) (sh_6 (rfl : tp 37 = 6) _) rfl rfl kw647 kw33 (c_X1_next h) cal_yX1_next kw645 (Nat.le_of_ble_eq_true rfl) rfl rfl (Nat.le_of_ble_eq_true rfl) dX1_addPiece_19) (fun M4 h => ?_)
  exact aw_vret X dX1_addPiece_22 h
def wl_X1_readsNumber_7 (n : Nat)   (K : Mm → Int32 → Prop) : Nat → Mm → Int32 → Int32 → Prop
  | 0, _, _, _ => False
  | k + 1, M, x1, x2 => ((M 37 3) ≤ x2 → wp_X1_addPiece n M x1 (fun M2 => K M2 1)) ∧ (¬ (M 37 3) ≤ x2 → wp_X2_at n M 38 x2 (fun M4 r5 => ∀ v6 : Int32, v6 = ((x1 * 10) + r5) - 48 → ∀ v7 : Int32, v7 = x2 + 1 → wl_X1_readsNumber_7 n K k M4 v6 v7))
set_option maxHeartbeats 4000000 in
set_option maxRecDepth 100000 in
theorem lw_X1_readsNumber_7 {g : Gm} {E : En} {A : Nat → Prop} {K : Mm → Int32 → Prop} (X : CX g cX1_readsNumber RX1 (some .boolean) 3 E A 3)    : ∀ (k : Nat) (M : Mm) (x1 : Int32) (x2 : Int32), wl_X1_readsNumber_7 (eN E)   K k M x1 x2 → AW g E A 3 (MQ (gB g) (QI E K A) (gA g) (gS g) (gk g) (gn g) A) 7 [(0, .ref (eA E 37)), (1, .int x1), (2, .int x2)] [] M := by
  intro k
  induction k with
  | zero => intro M x1 x2 h; exact h.elim
  | succ k ih =>
    intro M x1 x2 h
    rw [wl_X1_readsNumber_7] at h
    refine aw_iload_n X dX1_readsNumber_7 2 rfl ?_
    refine aw_aload_n X dX1_readsNumber_8 0 rfl ?_
    refine aw_get X dX1_readsNumber_9 (X.lt (by decide)) (sh_6 (rfl : tp 37 = 6) _) fl_RX1_30 rfl ?_
    refine aw_icmp_ge (tgt := 38) X dX1_readsNumber_12 (by decide) (fun c => ?_) (fun c => ?_)
    · have h := h.1 c
      refine aw_aload_n X dX1_readsNumber_38 0 rfl ?_
      refine aw_iload_n X dX1_readsNumber_39 1 rfl ?_
      refine ca_v X (rn_v X [.int x1] [] (X.lt (by decide)) (sh_6 (rfl : tp 37 = 6) _) rfl rfl kw729 kw40 (c_X1_addPiece h) cal_yX1_addPiece kw727 (Nat.le_of_ble_eq_true rfl) rfl rfl (Nat.le_of_ble_eq_true rfl) dX1_readsNumber_40) (fun M2 h => ?_)
      refine aw_iconst (v := 1) X dX1_readsNumber_43 (by decide) ?_
      exact aw_zret X dX1_readsNumber_44 (by decide) h
    · have h := h.2 c
      refine aw_iload_n X dX1_readsNumber_15 1 rfl ?_
      refine aw_bipush (v := 10) X dX1_readsNumber_16 (by decide) ?_
      refine aw_imul X dX1_readsNumber_18 ?_
      refine aw_aload_n X dX1_readsNumber_19 0 rfl ?_
      refine aw_get X dX1_readsNumber_20 (X.lt (by decide)) (sh_6 (rfl : tp 37 = 6) _) fl_RX1_14 rfl ?_
      refine aw_iload_n X dX1_readsNumber_23 2 rfl ?_
      refine ca_i X (rn_vn X [.int x2] [.int (x1 * 10)] (X.lt (by decide)) (sh_7 (rfl : tp 38 = 7) _) rfl rfl kw651 kw34 (c_X2_at h) cal_yX2_at kw649 (Nat.le_of_ble_eq_true rfl) rfl rfl (Nat.le_of_ble_eq_true rfl) dX1_readsNumber_24) (fun M4 r5 h => ?_)
      refine aw_iadd X dX1_readsNumber_27 ?_
      refine aw_bipush (v := 48) X dX1_readsNumber_28 (by decide) ?_
      refine aw_isub X dX1_readsNumber_30 ?_
      refine aw_top (fun v6 ev6 => ?_)
      have h := h v6 ev6
      refine aw_istore_n (lv' := [(1, .int v6), (0, .ref (eA E 37)), (2, .int x2)]) X dX1_readsNumber_31 (by decide) rfl ?_
      obtain ⟨v7, ev7⟩ : ∃ y : Int32, y = x2 + 1 := ⟨_, rfl⟩
      have h := h v7 ev7
      refine aw_iinc (v := v7) (lv' := [(2, .int v7), (1, .int v6), (0, .ref (eA E 37))]) X dX1_readsNumber_32 2 rfl (by rw [ev7]; rfl) (by decide) rfl ?_
      refine aw_goto (tgt := 7) X dX1_readsNumber_35 (by decide) ?_
      exact aw_sub [2, 1, 0] rfl (ih _ _ _ h)
def wp_X1_readsNumber (n : Nat)  (M : Mm)  (K : Mm → Int32 → Prop) : Prop := ∀ v1 : Int32, v1 = M 37 2 → ∃ kf : Nat, wl_X1_readsNumber_7 n K kf M 0 v1
set_option maxHeartbeats 4000000 in
set_option maxRecDepth 100000 in
theorem c_X1_readsNumber {l : Launch} {E : En} {M : Mm}  {K : Mm → Int32 → Prop}  (h : wp_X1_readsNumber (eN E)  M  K) : Ctr l E yX1_readsNumber cX1_readsNumber 3 (some .boolean) 3 [.ref (eA E 37)] M (QI E K) := by
  refine Ctr.of (by decide +kernel) (Nat.le_of_ble_eq_true rfl) (fun g A hgl X => ?_)
  subst hgl
  have X : CX g cX1_readsNumber RX1 (some .boolean) 3 E A 3 := X
  show AW g E A 3 _ 0 [(0, .ref (eA E 37))] [] M
  unfold wp_X1_readsNumber at h
  refine aw_iconst (v := 0) X dX1_readsNumber_0 (by decide) ?_
  refine aw_istore_n (lv' := [(1, .int 0), (0, .ref (eA E 37))]) X dX1_readsNumber_1 (by decide) rfl ?_
  refine aw_aload_n X dX1_readsNumber_2 1 rfl ?_
  refine aw_get X dX1_readsNumber_3 (X.lt (by decide)) (sh_6 (rfl : tp 37 = 6) _) fl_RX1_65 rfl ?_
  refine aw_top (fun v1 ev1 => ?_)
  have h := h v1 ev1
  refine aw_istore_n (lv' := [(2, .int v1), (1, .int 0), (0, .ref (eA E 37))]) X dX1_readsNumber_6 (by decide) rfl ?_
  obtain ⟨kf, h⟩ := h
  exact aw_sub [2, 1, 0] rfl (lw_X1_readsNumber_7 X   kf _ _ _ h)
def wp_X1_namesOf (n : Nat)  (M : Mm) (p0 : Int32) (K : Mm → Nat → Prop) : Prop := (p0 = 0 → K M 3) ∧ (p0 = 1 → K M 4) ∧ (¬ p0 = 0 → ¬ p0 = 1 → K M 5)
set_option maxHeartbeats 4000000 in
set_option maxRecDepth 100000 in
theorem c_X1_namesOf {l : Launch} {E : En} {M : Mm} {p0 : Int32} {K : Mm → Nat → Prop}  (h : wp_X1_namesOf (eN E)  M p0 K) : Ctr l E yX1_namesOf cX1_namesOf 1 (some (.object "java/lang/String")) 0 [.int p0] M (QT E K) := by
  refine Ctr.of (by decide +kernel) (Nat.le_of_ble_eq_true rfl) (fun g A hgl X => ?_)
  subst hgl
  have X : CX g cX1_namesOf RX1 (some (.object "java/lang/String")) 0 E A 1 := X
  show AW g E A 1 _ 0 [(0, .int p0)] [] M
  unfold wp_X1_namesOf at h
  refine aw_iload_n X dX1_namesOf_0 0 rfl ?_
  by_cases c0 : p0 = 0
  · have h := h.1 c0
    refine aw_lookup (tgt := 28) X dX1_namesOf_1 (by decide) (by first | (rw [c0]; done) | (rw [c0]; rfl)) (by decide) ?_
    refine aw_ldcS X dX1_namesOf_28 X.str.2.2.2.1 ?_
    exact aw_tret X 3 dX1_namesOf_30 h
  · by_cases c1 : p0 = 1
    · have h := h.2.1 c1
      refine aw_lookup (tgt := 31) X dX1_namesOf_1 (by decide) (by first | (rw [c1]; done) | (rw [c1]; rfl)) (by decide) ?_
      refine aw_ldcS X dX1_namesOf_31 X.str.2.2.2.2.1 ?_
      exact aw_tret X 4 dX1_namesOf_33 h
    · have h := h.2.2 c0 c1
      refine aw_lookup (off := 33) (tgt := 34) X dX1_namesOf_1 (by decide) (by show Op.lookupswitch.offset [(0, 27), (1, 30)] _ _ = _; rw [lv_osw (a := 0) c0 (by decide), lv_osw (a := 1) c1 (by decide)]; first | done | rfl) (by decide) ?_
      refine aw_ldcS X dX1_namesOf_34 X.str.2.2.2.2.2 ?_
      exact aw_tret X 5 dX1_namesOf_36 h
def wp_J1_canEncode_9a6ad (n : Nat)  (M : Mm) (p0 : Int32) (K : Mm → Int32 → Prop) : Prop := (p0 < 0 → K M 0) ∧ (¬ p0 < 0 → (255 < p0 → K M 0) ∧ (¬ 255 < p0 → K M 1))
set_option maxHeartbeats 4000000 in
set_option maxRecDepth 100000 in
theorem c_J1_canEncode_9a6ad {l : Launch} {E : En} {M : Mm} {p0 : Int32} {K : Mm → Int32 → Prop}  (h : wp_J1_canEncode_9a6ad (eN E)  M p0 K) : Ctr l E yJ1_canEncode_9a6ad cJ1_canEncode_9a6ad 1 (some .boolean) 0 [.int p0] M (QI E K) := by
  refine Ctr.of (by decide +kernel) (Nat.le_of_ble_eq_true rfl) (fun g A hgl X => ?_)
  subst hgl
  have X : CX g cJ1_canEncode_9a6ad RJ1 (some .boolean) 0 E A 1 := X
  show AW g E A 1 _ 0 [(0, .int p0)] [] M
  unfold wp_J1_canEncode_9a6ad at h
  refine aw_iload_n X dJ1_canEncode_9a6ad_0 0 rfl ?_
  refine aw_if_lt (tgt := 15) X dJ1_canEncode_9a6ad_1 (by decide) (fun c => ?_) (fun c => ?_)
  · have h := h.1 c
    refine aw_iconst (v := 0) X dJ1_canEncode_9a6ad_15 (by decide) ?_
    exact aw_zret X dJ1_canEncode_9a6ad_16 (by decide) h
  · have h := h.2 c
    refine aw_iload_n X dJ1_canEncode_9a6ad_4 0 rfl ?_
    refine aw_sipush (v := 255) X dJ1_canEncode_9a6ad_5 (by decide) ?_
    refine aw_icmp_gt (tgt := 15) X dJ1_canEncode_9a6ad_8 (by decide) (fun c => ?_) (fun c => ?_)
    · have h := h.1 c
      refine aw_iconst (v := 0) X dJ1_canEncode_9a6ad_15 (by decide) ?_
      exact aw_zret X dJ1_canEncode_9a6ad_16 (by decide) h
    · have h := h.2 c
      refine aw_iconst (v := 1) X dJ1_canEncode_9a6ad_11 (by decide) ?_
      refine aw_goto (tgt := 16) X dJ1_canEncode_9a6ad_12 (by decide) ?_
      exact aw_zret X dJ1_canEncode_9a6ad_16 (by decide) h
def wl_J1_indexOfChar_4cfef_7 (n : Nat) (p0 : Nat) (p1 : Int32) (p2 : Int32) (p3 : Int32)  (K : Mm → Int32 → Prop) : Nat → Mm → Int32 → Int32 → Prop
  | 0, _, _, _ => False
  | k + 1, M, x4, x5 => (p3 ≤ x5 → K M (-1)) ∧ (¬ p3 ≤ x5 → vp_in x5 (sLen.getD p0 0) ∧ ((¬ ((sByt.getD p0 []).getD x5.toNatClampNeg 0) = x4 → ∀ v2 : Int32, v2 = x5 + 1 → wl_J1_indexOfChar_4cfef_7 n p0 p1 p2 p3 K k M x4 v2) ∧ (((sByt.getD p0 []).getD x5.toNatClampNeg 0) = x4 → K M x5)))
set_option maxHeartbeats 4000000 in
set_option maxRecDepth 100000 in
theorem lw_J1_indexOfChar_4cfef_7 {g : Gm} {E : En} {A : Nat → Prop} {K : Mm → Int32 → Prop} (X : CX g cJ1_indexOfChar_4cfef RJ1 (some .int) 0 E A 6) (p0 : Nat) (p1 : Int32) (p2 : Int32) (p3 : Int32)  (hp0 : p0 < 6) : ∀ (k : Nat) (M : Mm) (x4 : Int32) (x5 : Int32), wl_J1_indexOfChar_4cfef_7 (eN E) p0 p1 p2 p3  K k M x4 x5 → AW g E A 6 (MQ (gB g) (QI E K A) (gA g) (gS g) (gk g) (gn g) A) 7 [(0, .ref (eS E (20 + p0))), (3, .int p3), (4, .int x4), (5, .int x5)] [] M := by
  intro k
  induction k with
  | zero => intro M x4 x5 h; exact h.elim
  | succ k ih =>
    intro M x4 x5 h
    rw [wl_J1_indexOfChar_4cfef_7] at h
    refine aw_iload X dJ1_indexOfChar_4cfef_7 3 rfl ?_
    refine aw_iload_n X dJ1_indexOfChar_4cfef_9 1 rfl ?_
    refine aw_icmp_ge (tgt := 31) X dJ1_indexOfChar_4cfef_10 (by decide) (fun c => ?_) (fun c => ?_)
    · have h := h.1 c
      refine aw_iconst (v := (-1)) X dJ1_indexOfChar_4cfef_31 (by decide) ?_
      exact aw_iret X dJ1_indexOfChar_4cfef_32 h
    · have h := h.2 c
      refine aw_aload_n X dJ1_indexOfChar_4cfef_13 0 rfl ?_
      refine aw_iload X dJ1_indexOfChar_4cfef_14 3 rfl ?_
      obtain ⟨hin, h⟩ := h
      refine aw_tb X hp0 dJ1_indexOfChar_4cfef_16 hin ?_
      refine aw_iload X dJ1_indexOfChar_4cfef_17 2 rfl ?_
      refine aw_icmp_ne (tgt := 25) X dJ1_indexOfChar_4cfef_19 (by decide) (fun c => ?_) (fun c => ?_)
      · have h := h.1 c
        obtain ⟨v2, ev2⟩ : ∃ y : Int32, y = x5 + 1 := ⟨_, rfl⟩
        have h := h v2 ev2
        refine aw_iinc (v := v2) (lv' := [(5, .int v2), (0, .ref (eS E (20 + p0))), (3, .int p3), (4, .int x4)]) X dJ1_indexOfChar_4cfef_25 3 rfl (by rw [ev2]; rfl) (by decide) rfl ?_
        refine aw_goto (tgt := 7) X dJ1_indexOfChar_4cfef_28 (by decide) ?_
        exact aw_sub [1, 2, 3, 0] rfl (ih _ _ _ h)
      · have h := h.2 c
        refine aw_iload X dJ1_indexOfChar_4cfef_22 3 rfl ?_
        exact aw_iret X dJ1_indexOfChar_4cfef_24 h
def wp_J1_indexOfChar_4cfef (n : Nat)  (M : Mm) (p0 : Nat) (p1 : Int32) (p2 : Int32) (p3 : Int32) (K : Mm → Int32 → Prop) : Prop := (p0 < 6) ∧ (∀ v1 : Int32, v1 = p1.toInt8.toInt32 → ∃ kf : Nat, wl_J1_indexOfChar_4cfef_7 n p0 p1 p2 p3 K kf M v1 p2)
set_option maxHeartbeats 4000000 in
set_option maxRecDepth 100000 in
theorem c_J1_indexOfChar_4cfef {l : Launch} {E : En} {M : Mm} {p0 : Nat} {p1 : Int32} {p2 : Int32} {p3 : Int32} {K : Mm → Int32 → Prop}  (h : wp_J1_indexOfChar_4cfef (eN E)  M p0 p1 p2 p3 K) : Ctr l E yJ1_indexOfChar_4cfef cJ1_indexOfChar_4cfef 6 (some .int) 0 [.ref (eS E (20 + p0)), .int p1, .int p2, .int p3] M (QI E K) := by
  refine Ctr.of (by decide +kernel) (Nat.le_of_ble_eq_true rfl) (fun g A hgl X => ?_)
  subst hgl
  have X : CX g cJ1_indexOfChar_4cfef RJ1 (some .int) 0 E A 6 := X
  show AW g E A 6 _ 0 [(0, .ref (eS E (20 + p0))), (1, .int p1), (2, .int p2), (3, .int p3)] [] M
  unfold wp_J1_indexOfChar_4cfef at h
  obtain ⟨hp0, h⟩ := h
  refine aw_iload_n X dJ1_indexOfChar_4cfef_0 1 rfl ?_
  refine aw_i2b X dJ1_indexOfChar_4cfef_1 ?_
  refine aw_top (fun v1 ev1 => ?_)
  have h := h v1 ev1
  refine aw_istore (lv' := [(4, .int v1), (0, .ref (eS E (20 + p0))), (1, .int p1), (2, .int p2), (3, .int p3)]) X dJ1_indexOfChar_4cfef_2 (by decide) rfl ?_
  refine aw_iload_n X dJ1_indexOfChar_4cfef_4 3 rfl ?_
  refine aw_istore (lv' := [(5, .int p2), (4, .int v1), (0, .ref (eS E (20 + p0))), (1, .int p1), (2, .int p2), (3, .int p3)]) X dJ1_indexOfChar_4cfef_5 (by decide) rfl ?_
  obtain ⟨kf, h⟩ := h
  exact aw_sub [2, 5, 1, 0] rfl (lw_J1_indexOfChar_4cfef_7 X p0 p1 p2 p3 hp0  kf _ _ _ h)
def wp_J1_indexOf_4cfef (n : Nat)  (M : Mm) (p0 : Nat) (p1 : Int32) (p2 : Int32) (p3 : Int32) (K : Mm → Int32 → Prop) : Prop := (p0 < 6) ∧ (wp_J1_canEncode_9a6ad n M p1 (fun M1 r2 => (¬ r2 = 0 → ∀ v3 : Int32, v3 = jmax p2 0 → ∀ v4 : Int32, v4 = jmin p3 (Int32.ofNat (sLen.getD p0 0)) → (v3 < v4 → wp_J1_indexOfChar_4cfef n M1 p0 p1 v3 v4 (fun M5 r6 => K M5 r6)) ∧ (¬ v3 < v4 → K M1 (-1))) ∧ (r2 = 0 → K M1 (-1))))
set_option maxHeartbeats 4000000 in
set_option maxRecDepth 100000 in
theorem c_J1_indexOf_4cfef {l : Launch} {E : En} {M : Mm} {p0 : Nat} {p1 : Int32} {p2 : Int32} {p3 : Int32} {K : Mm → Int32 → Prop}  (h : wp_J1_indexOf_4cfef (eN E)  M p0 p1 p2 p3 K) : Ctr l E yJ1_indexOf_4cfef cJ1_indexOf_4cfef 4 (some .int) 1 [.ref (eS E (20 + p0)), .int p1, .int p2, .int p3] M (QI E K) := by
  refine Ctr.of (by decide +kernel) (Nat.le_of_ble_eq_true rfl) (fun g A hgl X => ?_)
  subst hgl
  have X : CX g cJ1_indexOf_4cfef RJ1 (some .int) 1 E A 4 := X
  show AW g E A 4 _ 0 [(0, .ref (eS E (20 + p0))), (1, .int p1), (2, .int p2), (3, .int p3)] [] M
  unfold wp_J1_indexOf_4cfef at h
  obtain ⟨hp0, h⟩ := h
  refine aw_iload_n X dJ1_indexOf_4cfef_0 1 rfl ?_
  refine ca_i X (rn_s X [.int p1] [] kw755 (c_J1_canEncode_9a6ad h) cal_yJ1_canEncode_9a6ad kw754 (Nat.le_of_ble_eq_true rfl) rfl rfl (Nat.le_of_ble_eq_true rfl) dJ1_indexOf_4cfef_1) (fun M1 r2 h => ?_)
  refine aw_if_ne (tgt := 9) X dJ1_indexOf_4cfef_4 (by decide) (fun c => ?_) (fun c => ?_)
  · have h := h.1 c
    refine aw_iload_n X dJ1_indexOf_4cfef_9 2 rfl ?_
    refine aw_iconst (v := 0) X dJ1_indexOf_4cfef_10 (by decide) ?_
    refine aw_mmax X dJ1_indexOf_4cfef_11 kw757 kw267 kw103 kw268 (by decide) (Nat.le_of_ble_eq_true rfl) ?_
    refine aw_top (fun v3 ev3 => ?_)
    have h := h v3 ev3
    refine aw_istore_n (lv' := [(2, .int v3), (0, .ref (eS E (20 + p0))), (1, .int p1), (3, .int p3)]) X dJ1_indexOf_4cfef_14 (by decide) rfl ?_
    refine aw_iload_n X dJ1_indexOf_4cfef_15 3 rfl ?_
    refine aw_aload_n X dJ1_indexOf_4cfef_16 1 rfl ?_
    refine aw_tlen (v := Int32.ofNat (sLen.getD p0 0)) X dJ1_indexOf_4cfef_17 (X.sta.2.1.1 p0 hp0).2.2.2 rfl ?_
    refine aw_mmin X dJ1_indexOf_4cfef_18 kw758 kw458 kw103 kw459 (by decide) (Nat.le_of_ble_eq_true rfl) ?_
    refine aw_top (fun v4 ev4 => ?_)
    have h := h v4 ev4
    refine aw_istore_n (lv' := [(3, .int v4), (2, .int v3), (0, .ref (eS E (20 + p0))), (1, .int p1)]) X dJ1_indexOf_4cfef_21 (by decide) rfl ?_
    refine aw_iload_n X dJ1_indexOf_4cfef_22 1 rfl ?_
    refine aw_iload_n X dJ1_indexOf_4cfef_23 0 rfl ?_
    refine aw_icmp_lt (tgt := 29) X dJ1_indexOf_4cfef_24 (by decide) (fun c => ?_) (fun c => ?_)
    · have h := h.1 c
      refine aw_aload_n X dJ1_indexOf_4cfef_29 2 rfl ?_
      refine aw_iload_n X dJ1_indexOf_4cfef_30 3 rfl ?_
      refine aw_iload_n X dJ1_indexOf_4cfef_31 1 rfl ?_
      refine aw_iload_n X dJ1_indexOf_4cfef_32 0 rfl ?_
      refine ca_i X (rn_s X [.ref (eS E (20 + p0)), .int p1, .int v3, .int v4] [] kw760 (c_J1_indexOfChar_4cfef h) cal_yJ1_indexOfChar_4cfef kw759 (Nat.le_of_ble_eq_true rfl) rfl rfl (Nat.le_of_ble_eq_true rfl) dJ1_indexOf_4cfef_33) (fun M5 r6 h => ?_)
      exact aw_iret X dJ1_indexOf_4cfef_36 h
    · have h := h.2 c
      refine aw_iconst (v := (-1)) X dJ1_indexOf_4cfef_27 (by decide) ?_
      exact aw_iret X dJ1_indexOf_4cfef_28 h
  · have h := h.2 c
    refine aw_iconst (v := (-1)) X dJ1_indexOf_4cfef_7 (by decide) ?_
    exact aw_iret X dJ1_indexOf_4cfef_8 h
def wp_J0_indexOf_7cf53 (n : Nat)  (M : Mm) (this : Nat) (p1 : Int32) (p2 : Int32) (K : Mm → Int32 → Prop) : Prop := (this < 6) ∧ (wp_J0_isLatin1_aae02 n M this (fun M1 r2 => (r2 = 0 → wp_J0_length_8abf5 n M1 this (fun M3 r4 => False)) ∧ (¬ r2 = 0 → wp_J0_length_8abf5 n M1 this (fun M5 r6 => wp_J1_indexOf_4cfef n M5 this p1 p2 r6 (fun M7 r8 => K M7 r8)))))
set_option maxHeartbeats 4000000 in
set_option maxRecDepth 100000 in
theorem c_J0_indexOf_7cf53 {l : Launch} {E : En} {M : Mm} {this : Nat} {p1 : Int32} {p2 : Int32} {K : Mm → Int32 → Prop}  (h : wp_J0_indexOf_7cf53 (eN E)  M this p1 p2 K) : Ctr l E yJ0_indexOf_7cf53 cJ0_indexOf_7cf53 3 (some .int) 2 [.ref (eS E (10 + this)), .int p1, .int p2] M (QI E K) := by
  refine Ctr.of (by decide +kernel) (Nat.le_of_ble_eq_true rfl) (fun g A hgl X => ?_)
  subst hgl
  have X : CX g cJ0_indexOf_7cf53 RJ0 (some .int) 2 E A 3 := X
  show AW g E A 3 _ 0 [(0, .ref (eS E (10 + this))), (1, .int p1), (2, .int p2)] [] M
  unfold wp_J0_indexOf_7cf53 at h
  obtain ⟨hthis, h⟩ := h
  refine aw_aload_n X dJ0_indexOf_7cf53_0 0 rfl ?_
  refine ca_i X (rn_t X [] [] this hthis kw680 kw681 rfl (c_J0_isLatin1_aae02 h) cal_yJ0_isLatin1_aae02 kw679 (Nat.le_of_ble_eq_true rfl) rfl rfl (Nat.le_of_ble_eq_true rfl) dJ0_indexOf_7cf53_1) (fun M1 r2 h => ?_)
  refine aw_if_eq (tgt := 23) X dJ0_indexOf_7cf53_4 (by decide) (fun c => ?_) (fun c => ?_)
  · have h := h.1 c
    refine aw_aload_n X dJ0_indexOf_7cf53_23 0 rfl ?_
    refine aw_tget X dJ0_indexOf_7cf53_24 (X.sta.2.1.1 this hthis).2.2.1 kw1444 rfl ?_
    refine aw_iload_n X dJ0_indexOf_7cf53_27 1 rfl ?_
    refine aw_iload_n X dJ0_indexOf_7cf53_28 2 rfl ?_
    refine aw_aload_n X dJ0_indexOf_7cf53_29 0 rfl ?_
    refine ca_i X (rn_t X [] [.int p2, .int p1, .ref (eS E (20 + this))] this hthis kw666 kw667 rfl (c_J0_length_8abf5 h) cal_yJ0_length_8abf5 kw750 (Nat.le_of_ble_eq_true rfl) rfl rfl (Nat.le_of_ble_eq_true rfl) dJ0_indexOf_7cf53_30) (fun M3 r4 h => ?_)
    exact h.elim
  · have h := h.2 c
    refine aw_aload_n X dJ0_indexOf_7cf53_7 0 rfl ?_
    refine aw_tget X dJ0_indexOf_7cf53_8 (X.sta.2.1.1 this hthis).2.2.1 kw1444 rfl ?_
    refine aw_iload_n X dJ0_indexOf_7cf53_11 1 rfl ?_
    refine aw_iload_n X dJ0_indexOf_7cf53_12 2 rfl ?_
    refine aw_aload_n X dJ0_indexOf_7cf53_13 0 rfl ?_
    refine ca_i X (rn_t X [] [.int p2, .int p1, .ref (eS E (20 + this))] this hthis kw666 kw667 rfl (c_J0_length_8abf5 h) cal_yJ0_length_8abf5 kw750 (Nat.le_of_ble_eq_true rfl) rfl rfl (Nat.le_of_ble_eq_true rfl) dJ0_indexOf_7cf53_14) (fun M5 r6 h => ?_)
    refine ca_i X (rn_s X [.ref (eS E (20 + this)), .int p1, .int p2, .int r6] [] kw752 (c_J1_indexOf_4cfef h) cal_yJ1_indexOf_4cfef kw751 (Nat.le_of_ble_eq_true rfl) rfl rfl (Nat.le_of_ble_eq_true rfl) dJ0_indexOf_7cf53_17) (fun M7 r8 h => ?_)
    refine aw_goto (tgt := 36) X dJ0_indexOf_7cf53_20 (by decide) ?_
    exact aw_iret X dJ0_indexOf_7cf53_36 h
def wp_J0_indexOf_0f7a4 (n : Nat)  (M : Mm) (this : Nat) (p1 : Int32) (K : Mm → Int32 → Prop) : Prop := (this < 6) ∧ (wp_J0_indexOf_7cf53 n M this p1 0 (fun M1 r2 => K M1 r2))
set_option maxHeartbeats 4000000 in
set_option maxRecDepth 100000 in
theorem c_J0_indexOf_0f7a4 {l : Launch} {E : En} {M : Mm} {this : Nat} {p1 : Int32} {K : Mm → Int32 → Prop}  (h : wp_J0_indexOf_0f7a4 (eN E)  M this p1 K) : Ctr l E yJ0_indexOf_0f7a4 cJ0_indexOf_0f7a4 2 (some .int) 3 [.ref (eS E (10 + this)), .int p1] M (QI E K) := by
  refine Ctr.of (by decide +kernel) (Nat.le_of_ble_eq_true rfl) (fun g A hgl X => ?_)
  subst hgl
  have X : CX g cJ0_indexOf_0f7a4 RJ0 (some .int) 3 E A 2 := X
  show AW g E A 2 _ 0 [(0, .ref (eS E (10 + this))), (1, .int p1)] [] M
  unfold wp_J0_indexOf_0f7a4 at h
  obtain ⟨hthis, h⟩ := h
  refine aw_aload_n X dJ0_indexOf_0f7a4_0 0 rfl ?_
  refine aw_iload_n X dJ0_indexOf_0f7a4_1 1 rfl ?_
  refine aw_iconst (v := 0) X dJ0_indexOf_0f7a4_2 (by decide) ?_
  refine ca_i X (rn_t X [.int p1, .int 0] [] this hthis kw747 kw748 rfl (c_J0_indexOf_7cf53 h) cal_yJ0_indexOf_7cf53 kw746 (Nat.le_of_ble_eq_true rfl) rfl rfl (Nat.le_of_ble_eq_true rfl) dJ0_indexOf_0f7a4_3) (fun M1 r2 h => ?_)
  exact aw_iret X dJ0_indexOf_0f7a4_6 h
def wb_X1_readsName_39 (n : Nat)   (K : Mm → Int32 → Prop) (M : Mm) (s0 : Int32) : Prop := (0 ≤ s0 → wp_X1_addPiece n M ((-1) - s0) (fun M8 => K M8 1)) ∧ (¬ 0 ≤ s0 → K M 0)
set_option maxHeartbeats 4000000 in
set_option maxRecDepth 100000 in
theorem lb_X1_readsName_39 {g : Gm} {E : En} {A : Nat → Prop} {K : Mm → Int32 → Prop} (X : CX g cX1_readsName RX1 (some .boolean) 4 E A 2)    (M : Mm) (s0 : Int32) (h : wb_X1_readsName_39 (eN E)   K M s0) : AW g E A 2 (MQ (gB g) (QI E K A) (gA g) (gS g) (gk g) (gn g) A) 39 [(0, .ref (eA E 37))] [.int s0] M := by
  unfold wb_X1_readsName_39 at h
  refine aw_istore_n (lv' := [(1, .int s0), (0, .ref (eA E 37))]) X dX1_readsName_39 (by decide) rfl ?_
  refine aw_iload_n X dX1_readsName_40 0 rfl ?_
  refine aw_if_ge (tgt := 46) X dX1_readsName_41 (by decide) (fun c => ?_) (fun c => ?_)
  · have h := h.1 c
    refine aw_aload_n X dX1_readsName_46 1 rfl ?_
    refine aw_iconst (v := (-1)) X dX1_readsName_47 (by decide) ?_
    refine aw_iload_n X dX1_readsName_48 0 rfl ?_
    refine aw_isub X dX1_readsName_49 ?_
    refine ca_v X (rn_v X [.int ((-1) - s0)] [] (X.lt (by decide)) (sh_6 (rfl : tp 37 = 6) _) rfl rfl kw729 kw40 (c_X1_addPiece h) cal_yX1_addPiece kw727 (Nat.le_of_ble_eq_true rfl) rfl rfl (Nat.le_of_ble_eq_true rfl) dX1_readsName_50) (fun M8 h => ?_)
    refine aw_iconst (v := 1) X dX1_readsName_53 (by decide) ?_
    exact aw_zret X dX1_readsName_54 (by decide) h
  · have h := h.2 c
    refine aw_iconst (v := 0) X dX1_readsName_44 (by decide) ?_
    exact aw_zret X dX1_readsName_45 (by decide) h
def wp_X1_readsName (n : Nat)  (M : Mm)  (K : Mm → Int32 → Prop) : Prop := (¬ ((M 37 3) - (M 37 2)) = 1 → wb_X1_readsName_39 n K M (-1)) ∧ (((M 37 3) - (M 37 2)) = 1 → wp_X1_namesOf n M (M 37 5) (fun M1 r2 => r2 < 6 ∧ (wp_X2_at n M1 38 (M1 37 2) (fun M4 r5 => wp_J0_indexOf_0f7a4 n M4 r2 ((r5.toUInt32 % 65536).toInt32) (fun M6 r7 => wb_X1_readsName_39 n K M6 r7)))))
set_option maxHeartbeats 4000000 in
set_option maxRecDepth 100000 in
theorem c_X1_readsName {l : Launch} {E : En} {M : Mm}  {K : Mm → Int32 → Prop}  (h : wp_X1_readsName (eN E)  M  K) : Ctr l E yX1_readsName cX1_readsName 2 (some .boolean) 4 [.ref (eA E 37)] M (QI E K) := by
  refine Ctr.of (by decide +kernel) (Nat.le_of_ble_eq_true rfl) (fun g A hgl X => ?_)
  subst hgl
  have X : CX g cX1_readsName RX1 (some .boolean) 4 E A 2 := X
  show AW g E A 2 _ 0 [(0, .ref (eA E 37))] [] M
  unfold wp_X1_readsName at h
  refine aw_aload_n X dX1_readsName_0 0 rfl ?_
  refine aw_get X dX1_readsName_1 (X.lt (by decide)) (sh_6 (rfl : tp 37 = 6) _) fl_RX1_30 rfl ?_
  refine aw_aload_n X dX1_readsName_4 0 rfl ?_
  refine aw_get X dX1_readsName_5 (X.lt (by decide)) (sh_6 (rfl : tp 37 = 6) _) fl_RX1_65 rfl ?_
  refine aw_isub X dX1_readsName_8 ?_
  refine aw_iconst (v := 1) X dX1_readsName_9 (by decide) ?_
  refine aw_icmp_ne (tgt := 38) X dX1_readsName_10 (by decide) (fun c => ?_) (fun c => ?_)
  · have h := h.1 c
    refine aw_iconst (v := (-1)) X dX1_readsName_38 (by decide) ?_
    exact aw_sub [0] rfl (lb_X1_readsName_39 X   _ _ h)
  · have h := h.2 c
    refine aw_aload_n X dX1_readsName_13 0 rfl ?_
    refine aw_get X dX1_readsName_14 (X.lt (by decide)) (sh_6 (rfl : tp 37 = 6) _) fl_RX1_43 rfl ?_
    refine ca_t X (rn_s X [.int (M 37 5)] [] kw737 (c_X1_namesOf h) cal_yX1_namesOf kw736 (Nat.le_of_ble_eq_true rfl) rfl rfl (Nat.le_of_ble_eq_true rfl) dX1_readsName_17) (fun M1 r2 h => ?_)
    obtain ⟨hr2, h⟩ := h
    refine aw_aload_n X dX1_readsName_20 0 rfl ?_
    refine aw_get X dX1_readsName_21 (X.lt (by decide)) (sh_6 (rfl : tp 37 = 6) _) fl_RX1_14 rfl ?_
    refine aw_aload_n X dX1_readsName_24 0 rfl ?_
    refine aw_get X dX1_readsName_25 (X.lt (by decide)) (sh_6 (rfl : tp 37 = 6) _) fl_RX1_65 rfl ?_
    refine ca_i X (rn_vn X [.int (M1 37 2)] [.ref (eS E (10 + r2))] (X.lt (by decide)) (sh_7 (rfl : tp 38 = 7) _) rfl rfl kw651 kw34 (c_X2_at h) cal_yX2_at kw649 (Nat.le_of_ble_eq_true rfl) rfl rfl (Nat.le_of_ble_eq_true rfl) dX1_readsName_28) (fun M4 r5 h => ?_)
    refine aw_i2c X dX1_readsName_31 ?_
    refine ca_i X (rn_t X [.int ((r5.toUInt32 % 65536).toInt32)] [] r2 hr2 kw743 kw744 rfl (c_J0_indexOf_0f7a4 h) cal_yJ0_indexOf_0f7a4 kw742 (Nat.le_of_ble_eq_true rfl) rfl rfl (Nat.le_of_ble_eq_true rfl) dX1_readsName_32) (fun M6 r7 h => ?_)
    refine aw_goto (tgt := 39) X dX1_readsName_35 (by decide) ?_
    exact aw_sub [0] rfl (lb_X1_readsName_39 X   _ _ h)
def wp_X1_isSign (n : Nat)  (M : Mm) (p1 : Int32) (K : Mm → Int32 → Prop) : Prop := (¬ (M 37 4) = 3 → K M 0) ∧ ((M 37 4) = 3 → wp_X2_at n M 38 (M 37 2) (fun M1 r2 => (¬ r2 = p1 → K M1 0) ∧ (r2 = p1 → K M1 1)))
set_option maxHeartbeats 4000000 in
set_option maxRecDepth 100000 in
theorem c_X1_isSign {l : Launch} {E : En} {M : Mm} {p1 : Int32} {K : Mm → Int32 → Prop}  (h : wp_X1_isSign (eN E)  M p1 K) : Ctr l E yX1_isSign cX1_isSign 2 (some .boolean) 1 [.ref (eA E 37), .int p1] M (QI E K) := by
  refine Ctr.of (by decide +kernel) (Nat.le_of_ble_eq_true rfl) (fun g A hgl X => ?_)
  subst hgl
  have X : CX g cX1_isSign RX1 (some .boolean) 1 E A 2 := X
  show AW g E A 2 _ 0 [(0, .ref (eA E 37)), (1, .int p1)] [] M
  unfold wp_X1_isSign at h
  refine aw_aload_n X dX1_isSign_0 0 rfl ?_
  refine aw_get X dX1_isSign_1 (X.lt (by decide)) (sh_6 (rfl : tp 37 = 6) _) fl_RX1_33 rfl ?_
  refine aw_iconst (v := 3) X dX1_isSign_4 (by decide) ?_
  refine aw_icmp_ne (tgt := 27) X dX1_isSign_5 (by decide) (fun c => ?_) (fun c => ?_)
  · have h := h.1 c
    refine aw_iconst (v := 0) X dX1_isSign_27 (by decide) ?_
    exact aw_zret X dX1_isSign_28 (by decide) h
  · have h := h.2 c
    refine aw_aload_n X dX1_isSign_8 0 rfl ?_
    refine aw_get X dX1_isSign_9 (X.lt (by decide)) (sh_6 (rfl : tp 37 = 6) _) fl_RX1_14 rfl ?_
    refine aw_aload_n X dX1_isSign_12 0 rfl ?_
    refine aw_get X dX1_isSign_13 (X.lt (by decide)) (sh_6 (rfl : tp 37 = 6) _) fl_RX1_65 rfl ?_
    refine ca_i X (rn_vn X [.int (M 37 2)] [] (X.lt (by decide)) (sh_7 (rfl : tp 38 = 7) _) rfl rfl kw651 kw34 (c_X2_at h) cal_yX2_at kw649 (Nat.le_of_ble_eq_true rfl) rfl rfl (Nat.le_of_ble_eq_true rfl) dX1_isSign_16) (fun M1 r2 h => ?_)
    refine aw_iload_n X dX1_isSign_19 1 rfl ?_
    refine aw_icmp_ne (tgt := 27) X dX1_isSign_20 (by decide) (fun c => ?_) (fun c => ?_)
    · have h := h.1 c
      refine aw_iconst (v := 0) X dX1_isSign_27 (by decide) ?_
      exact aw_zret X dX1_isSign_28 (by decide) h
    · have h := h.2 c
      refine aw_iconst (v := 1) X dX1_isSign_23 (by decide) ?_
      refine aw_goto (tgt := 28) X dX1_isSign_24 (by decide) ?_
      exact aw_zret X dX1_isSign_28 (by decide) h
def wp_X1_levelHere (n : Nat)  (M : Mm)  (K : Mm → Int32 → Prop) : Prop := ((M 37 4) = 3 → wp_X2_at n M 38 (M 37 2) (fun M1 r2 => (r2 = 38 → K M1 1) ∧ (r2 = 42 → K M1 4) ∧ (r2 = 43 → K M1 3) ∧ (r2 = 45 → K M1 3) ∧ (r2 = 47 → K M1 4) ∧ (r2 = 60 → K M1 2) ∧ (r2 = 61 → K M1 2) ∧ (r2 = 62 → K M1 2) ∧ (r2 = 124 → K M1 0) ∧ (¬ r2 = 38 → ¬ r2 = 42 → ¬ r2 = 43 → ¬ r2 = 45 → ¬ r2 = 47 → ¬ r2 = 60 → ¬ r2 = 61 → ¬ r2 = 62 → ¬ r2 = 124 → K M1 (-1)))) ∧ (¬ (M 37 4) = 3 → K M (-1))
set_option maxHeartbeats 4000000 in
set_option maxRecDepth 100000 in
theorem c_X1_levelHere {l : Launch} {E : En} {M : Mm}  {K : Mm → Int32 → Prop}  (h : wp_X1_levelHere (eN E)  M  K) : Ctr l E yX1_levelHere cX1_levelHere 1 (some .int) 1 [.ref (eA E 37)] M (QI E K) := by
  refine Ctr.of (by decide +kernel) (Nat.le_of_ble_eq_true rfl) (fun g A hgl X => ?_)
  subst hgl
  have X : CX g cX1_levelHere RX1 (some .int) 1 E A 1 := X
  show AW g E A 1 _ 0 [(0, .ref (eA E 37))] [] M
  unfold wp_X1_levelHere at h
  refine aw_aload_n X dX1_levelHere_0 0 rfl ?_
  refine aw_get X dX1_levelHere_1 (X.lt (by decide)) (sh_6 (rfl : tp 37 = 6) _) fl_RX1_33 rfl ?_
  refine aw_iconst (v := 3) X dX1_levelHere_4 (by decide) ?_
  refine aw_icmp_eq (tgt := 10) X dX1_levelHere_5 (by decide) (fun c => ?_) (fun c => ?_)
  · have h := h.1 c
    refine aw_aload_n X dX1_levelHere_10 0 rfl ?_
    refine aw_get X dX1_levelHere_11 (X.lt (by decide)) (sh_6 (rfl : tp 37 = 6) _) fl_RX1_14 rfl ?_
    refine aw_aload_n X dX1_levelHere_14 0 rfl ?_
    refine aw_get X dX1_levelHere_15 (X.lt (by decide)) (sh_6 (rfl : tp 37 = 6) _) fl_RX1_65 rfl ?_
    refine ca_i X (rn_vn X [.int (M 37 2)] [] (X.lt (by decide)) (sh_7 (rfl : tp 38 = 7) _) rfl rfl kw651 kw34 (c_X2_at h) cal_yX2_at kw649 (Nat.le_of_ble_eq_true rfl) rfl rfl (Nat.le_of_ble_eq_true rfl) dX1_levelHere_18) (fun M1 r2 h => ?_)
    by_cases c0 : r2 = 38
    · have h := h.1 c0
      refine aw_lookup (tgt := 106) X dX1_levelHere_21 (by decide) (by first | (rw [c0]; done) | (rw [c0]; rfl)) (by decide) ?_
      refine aw_iconst (v := 1) X dX1_levelHere_106 (by decide) ?_
      exact aw_iret X dX1_levelHere_107 h
    · by_cases c1 : r2 = 42
      · have h := h.2.1 c1
        refine aw_lookup (tgt := 112) X dX1_levelHere_21 (by decide) (by first | (rw [c1]; done) | (rw [c1]; rfl)) (by decide) ?_
        refine aw_iconst (v := 4) X dX1_levelHere_112 (by decide) ?_
        exact aw_iret X dX1_levelHere_113 h
      · by_cases c2 : r2 = 43
        · have h := h.2.2.1 c2
          refine aw_lookup (tgt := 110) X dX1_levelHere_21 (by decide) (by first | (rw [c2]; done) | (rw [c2]; rfl)) (by decide) ?_
          refine aw_iconst (v := 3) X dX1_levelHere_110 (by decide) ?_
          exact aw_iret X dX1_levelHere_111 h
        · by_cases c3 : r2 = 45
          · have h := h.2.2.2.1 c3
            refine aw_lookup (tgt := 110) X dX1_levelHere_21 (by decide) (by first | (rw [c3]; done) | (rw [c3]; rfl)) (by decide) ?_
            refine aw_iconst (v := 3) X dX1_levelHere_110 (by decide) ?_
            exact aw_iret X dX1_levelHere_111 h
          · by_cases c4 : r2 = 47
            · have h := h.2.2.2.2.1 c4
              refine aw_lookup (tgt := 112) X dX1_levelHere_21 (by decide) (by first | (rw [c4]; done) | (rw [c4]; rfl)) (by decide) ?_
              refine aw_iconst (v := 4) X dX1_levelHere_112 (by decide) ?_
              exact aw_iret X dX1_levelHere_113 h
            · by_cases c5 : r2 = 60
              · have h := h.2.2.2.2.2.1 c5
                refine aw_lookup (tgt := 108) X dX1_levelHere_21 (by decide) (by first | (rw [c5]; done) | (rw [c5]; rfl)) (by decide) ?_
                refine aw_iconst (v := 2) X dX1_levelHere_108 (by decide) ?_
                exact aw_iret X dX1_levelHere_109 h
              · by_cases c6 : r2 = 61
                · have h := h.2.2.2.2.2.2.1 c6
                  refine aw_lookup (tgt := 108) X dX1_levelHere_21 (by decide) (by first | (rw [c6]; done) | (rw [c6]; rfl)) (by decide) ?_
                  refine aw_iconst (v := 2) X dX1_levelHere_108 (by decide) ?_
                  exact aw_iret X dX1_levelHere_109 h
                · by_cases c7 : r2 = 62
                  · have h := h.2.2.2.2.2.2.2.1 c7
                    refine aw_lookup (tgt := 108) X dX1_levelHere_21 (by decide) (by first | (rw [c7]; done) | (rw [c7]; rfl)) (by decide) ?_
                    refine aw_iconst (v := 2) X dX1_levelHere_108 (by decide) ?_
                    exact aw_iret X dX1_levelHere_109 h
                  · by_cases c8 : r2 = 124
                    · have h := h.2.2.2.2.2.2.2.2.1 c8
                      refine aw_lookup (tgt := 104) X dX1_levelHere_21 (by decide) (by first | (rw [c8]; done) | (rw [c8]; rfl)) (by decide) ?_
                      refine aw_iconst (v := 0) X dX1_levelHere_104 (by decide) ?_
                      exact aw_iret X dX1_levelHere_105 h
                    · have h := h.2.2.2.2.2.2.2.2.2 c0 c1 c2 c3 c4 c5 c6 c7 c8
                      refine aw_lookup (off := 93) (tgt := 114) X dX1_levelHere_21 (by decide) (by show Op.lookupswitch.offset [(38, 85), (42, 91), (43, 89), (45, 89), (47, 91), (60, 87), (61, 87), (62, 87), (124, 83)] _ _ = _; rw [lv_osw (a := 38) c0 (by decide), lv_osw (a := 42) c1 (by decide), lv_osw (a := 43) c2 (by decide), lv_osw (a := 45) c3 (by decide), lv_osw (a := 47) c4 (by decide), lv_osw (a := 60) c5 (by decide), lv_osw (a := 61) c6 (by decide), lv_osw (a := 62) c7 (by decide), lv_osw (a := 124) c8 (by decide)]; first | done | rfl) (by decide) ?_
                      refine aw_iconst (v := (-1)) X dX1_levelHere_114 (by decide) ?_
                      exact aw_iret X dX1_levelHere_115 h
  · have h := h.2 c
    refine aw_iconst (v := (-1)) X dX1_levelHere_8 (by decide) ?_
    exact aw_iret X dX1_levelHere_9 h
