def wp_X8_isIn (n : Nat)  (M : Mm) (p0 : Int64) (p2 : Int64) (p4 : Int64) (K : Mm → Int32 → Prop) : Prop := ((lg_cmp p0 p2) < 0 → K M 0) ∧ (¬ (lg_cmp p0 p2) < 0 → (0 < (lg_cmp p0 p4) → K M 0) ∧ (¬ 0 < (lg_cmp p0 p4) → K M 1))
set_option maxHeartbeats 4000000 in
set_option maxRecDepth 100000 in
theorem c_X8_isIn {l : Launch} {E : En} {M : Mm} {p0 : Int64} {p2 : Int64} {p4 : Int64} {K : Mm → Int32 → Prop}  (h : wp_X8_isIn (eN E)  M p0 p2 p4 K) : Ctr l E yX8_isIn cX8_isIn 6 (some .boolean) 0 [.long p0, .long p2, .long p4] M (QI E K) := by
  refine Ctr.of (by decide +kernel) (Nat.le_of_ble_eq_true rfl) (fun g A hgl X => ?_)
  subst hgl
  have X : CX g cX8_isIn RX8 (some .boolean) 0 E A 6 := X
  show AW g E A 6 _ 0 [(0, .long p0), (2, .long p2), (4, .long p4)] [] M
  unfold wp_X8_isIn at h
  refine aw_lload_n X dX8_isIn_0 0 rfl ?_
  refine aw_lload_n X dX8_isIn_1 1 rfl ?_
  refine aw_lcmp X dX8_isIn_2 ?_
  refine aw_if_lt (tgt := 17) X dX8_isIn_3 (by decide) (fun c => ?_) (fun c => ?_)
  · have h := h.1 c
    refine aw_iconst (v := 0) X dX8_isIn_17 (by decide) ?_
    exact aw_zret X dX8_isIn_18 (by decide) h
  · have h := h.2 c
    refine aw_lload_n X dX8_isIn_6 0 rfl ?_
    refine aw_lload X dX8_isIn_7 2 rfl ?_
    refine aw_lcmp X dX8_isIn_9 ?_
    refine aw_if_gt (tgt := 17) X dX8_isIn_10 (by decide) (fun c => ?_) (fun c => ?_)
    · have h := h.1 c
      refine aw_iconst (v := 0) X dX8_isIn_17 (by decide) ?_
      exact aw_zret X dX8_isIn_18 (by decide) h
    · have h := h.2 c
      refine aw_iconst (v := 1) X dX8_isIn_13 (by decide) ?_
      refine aw_goto (tgt := 18) X dX8_isIn_14 (by decide) ?_
      exact aw_zret X dX8_isIn_18 (by decide) h
def wp_X8_orNone (n : Nat)  (M : Mm) (p0 : Int32) (K : Mm → Int32 → Prop) : Prop := (0 ≤ p0 → K M p0) ∧ (¬ 0 ≤ p0 → K M (-1000000005))
set_option maxHeartbeats 4000000 in
set_option maxRecDepth 100000 in
theorem c_X8_orNone {l : Launch} {E : En} {M : Mm} {p0 : Int32} {K : Mm → Int32 → Prop}  (h : wp_X8_orNone (eN E)  M p0 K) : Ctr l E yX8_orNone cX8_orNone 1 (some .int) 0 [.int p0] M (QI E K) := by
  refine Ctr.of (by decide +kernel) (Nat.le_of_ble_eq_true rfl) (fun g A hgl X => ?_)
  subst hgl
  have X : CX g cX8_orNone RX8 (some .int) 0 E A 1 := X
  show AW g E A 1 _ 0 [(0, .int p0)] [] M
  unfold wp_X8_orNone at h
  refine aw_iload_n X dX8_orNone_0 0 rfl ?_
  refine aw_if_ge (tgt := 9) X dX8_orNone_1 (by decide) (fun c => ?_) (fun c => ?_)
  · have h := h.1 c
    refine aw_iload_n X dX8_orNone_9 0 rfl ?_
    exact aw_iret X dX8_orNone_10 h
  · have h := h.2 c
    refine aw_ldc (v := (-1000000005)) X dX8_orNone_4 kw1249 ?_
    refine aw_goto (tgt := 10) X dX8_orNone_6 (by decide) ?_
    exact aw_iret X dX8_orNone_10 h
def wp_X8_within (n : Nat)  (M : Mm) (p0 : Int32) (p1 : Int32) (K : Mm → Int32 → Prop) : Prop := (0 ≤ p0 → (p0 ≤ p1 → K M p0) ∧ (¬ p0 ≤ p1 → K M p1)) ∧ (¬ 0 ≤ p0 → K M 0)
set_option maxHeartbeats 4000000 in
set_option maxRecDepth 100000 in
theorem c_X8_within {l : Launch} {E : En} {M : Mm} {p0 : Int32} {p1 : Int32} {K : Mm → Int32 → Prop}  (h : wp_X8_within (eN E)  M p0 p1 K) : Ctr l E yX8_within cX8_within 2 (some .int) 0 [.int p0, .int p1] M (QI E K) := by
  refine Ctr.of (by decide +kernel) (Nat.le_of_ble_eq_true rfl) (fun g A hgl X => ?_)
  subst hgl
  have X : CX g cX8_within RX8 (some .int) 0 E A 2 := X
  show AW g E A 2 _ 0 [(0, .int p0), (1, .int p1)] [] M
  unfold wp_X8_within at h
  refine aw_iload_n X dX8_within_0 0 rfl ?_
  refine aw_if_ge (tgt := 8) X dX8_within_1 (by decide) (fun c => ?_) (fun c => ?_)
  · have h := h.1 c
    refine aw_iload_n X dX8_within_8 0 rfl ?_
    refine aw_iload_n X dX8_within_9 1 rfl ?_
    refine aw_icmp_le (tgt := 17) X dX8_within_10 (by decide) (fun c => ?_) (fun c => ?_)
    · have h := h.1 c
      refine aw_iload_n X dX8_within_17 0 rfl ?_
      exact aw_iret X dX8_within_18 h
    · have h := h.2 c
      refine aw_iload_n X dX8_within_13 1 rfl ?_
      refine aw_goto (tgt := 18) X dX8_within_14 (by decide) ?_
      exact aw_iret X dX8_within_18 h
  · have h := h.2 c
    refine aw_iconst (v := 0) X dX8_within_4 (by decide) ?_
    refine aw_goto (tgt := 18) X dX8_within_5 (by decide) ?_
    exact aw_iret X dX8_within_18 h
def wp_X8_becomes (n : Nat)  (M : Mm) (p1 : Int32) (p2 : Int32) (K : Mm → Int32 → Prop) : Prop := vp_in p1 3108 ∧ (∀ v1 : Int32, v1 = M 75 p1.toNatClampNeg → vp_in p1 3108 ∧ (∀ M2 : Mm, M2 = wr M 75 p1.toNatClampNeg p2 → K M2 v1))
set_option maxHeartbeats 4000000 in
set_option maxRecDepth 100000 in
theorem c_X8_becomes {l : Launch} {E : En} {M : Mm} {p1 : Int32} {p2 : Int32} {K : Mm → Int32 → Prop}  (h : wp_X8_becomes (eN E)  M p1 p2 K) : Ctr l E yX8_becomes cX8_becomes 4 (some .int) 0 [.ref (eA E 74), .int p1, .int p2] M (QI E K) := by
  refine Ctr.of (by decide +kernel) (Nat.le_of_ble_eq_true rfl) (fun g A hgl X => ?_)
  subst hgl
  have X : CX g cX8_becomes RX8 (some .int) 0 E A 4 := X
  show AW g E A 4 _ 0 [(0, .ref (eA E 74)), (1, .int p1), (2, .int p2)] [] M
  unfold wp_X8_becomes at h
  refine aw_aload_n X dX8_becomes_0 0 rfl ?_
  refine aw_get X dX8_becomes_1 (X.lt (by decide)) (sh_12 (rfl : tp 74 = 12) _) fl_RX8_7 rfl ?_
  refine aw_iload_n X dX8_becomes_4 1 rfl ?_
  obtain ⟨hin, h⟩ := h
  refine aw_iald X dX8_becomes_5 (X.lt (by decide)) (sh_ia 3108 (rfl : tp 75 = 4108) _) hin ?_
  refine aw_top (fun v1 ev1 => ?_)
  have h := h v1 ev1
  refine aw_istore_n (lv' := [(3, .int v1), (0, .ref (eA E 74)), (1, .int p1), (2, .int p2)]) X dX8_becomes_6 (by decide) rfl ?_
  refine aw_aload_n X dX8_becomes_7 1 rfl ?_
  refine aw_get X dX8_becomes_8 (X.lt (by decide)) (sh_12 (rfl : tp 74 = 12) _) fl_RX8_7 rfl ?_
  refine aw_iload_n X dX8_becomes_11 2 rfl ?_
  refine aw_iload_n X dX8_becomes_12 3 rfl ?_
  obtain ⟨hin, h⟩ := h
  refine aw_iast X dX8_becomes_13 (X.lt (by decide)) (sh_ia 3108 (rfl : tp 75 = 4108) _) (sh_ia 3108 (rfl : tp 75 = 4108) _) hin (fun M2 eM2 => ?_)
  have h := h M2 eM2
  refine aw_iload_n X dX8_becomes_14 0 rfl ?_
  exact aw_iret X dX8_becomes_15 h
def wp_X8_textAt (n : Nat)  (M : Mm) (p1 : Int32) (K : Mm → Int32 → Prop) : Prop := K M (108 + (200 * p1))
set_option maxHeartbeats 4000000 in
set_option maxRecDepth 100000 in
theorem c_X8_textAt {l : Launch} {E : En} {M : Mm} {p1 : Int32} {K : Mm → Int32 → Prop}  (h : wp_X8_textAt (eN E)  M p1 K) : Ctr l E yX8_textAt cX8_textAt 2 (some .int) 0 [.ref (eA E 74), .int p1] M (QI E K) := by
  refine Ctr.of (by decide +kernel) (Nat.le_of_ble_eq_true rfl) (fun g A hgl X => ?_)
  subst hgl
  have X : CX g cX8_textAt RX8 (some .int) 0 E A 2 := X
  show AW g E A 2 _ 0 [(0, .ref (eA E 74)), (1, .int p1)] [] M
  unfold wp_X8_textAt at h
  refine aw_bipush (v := 108) X dX8_textAt_0 (by decide) ?_
  refine aw_sipush (v := 200) X dX8_textAt_2 (by decide) ?_
  refine aw_iload_n X dX8_textAt_5 1 rfl ?_
  refine aw_imul X dX8_textAt_6 ?_
  refine aw_iadd X dX8_textAt_7 ?_
  exact aw_iret X dX8_textAt_8 h
def wp_X8_of (n : Nat)  (M : Mm) (p1 : Int32) (p2 : Int32) (K : Mm → Int32 → Prop) : Prop := vp_in ((12 + (12 * p1)) + p2) 3108 ∧ (K M (M 75 ((12 + (12 * p1)) + p2).toNatClampNeg))
set_option maxHeartbeats 4000000 in
set_option maxRecDepth 100000 in
theorem c_X8_of {l : Launch} {E : En} {M : Mm} {p1 : Int32} {p2 : Int32} {K : Mm → Int32 → Prop}  (h : wp_X8_of (eN E)  M p1 p2 K) : Ctr l E yX8_of cX8_of 3 (some .int) 0 [.ref (eA E 74), .int p1, .int p2] M (QI E K) := by
  refine Ctr.of (by decide +kernel) (Nat.le_of_ble_eq_true rfl) (fun g A hgl X => ?_)
  subst hgl
  have X : CX g cX8_of RX8 (some .int) 0 E A 3 := X
  show AW g E A 3 _ 0 [(0, .ref (eA E 74)), (1, .int p1), (2, .int p2)] [] M
  unfold wp_X8_of at h
  refine aw_aload_n X dX8_of_0 0 rfl ?_
  refine aw_get X dX8_of_1 (X.lt (by decide)) (sh_12 (rfl : tp 74 = 12) _) fl_RX8_7 rfl ?_
  refine aw_bipush (v := 12) X dX8_of_4 (by decide) ?_
  refine aw_bipush (v := 12) X dX8_of_6 (by decide) ?_
  refine aw_iload_n X dX8_of_8 1 rfl ?_
  refine aw_imul X dX8_of_9 ?_
  refine aw_iadd X dX8_of_10 ?_
  refine aw_iload_n X dX8_of_11 2 rfl ?_
  refine aw_iadd X dX8_of_12 ?_
  obtain ⟨hin, h⟩ := h
  refine aw_iald X dX8_of_13 (X.lt (by decide)) (sh_ia 3108 (rfl : tp 75 = 4108) _) hin ?_
  exact aw_iret X dX8_of_14 h
def wp_X8_sets (n : Nat)  (M : Mm) (p1 : Int32) (p2 : Int32) (p3 : Int32) (K : Mm → Prop) : Prop := vp_in ((12 + (12 * p1)) + p2) 3108 ∧ (∀ M1 : Mm, M1 = wr M 75 ((12 + (12 * p1)) + p2).toNatClampNeg p3 → K M1)
set_option maxHeartbeats 4000000 in
set_option maxRecDepth 100000 in
theorem c_X8_sets {l : Launch} {E : En} {M : Mm} {p1 : Int32} {p2 : Int32} {p3 : Int32} {K : Mm → Prop}  (h : wp_X8_sets (eN E)  M p1 p2 p3 K) : Ctr l E yX8_sets cX8_sets 4 none 0 [.ref (eA E 74), .int p1, .int p2, .int p3] M (QV E K) := by
  refine Ctr.of (by decide +kernel) (Nat.le_of_ble_eq_true rfl) (fun g A hgl X => ?_)
  subst hgl
  have X : CX g cX8_sets RX8 none 0 E A 4 := X
  show AW g E A 4 _ 0 [(0, .ref (eA E 74)), (1, .int p1), (2, .int p2), (3, .int p3)] [] M
  unfold wp_X8_sets at h
  refine aw_aload_n X dX8_sets_0 0 rfl ?_
  refine aw_get X dX8_sets_1 (X.lt (by decide)) (sh_12 (rfl : tp 74 = 12) _) fl_RX8_7 rfl ?_
  refine aw_bipush (v := 12) X dX8_sets_4 (by decide) ?_
  refine aw_bipush (v := 12) X dX8_sets_6 (by decide) ?_
  refine aw_iload_n X dX8_sets_8 1 rfl ?_
  refine aw_imul X dX8_sets_9 ?_
  refine aw_iadd X dX8_sets_10 ?_
  refine aw_iload_n X dX8_sets_11 2 rfl ?_
  refine aw_iadd X dX8_sets_12 ?_
  refine aw_iload_n X dX8_sets_13 3 rfl ?_
  obtain ⟨hin, h⟩ := h
  refine aw_iast X dX8_sets_14 (X.lt (by decide)) (sh_ia 3108 (rfl : tp 75 = 4108) _) (sh_ia 3108 (rfl : tp 75 = 4108) _) hin (fun M1 eM1 => ?_)
  have h := h M1 eM1
  exact aw_vret X dX8_sets_15 h
def wp_X8_more (n : Nat)  (M : Mm) (p1 : Int32) (p2 : Int32) (K : Mm → Prop) : Prop := vp_in ((12 + (12 * p1)) + p2) 3108 ∧ (vp_in ((12 + (12 * p1)) + p2) 3108 ∧ (∀ M1 : Mm, M1 = wr M 75 ((12 + (12 * p1)) + p2).toNatClampNeg ((M 75 ((12 + (12 * p1)) + p2).toNatClampNeg) + 1) → K M1))
set_option maxHeartbeats 4000000 in
set_option maxRecDepth 100000 in
theorem c_X8_more {l : Launch} {E : En} {M : Mm} {p1 : Int32} {p2 : Int32} {K : Mm → Prop}  (h : wp_X8_more (eN E)  M p1 p2 K) : Ctr l E yX8_more cX8_more 3 none 0 [.ref (eA E 74), .int p1, .int p2] M (QV E K) := by
  refine Ctr.of (by decide +kernel) (Nat.le_of_ble_eq_true rfl) (fun g A hgl X => ?_)
  subst hgl
  have X : CX g cX8_more RX8 none 0 E A 3 := X
  show AW g E A 3 _ 0 [(0, .ref (eA E 74)), (1, .int p1), (2, .int p2)] [] M
  unfold wp_X8_more at h
  refine aw_aload_n X dX8_more_0 0 rfl ?_
  refine aw_get X dX8_more_1 (X.lt (by decide)) (sh_12 (rfl : tp 74 = 12) _) fl_RX8_7 rfl ?_
  refine aw_bipush (v := 12) X dX8_more_4 (by decide) ?_
  refine aw_bipush (v := 12) X dX8_more_6 (by decide) ?_
  refine aw_iload_n X dX8_more_8 1 rfl ?_
  refine aw_imul X dX8_more_9 ?_
  refine aw_iadd X dX8_more_10 ?_
  refine aw_iload_n X dX8_more_11 2 rfl ?_
  refine aw_iadd X dX8_more_12 ?_
  refine aw_dup2 X dX8_more_13 rfl rfl ?_
  obtain ⟨hin, h⟩ := h
  refine aw_iald X dX8_more_14 (X.lt (by decide)) (sh_ia 3108 (rfl : tp 75 = 4108) _) hin ?_
  refine aw_iconst (v := 1) X dX8_more_15 (by decide) ?_
  refine aw_iadd X dX8_more_16 ?_
  obtain ⟨hin, h⟩ := h
  refine aw_iast X dX8_more_17 (X.lt (by decide)) (sh_ia 3108 (rfl : tp 75 = 4108) _) (sh_ia 3108 (rfl : tp 75 = 4108) _) hin (fun M1 eM1 => ?_)
  have h := h M1 eM1
  exact aw_vret X dX8_more_18 h
def wp_X8_isComer (n : Nat)  (M : Mm) (p1 : Int32) (K : Mm → Int32 → Prop) : Prop := wp_X8_isIn n M p1.toInt64 0 (((M 75 0) - 1).toInt64) (fun M1 r2 => (r2 = 0 ∨ r2 = 1) ∧ K M1 r2)
set_option maxHeartbeats 4000000 in
set_option maxRecDepth 100000 in
theorem c_X8_isComer {l : Launch} {E : En} {M : Mm} {p1 : Int32} {K : Mm → Int32 → Prop}  (h : wp_X8_isComer (eN E)  M p1 K) : Ctr l E yX8_isComer cX8_isComer 2 (some .boolean) 1 [.ref (eA E 74), .int p1] M (QI E K) := by
  refine Ctr.of (by decide +kernel) (Nat.le_of_ble_eq_true rfl) (fun g A hgl X => ?_)
  subst hgl
  have X : CX g cX8_isComer RX8 (some .boolean) 1 E A 2 := X
  show AW g E A 2 _ 0 [(0, .ref (eA E 74)), (1, .int p1)] [] M
  unfold wp_X8_isComer at h
  refine aw_iload_n X dX8_isComer_0 1 rfl ?_
  refine aw_i2l X dX8_isComer_1 ?_
  refine aw_lconst (v := 0) X dX8_isComer_2 (by decide) ?_
  refine aw_aload_n X dX8_isComer_3 0 rfl ?_
  refine aw_get X dX8_isComer_4 (X.lt (by decide)) (sh_12 (rfl : tp 74 = 12) _) fl_RX8_7 rfl ?_
  refine aw_iconst (v := 0) X dX8_isComer_7 (by decide) ?_
  refine aw_iald X dX8_isComer_8 (X.lt (by decide)) (sh_ia 3108 (rfl : tp 75 = 4108) _) (by unfold vp_in; decide) ?_
  refine aw_iconst (v := 1) X dX8_isComer_9 (by decide) ?_
  refine aw_isub X dX8_isComer_10 ?_
  refine aw_i2l X dX8_isComer_11 ?_
  refine ca_i X (rn_s X [.long p1.toInt64, .long 0, .long (((M 75 0) - 1).toInt64)] [] kw1079 (c_X8_isIn h) cal_yX8_isIn kw1078 (Nat.le_of_ble_eq_true rfl) rfl rfl (Nat.le_of_ble_eq_true rfl) dX8_isComer_12) (fun M1 r2 h => ?_)
  exact aw_zret X dX8_isComer_15 (nar_z h.1) h.2
def wp_X8_isText (n : Nat)  (M : Mm) (p1 : Int32) (K : Mm → Int32 → Prop) : Prop := wp_X8_isIn n M p1.toInt64 0 (((M 75 1) - 1).toInt64) (fun M1 r2 => (r2 = 0 ∨ r2 = 1) ∧ K M1 r2)
set_option maxHeartbeats 4000000 in
set_option maxRecDepth 100000 in
theorem c_X8_isText {l : Launch} {E : En} {M : Mm} {p1 : Int32} {K : Mm → Int32 → Prop}  (h : wp_X8_isText (eN E)  M p1 K) : Ctr l E yX8_isText cX8_isText 2 (some .boolean) 1 [.ref (eA E 74), .int p1] M (QI E K) := by
  refine Ctr.of (by decide +kernel) (Nat.le_of_ble_eq_true rfl) (fun g A hgl X => ?_)
  subst hgl
  have X : CX g cX8_isText RX8 (some .boolean) 1 E A 2 := X
  show AW g E A 2 _ 0 [(0, .ref (eA E 74)), (1, .int p1)] [] M
  unfold wp_X8_isText at h
  refine aw_iload_n X dX8_isText_0 1 rfl ?_
  refine aw_i2l X dX8_isText_1 ?_
  refine aw_lconst (v := 0) X dX8_isText_2 (by decide) ?_
  refine aw_aload_n X dX8_isText_3 0 rfl ?_
  refine aw_get X dX8_isText_4 (X.lt (by decide)) (sh_12 (rfl : tp 74 = 12) _) fl_RX8_7 rfl ?_
  refine aw_iconst (v := 1) X dX8_isText_7 (by decide) ?_
  refine aw_iald X dX8_isText_8 (X.lt (by decide)) (sh_ia 3108 (rfl : tp 75 = 4108) _) (by unfold vp_in; decide) ?_
  refine aw_iconst (v := 1) X dX8_isText_9 (by decide) ?_
  refine aw_isub X dX8_isText_10 ?_
  refine aw_i2l X dX8_isText_11 ?_
  refine ca_i X (rn_s X [.long p1.toInt64, .long 0, .long (((M 75 1) - 1).toInt64)] [] kw1079 (c_X8_isIn h) cal_yX8_isIn kw1078 (Nat.le_of_ble_eq_true rfl) rfl rfl (Nat.le_of_ble_eq_true rfl) dX8_isText_12) (fun M1 r2 h => ?_)
  exact aw_zret X dX8_isText_15 (nar_z h.1) h.2
def wp_X8_drawn (n : Nat)  (M : Mm)  (K : Mm → Int32 → Prop) : Prop := ∀ M1 : Mm, M1 = wr M 75 10 (((M 75 10) * 1103515245) + 12345) → K M1 (jushr (M1 75 10) 8)
set_option maxHeartbeats 4000000 in
set_option maxRecDepth 100000 in
theorem c_X8_drawn {l : Launch} {E : En} {M : Mm}  {K : Mm → Int32 → Prop}  (h : wp_X8_drawn (eN E)  M  K) : Ctr l E yX8_drawn cX8_drawn 1 (some .int) 0 [.ref (eA E 74)] M (QI E K) := by
  refine Ctr.of (by decide +kernel) (Nat.le_of_ble_eq_true rfl) (fun g A hgl X => ?_)
  subst hgl
  have X : CX g cX8_drawn RX8 (some .int) 0 E A 1 := X
  show AW g E A 1 _ 0 [(0, .ref (eA E 74))] [] M
  unfold wp_X8_drawn at h
  refine aw_aload_n X dX8_drawn_0 0 rfl ?_
  refine aw_get X dX8_drawn_1 (X.lt (by decide)) (sh_12 (rfl : tp 74 = 12) _) fl_RX8_7 rfl ?_
  refine aw_bipush (v := 10) X dX8_drawn_4 (by decide) ?_
  refine aw_aload_n X dX8_drawn_6 0 rfl ?_
  refine aw_get X dX8_drawn_7 (X.lt (by decide)) (sh_12 (rfl : tp 74 = 12) _) fl_RX8_7 rfl ?_
  refine aw_bipush (v := 10) X dX8_drawn_10 (by decide) ?_
  refine aw_iald X dX8_drawn_12 (X.lt (by decide)) (sh_ia 3108 (rfl : tp 75 = 4108) _) (by unfold vp_in; decide) ?_
  refine aw_ldc (v := 1103515245) X dX8_drawn_13 kw1181 ?_
  refine aw_imul X dX8_drawn_15 ?_
  refine aw_sipush (v := 12345) X dX8_drawn_16 (by decide) ?_
  refine aw_iadd X dX8_drawn_19 ?_
  refine aw_iast X dX8_drawn_20 (X.lt (by decide)) (sh_ia 3108 (rfl : tp 75 = 4108) _) (sh_ia 3108 (rfl : tp 75 = 4108) _) (by unfold vp_in; decide) (fun M1 eM1 => ?_)
  have h := h M1 eM1
  refine aw_aload_n X dX8_drawn_21 0 rfl ?_
  refine aw_get X dX8_drawn_22 (X.lt (by decide)) (sh_12 (rfl : tp 74 = 12) _) fl_RX8_7 rfl ?_
  refine aw_bipush (v := 10) X dX8_drawn_25 (by decide) ?_
  refine aw_iald X dX8_drawn_27 (X.lt (by decide)) (sh_ia 3108 (rfl : tp 75 = 4108) _) (by unfold vp_in; decide) ?_
  refine aw_bipush (v := 8) X dX8_drawn_28 (by decide) ?_
  refine aw_iushr (v := jushr (M1 75 10) 8) X dX8_drawn_30 rfl ?_
  exact aw_iret X dX8_drawn_31 h
def wl_X8_comes_17 (n : Nat) (p1 : Int32) (p2 : Int32) (p3 : Int32) (p4 : Int32)  (K : Mm → Prop) : Nat → Mm → Int32 → Int32 → Prop
  | 0, _, _, _ => False
  | k + 1, M, x5, x6 => (12 ≤ x6 → vp_in x5 3108 ∧ (∀ M2 : Mm, M2 = wr M 75 x5.toNatClampNeg p1 → vp_in (x5 + 1) 3108 ∧ (∀ M3 : Mm, M3 = wr M2 75 (x5 + 1).toNatClampNeg p2 → vp_in (x5 + 2) 3108 ∧ (∀ M4 : Mm, M4 = wr M3 75 (x5 + 2).toNatClampNeg p3 → vp_in (x5 + 3) 3108 ∧ (∀ M5 : Mm, M5 = wr M4 75 (x5 + 3).toNatClampNeg p4 → vp_in (x5 + 4) 3108 ∧ (∀ M6 : Mm, M6 = wr M5 75 (x5 + 4).toNatClampNeg p4 → ∀ M7 : Mm, M7 = wr M6 75 0 ((M6 75 0) + 1) → K M7)))))) ∧ (¬ 12 ≤ x6 → vp_in (x5 + x6) 3108 ∧ (∀ M8 : Mm, M8 = wr M 75 (x5 + x6).toNatClampNeg 0 → ∀ v9 : Int32, v9 = x6 + 1 → wl_X8_comes_17 n p1 p2 p3 p4 K k M8 x5 v9))
set_option maxHeartbeats 4000000 in
set_option maxRecDepth 100000 in
theorem lw_X8_comes_17 {g : Gm} {E : En} {A : Nat → Prop} {K : Mm → Prop} (X : CX g cX8_comes RX8 none 0 E A 7) (p1 : Int32) (p2 : Int32) (p3 : Int32) (p4 : Int32)   : ∀ (k : Nat) (M : Mm) (x5 : Int32) (x6 : Int32), wl_X8_comes_17 (eN E) p1 p2 p3 p4  K k M x5 x6 → AW g E A 7 (MQ (gB g) (QV E K A) (gA g) (gS g) (gk g) (gn g) A) 17 [(0, .ref (eA E 74)), (1, .int p1), (2, .int p2), (3, .int p3), (4, .int p4), (5, .int x5), (6, .int x6)] [] M := by
  intro k
  induction k with
  | zero => intro M x5 x6 h; exact h.elim
  | succ k ih =>
    intro M x5 x6 h
    rw [wl_X8_comes_17] at h
    refine aw_iload X dX8_comes_17 6 rfl ?_
    refine aw_bipush (v := 12) X dX8_comes_19 (by decide) ?_
    refine aw_icmp_ge (tgt := 41) X dX8_comes_21 (by decide) (fun c => ?_) (fun c => ?_)
    · have h := h.1 c
      refine aw_aload_n X dX8_comes_41 0 rfl ?_
      refine aw_get X dX8_comes_42 (X.lt (by decide)) (sh_12 (rfl : tp 74 = 12) _) fl_RX8_7 rfl ?_
      refine aw_iload X dX8_comes_45 5 rfl ?_
      refine aw_iload_n X dX8_comes_47 1 rfl ?_
      obtain ⟨hin, h⟩ := h
      refine aw_iast X dX8_comes_48 (X.lt (by decide)) (sh_ia 3108 (rfl : tp 75 = 4108) _) (sh_ia 3108 (rfl : tp 75 = 4108) _) hin (fun M2 eM2 => ?_)
      have h := h M2 eM2
      refine aw_aload_n X dX8_comes_49 0 rfl ?_
      refine aw_get X dX8_comes_50 (X.lt (by decide)) (sh_12 (rfl : tp 74 = 12) _) fl_RX8_7 rfl ?_
      refine aw_iload X dX8_comes_53 5 rfl ?_
      refine aw_iconst (v := 1) X dX8_comes_55 (by decide) ?_
      refine aw_iadd X dX8_comes_56 ?_
      refine aw_iload_n X dX8_comes_57 2 rfl ?_
      obtain ⟨hin, h⟩ := h
      refine aw_iast X dX8_comes_58 (X.lt (by decide)) (sh_ia 3108 (rfl : tp 75 = 4108) _) (sh_ia 3108 (rfl : tp 75 = 4108) _) hin (fun M3 eM3 => ?_)
      have h := h M3 eM3
      refine aw_aload_n X dX8_comes_59 0 rfl ?_
      refine aw_get X dX8_comes_60 (X.lt (by decide)) (sh_12 (rfl : tp 74 = 12) _) fl_RX8_7 rfl ?_
      refine aw_iload X dX8_comes_63 5 rfl ?_
      refine aw_iconst (v := 2) X dX8_comes_65 (by decide) ?_
      refine aw_iadd X dX8_comes_66 ?_
      refine aw_iload_n X dX8_comes_67 3 rfl ?_
      obtain ⟨hin, h⟩ := h
      refine aw_iast X dX8_comes_68 (X.lt (by decide)) (sh_ia 3108 (rfl : tp 75 = 4108) _) (sh_ia 3108 (rfl : tp 75 = 4108) _) hin (fun M4 eM4 => ?_)
      have h := h M4 eM4
      refine aw_aload_n X dX8_comes_69 0 rfl ?_
      refine aw_get X dX8_comes_70 (X.lt (by decide)) (sh_12 (rfl : tp 74 = 12) _) fl_RX8_7 rfl ?_
      refine aw_iload X dX8_comes_73 5 rfl ?_
      refine aw_iconst (v := 3) X dX8_comes_75 (by decide) ?_
      refine aw_iadd X dX8_comes_76 ?_
      refine aw_iload X dX8_comes_77 4 rfl ?_
      obtain ⟨hin, h⟩ := h
      refine aw_iast X dX8_comes_79 (X.lt (by decide)) (sh_ia 3108 (rfl : tp 75 = 4108) _) (sh_ia 3108 (rfl : tp 75 = 4108) _) hin (fun M5 eM5 => ?_)
      have h := h M5 eM5
      refine aw_aload_n X dX8_comes_80 0 rfl ?_
      refine aw_get X dX8_comes_81 (X.lt (by decide)) (sh_12 (rfl : tp 74 = 12) _) fl_RX8_7 rfl ?_
      refine aw_iload X dX8_comes_84 5 rfl ?_
      refine aw_iconst (v := 4) X dX8_comes_86 (by decide) ?_
      refine aw_iadd X dX8_comes_87 ?_
      refine aw_iload X dX8_comes_88 4 rfl ?_
      obtain ⟨hin, h⟩ := h
      refine aw_iast X dX8_comes_90 (X.lt (by decide)) (sh_ia 3108 (rfl : tp 75 = 4108) _) (sh_ia 3108 (rfl : tp 75 = 4108) _) hin (fun M6 eM6 => ?_)
      have h := h M6 eM6
      refine aw_aload_n X dX8_comes_91 0 rfl ?_
      refine aw_get X dX8_comes_92 (X.lt (by decide)) (sh_12 (rfl : tp 74 = 12) _) fl_RX8_7 rfl ?_
      refine aw_iconst (v := 0) X dX8_comes_95 (by decide) ?_
      refine aw_dup2 X dX8_comes_96 rfl rfl ?_
      refine aw_iald X dX8_comes_97 (X.lt (by decide)) (sh_ia 3108 (rfl : tp 75 = 4108) _) (by unfold vp_in; decide) ?_
      refine aw_iconst (v := 1) X dX8_comes_98 (by decide) ?_
      refine aw_iadd X dX8_comes_99 ?_
      refine aw_iast X dX8_comes_100 (X.lt (by decide)) (sh_ia 3108 (rfl : tp 75 = 4108) _) (sh_ia 3108 (rfl : tp 75 = 4108) _) (by unfold vp_in; decide) (fun M7 eM7 => ?_)
      have h := h M7 eM7
      exact aw_vret X dX8_comes_101 h
    · have h := h.2 c
      refine aw_aload_n X dX8_comes_24 0 rfl ?_
      refine aw_get X dX8_comes_25 (X.lt (by decide)) (sh_12 (rfl : tp 74 = 12) _) fl_RX8_7 rfl ?_
      refine aw_iload X dX8_comes_28 5 rfl ?_
      refine aw_iload X dX8_comes_30 6 rfl ?_
      refine aw_iadd X dX8_comes_32 ?_
      refine aw_iconst (v := 0) X dX8_comes_33 (by decide) ?_
      obtain ⟨hin, h⟩ := h
      refine aw_iast X dX8_comes_34 (X.lt (by decide)) (sh_ia 3108 (rfl : tp 75 = 4108) _) (sh_ia 3108 (rfl : tp 75 = 4108) _) hin (fun M8 eM8 => ?_)
      have h := h M8 eM8
      obtain ⟨v9, ev9⟩ : ∃ y : Int32, y = x6 + 1 := ⟨_, rfl⟩
      have h := h v9 ev9
      refine aw_iinc (v := v9) (lv' := [(6, .int v9), (0, .ref (eA E 74)), (1, .int p1), (2, .int p2), (3, .int p3), (4, .int p4), (5, .int x5)]) X dX8_comes_35 6 rfl (by rw [ev9]; rfl) (by decide) rfl ?_
      refine aw_goto (tgt := 17) X dX8_comes_38 (by decide) ?_
      exact aw_sub [1, 2, 3, 4, 5, 6, 0] rfl (ih _ _ _ h)
def wp_X8_comes (n : Nat)  (M : Mm) (p1 : Int32) (p2 : Int32) (p3 : Int32) (p4 : Int32) (K : Mm → Prop) : Prop := ∀ v1 : Int32, v1 = 12 + (12 * (M 75 0)) → ∃ kf : Nat, wl_X8_comes_17 n p1 p2 p3 p4 K kf M v1 0
set_option maxHeartbeats 4000000 in
set_option maxRecDepth 100000 in
theorem c_X8_comes {l : Launch} {E : En} {M : Mm} {p1 : Int32} {p2 : Int32} {p3 : Int32} {p4 : Int32} {K : Mm → Prop}  (h : wp_X8_comes (eN E)  M p1 p2 p3 p4 K) : Ctr l E yX8_comes cX8_comes 7 none 0 [.ref (eA E 74), .int p1, .int p2, .int p3, .int p4] M (QV E K) := by
  refine Ctr.of (by decide +kernel) (Nat.le_of_ble_eq_true rfl) (fun g A hgl X => ?_)
  subst hgl
  have X : CX g cX8_comes RX8 none 0 E A 7 := X
  show AW g E A 7 _ 0 [(0, .ref (eA E 74)), (1, .int p1), (2, .int p2), (3, .int p3), (4, .int p4)] [] M
  unfold wp_X8_comes at h
  refine aw_bipush (v := 12) X dX8_comes_0 (by decide) ?_
  refine aw_bipush (v := 12) X dX8_comes_2 (by decide) ?_
  refine aw_aload_n X dX8_comes_4 0 rfl ?_
  refine aw_get X dX8_comes_5 (X.lt (by decide)) (sh_12 (rfl : tp 74 = 12) _) fl_RX8_7 rfl ?_
  refine aw_iconst (v := 0) X dX8_comes_8 (by decide) ?_
  refine aw_iald X dX8_comes_9 (X.lt (by decide)) (sh_ia 3108 (rfl : tp 75 = 4108) _) (by unfold vp_in; decide) ?_
  refine aw_imul X dX8_comes_10 ?_
  refine aw_iadd X dX8_comes_11 ?_
  refine aw_top (fun v1 ev1 => ?_)
  have h := h v1 ev1
  refine aw_istore (lv' := [(5, .int v1), (0, .ref (eA E 74)), (1, .int p1), (2, .int p2), (3, .int p3), (4, .int p4)]) X dX8_comes_12 (by decide) rfl ?_
  refine aw_iconst (v := 0) X dX8_comes_14 (by decide) ?_
  refine aw_istore (lv' := [(6, .int 0), (5, .int v1), (0, .ref (eA E 74)), (1, .int p1), (2, .int p2), (3, .int p3), (4, .int p4)]) X dX8_comes_15 (by decide) rfl ?_
  obtain ⟨kf, h⟩ := h
  exact aw_sub [2, 3, 4, 5, 6, 1, 0] rfl (lw_X8_comes_17 X p1 p2 p3 p4  kf _ _ _ h)
def wp_X8_comer (n : Nat)  (M : Mm) (p1 : Int32) (p2 : Int32) (p3 : Int32) (p4 : Int32) (K : Mm → Int32 → Prop) : Prop := wp_X8_isIn n M p1.toInt64 0 5 (fun M1 r2 => (r2 = 0 → K M1 (-1000000001)) ∧ (¬ r2 = 0 → wp_X8_isIn n M1 p2.toInt64 0 59 (fun M3 r4 => (r4 = 0 → K M3 (-1000000001)) ∧ (¬ r4 = 0 → wp_X8_isIn n M3 p3.toInt64 1 30 (fun M5 r6 => (r6 = 0 → K M5 (-1000000001)) ∧ (¬ r6 = 0 → wp_X8_isIn n M5 p4.toInt64 0 9 (fun M7 r8 => (¬ r8 = 0 → (¬ (M7 75 0) = 8 → wp_X8_comes n M7 p1 p2 p3 p4 (fun M9 => K M9 ((M9 75 0) - 1))) ∧ ((M7 75 0) = 8 → K M7 (-1000000003))) ∧ (r8 = 0 → K M7 (-1000000001)))))))))
set_option maxHeartbeats 4000000 in
set_option maxRecDepth 100000 in
theorem c_X8_comer {l : Launch} {E : En} {M : Mm} {p1 : Int32} {p2 : Int32} {p3 : Int32} {p4 : Int32} {K : Mm → Int32 → Prop}  (h : wp_X8_comer (eN E)  M p1 p2 p3 p4 K) : Ctr l E yX8_comer cX8_comer 5 (some .int) 1 [.ref (eA E 74), .int p1, .int p2, .int p3, .int p4] M (QI E K) := by
  refine Ctr.of (by decide +kernel) (Nat.le_of_ble_eq_true rfl) (fun g A hgl X => ?_)
  subst hgl
  have X : CX g cX8_comer RX8 (some .int) 1 E A 5 := X
  show AW g E A 5 _ 0 [(0, .ref (eA E 74)), (1, .int p1), (2, .int p2), (3, .int p3), (4, .int p4)] [] M
  unfold wp_X8_comer at h
  refine aw_iload_n X dX8_comer_0 1 rfl ?_
  refine aw_i2l X dX8_comer_1 ?_
  refine aw_lconst (v := 0) X dX8_comer_2 (by decide) ?_
  refine aw_ldc2_w (v := 5) X dX8_comer_3 kw1077 ?_
  refine ca_i X (rn_s X [.long p1.toInt64, .long 0, .long 5] [] kw1079 (c_X8_isIn h) cal_yX8_isIn kw1078 (Nat.le_of_ble_eq_true rfl) rfl rfl (Nat.le_of_ble_eq_true rfl) dX8_comer_6) (fun M1 r2 h => ?_)
  refine aw_if_eq (tgt := 49) X dX8_comer_9 (by decide) (fun c => ?_) (fun c => ?_)
  · have h := h.1 c
    refine aw_ldc (v := (-1000000001)) X dX8_comer_49 kw1084 ?_
    exact aw_iret X dX8_comer_51 h
  · have h := h.2 c
    refine aw_iload_n X dX8_comer_12 2 rfl ?_
    refine aw_i2l X dX8_comer_13 ?_
    refine aw_lconst (v := 0) X dX8_comer_14 (by decide) ?_
    refine aw_ldc2_w (v := 59) X dX8_comer_15 kw1081 ?_
    refine ca_i X (rn_s X [.long p2.toInt64, .long 0, .long 59] [] kw1079 (c_X8_isIn h) cal_yX8_isIn kw1078 (Nat.le_of_ble_eq_true rfl) rfl rfl (Nat.le_of_ble_eq_true rfl) dX8_comer_18) (fun M3 r4 h => ?_)
    refine aw_if_eq (tgt := 49) X dX8_comer_21 (by decide) (fun c => ?_) (fun c => ?_)
    · have h := h.1 c
      refine aw_ldc (v := (-1000000001)) X dX8_comer_49 kw1084 ?_
      exact aw_iret X dX8_comer_51 h
    · have h := h.2 c
      refine aw_iload_n X dX8_comer_24 3 rfl ?_
      refine aw_i2l X dX8_comer_25 ?_
      refine aw_lconst (v := 1) X dX8_comer_26 (by decide) ?_
      refine aw_ldc2_w (v := 30) X dX8_comer_27 kw1082 ?_
      refine ca_i X (rn_s X [.long p3.toInt64, .long 1, .long 30] [] kw1079 (c_X8_isIn h) cal_yX8_isIn kw1078 (Nat.le_of_ble_eq_true rfl) rfl rfl (Nat.le_of_ble_eq_true rfl) dX8_comer_30) (fun M5 r6 h => ?_)
      refine aw_if_eq (tgt := 49) X dX8_comer_33 (by decide) (fun c => ?_) (fun c => ?_)
      · have h := h.1 c
        refine aw_ldc (v := (-1000000001)) X dX8_comer_49 kw1084 ?_
        exact aw_iret X dX8_comer_51 h
      · have h := h.2 c
        refine aw_iload X dX8_comer_36 4 rfl ?_
        refine aw_i2l X dX8_comer_38 ?_
        refine aw_lconst (v := 0) X dX8_comer_39 (by decide) ?_
        refine aw_ldc2_w (v := 9) X dX8_comer_40 kw1083 ?_
        refine ca_i X (rn_s X [.long p4.toInt64, .long 0, .long 9] [] kw1079 (c_X8_isIn h) cal_yX8_isIn kw1078 (Nat.le_of_ble_eq_true rfl) rfl rfl (Nat.le_of_ble_eq_true rfl) dX8_comer_43) (fun M7 r8 h => ?_)
        refine aw_if_ne (tgt := 52) X dX8_comer_46 (by decide) (fun c => ?_) (fun c => ?_)
        · have h := h.1 c
          refine aw_aload_n X dX8_comer_52 0 rfl ?_
          refine aw_get X dX8_comer_53 (X.lt (by decide)) (sh_12 (rfl : tp 74 = 12) _) fl_RX8_7 rfl ?_
          refine aw_iconst (v := 0) X dX8_comer_56 (by decide) ?_
          refine aw_iald X dX8_comer_57 (X.lt (by decide)) (sh_ia 3108 (rfl : tp 75 = 4108) _) (by unfold vp_in; decide) ?_
          refine aw_bipush (v := 8) X dX8_comer_58 (by decide) ?_
          refine aw_icmp_ne (tgt := 66) X dX8_comer_60 (by decide) (fun c => ?_) (fun c => ?_)
          · have h := h.1 c
            refine aw_aload_n X dX8_comer_66 0 rfl ?_
            refine aw_iload_n X dX8_comer_67 1 rfl ?_
            refine aw_iload_n X dX8_comer_68 2 rfl ?_
            refine aw_iload_n X dX8_comer_69 3 rfl ?_
            refine aw_iload X dX8_comer_70 4 rfl ?_
            refine ca_v X (rn_v X [.int p1, .int p2, .int p3, .int p4] [] (X.lt (by decide)) (sh_12 (rfl : tp 74 = 12) _) rfl rfl kw1088 kw54 (c_X8_comes h) cal_yX8_comes kw1086 (Nat.le_of_ble_eq_true rfl) rfl rfl (Nat.le_of_ble_eq_true rfl) dX8_comer_72) (fun M9 h => ?_)
            refine aw_aload_n X dX8_comer_75 0 rfl ?_
            refine aw_get X dX8_comer_76 (X.lt (by decide)) (sh_12 (rfl : tp 74 = 12) _) fl_RX8_7 rfl ?_
            refine aw_iconst (v := 0) X dX8_comer_79 (by decide) ?_
            refine aw_iald X dX8_comer_80 (X.lt (by decide)) (sh_ia 3108 (rfl : tp 75 = 4108) _) (by unfold vp_in; decide) ?_
            refine aw_iconst (v := 1) X dX8_comer_81 (by decide) ?_
            refine aw_isub X dX8_comer_82 ?_
            exact aw_iret X dX8_comer_83 h
          · have h := h.2 c
            refine aw_ldc (v := (-1000000003)) X dX8_comer_63 kw1085 ?_
            exact aw_iret X dX8_comer_65 h
        · have h := h.2 c
          refine aw_ldc (v := (-1000000001)) X dX8_comer_49 kw1084 ?_
          exact aw_iret X dX8_comer_51 h
def wl_X8_standing_4 (n : Nat)   (K : Mm → Int32 → Prop) : Nat → Mm → Int32 → Int32 → Prop
  | 0, _, _, _ => False
  | k + 1, M, x1, x2 => ((M 75 0) ≤ x2 → K M x1) ∧ (¬ (M 75 0) ≤ x2 → wp_X8_of n M x2 5 (fun M1 r2 => (¬ r2 = 2 → ∀ v3 : Int32, v3 = x1 + 0 → ∀ v4 : Int32, v4 = x2 + 1 → wl_X8_standing_4 n K k M1 v3 v4) ∧ (r2 = 2 → ∀ v5 : Int32, v5 = x1 + 1 → ∀ v6 : Int32, v6 = x2 + 1 → wl_X8_standing_4 n K k M1 v5 v6)))
set_option maxHeartbeats 4000000 in
set_option maxRecDepth 100000 in
theorem lw_X8_standing_4 {g : Gm} {E : En} {A : Nat → Prop} {K : Mm → Int32 → Prop} (X : CX g cX8_standing RX8 (some .int) 1 E A 3)    : ∀ (k : Nat) (M : Mm) (x1 : Int32) (x2 : Int32), wl_X8_standing_4 (eN E)   K k M x1 x2 → AW g E A 3 (MQ (gB g) (QI E K A) (gA g) (gS g) (gk g) (gn g) A) 4 [(0, .ref (eA E 74)), (1, .int x1), (2, .int x2)] [] M := by
  intro k
  induction k with
  | zero => intro M x1 x2 h; exact h.elim
  | succ k ih =>
    intro M x1 x2 h
    rw [wl_X8_standing_4] at h
    refine aw_iload_n X dX8_standing_4 2 rfl ?_
    refine aw_aload_n X dX8_standing_5 0 rfl ?_
    refine aw_get X dX8_standing_6 (X.lt (by decide)) (sh_12 (rfl : tp 74 = 12) _) fl_RX8_7 rfl ?_
    refine aw_iconst (v := 0) X dX8_standing_9 (by decide) ?_
    refine aw_iald X dX8_standing_10 (X.lt (by decide)) (sh_ia 3108 (rfl : tp 75 = 4108) _) (by unfold vp_in; decide) ?_
    refine aw_icmp_ge (tgt := 38) X dX8_standing_11 (by decide) (fun c => ?_) (fun c => ?_)
    · have h := h.1 c
      refine aw_iload_n X dX8_standing_38 1 rfl ?_
      exact aw_iret X dX8_standing_39 h
    · have h := h.2 c
      refine aw_iload_n X dX8_standing_14 1 rfl ?_
      refine aw_aload_n X dX8_standing_15 0 rfl ?_
      refine aw_iload_n X dX8_standing_16 2 rfl ?_
      refine aw_iconst (v := 5) X dX8_standing_17 (by decide) ?_
      refine ca_i X (rn_v X [.int x2, .int 5] [.int x1] (X.lt (by decide)) (sh_12 (rfl : tp 74 = 12) _) rfl rfl kw1101 kw56 (c_X8_of h) cal_yX8_of kw1099 (Nat.le_of_ble_eq_true rfl) rfl rfl (Nat.le_of_ble_eq_true rfl) dX8_standing_18) (fun M1 r2 h => ?_)
      refine aw_iconst (v := 2) X dX8_standing_21 (by decide) ?_
      refine aw_icmp_ne (tgt := 29) X dX8_standing_22 (by decide) (fun c => ?_) (fun c => ?_)
      · have h := h.1 c
        refine aw_iconst (v := 0) X dX8_standing_29 (by decide) ?_
        refine aw_iadd X dX8_standing_30 ?_
        refine aw_top (fun v3 ev3 => ?_)
        have h := h v3 ev3
        refine aw_istore_n (lv' := [(1, .int v3), (0, .ref (eA E 74)), (2, .int x2)]) X dX8_standing_31 (by decide) rfl ?_
        obtain ⟨v4, ev4⟩ : ∃ y : Int32, y = x2 + 1 := ⟨_, rfl⟩
        have h := h v4 ev4
        refine aw_iinc (v := v4) (lv' := [(2, .int v4), (1, .int v3), (0, .ref (eA E 74))]) X dX8_standing_32 2 rfl (by rw [ev4]; rfl) (by decide) rfl ?_
        refine aw_goto (tgt := 4) X dX8_standing_35 (by decide) ?_
        exact aw_sub [2, 1, 0] rfl (ih _ _ _ h)
      · have h := h.2 c
        refine aw_iconst (v := 1) X dX8_standing_25 (by decide) ?_
        refine aw_goto (tgt := 30) X dX8_standing_26 (by decide) ?_
        refine aw_iadd X dX8_standing_30 ?_
        refine aw_top (fun v5 ev5 => ?_)
        have h := h v5 ev5
        refine aw_istore_n (lv' := [(1, .int v5), (0, .ref (eA E 74)), (2, .int x2)]) X dX8_standing_31 (by decide) rfl ?_
        obtain ⟨v6, ev6⟩ : ∃ y : Int32, y = x2 + 1 := ⟨_, rfl⟩
        have h := h v6 ev6
        refine aw_iinc (v := v6) (lv' := [(2, .int v6), (1, .int v5), (0, .ref (eA E 74))]) X dX8_standing_32 2 rfl (by rw [ev6]; rfl) (by decide) rfl ?_
        refine aw_goto (tgt := 4) X dX8_standing_35 (by decide) ?_
        exact aw_sub [2, 1, 0] rfl (ih _ _ _ h)
def wp_X8_standing (n : Nat)  (M : Mm)  (K : Mm → Int32 → Prop) : Prop := ∃ kf : Nat, wl_X8_standing_4 n K kf M 0 0
set_option maxHeartbeats 4000000 in
set_option maxRecDepth 100000 in
theorem c_X8_standing {l : Launch} {E : En} {M : Mm}  {K : Mm → Int32 → Prop}  (h : wp_X8_standing (eN E)  M  K) : Ctr l E yX8_standing cX8_standing 3 (some .int) 1 [.ref (eA E 74)] M (QI E K) := by
  refine Ctr.of (by decide +kernel) (Nat.le_of_ble_eq_true rfl) (fun g A hgl X => ?_)
  subst hgl
  have X : CX g cX8_standing RX8 (some .int) 1 E A 3 := X
  show AW g E A 3 _ 0 [(0, .ref (eA E 74))] [] M
  unfold wp_X8_standing at h
  refine aw_iconst (v := 0) X dX8_standing_0 (by decide) ?_
  refine aw_istore_n (lv' := [(1, .int 0), (0, .ref (eA E 74))]) X dX8_standing_1 (by decide) rfl ?_
  refine aw_iconst (v := 0) X dX8_standing_2 (by decide) ?_
  refine aw_istore_n (lv' := [(2, .int 0), (1, .int 0), (0, .ref (eA E 74))]) X dX8_standing_3 (by decide) rfl ?_
  obtain ⟨kf, h⟩ := h
  exact aw_sub [2, 1, 0] rfl (lw_X8_standing_4 X   kf _ _ _ h)
def wl_X8_counts_4 (n : Nat) (p1 : Int32)  (K : Mm → Int32 → Prop) : Nat → Mm → Int32 → Int32 → Prop
  | 0, _, _, _ => False
  | k + 1, M, x2, x3 => ((M 75 1) ≤ x3 → K M x2) ∧ (¬ (M 75 1) ≤ x3 → wp_X8_textAt n M x3 (fun M1 r2 => vp_in r2 3108 ∧ ((¬ (M1 75 r2.toNatClampNeg) = p1 → ∀ v3 : Int32, v3 = x3 + 1 → wl_X8_counts_4 n p1 K k M1 x2 v3) ∧ ((M1 75 r2.toNatClampNeg) = p1 → ∀ v4 : Int32, v4 = x3 + 1 → wl_X8_counts_4 n p1 K k M1 x3 v4))))
set_option maxHeartbeats 4000000 in
set_option maxRecDepth 100000 in
theorem lw_X8_counts_4 {g : Gm} {E : En} {A : Nat → Prop} {K : Mm → Int32 → Prop} (X : CX g cX8_counts RX8 (some .int) 1 E A 4) (p1 : Int32)   : ∀ (k : Nat) (M : Mm) (x2 : Int32) (x3 : Int32), wl_X8_counts_4 (eN E) p1  K k M x2 x3 → AW g E A 4 (MQ (gB g) (QI E K A) (gA g) (gS g) (gk g) (gn g) A) 4 [(0, .ref (eA E 74)), (1, .int p1), (2, .int x2), (3, .int x3)] [] M := by
  intro k
  induction k with
  | zero => intro M x2 x3 h; exact h.elim
  | succ k ih =>
    intro M x2 x3 h
    rw [wl_X8_counts_4] at h
    refine aw_iload_n X dX8_counts_4 3 rfl ?_
    refine aw_aload_n X dX8_counts_5 0 rfl ?_
    refine aw_get X dX8_counts_6 (X.lt (by decide)) (sh_12 (rfl : tp 74 = 12) _) fl_RX8_7 rfl ?_
    refine aw_iconst (v := 1) X dX8_counts_9 (by decide) ?_
    refine aw_iald X dX8_counts_10 (X.lt (by decide)) (sh_ia 3108 (rfl : tp 75 = 4108) _) (by unfold vp_in; decide) ?_
    refine aw_icmp_ge (tgt := 40) X dX8_counts_11 (by decide) (fun c => ?_) (fun c => ?_)
    · have h := h.1 c
      refine aw_iload_n X dX8_counts_40 2 rfl ?_
      exact aw_iret X dX8_counts_41 h
    · have h := h.2 c
      refine aw_aload_n X dX8_counts_14 0 rfl ?_
      refine aw_get X dX8_counts_15 (X.lt (by decide)) (sh_12 (rfl : tp 74 = 12) _) fl_RX8_7 rfl ?_
      refine aw_aload_n X dX8_counts_18 0 rfl ?_
      refine aw_iload_n X dX8_counts_19 3 rfl ?_
      refine ca_i X (rn_v X [.int x3] [.ref (eA E 75)] (X.lt (by decide)) (sh_12 (rfl : tp 74 = 12) _) rfl rfl kw1117 kw60 (c_X8_textAt h) cal_yX8_textAt kw1115 (Nat.le_of_ble_eq_true rfl) rfl rfl (Nat.le_of_ble_eq_true rfl) dX8_counts_20) (fun M1 r2 h => ?_)
      obtain ⟨hin, h⟩ := h
      refine aw_iald X dX8_counts_23 (X.lt (by decide)) (sh_ia 3108 (rfl : tp 75 = 4108) _) hin ?_
      refine aw_iload_n X dX8_counts_24 1 rfl ?_
      refine aw_icmp_ne (tgt := 32) X dX8_counts_25 (by decide) (fun c => ?_) (fun c => ?_)
      · have h := h.1 c
        refine aw_iload_n X dX8_counts_32 2 rfl ?_
        refine aw_istore_n (lv' := [(2, .int x2), (0, .ref (eA E 74)), (1, .int p1), (3, .int x3)]) X dX8_counts_33 (by decide) rfl ?_
        obtain ⟨v3, ev3⟩ : ∃ y : Int32, y = x3 + 1 := ⟨_, rfl⟩
        have h := h v3 ev3
        refine aw_iinc (v := v3) (lv' := [(3, .int v3), (2, .int x2), (0, .ref (eA E 74)), (1, .int p1)]) X dX8_counts_34 3 rfl (by rw [ev3]; rfl) (by decide) rfl ?_
        refine aw_goto (tgt := 4) X dX8_counts_37 (by decide) ?_
        exact aw_sub [2, 3, 1, 0] rfl (ih _ _ _ h)
      · have h := h.2 c
        refine aw_iload_n X dX8_counts_28 3 rfl ?_
        refine aw_goto (tgt := 33) X dX8_counts_29 (by decide) ?_
        refine aw_istore_n (lv' := [(2, .int x3), (0, .ref (eA E 74)), (1, .int p1), (3, .int x3)]) X dX8_counts_33 (by decide) rfl ?_
        obtain ⟨v4, ev4⟩ : ∃ y : Int32, y = x3 + 1 := ⟨_, rfl⟩
        have h := h v4 ev4
        refine aw_iinc (v := v4) (lv' := [(3, .int v4), (2, .int x3), (0, .ref (eA E 74)), (1, .int p1)]) X dX8_counts_34 3 rfl (by rw [ev4]; rfl) (by decide) rfl ?_
        refine aw_goto (tgt := 4) X dX8_counts_37 (by decide) ?_
        exact aw_sub [2, 3, 1, 0] rfl (ih _ _ _ h)
def wp_X8_counts (n : Nat)  (M : Mm) (p1 : Int32) (K : Mm → Int32 → Prop) : Prop := ∃ kf : Nat, wl_X8_counts_4 n p1 K kf M (-1) 0
set_option maxHeartbeats 4000000 in
set_option maxRecDepth 100000 in
theorem c_X8_counts {l : Launch} {E : En} {M : Mm} {p1 : Int32} {K : Mm → Int32 → Prop}  (h : wp_X8_counts (eN E)  M p1 K) : Ctr l E yX8_counts cX8_counts 4 (some .int) 1 [.ref (eA E 74), .int p1] M (QI E K) := by
  refine Ctr.of (by decide +kernel) (Nat.le_of_ble_eq_true rfl) (fun g A hgl X => ?_)
  subst hgl
  have X : CX g cX8_counts RX8 (some .int) 1 E A 4 := X
  show AW g E A 4 _ 0 [(0, .ref (eA E 74)), (1, .int p1)] [] M
  unfold wp_X8_counts at h
  refine aw_iconst (v := (-1)) X dX8_counts_0 (by decide) ?_
  refine aw_istore_n (lv' := [(2, .int (-1)), (0, .ref (eA E 74)), (1, .int p1)]) X dX8_counts_1 (by decide) rfl ?_
  refine aw_iconst (v := 0) X dX8_counts_2 (by decide) ?_
  refine aw_istore_n (lv' := [(3, .int 0), (2, .int (-1)), (0, .ref (eA E 74)), (1, .int p1)]) X dX8_counts_3 (by decide) rfl ?_
  obtain ⟨kf, h⟩ := h
  exact aw_sub [2, 3, 1, 0] rfl (lw_X8_counts_4 X p1  kf _ _ _ h)
def wb_X8_joined_197 (n : Nat) (p0 : Int32) (p1 : Int32) (p2 : Int32)  (K : Mm → Int32 → Prop) (M : Mm)  : Prop := (¬ p1 = 0 → K M 1) ∧ (p1 = 0 → (p2 = 0 → K M 0) ∧ (¬ p2 = 0 → K M 1))
set_option maxHeartbeats 4000000 in
set_option maxRecDepth 100000 in
theorem lb_X8_joined_197 {g : Gm} {E : En} {A : Nat → Prop} {K : Mm → Int32 → Prop} (X : CX g cX8_joined RX8 (some .int) 0 E A 3) (p0 : Int32) (p1 : Int32) (p2 : Int32)   (M : Mm)  (h : wb_X8_joined_197 (eN E) p0 p1 p2  K M ) : AW g E A 3 (MQ (gB g) (QI E K A) (gA g) (gS g) (gk g) (gn g) A) 197 [(1, .int p1), (2, .int p2)] [] M := by
  unfold wb_X8_joined_197 at h
  refine aw_iload_n X dX8_joined_197 0 rfl ?_
  refine aw_if_ne (tgt := 205) X dX8_joined_198 (by decide) (fun c => ?_) (fun c => ?_)
  · have h := h.1 c
    refine aw_iconst (v := 1) X dX8_joined_205 (by decide) ?_
    refine aw_goto (tgt := 210) X dX8_joined_206 (by decide) ?_
    exact aw_iret X dX8_joined_210 h
  · have h := h.2 c
    refine aw_iload_n X dX8_joined_201 1 rfl ?_
    refine aw_if_eq (tgt := 209) X dX8_joined_202 (by decide) (fun c => ?_) (fun c => ?_)
    · have h := h.1 c
      refine aw_iconst (v := 0) X dX8_joined_209 (by decide) ?_
      exact aw_iret X dX8_joined_210 h
    · have h := h.2 c
      refine aw_iconst (v := 1) X dX8_joined_205 (by decide) ?_
      refine aw_goto (tgt := 210) X dX8_joined_206 (by decide) ?_
      exact aw_iret X dX8_joined_210 h
def wp_X8_joined (n : Nat)  (M : Mm) (p0 : Int32) (p1 : Int32) (p2 : Int32) (K : Mm → Int32 → Prop) : Prop := (p0 = 38 → (p1 = 0 → K M 0) ∧ (¬ p1 = 0 → (p2 = 0 → K M 0) ∧ (¬ p2 = 0 → K M 1))) ∧ (p0 = 39 → wb_X8_joined_197 n p0 p1 p2 K M ) ∧ (p0 = 40 → wb_X8_joined_197 n p0 p1 p2 K M ) ∧ (p0 = 41 → wb_X8_joined_197 n p0 p1 p2 K M ) ∧ (p0 = 42 → K M (p1 * p2)) ∧ (p0 = 43 → K M (p1 + p2)) ∧ (p0 = 44 → wb_X8_joined_197 n p0 p1 p2 K M ) ∧ (p0 = 45 → K M (p1 - p2)) ∧ (p0 = 46 → wb_X8_joined_197 n p0 p1 p2 K M ) ∧ (p0 = 47 → (¬ p2 = 0 → (¬ p2 = (-1) → ¬ p2 = 0 ∧ (K M (p1 / p2))) ∧ (p2 = (-1) → K M (-p1))) ∧ (p2 = 0 → K M 0)) ∧ (p0 = 48 → wb_X8_joined_197 n p0 p1 p2 K M ) ∧ (p0 = 49 → wb_X8_joined_197 n p0 p1 p2 K M ) ∧ (p0 = 50 → wb_X8_joined_197 n p0 p1 p2 K M ) ∧ (p0 = 51 → wb_X8_joined_197 n p0 p1 p2 K M ) ∧ (p0 = 52 → wb_X8_joined_197 n p0 p1 p2 K M ) ∧ (p0 = 53 → wb_X8_joined_197 n p0 p1 p2 K M ) ∧ (p0 = 54 → wb_X8_joined_197 n p0 p1 p2 K M ) ∧ (p0 = 55 → wb_X8_joined_197 n p0 p1 p2 K M ) ∧ (p0 = 56 → wb_X8_joined_197 n p0 p1 p2 K M ) ∧ (p0 = 57 → wb_X8_joined_197 n p0 p1 p2 K M ) ∧ (p0 = 58 → wb_X8_joined_197 n p0 p1 p2 K M ) ∧ (p0 = 59 → wb_X8_joined_197 n p0 p1 p2 K M ) ∧ (p0 = 60 → (p2 ≤ p1 → K M 0) ∧ (¬ p2 ≤ p1 → K M 1)) ∧ (p0 = 61 → (¬ p1 = p2 → K M 0) ∧ (p1 = p2 → K M 1)) ∧ (p0 = 62 → (p1 ≤ p2 → K M 0) ∧ (¬ p1 ≤ p2 → K M 1)) ∧ (¬ p0 = 38 → ¬ p0 = 39 → ¬ p0 = 40 → ¬ p0 = 41 → ¬ p0 = 42 → ¬ p0 = 43 → ¬ p0 = 44 → ¬ p0 = 45 → ¬ p0 = 46 → ¬ p0 = 47 → ¬ p0 = 48 → ¬ p0 = 49 → ¬ p0 = 50 → ¬ p0 = 51 → ¬ p0 = 52 → ¬ p0 = 53 → ¬ p0 = 54 → ¬ p0 = 55 → ¬ p0 = 56 → ¬ p0 = 57 → ¬ p0 = 58 → ¬ p0 = 59 → ¬ p0 = 60 → ¬ p0 = 61 → ¬ p0 = 62 → wb_X8_joined_197 n p0 p1 p2 K M )
set_option maxHeartbeats 4000000 in
set_option maxRecDepth 100000 in
theorem c_X8_joined {l : Launch} {E : En} {M : Mm} {p0 : Int32} {p1 : Int32} {p2 : Int32} {K : Mm → Int32 → Prop}  (h : wp_X8_joined (eN E)  M p0 p1 p2 K) : Ctr l E yX8_joined cX8_joined 3 (some .int) 0 [.int p0, .int p1, .int p2] M (QI E K) := by
  refine Ctr.of (by decide +kernel) (Nat.le_of_ble_eq_true rfl) (fun g A hgl X => ?_)
  subst hgl
  have X : CX g cX8_joined RX8 (some .int) 0 E A 3 := X
  show AW g E A 3 _ 0 [(0, .int p0), (1, .int p1), (2, .int p2)] [] M
  unfold wp_X8_joined at h
  refine aw_iload_n X dX8_joined_0 0 rfl ?_
  by_cases c0 : p0 = 38
  · have h := h.1 c0
    refine aw_tableIn (tgt := 183) X dX8_joined_1 38 c0 (by decide) (by decide) rfl (by decide) ?_
    refine aw_iload_n X dX8_joined_183 1 rfl ?_
    refine aw_if_eq (tgt := 195) X dX8_joined_184 (by decide) (fun c => ?_) (fun c => ?_)
    · have h := h.1 c
      refine aw_iconst (v := 0) X dX8_joined_195 (by decide) ?_
      exact aw_iret X dX8_joined_196 h
    · have h := h.2 c
      refine aw_iload_n X dX8_joined_187 2 rfl ?_
      refine aw_if_eq (tgt := 195) X dX8_joined_188 (by decide) (fun c => ?_) (fun c => ?_)
      · have h := h.1 c
        refine aw_iconst (v := 0) X dX8_joined_195 (by decide) ?_
        exact aw_iret X dX8_joined_196 h
      · have h := h.2 c
        refine aw_iconst (v := 1) X dX8_joined_191 (by decide) ?_
        refine aw_goto (tgt := 196) X dX8_joined_192 (by decide) ?_
        exact aw_iret X dX8_joined_196 h
  · by_cases c1 : p0 = 39
    · have h := h.2.1 c1
      refine aw_tableIn (tgt := 197) X dX8_joined_1 39 c1 (by decide) (by decide) rfl (by decide) ?_
      exact aw_sub [1, 2] rfl (lb_X8_joined_197 X p0 p1 p2  _ h)
    · by_cases c2 : p0 = 40
      · have h := h.2.2.1 c2
        refine aw_tableIn (tgt := 197) X dX8_joined_1 40 c2 (by decide) (by decide) rfl (by decide) ?_
        exact aw_sub [1, 2] rfl (lb_X8_joined_197 X p0 p1 p2  _ h)
      · by_cases c3 : p0 = 41
        · have h := h.2.2.2.1 c3
          refine aw_tableIn (tgt := 197) X dX8_joined_1 41 c3 (by decide) (by decide) rfl (by decide) ?_
          exact aw_sub [1, 2] rfl (lb_X8_joined_197 X p0 p1 p2  _ h)
        · by_cases c4 : p0 = 42
          · have h := h.2.2.2.2.1 c4
            refine aw_tableIn (tgt := 124) X dX8_joined_1 42 c4 (by decide) (by decide) rfl (by decide) ?_
            refine aw_iload_n X dX8_joined_124 1 rfl ?_
            refine aw_iload_n X dX8_joined_125 2 rfl ?_
            refine aw_imul X dX8_joined_126 ?_
            exact aw_iret X dX8_joined_127 h
          · by_cases c5 : p0 = 43
            · have h := h.2.2.2.2.2.1 c5
              refine aw_tableIn (tgt := 116) X dX8_joined_1 43 c5 (by decide) (by decide) rfl (by decide) ?_
              refine aw_iload_n X dX8_joined_116 1 rfl ?_
              refine aw_iload_n X dX8_joined_117 2 rfl ?_
              refine aw_iadd X dX8_joined_118 ?_
              exact aw_iret X dX8_joined_119 h
            · by_cases c6 : p0 = 44
              · have h := h.2.2.2.2.2.2.1 c6
                refine aw_tableIn (tgt := 197) X dX8_joined_1 44 c6 (by decide) (by decide) rfl (by decide) ?_
                exact aw_sub [1, 2] rfl (lb_X8_joined_197 X p0 p1 p2  _ h)
              · by_cases c7 : p0 = 45
                · have h := h.2.2.2.2.2.2.2.1 c7
                  refine aw_tableIn (tgt := 120) X dX8_joined_1 45 c7 (by decide) (by decide) rfl (by decide) ?_
                  refine aw_iload_n X dX8_joined_120 1 rfl ?_
                  refine aw_iload_n X dX8_joined_121 2 rfl ?_
                  refine aw_isub X dX8_joined_122 ?_
                  exact aw_iret X dX8_joined_123 h
                · by_cases c8 : p0 = 46
                  · have h := h.2.2.2.2.2.2.2.2.1 c8
                    refine aw_tableIn (tgt := 197) X dX8_joined_1 46 c8 (by decide) (by decide) rfl (by decide) ?_
                    exact aw_sub [1, 2] rfl (lb_X8_joined_197 X p0 p1 p2  _ h)
                  · by_cases c9 : p0 = 47
                    · have h := h.2.2.2.2.2.2.2.2.2.1 c9
                      refine aw_tableIn (tgt := 128) X dX8_joined_1 47 c9 (by decide) (by decide) rfl (by decide) ?_
                      refine aw_iload_n X dX8_joined_128 2 rfl ?_
                      refine aw_if_ne (tgt := 136) X dX8_joined_129 (by decide) (fun c => ?_) (fun c => ?_)
                      · have h := h.1 c
                        refine aw_iload_n X dX8_joined_136 2 rfl ?_
                        refine aw_iconst (v := (-1)) X dX8_joined_137 (by decide) ?_
                        refine aw_icmp_ne (tgt := 146) X dX8_joined_138 (by decide) (fun c => ?_) (fun c => ?_)
                        · have h := h.1 c
                          refine aw_iload_n X dX8_joined_146 1 rfl ?_
                          refine aw_iload_n X dX8_joined_147 2 rfl ?_
                          obtain ⟨hne, h⟩ := h
                          refine aw_idiv X dX8_joined_148 hne ?_
                          exact aw_iret X dX8_joined_149 h
                        · have h := h.2 c
                          refine aw_iload_n X dX8_joined_141 1 rfl ?_
                          refine aw_ineg X dX8_joined_142 ?_
                          refine aw_goto (tgt := 149) X dX8_joined_143 (by decide) ?_
                          exact aw_iret X dX8_joined_149 h
                      · have h := h.2 c
                        refine aw_iconst (v := 0) X dX8_joined_132 (by decide) ?_
                        refine aw_goto (tgt := 149) X dX8_joined_133 (by decide) ?_
                        exact aw_iret X dX8_joined_149 h
                    · by_cases c10 : p0 = 48
                      · have h := h.2.2.2.2.2.2.2.2.2.2.1 c10
                        refine aw_tableIn (tgt := 197) X dX8_joined_1 48 c10 (by decide) (by decide) rfl (by decide) ?_
                        exact aw_sub [1, 2] rfl (lb_X8_joined_197 X p0 p1 p2  _ h)
                      · by_cases c11 : p0 = 49
                        · have h := h.2.2.2.2.2.2.2.2.2.2.2.1 c11
                          refine aw_tableIn (tgt := 197) X dX8_joined_1 49 c11 (by decide) (by decide) rfl (by decide) ?_
                          exact aw_sub [1, 2] rfl (lb_X8_joined_197 X p0 p1 p2  _ h)
                        · by_cases c12 : p0 = 50
                          · have h := h.2.2.2.2.2.2.2.2.2.2.2.2.1 c12
                            refine aw_tableIn (tgt := 197) X dX8_joined_1 50 c12 (by decide) (by decide) rfl (by decide) ?_
                            exact aw_sub [1, 2] rfl (lb_X8_joined_197 X p0 p1 p2  _ h)
                          · by_cases c13 : p0 = 51
                            · have h := h.2.2.2.2.2.2.2.2.2.2.2.2.2.1 c13
                              refine aw_tableIn (tgt := 197) X dX8_joined_1 51 c13 (by decide) (by decide) rfl (by decide) ?_
                              exact aw_sub [1, 2] rfl (lb_X8_joined_197 X p0 p1 p2  _ h)
                            · by_cases c14 : p0 = 52
                              · have h := h.2.2.2.2.2.2.2.2.2.2.2.2.2.2.1 c14
                                refine aw_tableIn (tgt := 197) X dX8_joined_1 52 c14 (by decide) (by decide) rfl (by decide) ?_
                                exact aw_sub [1, 2] rfl (lb_X8_joined_197 X p0 p1 p2  _ h)
                              · by_cases c15 : p0 = 53
                                · have h := h.2.2.2.2.2.2.2.2.2.2.2.2.2.2.2.1 c15
                                  refine aw_tableIn (tgt := 197) X dX8_joined_1 53 c15 (by decide) (by decide) rfl (by decide) ?_
                                  exact aw_sub [1, 2] rfl (lb_X8_joined_197 X p0 p1 p2  _ h)
                                · by_cases c16 : p0 = 54
                                  · have h := h.2.2.2.2.2.2.2.2.2.2.2.2.2.2.2.2.1 c16
                                    refine aw_tableIn (tgt := 197) X dX8_joined_1 54 c16 (by decide) (by decide) rfl (by decide) ?_
                                    exact aw_sub [1, 2] rfl (lb_X8_joined_197 X p0 p1 p2  _ h)
                                  · by_cases c17 : p0 = 55
                                    · have h := h.2.2.2.2.2.2.2.2.2.2.2.2.2.2.2.2.2.1 c17
                                      refine aw_tableIn (tgt := 197) X dX8_joined_1 55 c17 (by decide) (by decide) rfl (by decide) ?_
                                      exact aw_sub [1, 2] rfl (lb_X8_joined_197 X p0 p1 p2  _ h)
                                    · by_cases c18 : p0 = 56
                                      · have h := h.2.2.2.2.2.2.2.2.2.2.2.2.2.2.2.2.2.2.1 c18
                                        refine aw_tableIn (tgt := 197) X dX8_joined_1 56 c18 (by decide) (by decide) rfl (by decide) ?_
                                        exact aw_sub [1, 2] rfl (lb_X8_joined_197 X p0 p1 p2  _ h)
                                      · by_cases c19 : p0 = 57
                                        · have h := h.2.2.2.2.2.2.2.2.2.2.2.2.2.2.2.2.2.2.2.1 c19
                                          refine aw_tableIn (tgt := 197) X dX8_joined_1 57 c19 (by decide) (by decide) rfl (by decide) ?_
                                          exact aw_sub [1, 2] rfl (lb_X8_joined_197 X p0 p1 p2  _ h)
                                        · by_cases c20 : p0 = 58
                                          · have h := h.2.2.2.2.2.2.2.2.2.2.2.2.2.2.2.2.2.2.2.2.1 c20
                                            refine aw_tableIn (tgt := 197) X dX8_joined_1 58 c20 (by decide) (by decide) rfl (by decide) ?_
                                            exact aw_sub [1, 2] rfl (lb_X8_joined_197 X p0 p1 p2  _ h)
                                          · by_cases c21 : p0 = 59
                                            · have h := h.2.2.2.2.2.2.2.2.2.2.2.2.2.2.2.2.2.2.2.2.2.1 c21
                                              refine aw_tableIn (tgt := 197) X dX8_joined_1 59 c21 (by decide) (by decide) rfl (by decide) ?_
                                              exact aw_sub [1, 2] rfl (lb_X8_joined_197 X p0 p1 p2  _ h)
                                            · by_cases c22 : p0 = 60
                                              · have h := h.2.2.2.2.2.2.2.2.2.2.2.2.2.2.2.2.2.2.2.2.2.2.1 c22
                                                refine aw_tableIn (tgt := 150) X dX8_joined_1 60 c22 (by decide) (by decide) rfl (by decide) ?_
                                                refine aw_iload_n X dX8_joined_150 1 rfl ?_
                                                refine aw_iload_n X dX8_joined_151 2 rfl ?_
                                                refine aw_icmp_ge (tgt := 159) X dX8_joined_152 (by decide) (fun c => ?_) (fun c => ?_)
                                                · have h := h.1 c
                                                  refine aw_iconst (v := 0) X dX8_joined_159 (by decide) ?_
                                                  exact aw_iret X dX8_joined_160 h
                                                · have h := h.2 c
                                                  refine aw_iconst (v := 1) X dX8_joined_155 (by decide) ?_
                                                  refine aw_goto (tgt := 160) X dX8_joined_156 (by decide) ?_
                                                  exact aw_iret X dX8_joined_160 h
                                              · by_cases c23 : p0 = 61
                                                · have h := h.2.2.2.2.2.2.2.2.2.2.2.2.2.2.2.2.2.2.2.2.2.2.2.1 c23
                                                  refine aw_tableIn (tgt := 172) X dX8_joined_1 61 c23 (by decide) (by decide) rfl (by decide) ?_
                                                  refine aw_iload_n X dX8_joined_172 1 rfl ?_
                                                  refine aw_iload_n X dX8_joined_173 2 rfl ?_
                                                  refine aw_icmp_ne (tgt := 181) X dX8_joined_174 (by decide) (fun c => ?_) (fun c => ?_)
                                                  · have h := h.1 c
                                                    refine aw_iconst (v := 0) X dX8_joined_181 (by decide) ?_
                                                    exact aw_iret X dX8_joined_182 h
                                                  · have h := h.2 c
                                                    refine aw_iconst (v := 1) X dX8_joined_177 (by decide) ?_
                                                    refine aw_goto (tgt := 182) X dX8_joined_178 (by decide) ?_
                                                    exact aw_iret X dX8_joined_182 h
                                                · by_cases c24 : p0 = 62
                                                  · have h := h.2.2.2.2.2.2.2.2.2.2.2.2.2.2.2.2.2.2.2.2.2.2.2.2.1 c24
                                                    refine aw_tableIn (tgt := 161) X dX8_joined_1 62 c24 (by decide) (by decide) rfl (by decide) ?_
                                                    refine aw_iload_n X dX8_joined_161 1 rfl ?_
                                                    refine aw_iload_n X dX8_joined_162 2 rfl ?_
                                                    refine aw_icmp_le (tgt := 170) X dX8_joined_163 (by decide) (fun c => ?_) (fun c => ?_)
                                                    · have h := h.1 c
                                                      refine aw_iconst (v := 0) X dX8_joined_170 (by decide) ?_
                                                      exact aw_iret X dX8_joined_171 h
                                                    · have h := h.2 c
                                                      refine aw_iconst (v := 1) X dX8_joined_166 (by decide) ?_
                                                      refine aw_goto (tgt := 171) X dX8_joined_167 (by decide) ?_
                                                      exact aw_iret X dX8_joined_171 h
                                                  · have h := h.2.2.2.2.2.2.2.2.2.2.2.2.2.2.2.2.2.2.2.2.2.2.2.2.2 c0 c1 c2 c3 c4 c5 c6 c7 c8 c9 c10 c11 c12 c13 c14 c15 c16 c17 c18 c19 c20 c21 c22 c23 c24
                                                    refine aw_tableOut (tgt := 197) X dX8_joined_1 (by have n0 := lv_neT (a := 38) c0 rfl; have n1 := lv_neT (a := 39) c1 rfl; have n2 := lv_neT (a := 40) c2 rfl; have n3 := lv_neT (a := 41) c3 rfl; have n4 := lv_neT (a := 42) c4 rfl; have n5 := lv_neT (a := 43) c5 rfl; have n6 := lv_neT (a := 44) c6 rfl; have n7 := lv_neT (a := 45) c7 rfl; have n8 := lv_neT (a := 46) c8 rfl; have n9 := lv_neT (a := 47) c9 rfl; have n10 := lv_neT (a := 48) c10 rfl; have n11 := lv_neT (a := 49) c11 rfl; have n12 := lv_neT (a := 50) c12 rfl; have n13 := lv_neT (a := 51) c13 rfl; have n14 := lv_neT (a := 52) c14 rfl; have n15 := lv_neT (a := 53) c15 rfl; have n16 := lv_neT (a := 54) c16 rfl; have n17 := lv_neT (a := 55) c17 rfl; have n18 := lv_neT (a := 56) c18 rfl; have n19 := lv_neT (a := 57) c19 rfl; have n20 := lv_neT (a := 58) c20 rfl; have n21 := lv_neT (a := 59) c21 rfl; have n22 := lv_neT (a := 60) c22 rfl; have n23 := lv_neT (a := 61) c23 rfl; have n24 := lv_neT (a := 62) c24 rfl; omega) (by decide) ?_
                                                    exact aw_sub [1, 2] rfl (lb_X8_joined_197 X p0 p1 p2  _ h)
def wl_X8_worked_4 (n : Nat) (p1 : Int32)  (K : Mm → Int32 → Prop) : Nat → Mm → Int32 → Int32 → Prop
  | 0, _, _, _ => False
  | k + 1, M, x2, x3 => wp_X8_textAt n M p1 (fun M1 r2 => vp_in (r2 + 2) 3108 ∧ (((M1 75 (r2 + 2).toNatClampNeg) ≤ x3 → K M1 (M1 90 0)) ∧ (¬ (M1 75 (r2 + 2).toNatClampNeg) ≤ x3 → wp_X8_textAt n M1 p1 (fun M3 r4 => vp_in ((r4 + 4) + (2 * x3)) 3108 ∧ (∀ v5 : Int32, v5 = M3 75 ((r4 + 4) + (2 * x3)).toNatClampNeg → wp_X8_textAt n M3 p1 (fun M6 r7 => vp_in (((r7 + 4) + (2 * x3)) + 1) 3108 ∧ (∀ v8 : Int32, v8 = M6 75 (((r7 + 4) + (2 * x3)) + 1).toNatClampNeg → (v5 = 2 → (¬ v8 = 33 → ∀ v9 : Int32, v9 = x2 + (-1) → vp_in (v9 - 1) 100 ∧ (vp_in v9 100 ∧ (wp_X8_joined n M6 v8 (M6 90 (v9 - 1).toNatClampNeg) (M6 90 v9.toNatClampNeg) (fun M10 r11 => vp_in (v9 - 1) 100 ∧ (∀ M12 : Mm, M12 = wr M10 90 (v9 - 1).toNatClampNeg r11 → ∀ v13 : Int32, v13 = x3 + 1 → wl_X8_worked_4 n p1 K k M12 v9 v13))))) ∧ (v8 = 33 → vp_in (x2 - 1) 100 ∧ ((¬ (M6 90 (x2 - 1).toNatClampNeg) = 0 → vp_in (x2 - 1) 100 ∧ (∀ M14 : Mm, M14 = wr M6 90 (x2 - 1).toNatClampNeg 0 → ∀ v15 : Int32, v15 = x3 + 1 → wl_X8_worked_4 n p1 K k M14 x2 v15)) ∧ ((M6 90 (x2 - 1).toNatClampNeg) = 0 → vp_in (x2 - 1) 100 ∧ (∀ M16 : Mm, M16 = wr M6 90 (x2 - 1).toNatClampNeg 1 → ∀ v17 : Int32, v17 = x3 + 1 → wl_X8_worked_4 n p1 K k M16 x2 v17))))) ∧ (¬ v5 = 2 → (¬ v5 = 0 → vp_in v8 128 ∧ (vp_in x2 100 ∧ (∀ M18 : Mm, M18 = wr M6 90 x2.toNatClampNeg (M6 89 v8.toNatClampNeg) → ∀ v19 : Int32, v19 = x2 + 1 → ∀ v20 : Int32, v20 = x3 + 1 → wl_X8_worked_4 n p1 K k M18 v19 v20))) ∧ (v5 = 0 → vp_in x2 100 ∧ (∀ M21 : Mm, M21 = wr M6 90 x2.toNatClampNeg v8 → ∀ v22 : Int32, v22 = x2 + 1 → ∀ v23 : Int32, v23 = x3 + 1 → wl_X8_worked_4 n p1 K k M21 v22 v23))))))))))
set_option maxHeartbeats 4000000 in
set_option maxRecDepth 100000 in
theorem lw_X8_worked_4 {g : Gm} {E : En} {A : Nat → Prop} {K : Mm → Int32 → Prop} (X : CX g cX8_worked RX8 (some .int) 1 E A 6) (p1 : Int32)   : ∀ (k : Nat) (M : Mm) (x2 : Int32) (x3 : Int32), wl_X8_worked_4 (eN E) p1  K k M x2 x3 → AW g E A 6 (MQ (gB g) (QI E K A) (gA g) (gS g) (gk g) (gn g) A) 4 [(0, .ref (eA E 74)), (1, .int p1), (2, .int x2), (3, .int x3)] [] M := by
  intro k
  induction k with
  | zero => intro M x2 x3 h; exact h.elim
  | succ k ih =>
    intro M x2 x3 h
    rw [wl_X8_worked_4] at h
    refine aw_iload_n X dX8_worked_4 3 rfl ?_
    refine aw_aload_n X dX8_worked_5 0 rfl ?_
    refine aw_get X dX8_worked_6 (X.lt (by decide)) (sh_12 (rfl : tp 74 = 12) _) fl_RX8_7 rfl ?_
    refine aw_aload_n X dX8_worked_9 0 rfl ?_
    refine aw_iload_n X dX8_worked_10 1 rfl ?_
    refine ca_i X (rn_v X [.int p1] [.ref (eA E 75), .int x3] (X.lt (by decide)) (sh_12 (rfl : tp 74 = 12) _) rfl rfl kw1117 kw60 (c_X8_textAt h) cal_yX8_textAt kw1115 (Nat.le_of_ble_eq_true rfl) rfl rfl (Nat.le_of_ble_eq_true rfl) dX8_worked_11) (fun M1 r2 h => ?_)
    refine aw_iconst (v := 2) X dX8_worked_14 (by decide) ?_
    refine aw_iadd X dX8_worked_15 ?_
    obtain ⟨hin, h⟩ := h
    refine aw_iald X dX8_worked_16 (X.lt (by decide)) (sh_ia 3108 (rfl : tp 75 = 4108) _) hin ?_
    refine aw_icmp_ge (tgt := 163) X dX8_worked_17 (by decide) (fun c => ?_) (fun c => ?_)
    · have h := h.1 c
      refine aw_aload_n X dX8_worked_163 0 rfl ?_
      refine aw_get X dX8_worked_164 (X.lt (by decide)) (sh_12 (rfl : tp 74 = 12) _) fl_RX8_59 rfl ?_
      refine aw_iconst (v := 0) X dX8_worked_167 (by decide) ?_
      refine aw_iald X dX8_worked_168 (X.lt (by decide)) (sh_ia 100 (rfl : tp 90 = 1100) _) (by unfold vp_in; decide) ?_
      exact aw_iret X dX8_worked_169 h
    · have h := h.2 c
      refine aw_aload_n X dX8_worked_20 0 rfl ?_
      refine aw_get X dX8_worked_21 (X.lt (by decide)) (sh_12 (rfl : tp 74 = 12) _) fl_RX8_7 rfl ?_
      refine aw_aload_n X dX8_worked_24 0 rfl ?_
      refine aw_iload_n X dX8_worked_25 1 rfl ?_
      refine ca_i X (rn_v X [.int p1] [.ref (eA E 75)] (X.lt (by decide)) (sh_12 (rfl : tp 74 = 12) _) rfl rfl kw1117 kw60 (c_X8_textAt h) cal_yX8_textAt kw1115 (Nat.le_of_ble_eq_true rfl) rfl rfl (Nat.le_of_ble_eq_true rfl) dX8_worked_26) (fun M3 r4 h => ?_)
      refine aw_iconst (v := 4) X dX8_worked_29 (by decide) ?_
      refine aw_iadd X dX8_worked_30 ?_
      refine aw_iconst (v := 2) X dX8_worked_31 (by decide) ?_
      refine aw_iload_n X dX8_worked_32 3 rfl ?_
      refine aw_imul X dX8_worked_33 ?_
      refine aw_iadd X dX8_worked_34 ?_
      obtain ⟨hin, h⟩ := h
      refine aw_iald X dX8_worked_35 (X.lt (by decide)) (sh_ia 3108 (rfl : tp 75 = 4108) _) hin ?_
      refine aw_top (fun v5 ev5 => ?_)
      have h := h v5 ev5
      refine aw_istore (lv' := [(4, .int v5), (0, .ref (eA E 74)), (1, .int p1), (2, .int x2), (3, .int x3)]) X dX8_worked_36 (by decide) rfl ?_
      refine aw_aload_n X dX8_worked_38 1 rfl ?_
      refine aw_get X dX8_worked_39 (X.lt (by decide)) (sh_12 (rfl : tp 74 = 12) _) fl_RX8_7 rfl ?_
      refine aw_aload_n X dX8_worked_42 1 rfl ?_
      refine aw_iload_n X dX8_worked_43 2 rfl ?_
      refine ca_i X (rn_v X [.int p1] [.ref (eA E 75)] (X.lt (by decide)) (sh_12 (rfl : tp 74 = 12) _) rfl rfl kw1117 kw60 (c_X8_textAt h) cal_yX8_textAt kw1115 (Nat.le_of_ble_eq_true rfl) rfl rfl (Nat.le_of_ble_eq_true rfl) dX8_worked_44) (fun M6 r7 h => ?_)
      refine aw_iconst (v := 4) X dX8_worked_47 (by decide) ?_
      refine aw_iadd X dX8_worked_48 ?_
      refine aw_iconst (v := 2) X dX8_worked_49 (by decide) ?_
      refine aw_iload_n X dX8_worked_50 4 rfl ?_
      refine aw_imul X dX8_worked_51 ?_
      refine aw_iadd X dX8_worked_52 ?_
      refine aw_iconst (v := 1) X dX8_worked_53 (by decide) ?_
      refine aw_iadd X dX8_worked_54 ?_
      obtain ⟨hin, h⟩ := h
      refine aw_iald X dX8_worked_55 (X.lt (by decide)) (sh_ia 3108 (rfl : tp 75 = 4108) _) hin ?_
      refine aw_top (fun v8 ev8 => ?_)
      have h := h v8 ev8
      refine aw_istore (lv' := [(5, .int v8), (4, .int v5), (0, .ref (eA E 74)), (1, .int p1), (2, .int x2), (3, .int x3)]) X dX8_worked_56 (by decide) rfl ?_
      refine aw_iload X dX8_worked_58 1 rfl ?_
      refine aw_iconst (v := 2) X dX8_worked_60 (by decide) ?_
      refine aw_icmp_eq (tgt := 93) X dX8_worked_61 (by decide) (fun c => ?_) (fun c => ?_)
      · have h := h.1 c
        refine aw_iload X dX8_worked_93 0 rfl ?_
        refine aw_bipush (v := 33) X dX8_worked_95 (by decide) ?_
        refine aw_icmp_ne (tgt := 127) X dX8_worked_97 (by decide) (fun c => ?_) (fun c => ?_)
        · have h := h.1 c
          obtain ⟨v9, ev9⟩ : ∃ y : Int32, y = x2 + (-1) := ⟨_, rfl⟩
          have h := h v9 ev9
          refine aw_iinc (v := v9) (lv' := [(2, .int v9), (5, .int v8), (4, .int v5), (0, .ref (eA E 74)), (1, .int p1), (3, .int x3)]) X dX8_worked_127 4 rfl (by rw [ev9]; rfl) (by decide) rfl ?_
          refine aw_aload_n X dX8_worked_130 3 rfl ?_
          refine aw_get X dX8_worked_131 (X.lt (by decide)) (sh_12 (rfl : tp 74 = 12) _) fl_RX8_59 rfl ?_
          refine aw_iload_n X dX8_worked_134 0 rfl ?_
          refine aw_iconst (v := 1) X dX8_worked_135 (by decide) ?_
          refine aw_isub X dX8_worked_136 ?_
          refine aw_iload X dX8_worked_137 1 rfl ?_
          refine aw_aload_n X dX8_worked_139 3 rfl ?_
          refine aw_get X dX8_worked_140 (X.lt (by decide)) (sh_12 (rfl : tp 74 = 12) _) fl_RX8_59 rfl ?_
          refine aw_iload_n X dX8_worked_143 0 rfl ?_
          refine aw_iconst (v := 1) X dX8_worked_144 (by decide) ?_
          refine aw_isub X dX8_worked_145 ?_
          obtain ⟨hin, h⟩ := h
          refine aw_iald X dX8_worked_146 (X.lt (by decide)) (sh_ia 100 (rfl : tp 90 = 1100) _) hin ?_
          refine aw_aload_n X dX8_worked_147 3 rfl ?_
          refine aw_get X dX8_worked_148 (X.lt (by decide)) (sh_12 (rfl : tp 74 = 12) _) fl_RX8_59 rfl ?_
          refine aw_iload_n X dX8_worked_151 0 rfl ?_
          obtain ⟨hin, h⟩ := h
          refine aw_iald X dX8_worked_152 (X.lt (by decide)) (sh_ia 100 (rfl : tp 90 = 1100) _) hin ?_
          refine ca_i X (rn_s X [.int v8, .int (M6 90 (v9 - 1).toNatClampNeg), .int (M6 90 v9.toNatClampNeg)] [.int (v9 - 1), .ref (eA E 90)] kw1128 (c_X8_joined h) cal_yX8_joined kw1127 (Nat.le_of_ble_eq_true rfl) rfl rfl (Nat.le_of_ble_eq_true rfl) dX8_worked_153) (fun M10 r11 h => ?_)
          obtain ⟨hin, h⟩ := h
          refine aw_iast X dX8_worked_156 (X.lt (by decide)) (sh_ia 100 (rfl : tp 90 = 1100) _) (sh_ia 100 (rfl : tp 90 = 1100) _) hin (fun M12 eM12 => ?_)
          have h := h M12 eM12
          obtain ⟨v13, ev13⟩ : ∃ y : Int32, y = x3 + 1 := ⟨_, rfl⟩
          have h := h v13 ev13
          refine aw_iinc (v := v13) (lv' := [(3, .int v13), (2, .int v9), (5, .int v8), (4, .int v5), (0, .ref (eA E 74)), (1, .int p1)]) X dX8_worked_157 5 rfl (by rw [ev13]; rfl) (by decide) rfl ?_
          refine aw_goto (tgt := 4) X dX8_worked_160 (by decide) ?_
          exact aw_sub [4, 5, 1, 0] rfl (ih _ _ _ h)
        · have h := h.2 c
          refine aw_aload_n X dX8_worked_100 2 rfl ?_
          refine aw_get X dX8_worked_101 (X.lt (by decide)) (sh_12 (rfl : tp 74 = 12) _) fl_RX8_59 rfl ?_
          refine aw_iload_n X dX8_worked_104 4 rfl ?_
          refine aw_iconst (v := 1) X dX8_worked_105 (by decide) ?_
          refine aw_isub X dX8_worked_106 ?_
          refine aw_aload_n X dX8_worked_107 2 rfl ?_
          refine aw_get X dX8_worked_108 (X.lt (by decide)) (sh_12 (rfl : tp 74 = 12) _) fl_RX8_59 rfl ?_
          refine aw_iload_n X dX8_worked_111 4 rfl ?_
          refine aw_iconst (v := 1) X dX8_worked_112 (by decide) ?_
          refine aw_isub X dX8_worked_113 ?_
          obtain ⟨hin, h⟩ := h
          refine aw_iald X dX8_worked_114 (X.lt (by decide)) (sh_ia 100 (rfl : tp 90 = 1100) _) hin ?_
          refine aw_if_ne (tgt := 122) X dX8_worked_115 (by decide) (fun c => ?_) (fun c => ?_)
          · have h := h.1 c
            refine aw_iconst (v := 0) X dX8_worked_122 (by decide) ?_
            obtain ⟨hin, h⟩ := h
            refine aw_iast X dX8_worked_123 (X.lt (by decide)) (sh_ia 100 (rfl : tp 90 = 1100) _) (sh_ia 100 (rfl : tp 90 = 1100) _) hin (fun M14 eM14 => ?_)
            have h := h M14 eM14
            refine aw_goto (tgt := 157) X dX8_worked_124 (by decide) ?_
            obtain ⟨v15, ev15⟩ : ∃ y : Int32, y = x3 + 1 := ⟨_, rfl⟩
            have h := h v15 ev15
            refine aw_iinc (v := v15) (lv' := [(3, .int v15), (5, .int v8), (4, .int v5), (0, .ref (eA E 74)), (1, .int p1), (2, .int x2)]) X dX8_worked_157 5 rfl (by rw [ev15]; rfl) (by decide) rfl ?_
            refine aw_goto (tgt := 4) X dX8_worked_160 (by decide) ?_
            exact aw_sub [3, 4, 5, 0] rfl (ih _ _ _ h)
          · have h := h.2 c
            refine aw_iconst (v := 1) X dX8_worked_118 (by decide) ?_
            refine aw_goto (tgt := 123) X dX8_worked_119 (by decide) ?_
            obtain ⟨hin, h⟩ := h
            refine aw_iast X dX8_worked_123 (X.lt (by decide)) (sh_ia 100 (rfl : tp 90 = 1100) _) (sh_ia 100 (rfl : tp 90 = 1100) _) hin (fun M16 eM16 => ?_)
            have h := h M16 eM16
            refine aw_goto (tgt := 157) X dX8_worked_124 (by decide) ?_
            obtain ⟨v17, ev17⟩ : ∃ y : Int32, y = x3 + 1 := ⟨_, rfl⟩
            have h := h v17 ev17
            refine aw_iinc (v := v17) (lv' := [(3, .int v17), (5, .int v8), (4, .int v5), (0, .ref (eA E 74)), (1, .int p1), (2, .int x2)]) X dX8_worked_157 5 rfl (by rw [ev17]; rfl) (by decide) rfl ?_
            refine aw_goto (tgt := 4) X dX8_worked_160 (by decide) ?_
            exact aw_sub [3, 4, 5, 0] rfl (ih _ _ _ h)
      · have h := h.2 c
        refine aw_aload_n X dX8_worked_64 2 rfl ?_
        refine aw_get X dX8_worked_65 (X.lt (by decide)) (sh_12 (rfl : tp 74 = 12) _) fl_RX8_59 rfl ?_
        refine aw_iload_n X dX8_worked_68 4 rfl ?_
        refine aw_iload X dX8_worked_69 1 rfl ?_
        refine aw_if_ne (tgt := 79) X dX8_worked_71 (by decide) (fun c => ?_) (fun c => ?_)
        · have h := h.1 c
          refine aw_aload_n X dX8_worked_79 2 rfl ?_
          refine aw_get X dX8_worked_80 (X.lt (by decide)) (sh_12 (rfl : tp 74 = 12) _) fl_RX8_56 rfl ?_
          refine aw_iload X dX8_worked_83 0 rfl ?_
          obtain ⟨hin, h⟩ := h
          refine aw_iald X dX8_worked_85 (X.lt (by decide)) (sh_ia 128 (rfl : tp 89 = 1128) _) hin ?_
          obtain ⟨hin, h⟩ := h
          refine aw_iast X dX8_worked_86 (X.lt (by decide)) (sh_ia 100 (rfl : tp 90 = 1100) _) (sh_ia 100 (rfl : tp 90 = 1100) _) hin (fun M18 eM18 => ?_)
          have h := h M18 eM18
          obtain ⟨v19, ev19⟩ : ∃ y : Int32, y = x2 + 1 := ⟨_, rfl⟩
          have h := h v19 ev19
          refine aw_iinc (v := v19) (lv' := [(2, .int v19), (5, .int v8), (4, .int v5), (0, .ref (eA E 74)), (1, .int p1), (3, .int x3)]) X dX8_worked_87 4 rfl (by rw [ev19]; rfl) (by decide) rfl ?_
          refine aw_goto (tgt := 157) X dX8_worked_90 (by decide) ?_
          obtain ⟨v20, ev20⟩ : ∃ y : Int32, y = x3 + 1 := ⟨_, rfl⟩
          have h := h v20 ev20
          refine aw_iinc (v := v20) (lv' := [(3, .int v20), (2, .int v19), (5, .int v8), (4, .int v5), (0, .ref (eA E 74)), (1, .int p1)]) X dX8_worked_157 5 rfl (by rw [ev20]; rfl) (by decide) rfl ?_
          refine aw_goto (tgt := 4) X dX8_worked_160 (by decide) ?_
          exact aw_sub [4, 5, 1, 0] rfl (ih _ _ _ h)
        · have h := h.2 c
          refine aw_iload X dX8_worked_74 0 rfl ?_
          refine aw_goto (tgt := 86) X dX8_worked_76 (by decide) ?_
          obtain ⟨hin, h⟩ := h
          refine aw_iast X dX8_worked_86 (X.lt (by decide)) (sh_ia 100 (rfl : tp 90 = 1100) _) (sh_ia 100 (rfl : tp 90 = 1100) _) hin (fun M21 eM21 => ?_)
          have h := h M21 eM21
          obtain ⟨v22, ev22⟩ : ∃ y : Int32, y = x2 + 1 := ⟨_, rfl⟩
          have h := h v22 ev22
          refine aw_iinc (v := v22) (lv' := [(2, .int v22), (5, .int v8), (4, .int v5), (0, .ref (eA E 74)), (1, .int p1), (3, .int x3)]) X dX8_worked_87 4 rfl (by rw [ev22]; rfl) (by decide) rfl ?_
          refine aw_goto (tgt := 157) X dX8_worked_90 (by decide) ?_
          obtain ⟨v23, ev23⟩ : ∃ y : Int32, y = x3 + 1 := ⟨_, rfl⟩
          have h := h v23 ev23
          refine aw_iinc (v := v23) (lv' := [(3, .int v23), (2, .int v22), (5, .int v8), (4, .int v5), (0, .ref (eA E 74)), (1, .int p1)]) X dX8_worked_157 5 rfl (by rw [ev23]; rfl) (by decide) rfl ?_
          refine aw_goto (tgt := 4) X dX8_worked_160 (by decide) ?_
          exact aw_sub [4, 5, 1, 0] rfl (ih _ _ _ h)
def wp_X8_worked (n : Nat)  (M : Mm) (p1 : Int32) (K : Mm → Int32 → Prop) : Prop := ∃ kf : Nat, wl_X8_worked_4 n p1 K kf M 0 0
set_option maxHeartbeats 4000000 in
set_option maxRecDepth 100000 in
theorem c_X8_worked {l : Launch} {E : En} {M : Mm} {p1 : Int32} {K : Mm → Int32 → Prop}  (h : wp_X8_worked (eN E)  M p1 K) : Ctr l E yX8_worked cX8_worked 6 (some .int) 1 [.ref (eA E 74), .int p1] M (QI E K) := by
  refine Ctr.of (by decide +kernel) (Nat.le_of_ble_eq_true rfl) (fun g A hgl X => ?_)
  subst hgl
  have X : CX g cX8_worked RX8 (some .int) 1 E A 6 := X
  show AW g E A 6 _ 0 [(0, .ref (eA E 74)), (1, .int p1)] [] M
  unfold wp_X8_worked at h
  refine aw_iconst (v := 0) X dX8_worked_0 (by decide) ?_
  refine aw_istore_n (lv' := [(2, .int 0), (0, .ref (eA E 74)), (1, .int p1)]) X dX8_worked_1 (by decide) rfl ?_
  refine aw_iconst (v := 0) X dX8_worked_2 (by decide) ?_
  refine aw_istore_n (lv' := [(3, .int 0), (2, .int 0), (0, .ref (eA E 74)), (1, .int p1)]) X dX8_worked_3 (by decide) rfl ?_
  obtain ⟨kf, h⟩ := h
  exact aw_sub [2, 3, 1, 0] rfl (lw_X8_worked_4 X p1  kf _ _ _ h)
def wp_X8_plainLeaves (n : Nat)  (M : Mm) (p1 : Int32) (K : Mm → Int32 → Prop) : Prop := wp_X8_counts n M 0 (fun M1 r2 => (0 ≤ r2 → ∀ M3 : Mm, M3 = wr M1 89 116 (jrem (M1 75 2) 1440) → wp_X8_of n M3 p1 8 (fun M4 r5 => ∀ M6 : Mm, M6 = wr M4 89 115 r5 → wp_X8_of n M6 p1 1 (fun M7 r8 => ∀ M9 : Mm, M9 = wr M7 89 97 r8 → wp_X8_worked n M9 r2 (fun M10 r11 => (r11 = 0 → K M10 0) ∧ (¬ r11 = 0 → K M10 1))))) ∧ (¬ 0 ≤ r2 → wp_X8_of n M1 p1 1 (fun M12 r13 => (¬ (jrem (M1 75 2) 60) = r13 → K M12 0) ∧ ((jrem (M1 75 2) 60) = r13 → K M12 1))))
set_option maxHeartbeats 4000000 in
set_option maxRecDepth 100000 in
theorem c_X8_plainLeaves {l : Launch} {E : En} {M : Mm} {p1 : Int32} {K : Mm → Int32 → Prop}  (h : wp_X8_plainLeaves (eN E)  M p1 K) : Ctr l E yX8_plainLeaves cX8_plainLeaves 3 (some .boolean) 2 [.ref (eA E 74), .int p1] M (QI E K) := by
  refine Ctr.of (by decide +kernel) (Nat.le_of_ble_eq_true rfl) (fun g A hgl X => ?_)
  subst hgl
  have X : CX g cX8_plainLeaves RX8 (some .boolean) 2 E A 3 := X
  show AW g E A 3 _ 0 [(0, .ref (eA E 74)), (1, .int p1)] [] M
  unfold wp_X8_plainLeaves at h
  refine aw_aload_n X dX8_plainLeaves_0 0 rfl ?_
  refine aw_iconst (v := 0) X dX8_plainLeaves_1 (by decide) ?_
  refine ca_i X (rn_v X [.int 0] [] (X.lt (by decide)) (sh_12 (rfl : tp 74 = 12) _) rfl rfl kw1113 kw59 (c_X8_counts h) cal_yX8_counts kw1111 (Nat.le_of_ble_eq_true rfl) rfl rfl (Nat.le_of_ble_eq_true rfl) dX8_plainLeaves_2) (fun M1 r2 h => ?_)
  refine aw_istore_n (lv' := [(2, .int r2), (0, .ref (eA E 74)), (1, .int p1)]) X dX8_plainLeaves_5 (by decide) rfl ?_
  refine aw_iload_n X dX8_plainLeaves_6 0 rfl ?_
  refine aw_if_ge (tgt := 34) X dX8_plainLeaves_7 (by decide) (fun c => ?_) (fun c => ?_)
  · have h := h.1 c
    refine aw_aload_n X dX8_plainLeaves_34 1 rfl ?_
    refine aw_get X dX8_plainLeaves_35 (X.lt (by decide)) (sh_12 (rfl : tp 74 = 12) _) fl_RX8_56 rfl ?_
    refine aw_bipush (v := 116) X dX8_plainLeaves_38 (by decide) ?_
    refine aw_aload_n X dX8_plainLeaves_40 1 rfl ?_
    refine aw_get X dX8_plainLeaves_41 (X.lt (by decide)) (sh_12 (rfl : tp 74 = 12) _) fl_RX8_7 rfl ?_
    refine aw_iconst (v := 2) X dX8_plainLeaves_44 (by decide) ?_
    refine aw_iald X dX8_plainLeaves_45 (X.lt (by decide)) (sh_ia 3108 (rfl : tp 75 = 4108) _) (by unfold vp_in; decide) ?_
    refine aw_sipush (v := 1440) X dX8_plainLeaves_46 (by decide) ?_
    refine aw_irem X dX8_plainLeaves_49 (by decide) ?_
    refine aw_iast X dX8_plainLeaves_50 (X.lt (by decide)) (sh_ia 128 (rfl : tp 89 = 1128) _) (sh_ia 128 (rfl : tp 89 = 1128) _) (by unfold vp_in; decide) (fun M3 eM3 => ?_)
    have h := h M3 eM3
    refine aw_aload_n X dX8_plainLeaves_51 1 rfl ?_
    refine aw_get X dX8_plainLeaves_52 (X.lt (by decide)) (sh_12 (rfl : tp 74 = 12) _) fl_RX8_56 rfl ?_
    refine aw_bipush (v := 115) X dX8_plainLeaves_55 (by decide) ?_
    refine aw_aload_n X dX8_plainLeaves_57 1 rfl ?_
    refine aw_iload_n X dX8_plainLeaves_58 2 rfl ?_
    refine aw_bipush (v := 8) X dX8_plainLeaves_59 (by decide) ?_
    refine ca_i X (rn_v X [.int p1, .int 8] [.int 115, .ref (eA E 89)] (X.lt (by decide)) (sh_12 (rfl : tp 74 = 12) _) rfl rfl kw1101 kw56 (c_X8_of h) cal_yX8_of kw1099 (Nat.le_of_ble_eq_true rfl) rfl rfl (Nat.le_of_ble_eq_true rfl) dX8_plainLeaves_61) (fun M4 r5 h => ?_)
    refine aw_iast X dX8_plainLeaves_64 (X.lt (by decide)) (sh_ia 128 (rfl : tp 89 = 1128) _) (sh_ia 128 (rfl : tp 89 = 1128) _) (by unfold vp_in; decide) (fun M6 eM6 => ?_)
    have h := h M6 eM6
    refine aw_aload_n X dX8_plainLeaves_65 1 rfl ?_
    refine aw_get X dX8_plainLeaves_66 (X.lt (by decide)) (sh_12 (rfl : tp 74 = 12) _) fl_RX8_56 rfl ?_
    refine aw_bipush (v := 97) X dX8_plainLeaves_69 (by decide) ?_
    refine aw_aload_n X dX8_plainLeaves_71 1 rfl ?_
    refine aw_iload_n X dX8_plainLeaves_72 2 rfl ?_
    refine aw_iconst (v := 1) X dX8_plainLeaves_73 (by decide) ?_
    refine ca_i X (rn_v X [.int p1, .int 1] [.int 97, .ref (eA E 89)] (X.lt (by decide)) (sh_12 (rfl : tp 74 = 12) _) rfl rfl kw1101 kw56 (c_X8_of h) cal_yX8_of kw1099 (Nat.le_of_ble_eq_true rfl) rfl rfl (Nat.le_of_ble_eq_true rfl) dX8_plainLeaves_74) (fun M7 r8 h => ?_)
    refine aw_iast X dX8_plainLeaves_77 (X.lt (by decide)) (sh_ia 128 (rfl : tp 89 = 1128) _) (sh_ia 128 (rfl : tp 89 = 1128) _) (by unfold vp_in; decide) (fun M9 eM9 => ?_)
    have h := h M9 eM9
    refine aw_aload_n X dX8_plainLeaves_78 1 rfl ?_
    refine aw_iload_n X dX8_plainLeaves_79 0 rfl ?_
    refine ca_i X (rn_v X [.int r2] [] (X.lt (by decide)) (sh_12 (rfl : tp 74 = 12) _) rfl rfl kw1125 kw62 (c_X8_worked h) cal_yX8_worked kw1123 (Nat.le_of_ble_eq_true rfl) rfl rfl (Nat.le_of_ble_eq_true rfl) dX8_plainLeaves_80) (fun M10 r11 h => ?_)
    refine aw_if_eq (tgt := 90) X dX8_plainLeaves_83 (by decide) (fun c => ?_) (fun c => ?_)
    · have h := h.1 c
      refine aw_iconst (v := 0) X dX8_plainLeaves_90 (by decide) ?_
      exact aw_zret X dX8_plainLeaves_91 (by decide) h
    · have h := h.2 c
      refine aw_iconst (v := 1) X dX8_plainLeaves_86 (by decide) ?_
      refine aw_goto (tgt := 91) X dX8_plainLeaves_87 (by decide) ?_
      exact aw_zret X dX8_plainLeaves_91 (by decide) h
  · have h := h.2 c
    refine aw_aload_n X dX8_plainLeaves_10 1 rfl ?_
    refine aw_get X dX8_plainLeaves_11 (X.lt (by decide)) (sh_12 (rfl : tp 74 = 12) _) fl_RX8_7 rfl ?_
    refine aw_iconst (v := 2) X dX8_plainLeaves_14 (by decide) ?_
    refine aw_iald X dX8_plainLeaves_15 (X.lt (by decide)) (sh_ia 3108 (rfl : tp 75 = 4108) _) (by unfold vp_in; decide) ?_
    refine aw_bipush (v := 60) X dX8_plainLeaves_16 (by decide) ?_
    refine aw_irem X dX8_plainLeaves_18 (by decide) ?_
    refine aw_aload_n X dX8_plainLeaves_19 1 rfl ?_
    refine aw_iload_n X dX8_plainLeaves_20 2 rfl ?_
    refine aw_iconst (v := 1) X dX8_plainLeaves_21 (by decide) ?_
    refine ca_i X (rn_v X [.int p1, .int 1] [.int (jrem (M1 75 2) 60)] (X.lt (by decide)) (sh_12 (rfl : tp 74 = 12) _) rfl rfl kw1101 kw56 (c_X8_of h) cal_yX8_of kw1099 (Nat.le_of_ble_eq_true rfl) rfl rfl (Nat.le_of_ble_eq_true rfl) dX8_plainLeaves_22) (fun M12 r13 h => ?_)
    refine aw_icmp_ne (tgt := 32) X dX8_plainLeaves_25 (by decide) (fun c => ?_) (fun c => ?_)
    · have h := h.1 c
      refine aw_iconst (v := 0) X dX8_plainLeaves_32 (by decide) ?_
      exact aw_zret X dX8_plainLeaves_33 (by decide) h
    · have h := h.2 c
      refine aw_iconst (v := 1) X dX8_plainLeaves_28 (by decide) ?_
      refine aw_goto (tgt := 33) X dX8_plainLeaves_29 (by decide) ?_
      exact aw_zret X dX8_plainLeaves_33 (by decide) h
def wb_X8_wouldLeave_114 (n : Nat) (p1 : Int32)  (K : Mm → Int32 → Prop) (M : Mm)  : Prop := wp_X8_plainLeaves n M p1 (fun M15 r16 => (r16 = 0 ∨ r16 = 1) ∧ K M15 r16)
set_option maxHeartbeats 4000000 in
set_option maxRecDepth 100000 in
theorem lb_X8_wouldLeave_114 {g : Gm} {E : En} {A : Nat → Prop} {K : Mm → Int32 → Prop} (X : CX g cX8_wouldLeave RX8 (some .boolean) 3 E A 2) (p1 : Int32)   (M : Mm)  (h : wb_X8_wouldLeave_114 (eN E) p1  K M ) : AW g E A 2 (MQ (gB g) (QI E K A) (gA g) (gS g) (gk g) (gn g) A) 114 [(0, .ref (eA E 74)), (1, .int p1)] [] M := by
  unfold wb_X8_wouldLeave_114 at h
  refine aw_aload_n X dX8_wouldLeave_114 0 rfl ?_
  refine aw_iload_n X dX8_wouldLeave_115 1 rfl ?_
  refine ca_i X (rn_v X [.int p1] [] (X.lt (by decide)) (sh_12 (rfl : tp 74 = 12) _) rfl rfl kw1139 kw64 (c_X8_plainLeaves h) cal_yX8_plainLeaves kw1137 (Nat.le_of_ble_eq_true rfl) rfl rfl (Nat.le_of_ble_eq_true rfl) dX8_wouldLeave_116) (fun M15 r16 h => ?_)
  exact aw_zret X dX8_wouldLeave_119 (nar_z h.1) h.2
def wp_X8_wouldLeave (n : Nat)  (M : Mm) (p1 : Int32) (K : Mm → Int32 → Prop) : Prop := wp_X8_of n M p1 0 (fun M1 r2 => (r2 = 1 → wp_X8_of n M1 p1 8 (fun M3 r4 => wp_X8_of n M3 p1 1 (fun M5 r6 => (r4 < r6 → K M5 0) ∧ (¬ r4 < r6 → K M5 1)))) ∧ (r2 = 2 → wb_X8_wouldLeave_114 n p1 K M1 ) ∧ (r2 = 3 → wp_X8_of n M1 p1 8 (fun M7 r8 => wp_X8_of n M7 p1 1 (fun M9 r10 => (r8 < r10 → K M9 0) ∧ (¬ r8 < r10 → ((M9 75 5) ≤ 0 → K M9 0) ∧ (¬ (M9 75 5) ≤ 0 → K M9 1))))) ∧ (r2 = 4 → wb_X8_wouldLeave_114 n p1 K M1 ) ∧ (r2 = 5 → wp_X8_plainLeaves n M1 p1 (fun M11 r12 => (r12 = 0 → K M11 0) ∧ (¬ r12 = 0 → wp_X8_standing n M11 (fun M13 r14 => (¬ r14 = 0 → K M13 0) ∧ (r14 = 0 → K M13 1))))) ∧ (¬ r2 = 1 → ¬ r2 = 2 → ¬ r2 = 3 → ¬ r2 = 4 → ¬ r2 = 5 → wb_X8_wouldLeave_114 n p1 K M1 ))
set_option maxHeartbeats 4000000 in
set_option maxRecDepth 100000 in
theorem c_X8_wouldLeave {l : Launch} {E : En} {M : Mm} {p1 : Int32} {K : Mm → Int32 → Prop}  (h : wp_X8_wouldLeave (eN E)  M p1 K) : Ctr l E yX8_wouldLeave cX8_wouldLeave 2 (some .boolean) 3 [.ref (eA E 74), .int p1] M (QI E K) := by
  refine Ctr.of (by decide +kernel) (Nat.le_of_ble_eq_true rfl) (fun g A hgl X => ?_)
  subst hgl
  have X : CX g cX8_wouldLeave RX8 (some .boolean) 3 E A 2 := X
  show AW g E A 2 _ 0 [(0, .ref (eA E 74)), (1, .int p1)] [] M
  unfold wp_X8_wouldLeave at h
  refine aw_aload_n X dX8_wouldLeave_0 0 rfl ?_
  refine aw_iload_n X dX8_wouldLeave_1 1 rfl ?_
  refine aw_iconst (v := 0) X dX8_wouldLeave_2 (by decide) ?_
  refine ca_i X (rn_v X [.int p1, .int 0] [] (X.lt (by decide)) (sh_12 (rfl : tp 74 = 12) _) rfl rfl kw1101 kw56 (c_X8_of h) cal_yX8_of kw1099 (Nat.le_of_ble_eq_true rfl) rfl rfl (Nat.le_of_ble_eq_true rfl) dX8_wouldLeave_3) (fun M1 r2 h => ?_)
  by_cases c0 : r2 = 1
  · have h := h.1 c0
    refine aw_tableIn (tgt := 40) X dX8_wouldLeave_6 1 c0 (by decide) (by decide) rfl (by decide) ?_
    refine aw_aload_n X dX8_wouldLeave_40 0 rfl ?_
    refine aw_iload_n X dX8_wouldLeave_41 1 rfl ?_
    refine aw_bipush (v := 8) X dX8_wouldLeave_42 (by decide) ?_
    refine ca_i X (rn_v X [.int p1, .int 8] [] (X.lt (by decide)) (sh_12 (rfl : tp 74 = 12) _) rfl rfl kw1101 kw56 (c_X8_of h) cal_yX8_of kw1099 (Nat.le_of_ble_eq_true rfl) rfl rfl (Nat.le_of_ble_eq_true rfl) dX8_wouldLeave_44) (fun M3 r4 h => ?_)
    refine aw_aload_n X dX8_wouldLeave_47 0 rfl ?_
    refine aw_iload_n X dX8_wouldLeave_48 1 rfl ?_
    refine aw_iconst (v := 1) X dX8_wouldLeave_49 (by decide) ?_
    refine ca_i X (rn_v X [.int p1, .int 1] [.int r4] (X.lt (by decide)) (sh_12 (rfl : tp 74 = 12) _) rfl rfl kw1101 kw56 (c_X8_of h) cal_yX8_of kw1099 (Nat.le_of_ble_eq_true rfl) rfl rfl (Nat.le_of_ble_eq_true rfl) dX8_wouldLeave_50) (fun M5 r6 h => ?_)
    refine aw_icmp_lt (tgt := 60) X dX8_wouldLeave_53 (by decide) (fun c => ?_) (fun c => ?_)
    · have h := h.1 c
      refine aw_iconst (v := 0) X dX8_wouldLeave_60 (by decide) ?_
      exact aw_zret X dX8_wouldLeave_61 (by decide) h
    · have h := h.2 c
      refine aw_iconst (v := 1) X dX8_wouldLeave_56 (by decide) ?_
      refine aw_goto (tgt := 61) X dX8_wouldLeave_57 (by decide) ?_
      exact aw_zret X dX8_wouldLeave_61 (by decide) h
  · by_cases c1 : r2 = 2
    · have h := h.2.1 c1
      refine aw_tableIn (tgt := 114) X dX8_wouldLeave_6 2 c1 (by decide) (by decide) rfl (by decide) ?_
      exact aw_sub [0, 1] rfl (lb_X8_wouldLeave_114 X p1  _ h)
    · by_cases c2 : r2 = 3
      · have h := h.2.2.1 c2
        refine aw_tableIn (tgt := 62) X dX8_wouldLeave_6 3 c2 (by decide) (by decide) rfl (by decide) ?_
        refine aw_aload_n X dX8_wouldLeave_62 0 rfl ?_
        refine aw_iload_n X dX8_wouldLeave_63 1 rfl ?_
        refine aw_bipush (v := 8) X dX8_wouldLeave_64 (by decide) ?_
        refine ca_i X (rn_v X [.int p1, .int 8] [] (X.lt (by decide)) (sh_12 (rfl : tp 74 = 12) _) rfl rfl kw1101 kw56 (c_X8_of h) cal_yX8_of kw1099 (Nat.le_of_ble_eq_true rfl) rfl rfl (Nat.le_of_ble_eq_true rfl) dX8_wouldLeave_66) (fun M7 r8 h => ?_)
        refine aw_aload_n X dX8_wouldLeave_69 0 rfl ?_
        refine aw_iload_n X dX8_wouldLeave_70 1 rfl ?_
        refine aw_iconst (v := 1) X dX8_wouldLeave_71 (by decide) ?_
        refine ca_i X (rn_v X [.int p1, .int 1] [.int r8] (X.lt (by decide)) (sh_12 (rfl : tp 74 = 12) _) rfl rfl kw1101 kw56 (c_X8_of h) cal_yX8_of kw1099 (Nat.le_of_ble_eq_true rfl) rfl rfl (Nat.le_of_ble_eq_true rfl) dX8_wouldLeave_72) (fun M9 r10 h => ?_)
        refine aw_icmp_lt (tgt := 91) X dX8_wouldLeave_75 (by decide) (fun c => ?_) (fun c => ?_)
        · have h := h.1 c
          refine aw_iconst (v := 0) X dX8_wouldLeave_91 (by decide) ?_
          exact aw_zret X dX8_wouldLeave_92 (by decide) h
        · have h := h.2 c
          refine aw_aload_n X dX8_wouldLeave_78 0 rfl ?_
          refine aw_get X dX8_wouldLeave_79 (X.lt (by decide)) (sh_12 (rfl : tp 74 = 12) _) fl_RX8_7 rfl ?_
          refine aw_iconst (v := 5) X dX8_wouldLeave_82 (by decide) ?_
          refine aw_iald X dX8_wouldLeave_83 (X.lt (by decide)) (sh_ia 3108 (rfl : tp 75 = 4108) _) (by unfold vp_in; decide) ?_
          refine aw_if_le (tgt := 91) X dX8_wouldLeave_84 (by decide) (fun c => ?_) (fun c => ?_)
          · have h := h.1 c
            refine aw_iconst (v := 0) X dX8_wouldLeave_91 (by decide) ?_
            exact aw_zret X dX8_wouldLeave_92 (by decide) h
          · have h := h.2 c
            refine aw_iconst (v := 1) X dX8_wouldLeave_87 (by decide) ?_
            refine aw_goto (tgt := 92) X dX8_wouldLeave_88 (by decide) ?_
            exact aw_zret X dX8_wouldLeave_92 (by decide) h
      · by_cases c3 : r2 = 4
        · have h := h.2.2.2.1 c3
          refine aw_tableIn (tgt := 114) X dX8_wouldLeave_6 4 c3 (by decide) (by decide) rfl (by decide) ?_
          exact aw_sub [0, 1] rfl (lb_X8_wouldLeave_114 X p1  _ h)
        · by_cases c4 : r2 = 5
          · have h := h.2.2.2.2.1 c4
            refine aw_tableIn (tgt := 93) X dX8_wouldLeave_6 5 c4 (by decide) (by decide) rfl (by decide) ?_
            refine aw_aload_n X dX8_wouldLeave_93 0 rfl ?_
            refine aw_iload_n X dX8_wouldLeave_94 1 rfl ?_
            refine ca_i X (rn_v X [.int p1] [] (X.lt (by decide)) (sh_12 (rfl : tp 74 = 12) _) rfl rfl kw1139 kw64 (c_X8_plainLeaves h) cal_yX8_plainLeaves kw1137 (Nat.le_of_ble_eq_true rfl) rfl rfl (Nat.le_of_ble_eq_true rfl) dX8_wouldLeave_95) (fun M11 r12 h => ?_)
            refine aw_if_eq (tgt := 112) X dX8_wouldLeave_98 (by decide) (fun c => ?_) (fun c => ?_)
            · have h := h.1 c
              refine aw_iconst (v := 0) X dX8_wouldLeave_112 (by decide) ?_
              exact aw_zret X dX8_wouldLeave_113 (by decide) h
            · have h := h.2 c
              refine aw_aload_n X dX8_wouldLeave_101 0 rfl ?_
              refine ca_i X (rn_v X [] [] (X.lt (by decide)) (sh_12 (rfl : tp 74 = 12) _) rfl rfl kw1121 kw61 (c_X8_standing h) cal_yX8_standing kw1119 (Nat.le_of_ble_eq_true rfl) rfl rfl (Nat.le_of_ble_eq_true rfl) dX8_wouldLeave_102) (fun M13 r14 h => ?_)
              refine aw_if_ne (tgt := 112) X dX8_wouldLeave_105 (by decide) (fun c => ?_) (fun c => ?_)
              · have h := h.1 c
                refine aw_iconst (v := 0) X dX8_wouldLeave_112 (by decide) ?_
                exact aw_zret X dX8_wouldLeave_113 (by decide) h
              · have h := h.2 c
                refine aw_iconst (v := 1) X dX8_wouldLeave_108 (by decide) ?_
                refine aw_goto (tgt := 113) X dX8_wouldLeave_109 (by decide) ?_
                exact aw_zret X dX8_wouldLeave_113 (by decide) h
          · have h := h.2.2.2.2.2 c0 c1 c2 c3 c4
            refine aw_tableOut (tgt := 114) X dX8_wouldLeave_6 (by have n0 := lv_neT (a := 1) c0 rfl; have n1 := lv_neT (a := 2) c1 rfl; have n2 := lv_neT (a := 3) c2 rfl; have n3 := lv_neT (a := 4) c3 rfl; have n4 := lv_neT (a := 5) c4 rfl; omega) (by decide) ?_
            exact aw_sub [0, 1] rfl (lb_X8_wouldLeave_114 X p1  _ h)
def wb_X8_stays_60 (n : Nat) (p1 : Int32)  (K : Mm → Int32 → Prop) (M : Mm) (x2 : Int32) : Prop := wp_X8_of n M p1 0 (fun M14 r15 => (¬ r15 = 2 → (¬ r15 = 4 → K M14 x2) ∧ (r15 = 4 → wp_X8_of n M14 p1 1 (fun M16 r17 => K M16 (2 * (x2 + r17))))) ∧ (r15 = 2 → wp_X8_of n M14 p1 1 (fun M18 r19 => K M18 (x2 + r19))))
set_option maxHeartbeats 4000000 in
set_option maxRecDepth 100000 in
theorem lb_X8_stays_60 {g : Gm} {E : En} {A : Nat → Prop} {K : Mm → Int32 → Prop} (X : CX g cX8_stays RX8 (some .int) 2 E A 5) (p1 : Int32)   (M : Mm) (x2 : Int32) (h : wb_X8_stays_60 (eN E) p1  K M x2) : AW g E A 5 (MQ (gB g) (QI E K A) (gA g) (gS g) (gk g) (gn g) A) 60 [(0, .ref (eA E 74)), (1, .int p1), (2, .int x2)] [] M := by
  unfold wb_X8_stays_60 at h
  refine aw_aload_n X dX8_stays_60 0 rfl ?_
  refine aw_iload_n X dX8_stays_61 1 rfl ?_
  refine aw_iconst (v := 0) X dX8_stays_62 (by decide) ?_
  refine ca_i X (rn_v X [.int p1, .int 0] [] (X.lt (by decide)) (sh_12 (rfl : tp 74 = 12) _) rfl rfl kw1101 kw56 (c_X8_of h) cal_yX8_of kw1099 (Nat.le_of_ble_eq_true rfl) rfl rfl (Nat.le_of_ble_eq_true rfl) dX8_stays_63) (fun M14 r15 h => ?_)
  refine aw_istore (lv' := [(4, .int r15), (0, .ref (eA E 74)), (1, .int p1), (2, .int x2)]) X dX8_stays_66 (by decide) rfl ?_
  refine aw_iload X dX8_stays_68 0 rfl ?_
  refine aw_iconst (v := 2) X dX8_stays_70 (by decide) ?_
  refine aw_icmp_ne (tgt := 85) X dX8_stays_71 (by decide) (fun c => ?_) (fun c => ?_)
  · have h := h.1 c
    refine aw_iload X dX8_stays_85 0 rfl ?_
    refine aw_iconst (v := 4) X dX8_stays_87 (by decide) ?_
    refine aw_icmp_ne (tgt := 104) X dX8_stays_88 (by decide) (fun c => ?_) (fun c => ?_)
    · have h := h.1 c
      refine aw_iload_n X dX8_stays_104 3 rfl ?_
      exact aw_iret X dX8_stays_105 h
    · have h := h.2 c
      refine aw_iconst (v := 2) X dX8_stays_91 (by decide) ?_
      refine aw_iload_n X dX8_stays_92 3 rfl ?_
      refine aw_aload_n X dX8_stays_93 1 rfl ?_
      refine aw_iload_n X dX8_stays_94 2 rfl ?_
      refine aw_iconst (v := 1) X dX8_stays_95 (by decide) ?_
      refine ca_i X (rn_v X [.int p1, .int 1] [.int x2, .int 2] (X.lt (by decide)) (sh_12 (rfl : tp 74 = 12) _) rfl rfl kw1101 kw56 (c_X8_of h) cal_yX8_of kw1099 (Nat.le_of_ble_eq_true rfl) rfl rfl (Nat.le_of_ble_eq_true rfl) dX8_stays_96) (fun M16 r17 h => ?_)
      refine aw_iadd X dX8_stays_99 ?_
      refine aw_imul X dX8_stays_100 ?_
      refine aw_goto (tgt := 105) X dX8_stays_101 (by decide) ?_
      exact aw_iret X dX8_stays_105 h
  · have h := h.2 c
    refine aw_iload_n X dX8_stays_74 3 rfl ?_
    refine aw_aload_n X dX8_stays_75 1 rfl ?_
    refine aw_iload_n X dX8_stays_76 2 rfl ?_
    refine aw_iconst (v := 1) X dX8_stays_77 (by decide) ?_
    refine ca_i X (rn_v X [.int p1, .int 1] [.int x2] (X.lt (by decide)) (sh_12 (rfl : tp 74 = 12) _) rfl rfl kw1101 kw56 (c_X8_of h) cal_yX8_of kw1099 (Nat.le_of_ble_eq_true rfl) rfl rfl (Nat.le_of_ble_eq_true rfl) dX8_stays_78) (fun M18 r19 h => ?_)
    refine aw_iadd X dX8_stays_81 ?_
    refine aw_goto (tgt := 105) X dX8_stays_82 (by decide) ?_
    exact aw_iret X dX8_stays_105 h
def wp_X8_stays (n : Nat)  (M : Mm) (p1 : Int32) (K : Mm → Int32 → Prop) : Prop := wp_X8_counts n M 1 (fun M1 r2 => (r2 < 0 → wb_X8_stays_60 n p1 K M1 0) ∧ (¬ r2 < 0 → wp_X8_of n M1 p1 1 (fun M3 r4 => ∀ M5 : Mm, M5 = wr M3 89 97 r4 → ∀ M6 : Mm, M6 = wr M5 89 119 (M5 75 5) → wp_X8_standing n M6 (fun M7 r8 => ∀ M9 : Mm, M9 = wr M7 89 110 r8 → wp_X8_worked n M9 r2 (fun M10 r11 => wp_X8_within n M10 r11 99 (fun M12 r13 => wb_X8_stays_60 n p1 K M12 r13))))))
set_option maxHeartbeats 4000000 in
set_option maxRecDepth 100000 in
theorem c_X8_stays {l : Launch} {E : En} {M : Mm} {p1 : Int32} {K : Mm → Int32 → Prop}  (h : wp_X8_stays (eN E)  M p1 K) : Ctr l E yX8_stays cX8_stays 5 (some .int) 2 [.ref (eA E 74), .int p1] M (QI E K) := by
  refine Ctr.of (by decide +kernel) (Nat.le_of_ble_eq_true rfl) (fun g A hgl X => ?_)
  subst hgl
  have X : CX g cX8_stays RX8 (some .int) 2 E A 5 := X
  show AW g E A 5 _ 0 [(0, .ref (eA E 74)), (1, .int p1)] [] M
  unfold wp_X8_stays at h
  refine aw_iconst (v := 0) X dX8_stays_0 (by decide) ?_
  refine aw_istore_n (lv' := [(2, .int 0), (0, .ref (eA E 74)), (1, .int p1)]) X dX8_stays_1 (by decide) rfl ?_
  refine aw_aload_n X dX8_stays_2 1 rfl ?_
  refine aw_iconst (v := 1) X dX8_stays_3 (by decide) ?_
  refine ca_i X (rn_v X [.int 1] [] (X.lt (by decide)) (sh_12 (rfl : tp 74 = 12) _) rfl rfl kw1113 kw59 (c_X8_counts h) cal_yX8_counts kw1111 (Nat.le_of_ble_eq_true rfl) rfl rfl (Nat.le_of_ble_eq_true rfl) dX8_stays_4) (fun M1 r2 h => ?_)
  refine aw_istore_n (lv' := [(3, .int r2), (2, .int 0), (0, .ref (eA E 74)), (1, .int p1)]) X dX8_stays_7 (by decide) rfl ?_
  refine aw_iload_n X dX8_stays_8 0 rfl ?_
  refine aw_if_lt (tgt := 60) X dX8_stays_9 (by decide) (fun c => ?_) (fun c => ?_)
  · have h := h.1 c
    exact aw_sub [2, 3, 1] rfl (lb_X8_stays_60 X p1  _ _ h)
  · have h := h.2 c
    refine aw_aload_n X dX8_stays_12 2 rfl ?_
    refine aw_get X dX8_stays_13 (X.lt (by decide)) (sh_12 (rfl : tp 74 = 12) _) fl_RX8_56 rfl ?_
    refine aw_bipush (v := 97) X dX8_stays_16 (by decide) ?_
    refine aw_aload_n X dX8_stays_18 2 rfl ?_
    refine aw_iload_n X dX8_stays_19 3 rfl ?_
    refine aw_iconst (v := 1) X dX8_stays_20 (by decide) ?_
    refine ca_i X (rn_v X [.int p1, .int 1] [.int 97, .ref (eA E 89)] (X.lt (by decide)) (sh_12 (rfl : tp 74 = 12) _) rfl rfl kw1101 kw56 (c_X8_of h) cal_yX8_of kw1099 (Nat.le_of_ble_eq_true rfl) rfl rfl (Nat.le_of_ble_eq_true rfl) dX8_stays_21) (fun M3 r4 h => ?_)
    refine aw_iast X dX8_stays_24 (X.lt (by decide)) (sh_ia 128 (rfl : tp 89 = 1128) _) (sh_ia 128 (rfl : tp 89 = 1128) _) (by unfold vp_in; decide) (fun M5 eM5 => ?_)
    have h := h M5 eM5
    refine aw_aload_n X dX8_stays_25 2 rfl ?_
    refine aw_get X dX8_stays_26 (X.lt (by decide)) (sh_12 (rfl : tp 74 = 12) _) fl_RX8_56 rfl ?_
    refine aw_bipush (v := 119) X dX8_stays_29 (by decide) ?_
    refine aw_aload_n X dX8_stays_31 2 rfl ?_
    refine aw_get X dX8_stays_32 (X.lt (by decide)) (sh_12 (rfl : tp 74 = 12) _) fl_RX8_7 rfl ?_
    refine aw_iconst (v := 5) X dX8_stays_35 (by decide) ?_
    refine aw_iald X dX8_stays_36 (X.lt (by decide)) (sh_ia 3108 (rfl : tp 75 = 4108) _) (by unfold vp_in; decide) ?_
    refine aw_iast X dX8_stays_37 (X.lt (by decide)) (sh_ia 128 (rfl : tp 89 = 1128) _) (sh_ia 128 (rfl : tp 89 = 1128) _) (by unfold vp_in; decide) (fun M6 eM6 => ?_)
    have h := h M6 eM6
    refine aw_aload_n X dX8_stays_38 2 rfl ?_
    refine aw_get X dX8_stays_39 (X.lt (by decide)) (sh_12 (rfl : tp 74 = 12) _) fl_RX8_56 rfl ?_
    refine aw_bipush (v := 110) X dX8_stays_42 (by decide) ?_
    refine aw_aload_n X dX8_stays_44 2 rfl ?_
    refine ca_i X (rn_v X [] [.int 110, .ref (eA E 89)] (X.lt (by decide)) (sh_12 (rfl : tp 74 = 12) _) rfl rfl kw1121 kw61 (c_X8_standing h) cal_yX8_standing kw1119 (Nat.le_of_ble_eq_true rfl) rfl rfl (Nat.le_of_ble_eq_true rfl) dX8_stays_45) (fun M7 r8 h => ?_)
    refine aw_iast X dX8_stays_48 (X.lt (by decide)) (sh_ia 128 (rfl : tp 89 = 1128) _) (sh_ia 128 (rfl : tp 89 = 1128) _) (by unfold vp_in; decide) (fun M9 eM9 => ?_)
    have h := h M9 eM9
    refine aw_aload_n X dX8_stays_49 2 rfl ?_
    refine aw_iload_n X dX8_stays_50 0 rfl ?_
    refine ca_i X (rn_v X [.int r2] [] (X.lt (by decide)) (sh_12 (rfl : tp 74 = 12) _) rfl rfl kw1125 kw62 (c_X8_worked h) cal_yX8_worked kw1123 (Nat.le_of_ble_eq_true rfl) rfl rfl (Nat.le_of_ble_eq_true rfl) dX8_stays_51) (fun M10 r11 h => ?_)
    refine aw_bipush (v := 99) X dX8_stays_54 (by decide) ?_
    refine ca_i X (rn_s X [.int r11, .int 99] [] kw1131 (c_X8_within h) cal_yX8_within kw1130 (Nat.le_of_ble_eq_true rfl) rfl rfl (Nat.le_of_ble_eq_true rfl) dX8_stays_56) (fun M12 r13 h => ?_)
    refine aw_istore_n (lv' := [(2, .int r13), (3, .int r2), (0, .ref (eA E 74)), (1, .int p1)]) X dX8_stays_59 (by decide) rfl ?_
    exact aw_sub [2, 3, 0] rfl (lb_X8_stays_60 X p1  _ _ h)
def wp_X8_worth (n : Nat)  (M : Mm) (p1 : Int32) (K : Mm → Int32 → Prop) : Prop := wp_X8_of n M p1 1 (fun M1 r2 => wp_X8_of n M1 p1 0 (fun M3 r4 => (r4 = 1 → K M3 (r2 + 3)) ∧ (r4 = 2 → K M3 (60 - r2)) ∧ (r4 = 3 → K M3 (2 * (r2 + 3))) ∧ (r4 = 4 → K M3 (55 - r2)) ∧ (r4 = 5 → K M3 30) ∧ (¬ r4 = 1 → ¬ r4 = 2 → ¬ r4 = 3 → ¬ r4 = 4 → ¬ r4 = 5 → K M3 r2)))
set_option maxHeartbeats 4000000 in
set_option maxRecDepth 100000 in
theorem c_X8_worth {l : Launch} {E : En} {M : Mm} {p1 : Int32} {K : Mm → Int32 → Prop}  (h : wp_X8_worth (eN E)  M p1 K) : Ctr l E yX8_worth cX8_worth 3 (some .int) 1 [.ref (eA E 74), .int p1] M (QI E K) := by
  refine Ctr.of (by decide +kernel) (Nat.le_of_ble_eq_true rfl) (fun g A hgl X => ?_)
  subst hgl
  have X : CX g cX8_worth RX8 (some .int) 1 E A 3 := X
  show AW g E A 3 _ 0 [(0, .ref (eA E 74)), (1, .int p1)] [] M
  unfold wp_X8_worth at h
  refine aw_aload_n X dX8_worth_0 0 rfl ?_
  refine aw_iload_n X dX8_worth_1 1 rfl ?_
  refine aw_iconst (v := 1) X dX8_worth_2 (by decide) ?_
  refine ca_i X (rn_v X [.int p1, .int 1] [] (X.lt (by decide)) (sh_12 (rfl : tp 74 = 12) _) rfl rfl kw1101 kw56 (c_X8_of h) cal_yX8_of kw1099 (Nat.le_of_ble_eq_true rfl) rfl rfl (Nat.le_of_ble_eq_true rfl) dX8_worth_3) (fun M1 r2 h => ?_)
  refine aw_istore_n (lv' := [(2, .int r2), (0, .ref (eA E 74)), (1, .int p1)]) X dX8_worth_6 (by decide) rfl ?_
  refine aw_aload_n X dX8_worth_7 1 rfl ?_
  refine aw_iload_n X dX8_worth_8 2 rfl ?_
  refine aw_iconst (v := 0) X dX8_worth_9 (by decide) ?_
  refine ca_i X (rn_v X [.int p1, .int 0] [] (X.lt (by decide)) (sh_12 (rfl : tp 74 = 12) _) rfl rfl kw1101 kw56 (c_X8_of h) cal_yX8_of kw1099 (Nat.le_of_ble_eq_true rfl) rfl rfl (Nat.le_of_ble_eq_true rfl) dX8_worth_10) (fun M3 r4 h => ?_)
  by_cases c0 : r4 = 1
  · have h := h.1 c0
    refine aw_tableIn (tgt := 48) X dX8_worth_13 1 c0 (by decide) (by decide) rfl (by decide) ?_
    refine aw_iload_n X dX8_worth_48 0 rfl ?_
    refine aw_iconst (v := 3) X dX8_worth_49 (by decide) ?_
    refine aw_iadd X dX8_worth_50 ?_
    exact aw_iret X dX8_worth_51 h
  · by_cases c1 : r4 = 2
    · have h := h.2.1 c1
      refine aw_tableIn (tgt := 52) X dX8_worth_13 2 c1 (by decide) (by decide) rfl (by decide) ?_
      refine aw_bipush (v := 60) X dX8_worth_52 (by decide) ?_
      refine aw_iload_n X dX8_worth_54 0 rfl ?_
      refine aw_isub X dX8_worth_55 ?_
      exact aw_iret X dX8_worth_56 h
    · by_cases c2 : r4 = 3
      · have h := h.2.2.1 c2
        refine aw_tableIn (tgt := 57) X dX8_worth_13 3 c2 (by decide) (by decide) rfl (by decide) ?_
        refine aw_iconst (v := 2) X dX8_worth_57 (by decide) ?_
        refine aw_iload_n X dX8_worth_58 0 rfl ?_
        refine aw_iconst (v := 3) X dX8_worth_59 (by decide) ?_
        refine aw_iadd X dX8_worth_60 ?_
        refine aw_imul X dX8_worth_61 ?_
        exact aw_iret X dX8_worth_62 h
      · by_cases c3 : r4 = 4
        · have h := h.2.2.2.1 c3
          refine aw_tableIn (tgt := 63) X dX8_worth_13 4 c3 (by decide) (by decide) rfl (by decide) ?_
          refine aw_bipush (v := 55) X dX8_worth_63 (by decide) ?_
          refine aw_iload_n X dX8_worth_65 0 rfl ?_
          refine aw_isub X dX8_worth_66 ?_
          exact aw_iret X dX8_worth_67 h
        · by_cases c4 : r4 = 5
          · have h := h.2.2.2.2.1 c4
            refine aw_tableIn (tgt := 68) X dX8_worth_13 5 c4 (by decide) (by decide) rfl (by decide) ?_
            refine aw_bipush (v := 30) X dX8_worth_68 (by decide) ?_
            exact aw_iret X dX8_worth_70 h
          · have h := h.2.2.2.2.2 c0 c1 c2 c3 c4
            refine aw_tableOut (tgt := 71) X dX8_worth_13 (by have n0 := lv_neT (a := 1) c0 rfl; have n1 := lv_neT (a := 2) c1 rfl; have n2 := lv_neT (a := 3) c2 rfl; have n3 := lv_neT (a := 4) c3 rfl; have n4 := lv_neT (a := 5) c4 rfl; omega) (by decide) ?_
            refine aw_iload_n X dX8_worth_71 0 rfl ?_
            exact aw_iret X dX8_worth_72 h
def wp_X8_told (n : Nat)  (M : Mm) (p1 : Int32) (p2 : Int32) (K : Mm → Int32 → Prop) : Prop := wp_X8_isComer n M p1 (fun M1 r2 => (r2 = 0 → K M1 (-1000000001)) ∧ (¬ r2 = 0 → wp_X8_isIn n M1 p2.toInt64 0 14 (fun M3 r4 => (¬ r4 = 0 → (12 ≤ p2 → (¬ p2 = 12 → (¬ p2 = 14 → wp_X8_wouldLeave n M3 p1 (fun M5 r6 => (r6 = 0 → K M5 0) ∧ (¬ r6 = 0 → K M5 1))) ∧ (p2 = 14 → wp_X8_stays n M3 p1 (fun M7 r8 => K M7 r8))) ∧ (p2 = 12 → wp_X8_worth n M3 p1 (fun M9 r10 => K M9 r10))) ∧ (¬ 12 ≤ p2 → wp_X8_of n M3 p1 p2 (fun M11 r12 => K M11 r12))) ∧ (r4 = 0 → K M3 (-1000000001)))))
set_option maxHeartbeats 4000000 in
set_option maxRecDepth 100000 in
theorem c_X8_told {l : Launch} {E : En} {M : Mm} {p1 : Int32} {p2 : Int32} {K : Mm → Int32 → Prop}  (h : wp_X8_told (eN E)  M p1 p2 K) : Ctr l E yX8_told cX8_told 3 (some .int) 4 [.ref (eA E 74), .int p1, .int p2] M (QI E K) := by
  refine Ctr.of (by decide +kernel) (Nat.le_of_ble_eq_true rfl) (fun g A hgl X => ?_)
  subst hgl
  have X : CX g cX8_told RX8 (some .int) 4 E A 3 := X
  show AW g E A 3 _ 0 [(0, .ref (eA E 74)), (1, .int p1), (2, .int p2)] [] M
  unfold wp_X8_told at h
  refine aw_aload_n X dX8_told_0 0 rfl ?_
  refine aw_iload_n X dX8_told_1 1 rfl ?_
  refine ca_i X (rn_v X [.int p1] [] (X.lt (by decide)) (sh_12 (rfl : tp 74 = 12) _) rfl rfl kw1096 kw55 (c_X8_isComer h) cal_yX8_isComer kw1094 (Nat.le_of_ble_eq_true rfl) rfl rfl (Nat.le_of_ble_eq_true rfl) dX8_told_2) (fun M1 r2 h => ?_)
  refine aw_if_eq (tgt := 20) X dX8_told_5 (by decide) (fun c => ?_) (fun c => ?_)
  · have h := h.1 c
    refine aw_ldc (v := (-1000000001)) X dX8_told_20 kw1084 ?_
    exact aw_iret X dX8_told_22 h
  · have h := h.2 c
    refine aw_iload_n X dX8_told_8 2 rfl ?_
    refine aw_i2l X dX8_told_9 ?_
    refine aw_lconst (v := 0) X dX8_told_10 (by decide) ?_
    refine aw_ldc2_w (v := 14) X dX8_told_11 kw1098 ?_
    refine ca_i X (rn_s X [.long p2.toInt64, .long 0, .long 14] [] kw1079 (c_X8_isIn h) cal_yX8_isIn kw1078 (Nat.le_of_ble_eq_true rfl) rfl rfl (Nat.le_of_ble_eq_true rfl) dX8_told_14) (fun M3 r4 h => ?_)
    refine aw_if_ne (tgt := 23) X dX8_told_17 (by decide) (fun c => ?_) (fun c => ?_)
    · have h := h.1 c
      refine aw_iload_n X dX8_told_23 2 rfl ?_
      refine aw_bipush (v := 12) X dX8_told_24 (by decide) ?_
      refine aw_icmp_ge (tgt := 38) X dX8_told_26 (by decide) (fun c => ?_) (fun c => ?_)
      · have h := h.1 c
        refine aw_iload_n X dX8_told_38 2 rfl ?_
        refine aw_bipush (v := 12) X dX8_told_39 (by decide) ?_
        refine aw_icmp_ne (tgt := 52) X dX8_told_41 (by decide) (fun c => ?_) (fun c => ?_)
        · have h := h.1 c
          refine aw_iload_n X dX8_told_52 2 rfl ?_
          refine aw_bipush (v := 14) X dX8_told_53 (by decide) ?_
          refine aw_icmp_ne (tgt := 66) X dX8_told_55 (by decide) (fun c => ?_) (fun c => ?_)
          · have h := h.1 c
            refine aw_aload_n X dX8_told_66 0 rfl ?_
            refine aw_iload_n X dX8_told_67 1 rfl ?_
            refine ca_i X (rn_v X [.int p1] [] (X.lt (by decide)) (sh_12 (rfl : tp 74 = 12) _) rfl rfl kw1135 kw63 (c_X8_wouldLeave h) cal_yX8_wouldLeave kw1133 (Nat.le_of_ble_eq_true rfl) rfl rfl (Nat.le_of_ble_eq_true rfl) dX8_told_68) (fun M5 r6 h => ?_)
            refine aw_if_eq (tgt := 78) X dX8_told_71 (by decide) (fun c => ?_) (fun c => ?_)
            · have h := h.1 c
              refine aw_iconst (v := 0) X dX8_told_78 (by decide) ?_
              exact aw_iret X dX8_told_79 h
            · have h := h.2 c
              refine aw_iconst (v := 1) X dX8_told_74 (by decide) ?_
              refine aw_goto (tgt := 79) X dX8_told_75 (by decide) ?_
              exact aw_iret X dX8_told_79 h
          · have h := h.2 c
            refine aw_aload_n X dX8_told_58 0 rfl ?_
            refine aw_iload_n X dX8_told_59 1 rfl ?_
            refine ca_i X (rn_v X [.int p1] [] (X.lt (by decide)) (sh_12 (rfl : tp 74 = 12) _) rfl rfl kw1109 kw58 (c_X8_stays h) cal_yX8_stays kw1107 (Nat.le_of_ble_eq_true rfl) rfl rfl (Nat.le_of_ble_eq_true rfl) dX8_told_60) (fun M7 r8 h => ?_)
            refine aw_goto (tgt := 79) X dX8_told_63 (by decide) ?_
            exact aw_iret X dX8_told_79 h
        · have h := h.2 c
          refine aw_aload_n X dX8_told_44 0 rfl ?_
          refine aw_iload_n X dX8_told_45 1 rfl ?_
          refine ca_i X (rn_v X [.int p1] [] (X.lt (by decide)) (sh_12 (rfl : tp 74 = 12) _) rfl rfl kw1105 kw57 (c_X8_worth h) cal_yX8_worth kw1103 (Nat.le_of_ble_eq_true rfl) rfl rfl (Nat.le_of_ble_eq_true rfl) dX8_told_46) (fun M9 r10 h => ?_)
          refine aw_goto (tgt := 79) X dX8_told_49 (by decide) ?_
          exact aw_iret X dX8_told_79 h
      · have h := h.2 c
        refine aw_aload_n X dX8_told_29 0 rfl ?_
        refine aw_iload_n X dX8_told_30 1 rfl ?_
        refine aw_iload_n X dX8_told_31 2 rfl ?_
        refine ca_i X (rn_v X [.int p1, .int p2] [] (X.lt (by decide)) (sh_12 (rfl : tp 74 = 12) _) rfl rfl kw1101 kw56 (c_X8_of h) cal_yX8_of kw1099 (Nat.le_of_ble_eq_true rfl) rfl rfl (Nat.le_of_ble_eq_true rfl) dX8_told_32) (fun M11 r12 h => ?_)
        refine aw_goto (tgt := 79) X dX8_told_35 (by decide) ?_
        exact aw_iret X dX8_told_79 h
    · have h := h.2 c
      refine aw_ldc (v := (-1000000001)) X dX8_told_20 kw1084 ?_
      exact aw_iret X dX8_told_22 h
def wb_X8_isOf_19 (n : Nat) (p0 : Int32) (p1 : Int32)  (K : Mm → Int32 → Prop) (M : Mm)  : Prop := (¬ p1 = 2 → K M 0) ∧ (p1 = 2 → (¬ p0 = 4 → K M 0) ∧ (p0 = 4 → K M 1))
set_option maxHeartbeats 4000000 in
set_option maxRecDepth 100000 in
theorem lb_X8_isOf_19 {g : Gm} {E : En} {A : Nat → Prop} {K : Mm → Int32 → Prop} (X : CX g cX8_isOf RX8 (some .boolean) 0 E A 2) (p0 : Int32) (p1 : Int32)   (M : Mm)  (h : wb_X8_isOf_19 (eN E) p0 p1  K M ) : AW g E A 2 (MQ (gB g) (QI E K A) (gA g) (gS g) (gk g) (gn g) A) 19 [(0, .int p0), (1, .int p1)] [] M := by
  unfold wb_X8_isOf_19 at h
  refine aw_iload_n X dX8_isOf_19 1 rfl ?_
  refine aw_iconst (v := 2) X dX8_isOf_20 (by decide) ?_
  refine aw_icmp_ne (tgt := 33) X dX8_isOf_21 (by decide) (fun c => ?_) (fun c => ?_)
  · have h := h.1 c
    refine aw_iconst (v := 0) X dX8_isOf_33 (by decide) ?_
    exact aw_zret X dX8_isOf_34 (by decide) h
  · have h := h.2 c
    refine aw_iload_n X dX8_isOf_24 0 rfl ?_
    refine aw_iconst (v := 4) X dX8_isOf_25 (by decide) ?_
    refine aw_icmp_ne (tgt := 33) X dX8_isOf_26 (by decide) (fun c => ?_) (fun c => ?_)
    · have h := h.1 c
      refine aw_iconst (v := 0) X dX8_isOf_33 (by decide) ?_
      exact aw_zret X dX8_isOf_34 (by decide) h
    · have h := h.2 c
      refine aw_iconst (v := 1) X dX8_isOf_29 (by decide) ?_
      refine aw_goto (tgt := 34) X dX8_isOf_30 (by decide) ?_
      exact aw_zret X dX8_isOf_34 (by decide) h
def wp_X8_isOf (n : Nat)  (M : Mm) (p0 : Int32) (p1 : Int32) (K : Mm → Int32 → Prop) : Prop := (p0 = p1 → K M 1) ∧ (¬ p0 = p1 → (p1 = 0 → K M 1) ∧ (¬ p1 = 0 → (¬ p1 = 1 → wb_X8_isOf_19 n p0 p1 K M ) ∧ (p1 = 1 → (p0 = 3 → K M 1) ∧ (¬ p0 = 3 → wb_X8_isOf_19 n p0 p1 K M ))))
set_option maxHeartbeats 4000000 in
set_option maxRecDepth 100000 in
theorem c_X8_isOf {l : Launch} {E : En} {M : Mm} {p0 : Int32} {p1 : Int32} {K : Mm → Int32 → Prop}  (h : wp_X8_isOf (eN E)  M p0 p1 K) : Ctr l E yX8_isOf cX8_isOf 2 (some .boolean) 0 [.int p0, .int p1] M (QI E K) := by
  refine Ctr.of (by decide +kernel) (Nat.le_of_ble_eq_true rfl) (fun g A hgl X => ?_)
  subst hgl
  have X : CX g cX8_isOf RX8 (some .boolean) 0 E A 2 := X
  show AW g E A 2 _ 0 [(0, .int p0), (1, .int p1)] [] M
  unfold wp_X8_isOf at h
  refine aw_iload_n X dX8_isOf_0 0 rfl ?_
  refine aw_iload_n X dX8_isOf_1 1 rfl ?_
  refine aw_icmp_eq (tgt := 29) X dX8_isOf_2 (by decide) (fun c => ?_) (fun c => ?_)
  · have h := h.1 c
    refine aw_iconst (v := 1) X dX8_isOf_29 (by decide) ?_
    refine aw_goto (tgt := 34) X dX8_isOf_30 (by decide) ?_
    exact aw_zret X dX8_isOf_34 (by decide) h
  · have h := h.2 c
    refine aw_iload_n X dX8_isOf_5 1 rfl ?_
    refine aw_if_eq (tgt := 29) X dX8_isOf_6 (by decide) (fun c => ?_) (fun c => ?_)
    · have h := h.1 c
      refine aw_iconst (v := 1) X dX8_isOf_29 (by decide) ?_
      refine aw_goto (tgt := 34) X dX8_isOf_30 (by decide) ?_
      exact aw_zret X dX8_isOf_34 (by decide) h
    · have h := h.2 c
      refine aw_iload_n X dX8_isOf_9 1 rfl ?_
      refine aw_iconst (v := 1) X dX8_isOf_10 (by decide) ?_
      refine aw_icmp_ne (tgt := 19) X dX8_isOf_11 (by decide) (fun c => ?_) (fun c => ?_)
      · have h := h.1 c
        exact aw_sub [0, 1] rfl (lb_X8_isOf_19 X p0 p1  _ h)
      · have h := h.2 c
        refine aw_iload_n X dX8_isOf_14 0 rfl ?_
        refine aw_iconst (v := 3) X dX8_isOf_15 (by decide) ?_
        refine aw_icmp_eq (tgt := 29) X dX8_isOf_16 (by decide) (fun c => ?_) (fun c => ?_)
        · have h := h.1 c
          refine aw_iconst (v := 1) X dX8_isOf_29 (by decide) ?_
          refine aw_goto (tgt := 34) X dX8_isOf_30 (by decide) ?_
          exact aw_zret X dX8_isOf_34 (by decide) h
        · have h := h.2 c
          exact aw_sub [0, 1] rfl (lb_X8_isOf_19 X p0 p1  _ h)
def wp_X8_as (n : Nat)  (M : Mm) (p1 : Int32) (p2 : Int32) (K : Mm → Int32 → Prop) : Prop := wp_X8_isComer n M p1 (fun M1 r2 => (r2 = 0 → K M1 (-1000000001)) ∧ (¬ r2 = 0 → wp_X8_isIn n M1 p2.toInt64 0 5 (fun M3 r4 => (¬ r4 = 0 → wp_X8_of n M3 p1 0 (fun M5 r6 => wp_X8_isOf n M5 r6 p2 (fun M7 r8 => (r8 = 0 → K M7 (-1000000012)) ∧ (¬ r8 = 0 → wp_X8_of n M7 p1 1 (fun M9 r10 => K M9 r10))))) ∧ (r4 = 0 → K M3 (-1000000001)))))
set_option maxHeartbeats 4000000 in
set_option maxRecDepth 100000 in
theorem c_X8_as {l : Launch} {E : En} {M : Mm} {p1 : Int32} {p2 : Int32} {K : Mm → Int32 → Prop}  (h : wp_X8_as (eN E)  M p1 p2 K) : Ctr l E yX8_as cX8_as 3 (some .int) 2 [.ref (eA E 74), .int p1, .int p2] M (QI E K) := by
  refine Ctr.of (by decide +kernel) (Nat.le_of_ble_eq_true rfl) (fun g A hgl X => ?_)
  subst hgl
  have X : CX g cX8_as RX8 (some .int) 2 E A 3 := X
  show AW g E A 3 _ 0 [(0, .ref (eA E 74)), (1, .int p1), (2, .int p2)] [] M
  unfold wp_X8_as at h
  refine aw_aload_n X dX8_as_0 0 rfl ?_
  refine aw_iload_n X dX8_as_1 1 rfl ?_
  refine ca_i X (rn_v X [.int p1] [] (X.lt (by decide)) (sh_12 (rfl : tp 74 = 12) _) rfl rfl kw1096 kw55 (c_X8_isComer h) cal_yX8_isComer kw1094 (Nat.le_of_ble_eq_true rfl) rfl rfl (Nat.le_of_ble_eq_true rfl) dX8_as_2) (fun M1 r2 h => ?_)
  refine aw_if_eq (tgt := 20) X dX8_as_5 (by decide) (fun c => ?_) (fun c => ?_)
  · have h := h.1 c
    refine aw_ldc (v := (-1000000001)) X dX8_as_20 kw1084 ?_
    exact aw_iret X dX8_as_22 h
  · have h := h.2 c
    refine aw_iload_n X dX8_as_8 2 rfl ?_
    refine aw_i2l X dX8_as_9 ?_
    refine aw_lconst (v := 0) X dX8_as_10 (by decide) ?_
    refine aw_ldc2_w (v := 5) X dX8_as_11 kw1077 ?_
    refine ca_i X (rn_s X [.long p2.toInt64, .long 0, .long 5] [] kw1079 (c_X8_isIn h) cal_yX8_isIn kw1078 (Nat.le_of_ble_eq_true rfl) rfl rfl (Nat.le_of_ble_eq_true rfl) dX8_as_14) (fun M3 r4 h => ?_)
    refine aw_if_ne (tgt := 23) X dX8_as_17 (by decide) (fun c => ?_) (fun c => ?_)
    · have h := h.1 c
      refine aw_aload_n X dX8_as_23 0 rfl ?_
      refine aw_iload_n X dX8_as_24 1 rfl ?_
      refine aw_iconst (v := 0) X dX8_as_25 (by decide) ?_
      refine ca_i X (rn_v X [.int p1, .int 0] [] (X.lt (by decide)) (sh_12 (rfl : tp 74 = 12) _) rfl rfl kw1101 kw56 (c_X8_of h) cal_yX8_of kw1099 (Nat.le_of_ble_eq_true rfl) rfl rfl (Nat.le_of_ble_eq_true rfl) dX8_as_26) (fun M5 r6 h => ?_)
      refine aw_iload_n X dX8_as_29 2 rfl ?_
      refine ca_i X (rn_s X [.int r6, .int p2] [] kw1146 (c_X8_isOf h) cal_yX8_isOf kw1145 (Nat.le_of_ble_eq_true rfl) rfl rfl (Nat.le_of_ble_eq_true rfl) dX8_as_30) (fun M7 r8 h => ?_)
      refine aw_if_eq (tgt := 45) X dX8_as_33 (by decide) (fun c => ?_) (fun c => ?_)
      · have h := h.1 c
        refine aw_ldc (v := (-1000000012)) X dX8_as_45 kw1148 ?_
        exact aw_iret X dX8_as_47 h
      · have h := h.2 c
        refine aw_aload_n X dX8_as_36 0 rfl ?_
        refine aw_iload_n X dX8_as_37 1 rfl ?_
        refine aw_iconst (v := 1) X dX8_as_38 (by decide) ?_
        refine ca_i X (rn_v X [.int p1, .int 1] [] (X.lt (by decide)) (sh_12 (rfl : tp 74 = 12) _) rfl rfl kw1101 kw56 (c_X8_of h) cal_yX8_of kw1099 (Nat.le_of_ble_eq_true rfl) rfl rfl (Nat.le_of_ble_eq_true rfl) dX8_as_39) (fun M9 r10 h => ?_)
        refine aw_goto (tgt := 47) X dX8_as_42 (by decide) ?_
        exact aw_iret X dX8_as_47 h
    · have h := h.2 c
      refine aw_ldc (v := (-1000000001)) X dX8_as_20 kw1084 ?_
      exact aw_iret X dX8_as_22 h
def wp_X8_turns (n : Nat)  (M : Mm) (p1 : Int32) (p2 : Int32) (K : Mm → Int32 → Prop) : Prop := wp_X8_isComer n M p1 (fun M1 r2 => (r2 = 0 → K M1 (-1000000001)) ∧ (¬ r2 = 0 → wp_X8_isIn n M1 p2.toInt64 0 5 (fun M3 r4 => (r4 = 0 → K M3 (-1000000001)) ∧ (¬ r4 = 0 → wp_X8_becomes n M3 (12 + (12 * p1)) p2 (fun M5 r6 => K M5 r6)))))
set_option maxHeartbeats 4000000 in
set_option maxRecDepth 100000 in
theorem c_X8_turns {l : Launch} {E : En} {M : Mm} {p1 : Int32} {p2 : Int32} {K : Mm → Int32 → Prop}  (h : wp_X8_turns (eN E)  M p1 p2 K) : Ctr l E yX8_turns cX8_turns 3 (some .int) 2 [.ref (eA E 74), .int p1, .int p2] M (QI E K) := by
  refine Ctr.of (by decide +kernel) (Nat.le_of_ble_eq_true rfl) (fun g A hgl X => ?_)
  subst hgl
  have X : CX g cX8_turns RX8 (some .int) 2 E A 3 := X
  show AW g E A 3 _ 0 [(0, .ref (eA E 74)), (1, .int p1), (2, .int p2)] [] M
  unfold wp_X8_turns at h
  refine aw_aload_n X dX8_turns_0 0 rfl ?_
  refine aw_iload_n X dX8_turns_1 1 rfl ?_
  refine ca_i X (rn_v X [.int p1] [] (X.lt (by decide)) (sh_12 (rfl : tp 74 = 12) _) rfl rfl kw1096 kw55 (c_X8_isComer h) cal_yX8_isComer kw1094 (Nat.le_of_ble_eq_true rfl) rfl rfl (Nat.le_of_ble_eq_true rfl) dX8_turns_2) (fun M1 r2 h => ?_)
  refine aw_if_eq (tgt := 35) X dX8_turns_5 (by decide) (fun c => ?_) (fun c => ?_)
  · have h := h.1 c
    refine aw_ldc (v := (-1000000001)) X dX8_turns_35 kw1084 ?_
    exact aw_iret X dX8_turns_37 h
  · have h := h.2 c
    refine aw_iload_n X dX8_turns_8 2 rfl ?_
    refine aw_i2l X dX8_turns_9 ?_
    refine aw_lconst (v := 0) X dX8_turns_10 (by decide) ?_
    refine aw_ldc2_w (v := 5) X dX8_turns_11 kw1077 ?_
    refine ca_i X (rn_s X [.long p2.toInt64, .long 0, .long 5] [] kw1079 (c_X8_isIn h) cal_yX8_isIn kw1078 (Nat.le_of_ble_eq_true rfl) rfl rfl (Nat.le_of_ble_eq_true rfl) dX8_turns_14) (fun M3 r4 h => ?_)
    refine aw_if_eq (tgt := 35) X dX8_turns_17 (by decide) (fun c => ?_) (fun c => ?_)
    · have h := h.1 c
      refine aw_ldc (v := (-1000000001)) X dX8_turns_35 kw1084 ?_
      exact aw_iret X dX8_turns_37 h
    · have h := h.2 c
      refine aw_aload_n X dX8_turns_20 0 rfl ?_
      refine aw_bipush (v := 12) X dX8_turns_21 (by decide) ?_
      refine aw_bipush (v := 12) X dX8_turns_23 (by decide) ?_
      refine aw_iload_n X dX8_turns_25 1 rfl ?_
      refine aw_imul X dX8_turns_26 ?_
      refine aw_iadd X dX8_turns_27 ?_
      refine aw_iload_n X dX8_turns_28 2 rfl ?_
      refine ca_i X (rn_v X [.int (12 + (12 * p1)), .int p2] [] (X.lt (by decide)) (sh_12 (rfl : tp 74 = 12) _) rfl rfl kw1155 kw65 (c_X8_becomes h) cal_yX8_becomes kw1153 (Nat.le_of_ble_eq_true rfl) rfl rfl (Nat.le_of_ble_eq_true rfl) dX8_turns_29) (fun M5 r6 h => ?_)
      refine aw_goto (tgt := 37) X dX8_turns_32 (by decide) ?_
      exact aw_iret X dX8_turns_37 h
def wb_X8_set_57 (n : Nat) (p1 : Int32) (p2 : Int32) (p3 : Int32)  (K : Mm → Int32 → Prop) (M : Mm) (s0 : Int64) (s1 : Int64) (s2 : Int64) : Prop := wp_X8_isIn n M s2 s1 s0 (fun M5 r6 => (¬ r6 = 0 → wp_X8_becomes n M5 ((12 + (12 * p1)) + p2) p3 (fun M7 r8 => K M7 r8)) ∧ (r6 = 0 → K M5 (-1000000001)))
set_option maxHeartbeats 4000000 in
set_option maxRecDepth 100000 in
theorem lb_X8_set_57 {g : Gm} {E : En} {A : Nat → Prop} {K : Mm → Int32 → Prop} (X : CX g cX8_set RX8 (some .int) 2 E A 4) (p1 : Int32) (p2 : Int32) (p3 : Int32)   (M : Mm) (s0 : Int64) (s1 : Int64) (s2 : Int64) (h : wb_X8_set_57 (eN E) p1 p2 p3  K M s0 s1 s2) : AW g E A 4 (MQ (gB g) (QI E K A) (gA g) (gS g) (gk g) (gn g) A) 57 [(0, .ref (eA E 74)), (1, .int p1), (2, .int p2), (3, .int p3)] [.long s0, .long s1, .long s2] M := by
  unfold wb_X8_set_57 at h
  refine ca_i X (rn_s X [.long s2, .long s1, .long s0] [] kw1079 (c_X8_isIn h) cal_yX8_isIn kw1078 (Nat.le_of_ble_eq_true rfl) rfl rfl (Nat.le_of_ble_eq_true rfl) dX8_set_57) (fun M5 r6 h => ?_)
  refine aw_if_ne (tgt := 66) X dX8_set_60 (by decide) (fun c => ?_) (fun c => ?_)
  · have h := h.1 c
    refine aw_aload_n X dX8_set_66 0 rfl ?_
    refine aw_bipush (v := 12) X dX8_set_67 (by decide) ?_
    refine aw_bipush (v := 12) X dX8_set_69 (by decide) ?_
    refine aw_iload_n X dX8_set_71 1 rfl ?_
    refine aw_imul X dX8_set_72 ?_
    refine aw_iadd X dX8_set_73 ?_
    refine aw_iload_n X dX8_set_74 2 rfl ?_
    refine aw_iadd X dX8_set_75 ?_
    refine aw_iload_n X dX8_set_76 3 rfl ?_
    refine ca_i X (rn_v X [.int ((12 + (12 * p1)) + p2), .int p3] [] (X.lt (by decide)) (sh_12 (rfl : tp 74 = 12) _) rfl rfl kw1155 kw65 (c_X8_becomes h) cal_yX8_becomes kw1153 (Nat.le_of_ble_eq_true rfl) rfl rfl (Nat.le_of_ble_eq_true rfl) dX8_set_77) (fun M7 r8 h => ?_)
    exact aw_iret X dX8_set_80 h
  · have h := h.2 c
    refine aw_ldc (v := (-1000000001)) X dX8_set_63 kw1084 ?_
    exact aw_iret X dX8_set_65 h
def wb_X8_set_32 (n : Nat) (p1 : Int32) (p2 : Int32) (p3 : Int32)  (K : Mm → Int32 → Prop) (M : Mm) (s0 : Int64) (s1 : Int64) : Prop := (¬ p2 = 1 → (¬ p2 = 2 → wb_X8_set_57 n p1 p2 p3 K M 9 s0 s1) ∧ (p2 = 2 → wb_X8_set_57 n p1 p2 p3 K M 30 s0 s1)) ∧ (p2 = 1 → wb_X8_set_57 n p1 p2 p3 K M 59 s0 s1)
set_option maxHeartbeats 4000000 in
set_option maxRecDepth 100000 in
theorem lb_X8_set_32 {g : Gm} {E : En} {A : Nat → Prop} {K : Mm → Int32 → Prop} (X : CX g cX8_set RX8 (some .int) 2 E A 4) (p1 : Int32) (p2 : Int32) (p3 : Int32)   (M : Mm) (s0 : Int64) (s1 : Int64) (h : wb_X8_set_32 (eN E) p1 p2 p3  K M s0 s1) : AW g E A 4 (MQ (gB g) (QI E K A) (gA g) (gS g) (gk g) (gn g) A) 32 [(0, .ref (eA E 74)), (1, .int p1), (2, .int p2), (3, .int p3)] [.long s0, .long s1] M := by
  unfold wb_X8_set_32 at h
  refine aw_iload_n X dX8_set_32 2 rfl ?_
  refine aw_iconst (v := 1) X dX8_set_33 (by decide) ?_
  refine aw_icmp_ne (tgt := 43) X dX8_set_34 (by decide) (fun c => ?_) (fun c => ?_)
  · have h := h.1 c
    refine aw_iload_n X dX8_set_43 2 rfl ?_
    refine aw_iconst (v := 2) X dX8_set_44 (by decide) ?_
    refine aw_icmp_ne (tgt := 54) X dX8_set_45 (by decide) (fun c => ?_) (fun c => ?_)
    · have h := h.1 c
      refine aw_ldc2_w (v := 9) X dX8_set_54 kw1083 ?_
      exact aw_sub [0, 1, 2, 3] rfl (lb_X8_set_57 X p1 p2 p3  _ _ _ _ h)
    · have h := h.2 c
      refine aw_ldc2_w (v := 30) X dX8_set_48 kw1082 ?_
      refine aw_goto (tgt := 57) X dX8_set_51 (by decide) ?_
      exact aw_sub [0, 1, 2, 3] rfl (lb_X8_set_57 X p1 p2 p3  _ _ _ _ h)
  · have h := h.2 c
    refine aw_ldc2_w (v := 59) X dX8_set_37 kw1081 ?_
    refine aw_goto (tgt := 57) X dX8_set_40 (by decide) ?_
    exact aw_sub [0, 1, 2, 3] rfl (lb_X8_set_57 X p1 p2 p3  _ _ _ _ h)
def wp_X8_set (n : Nat)  (M : Mm) (p1 : Int32) (p2 : Int32) (p3 : Int32) (K : Mm → Int32 → Prop) : Prop := wp_X8_isComer n M p1 (fun M1 r2 => (r2 = 0 → K M1 (-1000000001)) ∧ (¬ r2 = 0 → wp_X8_isIn n M1 p2.toInt64 1 4 (fun M3 r4 => (r4 = 0 → K M3 (-1000000001)) ∧ (¬ r4 = 0 → (¬ p2 = 2 → wb_X8_set_32 n p1 p2 p3 K M3 0 p3.toInt64) ∧ (p2 = 2 → wb_X8_set_32 n p1 p2 p3 K M3 1 p3.toInt64)))))
set_option maxHeartbeats 4000000 in
set_option maxRecDepth 100000 in
theorem c_X8_set {l : Launch} {E : En} {M : Mm} {p1 : Int32} {p2 : Int32} {p3 : Int32} {K : Mm → Int32 → Prop}  (h : wp_X8_set (eN E)  M p1 p2 p3 K) : Ctr l E yX8_set cX8_set 4 (some .int) 2 [.ref (eA E 74), .int p1, .int p2, .int p3] M (QI E K) := by
  refine Ctr.of (by decide +kernel) (Nat.le_of_ble_eq_true rfl) (fun g A hgl X => ?_)
  subst hgl
  have X : CX g cX8_set RX8 (some .int) 2 E A 4 := X
  show AW g E A 4 _ 0 [(0, .ref (eA E 74)), (1, .int p1), (2, .int p2), (3, .int p3)] [] M
  unfold wp_X8_set at h
  refine aw_aload_n X dX8_set_0 0 rfl ?_
  refine aw_iload_n X dX8_set_1 1 rfl ?_
  refine ca_i X (rn_v X [.int p1] [] (X.lt (by decide)) (sh_12 (rfl : tp 74 = 12) _) rfl rfl kw1096 kw55 (c_X8_isComer h) cal_yX8_isComer kw1094 (Nat.le_of_ble_eq_true rfl) rfl rfl (Nat.le_of_ble_eq_true rfl) dX8_set_2) (fun M1 r2 h => ?_)
  refine aw_if_eq (tgt := 63) X dX8_set_5 (by decide) (fun c => ?_) (fun c => ?_)
  · have h := h.1 c
    refine aw_ldc (v := (-1000000001)) X dX8_set_63 kw1084 ?_
    exact aw_iret X dX8_set_65 h
  · have h := h.2 c
    refine aw_iload_n X dX8_set_8 2 rfl ?_
    refine aw_i2l X dX8_set_9 ?_
    refine aw_lconst (v := 1) X dX8_set_10 (by decide) ?_
    refine aw_ldc2_w (v := 4) X dX8_set_11 kw1161 ?_
    refine ca_i X (rn_s X [.long p2.toInt64, .long 1, .long 4] [] kw1079 (c_X8_isIn h) cal_yX8_isIn kw1078 (Nat.le_of_ble_eq_true rfl) rfl rfl (Nat.le_of_ble_eq_true rfl) dX8_set_14) (fun M3 r4 h => ?_)
    refine aw_if_eq (tgt := 63) X dX8_set_17 (by decide) (fun c => ?_) (fun c => ?_)
    · have h := h.1 c
      refine aw_ldc (v := (-1000000001)) X dX8_set_63 kw1084 ?_
      exact aw_iret X dX8_set_65 h
    · have h := h.2 c
      refine aw_iload_n X dX8_set_20 3 rfl ?_
      refine aw_i2l X dX8_set_21 ?_
      refine aw_iload_n X dX8_set_22 2 rfl ?_
      refine aw_iconst (v := 2) X dX8_set_23 (by decide) ?_
      refine aw_icmp_ne (tgt := 31) X dX8_set_24 (by decide) (fun c => ?_) (fun c => ?_)
      · have h := h.1 c
        refine aw_lconst (v := 0) X dX8_set_31 (by decide) ?_
        exact aw_sub [0, 1, 2, 3] rfl (lb_X8_set_32 X p1 p2 p3  _ _ _ h)
      · have h := h.2 c
        refine aw_lconst (v := 1) X dX8_set_27 (by decide) ?_
        refine aw_goto (tgt := 32) X dX8_set_28 (by decide) ?_
        exact aw_sub [0, 1, 2, 3] rfl (lb_X8_set_32 X p1 p2 p3  _ _ _ h)
def wb_X8_mayBe_46 (n : Nat) (p0 : Int32) (p1 : Int32)  (K : Mm → Int32 → Prop) (M : Mm)  : Prop := wp_X8_isIn n M p1.toInt64 0 99 (fun M7 r8 => (r8 = 0 ∨ r8 = 1) ∧ K M7 r8)
set_option maxHeartbeats 4000000 in
set_option maxRecDepth 100000 in
theorem lb_X8_mayBe_46 {g : Gm} {E : En} {A : Nat → Prop} {K : Mm → Int32 → Prop} (X : CX g cX8_mayBe RX8 (some .boolean) 1 E A 2) (p0 : Int32) (p1 : Int32)   (M : Mm)  (h : wb_X8_mayBe_46 (eN E) p0 p1  K M ) : AW g E A 2 (MQ (gB g) (QI E K A) (gA g) (gS g) (gk g) (gn g) A) 46 [(1, .int p1)] [] M := by
  unfold wb_X8_mayBe_46 at h
  refine aw_iload_n X dX8_mayBe_46 0 rfl ?_
  refine aw_i2l X dX8_mayBe_47 ?_
  refine aw_lconst (v := 0) X dX8_mayBe_48 (by decide) ?_
  refine aw_ldc2_w (v := 99) X dX8_mayBe_49 kw1170 ?_
  refine ca_i X (rn_s X [.long p1.toInt64, .long 0, .long 99] [] kw1079 (c_X8_isIn h) cal_yX8_isIn kw1078 (Nat.le_of_ble_eq_true rfl) rfl rfl (Nat.le_of_ble_eq_true rfl) dX8_mayBe_52) (fun M7 r8 h => ?_)
  exact aw_zret X dX8_mayBe_55 (nar_z h.1) h.2
def wp_X8_mayBe (n : Nat)  (M : Mm) (p0 : Int32) (p1 : Int32) (K : Mm → Int32 → Prop) : Prop := (p0 = 0 → wp_X8_isIn n M p1.toInt64 1 60 (fun M1 r2 => (r2 = 0 ∨ r2 = 1) ∧ K M1 r2)) ∧ (p0 = 1 → wb_X8_mayBe_46 n p0 p1 K M ) ∧ (p0 = 2 → wb_X8_mayBe_46 n p0 p1 K M ) ∧ (p0 = 3 → wp_X8_isIn n M p1.toInt64 1 9 (fun M3 r4 => (r4 = 0 ∨ r4 = 1) ∧ K M3 r4)) ∧ (p0 = 4 → wp_X8_isIn n M p1.toInt64 0 100 (fun M5 r6 => (r6 = 0 ∨ r6 = 1) ∧ K M5 r6)) ∧ (¬ p0 = 0 → ¬ p0 = 1 → ¬ p0 = 2 → ¬ p0 = 3 → ¬ p0 = 4 → K M 0)
set_option maxHeartbeats 4000000 in
set_option maxRecDepth 100000 in
theorem c_X8_mayBe {l : Launch} {E : En} {M : Mm} {p0 : Int32} {p1 : Int32} {K : Mm → Int32 → Prop}  (h : wp_X8_mayBe (eN E)  M p0 p1 K) : Ctr l E yX8_mayBe cX8_mayBe 2 (some .boolean) 1 [.int p0, .int p1] M (QI E K) := by
  refine Ctr.of (by decide +kernel) (Nat.le_of_ble_eq_true rfl) (fun g A hgl X => ?_)
  subst hgl
  have X : CX g cX8_mayBe RX8 (some .boolean) 1 E A 2 := X
  show AW g E A 2 _ 0 [(0, .int p0), (1, .int p1)] [] M
  unfold wp_X8_mayBe at h
  refine aw_iload_n X dX8_mayBe_0 0 rfl ?_
  by_cases c0 : p0 = 0
  · have h := h.1 c0
    refine aw_tableIn (tgt := 36) X dX8_mayBe_1 0 c0 (by decide) (by decide) rfl (by decide) ?_
    refine aw_iload_n X dX8_mayBe_36 1 rfl ?_
    refine aw_i2l X dX8_mayBe_37 ?_
    refine aw_lconst (v := 1) X dX8_mayBe_38 (by decide) ?_
    refine aw_ldc2_w (v := 60) X dX8_mayBe_39 kw1169 ?_
    refine ca_i X (rn_s X [.long p1.toInt64, .long 1, .long 60] [] kw1079 (c_X8_isIn h) cal_yX8_isIn kw1078 (Nat.le_of_ble_eq_true rfl) rfl rfl (Nat.le_of_ble_eq_true rfl) dX8_mayBe_42) (fun M1 r2 h => ?_)
    exact aw_zret X dX8_mayBe_45 (nar_z h.1) h.2
  · by_cases c1 : p0 = 1
    · have h := h.2.1 c1
      refine aw_tableIn (tgt := 46) X dX8_mayBe_1 1 c1 (by decide) (by decide) rfl (by decide) ?_
      exact aw_sub [1] rfl (lb_X8_mayBe_46 X p0 p1  _ h)
    · by_cases c2 : p0 = 2
      · have h := h.2.2.1 c2
        refine aw_tableIn (tgt := 46) X dX8_mayBe_1 2 c2 (by decide) (by decide) rfl (by decide) ?_
        exact aw_sub [1] rfl (lb_X8_mayBe_46 X p0 p1  _ h)
      · by_cases c3 : p0 = 3
        · have h := h.2.2.2.1 c3
          refine aw_tableIn (tgt := 56) X dX8_mayBe_1 3 c3 (by decide) (by decide) rfl (by decide) ?_
          refine aw_iload_n X dX8_mayBe_56 1 rfl ?_
          refine aw_i2l X dX8_mayBe_57 ?_
          refine aw_lconst (v := 1) X dX8_mayBe_58 (by decide) ?_
          refine aw_ldc2_w (v := 9) X dX8_mayBe_59 kw1083 ?_
          refine ca_i X (rn_s X [.long p1.toInt64, .long 1, .long 9] [] kw1079 (c_X8_isIn h) cal_yX8_isIn kw1078 (Nat.le_of_ble_eq_true rfl) rfl rfl (Nat.le_of_ble_eq_true rfl) dX8_mayBe_62) (fun M3 r4 h => ?_)
          exact aw_zret X dX8_mayBe_65 (nar_z h.1) h.2
        · by_cases c4 : p0 = 4
          · have h := h.2.2.2.2.1 c4
            refine aw_tableIn (tgt := 66) X dX8_mayBe_1 4 c4 (by decide) (by decide) rfl (by decide) ?_
            refine aw_iload_n X dX8_mayBe_66 1 rfl ?_
            refine aw_i2l X dX8_mayBe_67 ?_
            refine aw_lconst (v := 0) X dX8_mayBe_68 (by decide) ?_
            refine aw_ldc2_w (v := 100) X dX8_mayBe_69 kw1171 ?_
            refine ca_i X (rn_s X [.long p1.toInt64, .long 0, .long 100] [] kw1079 (c_X8_isIn h) cal_yX8_isIn kw1078 (Nat.le_of_ble_eq_true rfl) rfl rfl (Nat.le_of_ble_eq_true rfl) dX8_mayBe_72) (fun M5 r6 h => ?_)
            exact aw_zret X dX8_mayBe_75 (nar_z h.1) h.2
          · have h := h.2.2.2.2.2 c0 c1 c2 c3 c4
            refine aw_tableOut (tgt := 76) X dX8_mayBe_1 (by have n0 := lv_neT (a := 0) c0 rfl; have n1 := lv_neT (a := 1) c1 rfl; have n2 := lv_neT (a := 2) c2 rfl; have n3 := lv_neT (a := 3) c3 rfl; have n4 := lv_neT (a := 4) c4 rfl; omega) (by decide) ?_
            refine aw_iconst (v := 0) X dX8_mayBe_76 (by decide) ?_
            exact aw_zret X dX8_mayBe_77 (by decide) h
def wp_X8_well (n : Nat)  (M : Mm) (p1 : Int32) (p2 : Int32) (K : Mm → Int32 → Prop) : Prop := wp_X8_mayBe n M p1 p2 (fun M1 r2 => (r2 = 0 → K M1 (-1000000001)) ∧ (¬ r2 = 0 → wp_X8_becomes n M1 (3 + p1) p2 (fun M3 r4 => K M3 r4)))
set_option maxHeartbeats 4000000 in
set_option maxRecDepth 100000 in
theorem c_X8_well {l : Launch} {E : En} {M : Mm} {p1 : Int32} {p2 : Int32} {K : Mm → Int32 → Prop}  (h : wp_X8_well (eN E)  M p1 p2 K) : Ctr l E yX8_well cX8_well 3 (some .int) 2 [.ref (eA E 74), .int p1, .int p2] M (QI E K) := by
  refine Ctr.of (by decide +kernel) (Nat.le_of_ble_eq_true rfl) (fun g A hgl X => ?_)
  subst hgl
  have X : CX g cX8_well RX8 (some .int) 2 E A 3 := X
  show AW g E A 3 _ 0 [(0, .ref (eA E 74)), (1, .int p1), (2, .int p2)] [] M
  unfold wp_X8_well at h
  refine aw_iload_n X dX8_well_0 1 rfl ?_
  refine aw_iload_n X dX8_well_1 2 rfl ?_
  refine ca_i X (rn_s X [.int p1, .int p2] [] kw1167 (c_X8_mayBe h) cal_yX8_mayBe kw1166 (Nat.le_of_ble_eq_true rfl) rfl rfl (Nat.le_of_ble_eq_true rfl) dX8_well_2) (fun M1 r2 h => ?_)
  refine aw_if_eq (tgt := 19) X dX8_well_5 (by decide) (fun c => ?_) (fun c => ?_)
  · have h := h.1 c
    refine aw_ldc (v := (-1000000001)) X dX8_well_19 kw1084 ?_
    exact aw_iret X dX8_well_21 h
  · have h := h.2 c
    refine aw_aload_n X dX8_well_8 0 rfl ?_
    refine aw_iconst (v := 3) X dX8_well_9 (by decide) ?_
    refine aw_iload_n X dX8_well_10 1 rfl ?_
    refine aw_iadd X dX8_well_11 ?_
    refine aw_iload_n X dX8_well_12 2 rfl ?_
    refine ca_i X (rn_v X [.int (3 + p1), .int p2] [] (X.lt (by decide)) (sh_12 (rfl : tp 74 = 12) _) rfl rfl kw1155 kw65 (c_X8_becomes h) cal_yX8_becomes kw1153 (Nat.le_of_ble_eq_true rfl) rfl rfl (Nat.le_of_ble_eq_true rfl) dX8_well_13) (fun M3 r4 h => ?_)
    refine aw_goto (tgt := 21) X dX8_well_16 (by decide) ?_
    exact aw_iret X dX8_well_21 h
def wl_X8_deal_17 (n : Nat) (p1 : Int32)  (K : Mm → Int32 → Prop) : Nat → Mm → Int32 → Prop
  | 0, _, _ => False
  | k + 1, M, x2 => (p1 ≤ x2 → K M x2) ∧ (¬ p1 ≤ x2 → (8 ≤ (M 75 0) → K M x2) ∧ (¬ 8 ≤ (M 75 0) → wp_X8_drawn n M (fun M3 r4 => ∀ v5 : Int32, v5 = jrem r4 6 → wp_X8_drawn n M3 (fun M6 r7 => ∀ v8 : Int32, v8 = jrem r7 60 → wp_X8_drawn n M6 (fun M9 r10 => ∀ v11 : Int32, v11 = 1 + (jrem r10 30) → wp_X8_drawn n M9 (fun M12 r13 => wp_X8_comes n M12 v5 v8 v11 (jrem r13 10) (fun M14 => ∀ v16 : Int32, v16 = x2 + 1 → wl_X8_deal_17 n p1 K k M14 v16)))))))
set_option maxHeartbeats 4000000 in
set_option maxRecDepth 100000 in
theorem lw_X8_deal_17 {g : Gm} {E : En} {A : Nat → Prop} {K : Mm → Int32 → Prop} (X : CX g cX8_deal RX8 (some .int) 1 E A 6) (p1 : Int32)   : ∀ (k : Nat) (M : Mm) (x2 : Int32), wl_X8_deal_17 (eN E) p1  K k M x2 → AW g E A 6 (MQ (gB g) (QI E K A) (gA g) (gS g) (gk g) (gn g) A) 17 [(0, .ref (eA E 74)), (1, .int p1), (2, .int x2)] [] M := by
  intro k
  induction k with
  | zero => intro M x2 h; exact h.elim
  | succ k ih =>
    intro M x2 h
    rw [wl_X8_deal_17] at h
    refine aw_iload_n X dX8_deal_17 2 rfl ?_
    refine aw_iload_n X dX8_deal_18 1 rfl ?_
    refine aw_icmp_ge (tgt := 83) X dX8_deal_19 (by decide) (fun c => ?_) (fun c => ?_)
    · have h := h.1 c
      refine aw_iload_n X dX8_deal_83 2 rfl ?_
      exact aw_iret X dX8_deal_84 h
    · have h := h.2 c
      refine aw_aload_n X dX8_deal_22 0 rfl ?_
      refine aw_get X dX8_deal_23 (X.lt (by decide)) (sh_12 (rfl : tp 74 = 12) _) fl_RX8_7 rfl ?_
      refine aw_iconst (v := 0) X dX8_deal_26 (by decide) ?_
      refine aw_iald X dX8_deal_27 (X.lt (by decide)) (sh_ia 3108 (rfl : tp 75 = 4108) _) (by unfold vp_in; decide) ?_
      refine aw_bipush (v := 8) X dX8_deal_28 (by decide) ?_
      refine aw_icmp_ge (tgt := 83) X dX8_deal_30 (by decide) (fun c => ?_) (fun c => ?_)
      · have h := h.1 c
        refine aw_iload_n X dX8_deal_83 2 rfl ?_
        exact aw_iret X dX8_deal_84 h
      · have h := h.2 c
        refine aw_aload_n X dX8_deal_33 0 rfl ?_
        refine ca_i X (rn_v X [] [] (X.lt (by decide)) (sh_12 (rfl : tp 74 = 12) _) rfl rfl kw1179 kw66 (c_X8_drawn h) cal_yX8_drawn kw1177 (Nat.le_of_ble_eq_true rfl) rfl rfl (Nat.le_of_ble_eq_true rfl) dX8_deal_34) (fun M3 r4 h => ?_)
        refine aw_bipush (v := 6) X dX8_deal_37 (by decide) ?_
        refine aw_irem X dX8_deal_39 (by decide) ?_
        refine aw_top (fun v5 ev5 => ?_)
        have h := h v5 ev5
        refine aw_istore_n (lv' := [(3, .int v5), (0, .ref (eA E 74)), (1, .int p1), (2, .int x2)]) X dX8_deal_40 (by decide) rfl ?_
        refine aw_aload_n X dX8_deal_41 1 rfl ?_
        refine ca_i X (rn_v X [] [] (X.lt (by decide)) (sh_12 (rfl : tp 74 = 12) _) rfl rfl kw1179 kw66 (c_X8_drawn h) cal_yX8_drawn kw1177 (Nat.le_of_ble_eq_true rfl) rfl rfl (Nat.le_of_ble_eq_true rfl) dX8_deal_42) (fun M6 r7 h => ?_)
        refine aw_bipush (v := 60) X dX8_deal_45 (by decide) ?_
        refine aw_irem X dX8_deal_47 (by decide) ?_
        refine aw_top (fun v8 ev8 => ?_)
        have h := h v8 ev8
        refine aw_istore (lv' := [(4, .int v8), (3, .int v5), (0, .ref (eA E 74)), (1, .int p1), (2, .int x2)]) X dX8_deal_48 (by decide) rfl ?_
        refine aw_iconst (v := 1) X dX8_deal_50 (by decide) ?_
        refine aw_aload_n X dX8_deal_51 2 rfl ?_
        refine ca_i X (rn_v X [] [.int 1] (X.lt (by decide)) (sh_12 (rfl : tp 74 = 12) _) rfl rfl kw1179 kw66 (c_X8_drawn h) cal_yX8_drawn kw1177 (Nat.le_of_ble_eq_true rfl) rfl rfl (Nat.le_of_ble_eq_true rfl) dX8_deal_52) (fun M9 r10 h => ?_)
        refine aw_bipush (v := 30) X dX8_deal_55 (by decide) ?_
        refine aw_irem X dX8_deal_57 (by decide) ?_
        refine aw_iadd X dX8_deal_58 ?_
        refine aw_top (fun v11 ev11 => ?_)
        have h := h v11 ev11
        refine aw_istore (lv' := [(5, .int v11), (4, .int v8), (3, .int v5), (0, .ref (eA E 74)), (1, .int p1), (2, .int x2)]) X dX8_deal_59 (by decide) rfl ?_
        refine aw_aload_n X dX8_deal_61 3 rfl ?_
        refine aw_iload_n X dX8_deal_62 2 rfl ?_
        refine aw_iload X dX8_deal_63 1 rfl ?_
        refine aw_iload X dX8_deal_65 0 rfl ?_
        refine aw_aload_n X dX8_deal_67 3 rfl ?_
        refine ca_i X (rn_v X [] [.int v11, .int v8, .int v5, .ref (eA E 74)] (X.lt (by decide)) (sh_12 (rfl : tp 74 = 12) _) rfl rfl kw1179 kw66 (c_X8_drawn h) cal_yX8_drawn kw1177 (Nat.le_of_ble_eq_true rfl) rfl rfl (Nat.le_of_ble_eq_true rfl) dX8_deal_68) (fun M12 r13 h => ?_)
        refine aw_bipush (v := 10) X dX8_deal_71 (by decide) ?_
        refine aw_irem X dX8_deal_73 (by decide) ?_
        refine ca_v X (rn_v X [.int v5, .int v8, .int v11, .int (jrem r13 10)] [] (X.lt (by decide)) (sh_12 (rfl : tp 74 = 12) _) rfl rfl kw1088 kw54 (c_X8_comes h) cal_yX8_comes kw1086 (Nat.le_of_ble_eq_true rfl) rfl rfl (Nat.le_of_ble_eq_true rfl) dX8_deal_74) (fun M14 h => ?_)
        obtain ⟨v16, ev16⟩ : ∃ y : Int32, y = x2 + 1 := ⟨_, rfl⟩
        have h := h v16 ev16
        refine aw_iinc (v := v16) (lv' := [(2, .int v16), (5, .int v11), (4, .int v8), (3, .int v5), (0, .ref (eA E 74)), (1, .int p1)]) X dX8_deal_77 5 rfl (by rw [ev16]; rfl) (by decide) rfl ?_
        refine aw_goto (tgt := 17) X dX8_deal_80 (by decide) ?_
        exact aw_sub [4, 5, 0] rfl (ih _ _ h)
def wp_X8_deal (n : Nat)  (M : Mm) (p1 : Int32) (K : Mm → Int32 → Prop) : Prop := wp_X8_isIn n M p1.toInt64 1 8 (fun M1 r2 => (¬ r2 = 0 → ∃ kf : Nat, wl_X8_deal_17 n p1 K kf M1 0) ∧ (r2 = 0 → K M1 (-1000000001)))
set_option maxHeartbeats 4000000 in
set_option maxRecDepth 100000 in
theorem c_X8_deal {l : Launch} {E : En} {M : Mm} {p1 : Int32} {K : Mm → Int32 → Prop}  (h : wp_X8_deal (eN E)  M p1 K) : Ctr l E yX8_deal cX8_deal 6 (some .int) 1 [.ref (eA E 74), .int p1] M (QI E K) := by
  refine Ctr.of (by decide +kernel) (Nat.le_of_ble_eq_true rfl) (fun g A hgl X => ?_)
  subst hgl
  have X : CX g cX8_deal RX8 (some .int) 1 E A 6 := X
  show AW g E A 6 _ 0 [(0, .ref (eA E 74)), (1, .int p1)] [] M
  unfold wp_X8_deal at h
  refine aw_iload_n X dX8_deal_0 1 rfl ?_
  refine aw_i2l X dX8_deal_1 ?_
  refine aw_lconst (v := 1) X dX8_deal_2 (by decide) ?_
  refine aw_ldc2_w (v := 8) X dX8_deal_3 kw1176 ?_
  refine ca_i X (rn_s X [.long p1.toInt64, .long 1, .long 8] [] kw1079 (c_X8_isIn h) cal_yX8_isIn kw1078 (Nat.le_of_ble_eq_true rfl) rfl rfl (Nat.le_of_ble_eq_true rfl) dX8_deal_6) (fun M1 r2 h => ?_)
  refine aw_if_ne (tgt := 15) X dX8_deal_9 (by decide) (fun c => ?_) (fun c => ?_)
  · have h := h.1 c
    refine aw_iconst (v := 0) X dX8_deal_15 (by decide) ?_
    refine aw_istore_n (lv' := [(2, .int 0), (0, .ref (eA E 74)), (1, .int p1)]) X dX8_deal_16 (by decide) rfl ?_
    obtain ⟨kf, h⟩ := h
    exact aw_sub [1, 2, 0] rfl (lw_X8_deal_17 X p1  kf _ _ h)
  · have h := h.2 c
    refine aw_ldc (v := (-1000000001)) X dX8_deal_12 kw1084 ?_
    exact aw_iret X dX8_deal_14 h
def wp_X8_seed (n : Nat)  (M : Mm) (p1 : Int32) (K : Mm → Int32 → Prop) : Prop := wp_X8_becomes n M 10 p1 (fun M1 r2 => K M1 r2)
set_option maxHeartbeats 4000000 in
set_option maxRecDepth 100000 in
theorem c_X8_seed {l : Launch} {E : En} {M : Mm} {p1 : Int32} {K : Mm → Int32 → Prop}  (h : wp_X8_seed (eN E)  M p1 K) : Ctr l E yX8_seed cX8_seed 2 (some .int) 1 [.ref (eA E 74), .int p1] M (QI E K) := by
  refine Ctr.of (by decide +kernel) (Nat.le_of_ble_eq_true rfl) (fun g A hgl X => ?_)
  subst hgl
  have X : CX g cX8_seed RX8 (some .int) 1 E A 2 := X
  show AW g E A 2 _ 0 [(0, .ref (eA E 74)), (1, .int p1)] [] M
  unfold wp_X8_seed at h
  refine aw_aload_n X dX8_seed_0 0 rfl ?_
  refine aw_bipush (v := 10) X dX8_seed_1 (by decide) ?_
  refine aw_iload_n X dX8_seed_3 1 rfl ?_
  refine ca_i X (rn_v X [.int 10, .int p1] [] (X.lt (by decide)) (sh_12 (rfl : tp 74 = 12) _) rfl rfl kw1155 kw65 (c_X8_becomes h) cal_yX8_becomes kw1153 (Nat.le_of_ble_eq_true rfl) rfl rfl (Nat.le_of_ble_eq_true rfl) dX8_seed_4) (fun M1 r2 h => ?_)
  exact aw_iret X dX8_seed_7 h
def wp_X8_goesBack (n : Nat)  (M : Mm) (p1 : Int32) (K : Mm → Prop) : Prop := wp_X8_sets n M p1 5 3 (fun M1 => wp_X8_of n M1 p1 2 (fun M3 r4 => wp_X8_sets n M3 p1 6 r4 (fun M5 => K M5)))
set_option maxHeartbeats 4000000 in
set_option maxRecDepth 100000 in
theorem c_X8_goesBack {l : Launch} {E : En} {M : Mm} {p1 : Int32} {K : Mm → Prop}  (h : wp_X8_goesBack (eN E)  M p1 K) : Ctr l E yX8_goesBack cX8_goesBack 2 none 1 [.ref (eA E 74), .int p1] M (QV E K) := by
  refine Ctr.of (by decide +kernel) (Nat.le_of_ble_eq_true rfl) (fun g A hgl X => ?_)
  subst hgl
  have X : CX g cX8_goesBack RX8 none 1 E A 2 := X
  show AW g E A 2 _ 0 [(0, .ref (eA E 74)), (1, .int p1)] [] M
  unfold wp_X8_goesBack at h
  refine aw_aload_n X dX8_goesBack_0 0 rfl ?_
  refine aw_iload_n X dX8_goesBack_1 1 rfl ?_
  refine aw_iconst (v := 5) X dX8_goesBack_2 (by decide) ?_
  refine aw_iconst (v := 3) X dX8_goesBack_3 (by decide) ?_
  refine ca_v X (rn_v X [.int p1, .int 5, .int 3] [] (X.lt (by decide)) (sh_12 (rfl : tp 74 = 12) _) rfl rfl kw1202 kw69 (c_X8_sets h) cal_yX8_sets kw1200 (Nat.le_of_ble_eq_true rfl) rfl rfl (Nat.le_of_ble_eq_true rfl) dX8_goesBack_4) (fun M1 h => ?_)
  refine aw_aload_n X dX8_goesBack_7 0 rfl ?_
  refine aw_iload_n X dX8_goesBack_8 1 rfl ?_
  refine aw_bipush (v := 6) X dX8_goesBack_9 (by decide) ?_
  refine aw_aload_n X dX8_goesBack_11 0 rfl ?_
  refine aw_iload_n X dX8_goesBack_12 1 rfl ?_
  refine aw_iconst (v := 2) X dX8_goesBack_13 (by decide) ?_
  refine ca_i X (rn_v X [.int p1, .int 2] [.int 6, .int p1, .ref (eA E 74)] (X.lt (by decide)) (sh_12 (rfl : tp 74 = 12) _) rfl rfl kw1101 kw56 (c_X8_of h) cal_yX8_of kw1099 (Nat.le_of_ble_eq_true rfl) rfl rfl (Nat.le_of_ble_eq_true rfl) dX8_goesBack_14) (fun M3 r4 h => ?_)
  refine ca_v X (rn_v X [.int p1, .int 6, .int r4] [] (X.lt (by decide)) (sh_12 (rfl : tp 74 = 12) _) rfl rfl kw1202 kw69 (c_X8_sets h) cal_yX8_sets kw1200 (Nat.le_of_ble_eq_true rfl) rfl rfl (Nat.le_of_ble_eq_true rfl) dX8_goesBack_17) (fun M5 h => ?_)
  exact aw_vret X dX8_goesBack_20 h
def wb_X8_isThere_72 (n : Nat) (p1 : Int32)  (K : Mm → Prop) (M : Mm) (s0 : Int32) : Prop := ∀ M20 : Mm, M20 = wr M 75 5 ((M 75 5) - s0) → wp_X8_of n M20 p1 4 (fun M21 r22 => wp_X8_sets n M21 p1 4 (r22 - s0) (fun M23 => wp_X8_of n M23 p1 9 (fun M25 r26 => wp_X8_sets n M25 p1 9 (r26 + s0) (fun M27 => wp_X8_goesBack n M27 p1 (fun M29 => K M29)))))
set_option maxHeartbeats 4000000 in
set_option maxRecDepth 100000 in
theorem lb_X8_isThere_72 {g : Gm} {E : En} {A : Nat → Prop} {K : Mm → Prop} (X : CX g cX8_isThere RX8 none 3 E A 3) (p1 : Int32)   (M : Mm) (s0 : Int32) (h : wb_X8_isThere_72 (eN E) p1  K M s0) : AW g E A 3 (MQ (gB g) (QV E K A) (gA g) (gS g) (gk g) (gn g) A) 72 [(0, .ref (eA E 74)), (1, .int p1)] [.int s0] M := by
  unfold wb_X8_isThere_72 at h
  refine aw_istore_n (lv' := [(2, .int s0), (0, .ref (eA E 74)), (1, .int p1)]) X dX8_isThere_72 (by decide) rfl ?_
  refine aw_aload_n X dX8_isThere_73 1 rfl ?_
  refine aw_get X dX8_isThere_74 (X.lt (by decide)) (sh_12 (rfl : tp 74 = 12) _) fl_RX8_7 rfl ?_
  refine aw_iconst (v := 5) X dX8_isThere_77 (by decide) ?_
  refine aw_dup2 X dX8_isThere_78 rfl rfl ?_
  refine aw_iald X dX8_isThere_79 (X.lt (by decide)) (sh_ia 3108 (rfl : tp 75 = 4108) _) (by unfold vp_in; decide) ?_
  refine aw_iload_n X dX8_isThere_80 0 rfl ?_
  refine aw_isub X dX8_isThere_81 ?_
  refine aw_iast X dX8_isThere_82 (X.lt (by decide)) (sh_ia 3108 (rfl : tp 75 = 4108) _) (sh_ia 3108 (rfl : tp 75 = 4108) _) (by unfold vp_in; decide) (fun M20 eM20 => ?_)
  have h := h M20 eM20
  refine aw_aload_n X dX8_isThere_83 1 rfl ?_
  refine aw_iload_n X dX8_isThere_84 2 rfl ?_
  refine aw_iconst (v := 4) X dX8_isThere_85 (by decide) ?_
  refine aw_aload_n X dX8_isThere_86 1 rfl ?_
  refine aw_iload_n X dX8_isThere_87 2 rfl ?_
  refine aw_iconst (v := 4) X dX8_isThere_88 (by decide) ?_
  refine ca_i X (rn_v X [.int p1, .int 4] [.int 4, .int p1, .ref (eA E 74)] (X.lt (by decide)) (sh_12 (rfl : tp 74 = 12) _) rfl rfl kw1101 kw56 (c_X8_of h) cal_yX8_of kw1099 (Nat.le_of_ble_eq_true rfl) rfl rfl (Nat.le_of_ble_eq_true rfl) dX8_isThere_89) (fun M21 r22 h => ?_)
  refine aw_iload_n X dX8_isThere_92 0 rfl ?_
  refine aw_isub X dX8_isThere_93 ?_
  refine ca_v X (rn_v X [.int p1, .int 4, .int (r22 - s0)] [] (X.lt (by decide)) (sh_12 (rfl : tp 74 = 12) _) rfl rfl kw1202 kw69 (c_X8_sets h) cal_yX8_sets kw1200 (Nat.le_of_ble_eq_true rfl) rfl rfl (Nat.le_of_ble_eq_true rfl) dX8_isThere_94) (fun M23 h => ?_)
  refine aw_aload_n X dX8_isThere_97 1 rfl ?_
  refine aw_iload_n X dX8_isThere_98 2 rfl ?_
  refine aw_bipush (v := 9) X dX8_isThere_99 (by decide) ?_
  refine aw_aload_n X dX8_isThere_101 1 rfl ?_
  refine aw_iload_n X dX8_isThere_102 2 rfl ?_
  refine aw_bipush (v := 9) X dX8_isThere_103 (by decide) ?_
  refine ca_i X (rn_v X [.int p1, .int 9] [.int 9, .int p1, .ref (eA E 74)] (X.lt (by decide)) (sh_12 (rfl : tp 74 = 12) _) rfl rfl kw1101 kw56 (c_X8_of h) cal_yX8_of kw1099 (Nat.le_of_ble_eq_true rfl) rfl rfl (Nat.le_of_ble_eq_true rfl) dX8_isThere_105) (fun M25 r26 h => ?_)
  refine aw_iload_n X dX8_isThere_108 0 rfl ?_
  refine aw_iadd X dX8_isThere_109 ?_
  refine ca_v X (rn_v X [.int p1, .int 9, .int (r26 + s0)] [] (X.lt (by decide)) (sh_12 (rfl : tp 74 = 12) _) rfl rfl kw1202 kw69 (c_X8_sets h) cal_yX8_sets kw1200 (Nat.le_of_ble_eq_true rfl) rfl rfl (Nat.le_of_ble_eq_true rfl) dX8_isThere_110) (fun M27 h => ?_)
  refine aw_aload_n X dX8_isThere_113 1 rfl ?_
  refine aw_iload_n X dX8_isThere_114 2 rfl ?_
  refine ca_v X (rn_v X [.int p1] [] (X.lt (by decide)) (sh_12 (rfl : tp 74 = 12) _) rfl rfl kw1218 kw73 (c_X8_goesBack h) cal_yX8_goesBack kw1216 (Nat.le_of_ble_eq_true rfl) rfl rfl (Nat.le_of_ble_eq_true rfl) dX8_isThere_115) (fun M29 h => ?_)
  refine aw_goto (tgt := 159) X dX8_isThere_118 (by decide) ?_
  exact aw_vret X dX8_isThere_159 h
def wb_X8_isThere_51 (n : Nat) (p1 : Int32)  (K : Mm → Prop) (M : Mm) (s0 : Int32) : Prop := (s0 ≤ (M 75 5) → wb_X8_isThere_72 n p1 K M s0) ∧ (¬ s0 ≤ (M 75 5) → wb_X8_isThere_72 n p1 K M (M 75 5))
set_option maxHeartbeats 4000000 in
set_option maxRecDepth 100000 in
theorem lb_X8_isThere_51 {g : Gm} {E : En} {A : Nat → Prop} {K : Mm → Prop} (X : CX g cX8_isThere RX8 none 3 E A 3) (p1 : Int32)   (M : Mm) (s0 : Int32) (h : wb_X8_isThere_51 (eN E) p1  K M s0) : AW g E A 3 (MQ (gB g) (QV E K A) (gA g) (gS g) (gk g) (gn g) A) 51 [(0, .ref (eA E 74)), (1, .int p1)] [.int s0] M := by
  unfold wb_X8_isThere_51 at h
  refine aw_istore_n (lv' := [(2, .int s0), (0, .ref (eA E 74)), (1, .int p1)]) X dX8_isThere_51 (by decide) rfl ?_
  refine aw_aload_n X dX8_isThere_52 1 rfl ?_
  refine aw_get X dX8_isThere_53 (X.lt (by decide)) (sh_12 (rfl : tp 74 = 12) _) fl_RX8_7 rfl ?_
  refine aw_iconst (v := 5) X dX8_isThere_56 (by decide) ?_
  refine aw_iald X dX8_isThere_57 (X.lt (by decide)) (sh_ia 3108 (rfl : tp 75 = 4108) _) (by unfold vp_in; decide) ?_
  refine aw_iload_n X dX8_isThere_58 0 rfl ?_
  refine aw_icmp_ge (tgt := 71) X dX8_isThere_59 (by decide) (fun c => ?_) (fun c => ?_)
  · have h := h.1 c
    refine aw_iload_n X dX8_isThere_71 0 rfl ?_
    exact aw_sub [1, 2] rfl (lb_X8_isThere_72 X p1  _ _ h)
  · have h := h.2 c
    refine aw_aload_n X dX8_isThere_62 1 rfl ?_
    refine aw_get X dX8_isThere_63 (X.lt (by decide)) (sh_12 (rfl : tp 74 = 12) _) fl_RX8_7 rfl ?_
    refine aw_iconst (v := 5) X dX8_isThere_66 (by decide) ?_
    refine aw_iald X dX8_isThere_67 (X.lt (by decide)) (sh_ia 3108 (rfl : tp 75 = 4108) _) (by unfold vp_in; decide) ?_
    refine aw_goto (tgt := 72) X dX8_isThere_68 (by decide) ?_
    exact aw_sub [1, 2] rfl (lb_X8_isThere_72 X p1  _ _ h)
def wb_X8_isThere_121 (n : Nat) (p1 : Int32)  (K : Mm → Prop) (M : Mm)  : Prop := wp_X8_stays n M p1 (fun M10 r11 => (r11 ≤ 0 → wp_X8_goesBack n M10 p1 (fun M12 => wp_X8_more n M12 p1 10 (fun M14 => K M14))) ∧ (¬ r11 ≤ 0 → wp_X8_sets n M10 p1 5 2 (fun M16 => wp_X8_sets n M16 p1 7 0 (fun M18 => K M18))))
set_option maxHeartbeats 4000000 in
set_option maxRecDepth 100000 in
theorem lb_X8_isThere_121 {g : Gm} {E : En} {A : Nat → Prop} {K : Mm → Prop} (X : CX g cX8_isThere RX8 none 3 E A 3) (p1 : Int32)   (M : Mm)  (h : wb_X8_isThere_121 (eN E) p1  K M ) : AW g E A 3 (MQ (gB g) (QV E K A) (gA g) (gS g) (gk g) (gn g) A) 121 [(0, .ref (eA E 74)), (1, .int p1)] [] M := by
  unfold wb_X8_isThere_121 at h
  refine aw_aload_n X dX8_isThere_121 0 rfl ?_
  refine aw_iload_n X dX8_isThere_122 1 rfl ?_
  refine ca_i X (rn_v X [.int p1] [] (X.lt (by decide)) (sh_12 (rfl : tp 74 = 12) _) rfl rfl kw1109 kw58 (c_X8_stays h) cal_yX8_stays kw1107 (Nat.le_of_ble_eq_true rfl) rfl rfl (Nat.le_of_ble_eq_true rfl) dX8_isThere_123) (fun M10 r11 h => ?_)
  refine aw_if_le (tgt := 147) X dX8_isThere_126 (by decide) (fun c => ?_) (fun c => ?_)
  · have h := h.1 c
    refine aw_aload_n X dX8_isThere_147 0 rfl ?_
    refine aw_iload_n X dX8_isThere_148 1 rfl ?_
    refine ca_v X (rn_v X [.int p1] [] (X.lt (by decide)) (sh_12 (rfl : tp 74 = 12) _) rfl rfl kw1218 kw73 (c_X8_goesBack h) cal_yX8_goesBack kw1216 (Nat.le_of_ble_eq_true rfl) rfl rfl (Nat.le_of_ble_eq_true rfl) dX8_isThere_149) (fun M12 h => ?_)
    refine aw_aload_n X dX8_isThere_152 0 rfl ?_
    refine aw_iload_n X dX8_isThere_153 1 rfl ?_
    refine aw_bipush (v := 10) X dX8_isThere_154 (by decide) ?_
    refine ca_v X (rn_v X [.int p1, .int 10] [] (X.lt (by decide)) (sh_12 (rfl : tp 74 = 12) _) rfl rfl kw1206 kw70 (c_X8_more h) cal_yX8_more kw1204 (Nat.le_of_ble_eq_true rfl) rfl rfl (Nat.le_of_ble_eq_true rfl) dX8_isThere_156) (fun M14 h => ?_)
    exact aw_vret X dX8_isThere_159 h
  · have h := h.2 c
    refine aw_aload_n X dX8_isThere_129 0 rfl ?_
    refine aw_iload_n X dX8_isThere_130 1 rfl ?_
    refine aw_iconst (v := 5) X dX8_isThere_131 (by decide) ?_
    refine aw_iconst (v := 2) X dX8_isThere_132 (by decide) ?_
    refine ca_v X (rn_v X [.int p1, .int 5, .int 2] [] (X.lt (by decide)) (sh_12 (rfl : tp 74 = 12) _) rfl rfl kw1202 kw69 (c_X8_sets h) cal_yX8_sets kw1200 (Nat.le_of_ble_eq_true rfl) rfl rfl (Nat.le_of_ble_eq_true rfl) dX8_isThere_133) (fun M16 h => ?_)
    refine aw_aload_n X dX8_isThere_136 0 rfl ?_
    refine aw_iload_n X dX8_isThere_137 1 rfl ?_
    refine aw_bipush (v := 7) X dX8_isThere_138 (by decide) ?_
    refine aw_iconst (v := 0) X dX8_isThere_140 (by decide) ?_
    refine ca_v X (rn_v X [.int p1, .int 7, .int 0] [] (X.lt (by decide)) (sh_12 (rfl : tp 74 = 12) _) rfl rfl kw1202 kw69 (c_X8_sets h) cal_yX8_sets kw1200 (Nat.le_of_ble_eq_true rfl) rfl rfl (Nat.le_of_ble_eq_true rfl) dX8_isThere_141) (fun M18 h => ?_)
    refine aw_goto (tgt := 159) X dX8_isThere_144 (by decide) ?_
    exact aw_vret X dX8_isThere_159 h
def wp_X8_isThere (n : Nat)  (M : Mm) (p1 : Int32) (K : Mm → Prop) : Prop := wp_X8_more n M p1 11 (fun M1 => wp_X8_standing n M1 (fun M3 r4 => (¬ r4 = 0 → wb_X8_isThere_121 n p1 K M3 ) ∧ (r4 = 0 → ((M3 75 5) ≤ 0 → wb_X8_isThere_121 n p1 K M3 ) ∧ (¬ (M3 75 5) ≤ 0 → ∀ v5 : Int32, v5 = M3 75 6 → wp_X8_of n M3 p1 4 (fun M6 r7 => (v5 ≤ r7 → wb_X8_isThere_51 n p1 K M6 v5) ∧ (¬ v5 ≤ r7 → wp_X8_of n M6 p1 4 (fun M8 r9 => wb_X8_isThere_51 n p1 K M8 r9)))))))
set_option maxHeartbeats 4000000 in
set_option maxRecDepth 100000 in
theorem c_X8_isThere {l : Launch} {E : En} {M : Mm} {p1 : Int32} {K : Mm → Prop}  (h : wp_X8_isThere (eN E)  M p1 K) : Ctr l E yX8_isThere cX8_isThere 3 none 3 [.ref (eA E 74), .int p1] M (QV E K) := by
  refine Ctr.of (by decide +kernel) (Nat.le_of_ble_eq_true rfl) (fun g A hgl X => ?_)
  subst hgl
  have X : CX g cX8_isThere RX8 none 3 E A 3 := X
  show AW g E A 3 _ 0 [(0, .ref (eA E 74)), (1, .int p1)] [] M
  unfold wp_X8_isThere at h
  refine aw_aload_n X dX8_isThere_0 0 rfl ?_
  refine aw_iload_n X dX8_isThere_1 1 rfl ?_
  refine aw_bipush (v := 11) X dX8_isThere_2 (by decide) ?_
  refine ca_v X (rn_v X [.int p1, .int 11] [] (X.lt (by decide)) (sh_12 (rfl : tp 74 = 12) _) rfl rfl kw1206 kw70 (c_X8_more h) cal_yX8_more kw1204 (Nat.le_of_ble_eq_true rfl) rfl rfl (Nat.le_of_ble_eq_true rfl) dX8_isThere_4) (fun M1 h => ?_)
  refine aw_aload_n X dX8_isThere_7 0 rfl ?_
  refine ca_i X (rn_v X [] [] (X.lt (by decide)) (sh_12 (rfl : tp 74 = 12) _) rfl rfl kw1121 kw61 (c_X8_standing h) cal_yX8_standing kw1119 (Nat.le_of_ble_eq_true rfl) rfl rfl (Nat.le_of_ble_eq_true rfl) dX8_isThere_8) (fun M3 r4 h => ?_)
  refine aw_if_ne (tgt := 121) X dX8_isThere_11 (by decide) (fun c => ?_) (fun c => ?_)
  · have h := h.1 c
    exact aw_sub [0, 1] rfl (lb_X8_isThere_121 X p1  _ h)
  · have h := h.2 c
    refine aw_aload_n X dX8_isThere_14 0 rfl ?_
    refine aw_get X dX8_isThere_15 (X.lt (by decide)) (sh_12 (rfl : tp 74 = 12) _) fl_RX8_7 rfl ?_
    refine aw_iconst (v := 5) X dX8_isThere_18 (by decide) ?_
    refine aw_iald X dX8_isThere_19 (X.lt (by decide)) (sh_ia 3108 (rfl : tp 75 = 4108) _) (by unfold vp_in; decide) ?_
    refine aw_if_le (tgt := 121) X dX8_isThere_20 (by decide) (fun c => ?_) (fun c => ?_)
    · have h := h.1 c
      exact aw_sub [0, 1] rfl (lb_X8_isThere_121 X p1  _ h)
    · have h := h.2 c
      refine aw_aload_n X dX8_isThere_23 0 rfl ?_
      refine aw_get X dX8_isThere_24 (X.lt (by decide)) (sh_12 (rfl : tp 74 = 12) _) fl_RX8_7 rfl ?_
      refine aw_bipush (v := 6) X dX8_isThere_27 (by decide) ?_
      refine aw_iald X dX8_isThere_29 (X.lt (by decide)) (sh_ia 3108 (rfl : tp 75 = 4108) _) (by unfold vp_in; decide) ?_
      refine aw_top (fun v5 ev5 => ?_)
      have h := h v5 ev5
      refine aw_istore_n (lv' := [(2, .int v5), (0, .ref (eA E 74)), (1, .int p1)]) X dX8_isThere_30 (by decide) rfl ?_
      refine aw_aload_n X dX8_isThere_31 1 rfl ?_
      refine aw_iload_n X dX8_isThere_32 2 rfl ?_
      refine aw_iconst (v := 4) X dX8_isThere_33 (by decide) ?_
      refine ca_i X (rn_v X [.int p1, .int 4] [] (X.lt (by decide)) (sh_12 (rfl : tp 74 = 12) _) rfl rfl kw1101 kw56 (c_X8_of h) cal_yX8_of kw1099 (Nat.le_of_ble_eq_true rfl) rfl rfl (Nat.le_of_ble_eq_true rfl) dX8_isThere_34) (fun M6 r7 h => ?_)
      refine aw_iload_n X dX8_isThere_37 0 rfl ?_
      refine aw_icmp_ge (tgt := 50) X dX8_isThere_38 (by decide) (fun c => ?_) (fun c => ?_)
      · have h := h.1 c
        refine aw_iload_n X dX8_isThere_50 0 rfl ?_
        exact aw_sub [1, 2] rfl (lb_X8_isThere_51 X p1  _ _ h)
      · have h := h.2 c
        refine aw_aload_n X dX8_isThere_41 1 rfl ?_
        refine aw_iload_n X dX8_isThere_42 2 rfl ?_
        refine aw_iconst (v := 4) X dX8_isThere_43 (by decide) ?_
        refine ca_i X (rn_v X [.int p1, .int 4] [] (X.lt (by decide)) (sh_12 (rfl : tp 74 = 12) _) rfl rfl kw1101 kw56 (c_X8_of h) cal_yX8_of kw1099 (Nat.le_of_ble_eq_true rfl) rfl rfl (Nat.le_of_ble_eq_true rfl) dX8_isThere_44) (fun M8 r9 h => ?_)
        refine aw_goto (tgt := 51) X dX8_isThere_47 (by decide) ?_
        exact aw_sub [1, 2] rfl (lb_X8_isThere_51 X p1  _ _ h)
def wb_X8_leaveHome_60 (n : Nat)  (Z2 : Mm → Int32 → Prop) (K : Mm → Prop) (M : Mm) (x1 : Int32) (s0 : Int32) : Prop := (s0 = 0 → wp_X8_more n M x1 8 (fun M10 => ∀ v12 : Int32, v12 = x1 + 1 → Z2 M10 v12)) ∧ (¬ s0 = 0 → wp_X8_sets n M x1 5 1 (fun M13 => wp_X8_of n M13 x1 2 (fun M15 r16 => wp_X8_sets n M15 x1 6 r16 (fun M17 => ∀ v19 : Int32, v19 = x1 + 1 → Z2 M17 v19))))
set_option maxHeartbeats 4000000 in
set_option maxRecDepth 100000 in
theorem lb_X8_leaveHome_60 {g : Gm} {E : En} {A : Nat → Prop} {K : Mm → Prop} (X : CX g cX8_leaveHome RX8 none 4 E A 3)    {Z2 : Mm → Int32 → Prop} (hZ2 : ∀ (M : Mm) (x1 : Int32), Z2 M x1 → AW g E A 3 (MQ (gB g) (QV E K A) (gA g) (gS g) (gk g) (gn g) A) 2 [(0, .ref (eA E 74)), (1, .int x1)] [] M) (M : Mm) (x1 : Int32) (s0 : Int32) (h : wb_X8_leaveHome_60 (eN E)  Z2 K M x1 s0) : AW g E A 3 (MQ (gB g) (QV E K A) (gA g) (gS g) (gk g) (gn g) A) 60 [(0, .ref (eA E 74)), (1, .int x1)] [.int s0] M := by
  unfold wb_X8_leaveHome_60 at h
  refine aw_istore_n (lv' := [(2, .int s0), (0, .ref (eA E 74)), (1, .int x1)]) X dX8_leaveHome_60 (by decide) rfl ?_
  refine aw_iload_n X dX8_leaveHome_61 0 rfl ?_
  refine aw_if_eq (tgt := 88) X dX8_leaveHome_62 (by decide) (fun c => ?_) (fun c => ?_)
  · have h := h.1 c
    refine aw_aload_n X dX8_leaveHome_88 1 rfl ?_
    refine aw_iload_n X dX8_leaveHome_89 2 rfl ?_
    refine aw_bipush (v := 8) X dX8_leaveHome_90 (by decide) ?_
    refine ca_v X (rn_v X [.int x1, .int 8] [] (X.lt (by decide)) (sh_12 (rfl : tp 74 = 12) _) rfl rfl kw1206 kw70 (c_X8_more h) cal_yX8_more kw1204 (Nat.le_of_ble_eq_true rfl) rfl rfl (Nat.le_of_ble_eq_true rfl) dX8_leaveHome_92) (fun M10 h => ?_)
    obtain ⟨v12, ev12⟩ : ∃ y : Int32, y = x1 + 1 := ⟨_, rfl⟩
    have h := h v12 ev12
    refine aw_iinc (v := v12) (lv' := [(1, .int v12), (2, .int s0), (0, .ref (eA E 74))]) X dX8_leaveHome_95 2 rfl (by rw [ev12]; rfl) (by decide) rfl ?_
    refine aw_goto (tgt := 2) X dX8_leaveHome_98 (by decide) ?_
    exact aw_sub [2, 0] rfl (hZ2 _ _ h)
  · have h := h.2 c
    refine aw_aload_n X dX8_leaveHome_65 1 rfl ?_
    refine aw_iload_n X dX8_leaveHome_66 2 rfl ?_
    refine aw_iconst (v := 5) X dX8_leaveHome_67 (by decide) ?_
    refine aw_iconst (v := 1) X dX8_leaveHome_68 (by decide) ?_
    refine ca_v X (rn_v X [.int x1, .int 5, .int 1] [] (X.lt (by decide)) (sh_12 (rfl : tp 74 = 12) _) rfl rfl kw1202 kw69 (c_X8_sets h) cal_yX8_sets kw1200 (Nat.le_of_ble_eq_true rfl) rfl rfl (Nat.le_of_ble_eq_true rfl) dX8_leaveHome_69) (fun M13 h => ?_)
    refine aw_aload_n X dX8_leaveHome_72 1 rfl ?_
    refine aw_iload_n X dX8_leaveHome_73 2 rfl ?_
    refine aw_bipush (v := 6) X dX8_leaveHome_74 (by decide) ?_
    refine aw_aload_n X dX8_leaveHome_76 1 rfl ?_
    refine aw_iload_n X dX8_leaveHome_77 2 rfl ?_
    refine aw_iconst (v := 2) X dX8_leaveHome_78 (by decide) ?_
    refine ca_i X (rn_v X [.int x1, .int 2] [.int 6, .int x1, .ref (eA E 74)] (X.lt (by decide)) (sh_12 (rfl : tp 74 = 12) _) rfl rfl kw1101 kw56 (c_X8_of h) cal_yX8_of kw1099 (Nat.le_of_ble_eq_true rfl) rfl rfl (Nat.le_of_ble_eq_true rfl) dX8_leaveHome_79) (fun M15 r16 h => ?_)
    refine ca_v X (rn_v X [.int x1, .int 6, .int r16] [] (X.lt (by decide)) (sh_12 (rfl : tp 74 = 12) _) rfl rfl kw1202 kw69 (c_X8_sets h) cal_yX8_sets kw1200 (Nat.le_of_ble_eq_true rfl) rfl rfl (Nat.le_of_ble_eq_true rfl) dX8_leaveHome_82) (fun M17 h => ?_)
    refine aw_goto (tgt := 95) X dX8_leaveHome_85 (by decide) ?_
    obtain ⟨v19, ev19⟩ : ∃ y : Int32, y = x1 + 1 := ⟨_, rfl⟩
    have h := h v19 ev19
    refine aw_iinc (v := v19) (lv' := [(1, .int v19), (2, .int s0), (0, .ref (eA E 74))]) X dX8_leaveHome_95 2 rfl (by rw [ev19]; rfl) (by decide) rfl ?_
    refine aw_goto (tgt := 2) X dX8_leaveHome_98 (by decide) ?_
    exact aw_sub [2, 0] rfl (hZ2 _ _ h)
def wb_X8_leaveHome_59 (n : Nat)  (Z2 : Mm → Int32 → Prop) (K : Mm → Prop) (M : Mm) (x1 : Int32) : Prop := wb_X8_leaveHome_60 n Z2 K M x1 0
set_option maxHeartbeats 4000000 in
set_option maxRecDepth 100000 in
theorem lb_X8_leaveHome_59 {g : Gm} {E : En} {A : Nat → Prop} {K : Mm → Prop} (X : CX g cX8_leaveHome RX8 none 4 E A 3)    {Z2 : Mm → Int32 → Prop} (hZ2 : ∀ (M : Mm) (x1 : Int32), Z2 M x1 → AW g E A 3 (MQ (gB g) (QV E K A) (gA g) (gS g) (gk g) (gn g) A) 2 [(0, .ref (eA E 74)), (1, .int x1)] [] M) (M : Mm) (x1 : Int32) (h : wb_X8_leaveHome_59 (eN E)  Z2 K M x1) : AW g E A 3 (MQ (gB g) (QV E K A) (gA g) (gS g) (gk g) (gn g) A) 59 [(0, .ref (eA E 74)), (1, .int x1)] [] M := by
  unfold wb_X8_leaveHome_59 at h
  refine aw_iconst (v := 0) X dX8_leaveHome_59 (by decide) ?_
  exact aw_sub [0, 1] rfl (lb_X8_leaveHome_60 X  hZ2 _ _ _ h)
def wl_X8_leaveHome_2 (n : Nat)   (K : Mm → Prop) : Nat → Mm → Int32 → Prop
  | 0, _, _ => False
  | k + 1, M, x1 => ((M 75 0) ≤ x1 → K M) ∧ (¬ (M 75 0) ≤ x1 → wp_X8_of n M x1 5 (fun M1 r2 => (¬ r2 = 0 → ∀ v3 : Int32, v3 = x1 + 1 → wl_X8_leaveHome_2 n K k M1 v3) ∧ (r2 = 0 → wp_X8_of n M1 x1 4 (fun M4 r5 => (r5 ≤ 0 → wb_X8_leaveHome_59 n (fun M x1 => wl_X8_leaveHome_2 n K k M x1) K M4 x1) ∧ (¬ r5 ≤ 0 → wp_X8_wouldLeave n M4 x1 (fun M6 r7 => (r7 = 0 → wb_X8_leaveHome_59 n (fun M x1 => wl_X8_leaveHome_2 n K k M x1) K M6 x1) ∧ (¬ r7 = 0 → wp_X8_drawn n M6 (fun M8 r9 => ((jrem r9 100) < (M8 75 7) → wb_X8_leaveHome_59 n (fun M x1 => wl_X8_leaveHome_2 n K k M x1) K M8 x1) ∧ (¬ (jrem r9 100) < (M8 75 7) → wb_X8_leaveHome_60 n (fun M x1 => wl_X8_leaveHome_2 n K k M x1) K M8 x1 1)))))))))
set_option maxHeartbeats 4000000 in
set_option maxRecDepth 100000 in
theorem lw_X8_leaveHome_2 {g : Gm} {E : En} {A : Nat → Prop} {K : Mm → Prop} (X : CX g cX8_leaveHome RX8 none 4 E A 3)    : ∀ (k : Nat) (M : Mm) (x1 : Int32), wl_X8_leaveHome_2 (eN E)   K k M x1 → AW g E A 3 (MQ (gB g) (QV E K A) (gA g) (gS g) (gk g) (gn g) A) 2 [(0, .ref (eA E 74)), (1, .int x1)] [] M := by
  intro k
  induction k with
  | zero => intro M x1 h; exact h.elim
  | succ k ih =>
    intro M x1 h
    rw [wl_X8_leaveHome_2] at h
    refine aw_iload_n X dX8_leaveHome_2 1 rfl ?_
    refine aw_aload_n X dX8_leaveHome_3 0 rfl ?_
    refine aw_get X dX8_leaveHome_4 (X.lt (by decide)) (sh_12 (rfl : tp 74 = 12) _) fl_RX8_7 rfl ?_
    refine aw_iconst (v := 0) X dX8_leaveHome_7 (by decide) ?_
    refine aw_iald X dX8_leaveHome_8 (X.lt (by decide)) (sh_ia 3108 (rfl : tp 75 = 4108) _) (by unfold vp_in; decide) ?_
    refine aw_icmp_ge (tgt := 101) X dX8_leaveHome_9 (by decide) (fun c => ?_) (fun c => ?_)
    · have h := h.1 c
      exact aw_vret X dX8_leaveHome_101 h
    · have h := h.2 c
      refine aw_aload_n X dX8_leaveHome_12 0 rfl ?_
      refine aw_iload_n X dX8_leaveHome_13 1 rfl ?_
      refine aw_iconst (v := 5) X dX8_leaveHome_14 (by decide) ?_
      refine ca_i X (rn_v X [.int x1, .int 5] [] (X.lt (by decide)) (sh_12 (rfl : tp 74 = 12) _) rfl rfl kw1101 kw56 (c_X8_of h) cal_yX8_of kw1099 (Nat.le_of_ble_eq_true rfl) rfl rfl (Nat.le_of_ble_eq_true rfl) dX8_leaveHome_15) (fun M1 r2 h => ?_)
      refine aw_if_ne (tgt := 95) X dX8_leaveHome_18 (by decide) (fun c => ?_) (fun c => ?_)
      · have h := h.1 c
        obtain ⟨v3, ev3⟩ : ∃ y : Int32, y = x1 + 1 := ⟨_, rfl⟩
        have h := h v3 ev3
        refine aw_iinc (v := v3) (lv' := [(1, .int v3), (0, .ref (eA E 74))]) X dX8_leaveHome_95 1 rfl (by rw [ev3]; rfl) (by decide) rfl ?_
        refine aw_goto (tgt := 2) X dX8_leaveHome_98 (by decide) ?_
        exact aw_sub [1, 0] rfl (ih _ _ h)
      · have h := h.2 c
        refine aw_aload_n X dX8_leaveHome_21 0 rfl ?_
        refine aw_iload_n X dX8_leaveHome_22 1 rfl ?_
        refine aw_iconst (v := 4) X dX8_leaveHome_23 (by decide) ?_
        refine ca_i X (rn_v X [.int x1, .int 4] [] (X.lt (by decide)) (sh_12 (rfl : tp 74 = 12) _) rfl rfl kw1101 kw56 (c_X8_of h) cal_yX8_of kw1099 (Nat.le_of_ble_eq_true rfl) rfl rfl (Nat.le_of_ble_eq_true rfl) dX8_leaveHome_24) (fun M4 r5 h => ?_)
        refine aw_if_le (tgt := 59) X dX8_leaveHome_27 (by decide) (fun c => ?_) (fun c => ?_)
        · have h := h.1 c
          exact aw_sub [0, 1] rfl (lb_X8_leaveHome_59 X  ih _ _ h)
        · have h := h.2 c
          refine aw_aload_n X dX8_leaveHome_30 0 rfl ?_
          refine aw_iload_n X dX8_leaveHome_31 1 rfl ?_
          refine ca_i X (rn_v X [.int x1] [] (X.lt (by decide)) (sh_12 (rfl : tp 74 = 12) _) rfl rfl kw1135 kw63 (c_X8_wouldLeave h) cal_yX8_wouldLeave kw1133 (Nat.le_of_ble_eq_true rfl) rfl rfl (Nat.le_of_ble_eq_true rfl) dX8_leaveHome_32) (fun M6 r7 h => ?_)
          refine aw_if_eq (tgt := 59) X dX8_leaveHome_35 (by decide) (fun c => ?_) (fun c => ?_)
          · have h := h.1 c
            exact aw_sub [0, 1] rfl (lb_X8_leaveHome_59 X  ih _ _ h)
          · have h := h.2 c
            refine aw_aload_n X dX8_leaveHome_38 0 rfl ?_
            refine ca_i X (rn_v X [] [] (X.lt (by decide)) (sh_12 (rfl : tp 74 = 12) _) rfl rfl kw1179 kw66 (c_X8_drawn h) cal_yX8_drawn kw1177 (Nat.le_of_ble_eq_true rfl) rfl rfl (Nat.le_of_ble_eq_true rfl) dX8_leaveHome_39) (fun M8 r9 h => ?_)
            refine aw_bipush (v := 100) X dX8_leaveHome_42 (by decide) ?_
            refine aw_irem X dX8_leaveHome_44 (by decide) ?_
            refine aw_aload_n X dX8_leaveHome_45 0 rfl ?_
            refine aw_get X dX8_leaveHome_46 (X.lt (by decide)) (sh_12 (rfl : tp 74 = 12) _) fl_RX8_7 rfl ?_
            refine aw_bipush (v := 7) X dX8_leaveHome_49 (by decide) ?_
            refine aw_iald X dX8_leaveHome_51 (X.lt (by decide)) (sh_ia 3108 (rfl : tp 75 = 4108) _) (by unfold vp_in; decide) ?_
            refine aw_icmp_lt (tgt := 59) X dX8_leaveHome_52 (by decide) (fun c => ?_) (fun c => ?_)
            · have h := h.1 c
              exact aw_sub [0, 1] rfl (lb_X8_leaveHome_59 X  ih _ _ h)
            · have h := h.2 c
              refine aw_iconst (v := 1) X dX8_leaveHome_55 (by decide) ?_
              refine aw_goto (tgt := 60) X dX8_leaveHome_56 (by decide) ?_
              exact aw_sub [0, 1] rfl (lb_X8_leaveHome_60 X  ih _ _ _ h)
def wp_X8_leaveHome (n : Nat)  (M : Mm)  (K : Mm → Prop) : Prop := ∃ kf : Nat, wl_X8_leaveHome_2 n K kf M 0
set_option maxHeartbeats 4000000 in
set_option maxRecDepth 100000 in
theorem c_X8_leaveHome {l : Launch} {E : En} {M : Mm}  {K : Mm → Prop}  (h : wp_X8_leaveHome (eN E)  M  K) : Ctr l E yX8_leaveHome cX8_leaveHome 3 none 4 [.ref (eA E 74)] M (QV E K) := by
  refine Ctr.of (by decide +kernel) (Nat.le_of_ble_eq_true rfl) (fun g A hgl X => ?_)
  subst hgl
  have X : CX g cX8_leaveHome RX8 none 4 E A 3 := X
  show AW g E A 3 _ 0 [(0, .ref (eA E 74))] [] M
  unfold wp_X8_leaveHome at h
  refine aw_iconst (v := 0) X dX8_leaveHome_0 (by decide) ?_
  refine aw_istore_n (lv' := [(1, .int 0), (0, .ref (eA E 74))]) X dX8_leaveHome_1 (by decide) rfl ?_
  obtain ⟨kf, h⟩ := h
  exact aw_sub [1, 0] rfl (lw_X8_leaveHome_2 X   kf _ _ h)
def wl_X8_comeThere_4 (n : Nat)   (K : Mm → Int32 → Prop) : Nat → Mm → Int32 → Int32 → Prop
  | 0, _, _, _ => False
  | k + 1, M, x1, x2 => ((M 75 0) ≤ x2 → (x1 = 0 ∨ x1 = 1) ∧ K M x1) ∧ (¬ (M 75 0) ≤ x2 → wp_X8_of n M x2 5 (fun M1 r2 => (¬ r2 = 1 → ∀ v3 : Int32, v3 = x2 + 1 → wl_X8_comeThere_4 n K k M1 x1 v3) ∧ (r2 = 1 → wp_X8_of n M1 x2 6 (fun M4 r5 => wp_X8_sets n M4 x2 6 (r5 - 1) (fun M6 => wp_X8_of n M6 x2 6 (fun M8 r9 => (¬ r9 = 0 → ∀ v10 : Int32, v10 = x2 + 1 → wl_X8_comeThere_4 n K k M8 x1 v10) ∧ (r9 = 0 → wp_X8_isThere n M8 x2 (fun M11 => ∀ v13 : Int32, v13 = x2 + 1 → wl_X8_comeThere_4 n K k M11 1 v13))))))))
set_option maxHeartbeats 4000000 in
set_option maxRecDepth 100000 in
theorem lw_X8_comeThere_4 {g : Gm} {E : En} {A : Nat → Prop} {K : Mm → Int32 → Prop} (X : CX g cX8_comeThere RX8 (some .boolean) 4 E A 3)    : ∀ (k : Nat) (M : Mm) (x1 : Int32) (x2 : Int32), wl_X8_comeThere_4 (eN E)   K k M x1 x2 → AW g E A 3 (MQ (gB g) (QI E K A) (gA g) (gS g) (gk g) (gn g) A) 4 [(0, .ref (eA E 74)), (1, .int x1), (2, .int x2)] [] M := by
  intro k
  induction k with
  | zero => intro M x1 x2 h; exact h.elim
  | succ k ih =>
    intro M x1 x2 h
    rw [wl_X8_comeThere_4] at h
    refine aw_iload_n X dX8_comeThere_4 2 rfl ?_
    refine aw_aload_n X dX8_comeThere_5 0 rfl ?_
    refine aw_get X dX8_comeThere_6 (X.lt (by decide)) (sh_12 (rfl : tp 74 = 12) _) fl_RX8_7 rfl ?_
    refine aw_iconst (v := 0) X dX8_comeThere_9 (by decide) ?_
    refine aw_iald X dX8_comeThere_10 (X.lt (by decide)) (sh_ia 3108 (rfl : tp 75 = 4108) _) (by unfold vp_in; decide) ?_
    refine aw_icmp_ge (tgt := 63) X dX8_comeThere_11 (by decide) (fun c => ?_) (fun c => ?_)
    · have h := h.1 c
      refine aw_iload_n X dX8_comeThere_63 1 rfl ?_
      exact aw_zret X dX8_comeThere_64 (nar_z h.1) h.2
    · have h := h.2 c
      refine aw_aload_n X dX8_comeThere_14 0 rfl ?_
      refine aw_iload_n X dX8_comeThere_15 2 rfl ?_
      refine aw_iconst (v := 5) X dX8_comeThere_16 (by decide) ?_
      refine ca_i X (rn_v X [.int x2, .int 5] [] (X.lt (by decide)) (sh_12 (rfl : tp 74 = 12) _) rfl rfl kw1101 kw56 (c_X8_of h) cal_yX8_of kw1099 (Nat.le_of_ble_eq_true rfl) rfl rfl (Nat.le_of_ble_eq_true rfl) dX8_comeThere_17) (fun M1 r2 h => ?_)
      refine aw_iconst (v := 1) X dX8_comeThere_20 (by decide) ?_
      refine aw_icmp_ne (tgt := 57) X dX8_comeThere_21 (by decide) (fun c => ?_) (fun c => ?_)
      · have h := h.1 c
        obtain ⟨v3, ev3⟩ : ∃ y : Int32, y = x2 + 1 := ⟨_, rfl⟩
        have h := h v3 ev3
        refine aw_iinc (v := v3) (lv' := [(2, .int v3), (0, .ref (eA E 74)), (1, .int x1)]) X dX8_comeThere_57 2 rfl (by rw [ev3]; rfl) (by decide) rfl ?_
        refine aw_goto (tgt := 4) X dX8_comeThere_60 (by decide) ?_
        exact aw_sub [1, 2, 0] rfl (ih _ _ _ h)
      · have h := h.2 c
        refine aw_aload_n X dX8_comeThere_24 0 rfl ?_
        refine aw_iload_n X dX8_comeThere_25 2 rfl ?_
        refine aw_bipush (v := 6) X dX8_comeThere_26 (by decide) ?_
        refine aw_aload_n X dX8_comeThere_28 0 rfl ?_
        refine aw_iload_n X dX8_comeThere_29 2 rfl ?_
        refine aw_bipush (v := 6) X dX8_comeThere_30 (by decide) ?_
        refine ca_i X (rn_v X [.int x2, .int 6] [.int 6, .int x2, .ref (eA E 74)] (X.lt (by decide)) (sh_12 (rfl : tp 74 = 12) _) rfl rfl kw1101 kw56 (c_X8_of h) cal_yX8_of kw1099 (Nat.le_of_ble_eq_true rfl) rfl rfl (Nat.le_of_ble_eq_true rfl) dX8_comeThere_32) (fun M4 r5 h => ?_)
        refine aw_iconst (v := 1) X dX8_comeThere_35 (by decide) ?_
        refine aw_isub X dX8_comeThere_36 ?_
        refine ca_v X (rn_v X [.int x2, .int 6, .int (r5 - 1)] [] (X.lt (by decide)) (sh_12 (rfl : tp 74 = 12) _) rfl rfl kw1202 kw69 (c_X8_sets h) cal_yX8_sets kw1200 (Nat.le_of_ble_eq_true rfl) rfl rfl (Nat.le_of_ble_eq_true rfl) dX8_comeThere_37) (fun M6 h => ?_)
        refine aw_aload_n X dX8_comeThere_40 0 rfl ?_
        refine aw_iload_n X dX8_comeThere_41 2 rfl ?_
        refine aw_bipush (v := 6) X dX8_comeThere_42 (by decide) ?_
        refine ca_i X (rn_v X [.int x2, .int 6] [] (X.lt (by decide)) (sh_12 (rfl : tp 74 = 12) _) rfl rfl kw1101 kw56 (c_X8_of h) cal_yX8_of kw1099 (Nat.le_of_ble_eq_true rfl) rfl rfl (Nat.le_of_ble_eq_true rfl) dX8_comeThere_44) (fun M8 r9 h => ?_)
        refine aw_if_ne (tgt := 57) X dX8_comeThere_47 (by decide) (fun c => ?_) (fun c => ?_)
        · have h := h.1 c
          obtain ⟨v10, ev10⟩ : ∃ y : Int32, y = x2 + 1 := ⟨_, rfl⟩
          have h := h v10 ev10
          refine aw_iinc (v := v10) (lv' := [(2, .int v10), (0, .ref (eA E 74)), (1, .int x1)]) X dX8_comeThere_57 2 rfl (by rw [ev10]; rfl) (by decide) rfl ?_
          refine aw_goto (tgt := 4) X dX8_comeThere_60 (by decide) ?_
          exact aw_sub [1, 2, 0] rfl (ih _ _ _ h)
        · have h := h.2 c
          refine aw_aload_n X dX8_comeThere_50 0 rfl ?_
          refine aw_iload_n X dX8_comeThere_51 2 rfl ?_
          refine ca_v X (rn_v X [.int x2] [] (X.lt (by decide)) (sh_12 (rfl : tp 74 = 12) _) rfl rfl kw1214 kw72 (c_X8_isThere h) cal_yX8_isThere kw1212 (Nat.le_of_ble_eq_true rfl) rfl rfl (Nat.le_of_ble_eq_true rfl) dX8_comeThere_52) (fun M11 h => ?_)
          refine aw_iconst (v := 1) X dX8_comeThere_55 (by decide) ?_
          refine aw_istore_n (lv' := [(1, .int 1), (0, .ref (eA E 74)), (2, .int x2)]) X dX8_comeThere_56 (by decide) rfl ?_
          obtain ⟨v13, ev13⟩ : ∃ y : Int32, y = x2 + 1 := ⟨_, rfl⟩
          have h := h v13 ev13
          refine aw_iinc (v := v13) (lv' := [(2, .int v13), (1, .int 1), (0, .ref (eA E 74))]) X dX8_comeThere_57 2 rfl (by rw [ev13]; rfl) (by decide) rfl ?_
          refine aw_goto (tgt := 4) X dX8_comeThere_60 (by decide) ?_
          exact aw_sub [2, 1, 0] rfl (ih _ _ _ h)
def wp_X8_comeThere (n : Nat)  (M : Mm)  (K : Mm → Int32 → Prop) : Prop := ∃ kf : Nat, wl_X8_comeThere_4 n K kf M 0 0
set_option maxHeartbeats 4000000 in
set_option maxRecDepth 100000 in
theorem c_X8_comeThere {l : Launch} {E : En} {M : Mm}  {K : Mm → Int32 → Prop}  (h : wp_X8_comeThere (eN E)  M  K) : Ctr l E yX8_comeThere cX8_comeThere 3 (some .boolean) 4 [.ref (eA E 74)] M (QI E K) := by
  refine Ctr.of (by decide +kernel) (Nat.le_of_ble_eq_true rfl) (fun g A hgl X => ?_)
  subst hgl
  have X : CX g cX8_comeThere RX8 (some .boolean) 4 E A 3 := X
  show AW g E A 3 _ 0 [(0, .ref (eA E 74))] [] M
  unfold wp_X8_comeThere at h
  refine aw_iconst (v := 0) X dX8_comeThere_0 (by decide) ?_
  refine aw_istore_n (lv' := [(1, .int 0), (0, .ref (eA E 74))]) X dX8_comeThere_1 (by decide) rfl ?_
  refine aw_iconst (v := 0) X dX8_comeThere_2 (by decide) ?_
  refine aw_istore_n (lv' := [(2, .int 0), (1, .int 0), (0, .ref (eA E 74))]) X dX8_comeThere_3 (by decide) rfl ?_
  obtain ⟨kf, h⟩ := h
  exact aw_sub [2, 1, 0] rfl (lw_X8_comeThere_4 X   kf _ _ _ h)
def wb_X8_waitOrGo_67 (n : Nat)  (Z2 : Mm → Int32 → Prop) (K : Mm → Prop) (M : Mm) (x1 : Int32) : Prop := vp_in x1 8 ∧ ((¬ (M 86 x1.toNatClampNeg) = 3 → ∀ v12 : Int32, v12 = x1 + 1 → Z2 M v12) ∧ ((M 86 x1.toNatClampNeg) = 3 → wp_X8_of n M x1 6 (fun M13 r14 => wp_X8_sets n M13 x1 6 (r14 - 1) (fun M15 => wp_X8_of n M15 x1 6 (fun M17 r18 => (¬ r18 = 0 → ∀ v19 : Int32, v19 = x1 + 1 → Z2 M17 v19) ∧ (r18 = 0 → wp_X8_sets n M17 x1 5 0 (fun M20 => wp_X8_sets n M20 x1 8 0 (fun M22 => ∀ v24 : Int32, v24 = x1 + 1 → Z2 M22 v24))))))))
set_option maxHeartbeats 4000000 in
set_option maxRecDepth 100000 in
theorem lb_X8_waitOrGo_67 {g : Gm} {E : En} {A : Nat → Prop} {K : Mm → Prop} (X : CX g cX8_waitOrGo RX8 none 3 E A 2)    {Z2 : Mm → Int32 → Prop} (hZ2 : ∀ (M : Mm) (x1 : Int32), Z2 M x1 → AW g E A 2 (MQ (gB g) (QV E K A) (gA g) (gS g) (gk g) (gn g) A) 2 [(0, .ref (eA E 74)), (1, .int x1)] [] M) (M : Mm) (x1 : Int32) (h : wb_X8_waitOrGo_67 (eN E)  Z2 K M x1) : AW g E A 2 (MQ (gB g) (QV E K A) (gA g) (gS g) (gk g) (gn g) A) 67 [(0, .ref (eA E 74)), (1, .int x1)] [] M := by
  unfold wb_X8_waitOrGo_67 at h
  refine aw_aload_n X dX8_waitOrGo_67 0 rfl ?_
  refine aw_get X dX8_waitOrGo_68 (X.lt (by decide)) (sh_12 (rfl : tp 74 = 12) _) fl_RX8_43 rfl ?_
  refine aw_iload_n X dX8_waitOrGo_71 1 rfl ?_
  obtain ⟨hin, h⟩ := h
  refine aw_iald X dX8_waitOrGo_72 (X.lt (by decide)) (sh_ia 8 (rfl : tp 86 = 1008) _) hin ?_
  refine aw_iconst (v := 3) X dX8_waitOrGo_73 (by decide) ?_
  refine aw_icmp_ne (tgt := 118) X dX8_waitOrGo_74 (by decide) (fun c => ?_) (fun c => ?_)
  · have h := h.1 c
    obtain ⟨v12, ev12⟩ : ∃ y : Int32, y = x1 + 1 := ⟨_, rfl⟩
    have h := h v12 ev12
    refine aw_iinc (v := v12) (lv' := [(1, .int v12), (0, .ref (eA E 74))]) X dX8_waitOrGo_118 1 rfl (by rw [ev12]; rfl) (by decide) rfl ?_
    refine aw_goto (tgt := 2) X dX8_waitOrGo_121 (by decide) ?_
    exact aw_sub [1, 0] rfl (hZ2 _ _ h)
  · have h := h.2 c
    refine aw_aload_n X dX8_waitOrGo_77 0 rfl ?_
    refine aw_iload_n X dX8_waitOrGo_78 1 rfl ?_
    refine aw_bipush (v := 6) X dX8_waitOrGo_79 (by decide) ?_
    refine aw_aload_n X dX8_waitOrGo_81 0 rfl ?_
    refine aw_iload_n X dX8_waitOrGo_82 1 rfl ?_
    refine aw_bipush (v := 6) X dX8_waitOrGo_83 (by decide) ?_
    refine ca_i X (rn_v X [.int x1, .int 6] [.int 6, .int x1, .ref (eA E 74)] (X.lt (by decide)) (sh_12 (rfl : tp 74 = 12) _) rfl rfl kw1101 kw56 (c_X8_of h) cal_yX8_of kw1099 (Nat.le_of_ble_eq_true rfl) rfl rfl (Nat.le_of_ble_eq_true rfl) dX8_waitOrGo_85) (fun M13 r14 h => ?_)
    refine aw_iconst (v := 1) X dX8_waitOrGo_88 (by decide) ?_
    refine aw_isub X dX8_waitOrGo_89 ?_
    refine ca_v X (rn_v X [.int x1, .int 6, .int (r14 - 1)] [] (X.lt (by decide)) (sh_12 (rfl : tp 74 = 12) _) rfl rfl kw1202 kw69 (c_X8_sets h) cal_yX8_sets kw1200 (Nat.le_of_ble_eq_true rfl) rfl rfl (Nat.le_of_ble_eq_true rfl) dX8_waitOrGo_90) (fun M15 h => ?_)
    refine aw_aload_n X dX8_waitOrGo_93 0 rfl ?_
    refine aw_iload_n X dX8_waitOrGo_94 1 rfl ?_
    refine aw_bipush (v := 6) X dX8_waitOrGo_95 (by decide) ?_
    refine ca_i X (rn_v X [.int x1, .int 6] [] (X.lt (by decide)) (sh_12 (rfl : tp 74 = 12) _) rfl rfl kw1101 kw56 (c_X8_of h) cal_yX8_of kw1099 (Nat.le_of_ble_eq_true rfl) rfl rfl (Nat.le_of_ble_eq_true rfl) dX8_waitOrGo_97) (fun M17 r18 h => ?_)
    refine aw_if_ne (tgt := 118) X dX8_waitOrGo_100 (by decide) (fun c => ?_) (fun c => ?_)
    · have h := h.1 c
      obtain ⟨v19, ev19⟩ : ∃ y : Int32, y = x1 + 1 := ⟨_, rfl⟩
      have h := h v19 ev19
      refine aw_iinc (v := v19) (lv' := [(1, .int v19), (0, .ref (eA E 74))]) X dX8_waitOrGo_118 1 rfl (by rw [ev19]; rfl) (by decide) rfl ?_
      refine aw_goto (tgt := 2) X dX8_waitOrGo_121 (by decide) ?_
      exact aw_sub [1, 0] rfl (hZ2 _ _ h)
    · have h := h.2 c
      refine aw_aload_n X dX8_waitOrGo_103 0 rfl ?_
      refine aw_iload_n X dX8_waitOrGo_104 1 rfl ?_
      refine aw_iconst (v := 5) X dX8_waitOrGo_105 (by decide) ?_
      refine aw_iconst (v := 0) X dX8_waitOrGo_106 (by decide) ?_
      refine ca_v X (rn_v X [.int x1, .int 5, .int 0] [] (X.lt (by decide)) (sh_12 (rfl : tp 74 = 12) _) rfl rfl kw1202 kw69 (c_X8_sets h) cal_yX8_sets kw1200 (Nat.le_of_ble_eq_true rfl) rfl rfl (Nat.le_of_ble_eq_true rfl) dX8_waitOrGo_107) (fun M20 h => ?_)
      refine aw_aload_n X dX8_waitOrGo_110 0 rfl ?_
      refine aw_iload_n X dX8_waitOrGo_111 1 rfl ?_
      refine aw_bipush (v := 8) X dX8_waitOrGo_112 (by decide) ?_
      refine aw_iconst (v := 0) X dX8_waitOrGo_114 (by decide) ?_
      refine ca_v X (rn_v X [.int x1, .int 8, .int 0] [] (X.lt (by decide)) (sh_12 (rfl : tp 74 = 12) _) rfl rfl kw1202 kw69 (c_X8_sets h) cal_yX8_sets kw1200 (Nat.le_of_ble_eq_true rfl) rfl rfl (Nat.le_of_ble_eq_true rfl) dX8_waitOrGo_115) (fun M22 h => ?_)
      obtain ⟨v24, ev24⟩ : ∃ y : Int32, y = x1 + 1 := ⟨_, rfl⟩
      have h := h v24 ev24
      refine aw_iinc (v := v24) (lv' := [(1, .int v24), (0, .ref (eA E 74))]) X dX8_waitOrGo_118 1 rfl (by rw [ev24]; rfl) (by decide) rfl ?_
      refine aw_goto (tgt := 2) X dX8_waitOrGo_121 (by decide) ?_
      exact aw_sub [1, 0] rfl (hZ2 _ _ h)
def wl_X8_waitOrGo_2 (n : Nat)   (K : Mm → Prop) : Nat → Mm → Int32 → Prop
  | 0, _, _ => False
  | k + 1, M, x1 => ((M 75 0) ≤ x1 → K M) ∧ (¬ (M 75 0) ≤ x1 → vp_in x1 8 ∧ ((¬ (M 86 x1.toNatClampNeg) = 2 → wb_X8_waitOrGo_67 n (fun M x1 => wl_X8_waitOrGo_2 n K k M x1) K M x1) ∧ ((M 86 x1.toNatClampNeg) = 2 → wp_X8_more n M x1 7 (fun M1 => ∀ M3 : Mm, M3 = wr M1 75 9 ((M1 75 9) + 1) → wp_X8_of n M3 x1 7 (fun M4 r5 => wp_X8_stays n M4 x1 (fun M6 r7 => (r5 < r7 → wb_X8_waitOrGo_67 n (fun M x1 => wl_X8_waitOrGo_2 n K k M x1) K M6 x1) ∧ (¬ r5 < r7 → wp_X8_goesBack n M6 x1 (fun M8 => wp_X8_more n M8 x1 10 (fun M10 => wb_X8_waitOrGo_67 n (fun M x1 => wl_X8_waitOrGo_2 n K k M x1) K M10 x1)))))))))
set_option maxHeartbeats 4000000 in
set_option maxRecDepth 100000 in
theorem lw_X8_waitOrGo_2 {g : Gm} {E : En} {A : Nat → Prop} {K : Mm → Prop} (X : CX g cX8_waitOrGo RX8 none 3 E A 2)    : ∀ (k : Nat) (M : Mm) (x1 : Int32), wl_X8_waitOrGo_2 (eN E)   K k M x1 → AW g E A 2 (MQ (gB g) (QV E K A) (gA g) (gS g) (gk g) (gn g) A) 2 [(0, .ref (eA E 74)), (1, .int x1)] [] M := by
  intro k
  induction k with
  | zero => intro M x1 h; exact h.elim
  | succ k ih =>
    intro M x1 h
    rw [wl_X8_waitOrGo_2] at h
    refine aw_iload_n X dX8_waitOrGo_2 1 rfl ?_
    refine aw_aload_n X dX8_waitOrGo_3 0 rfl ?_
    refine aw_get X dX8_waitOrGo_4 (X.lt (by decide)) (sh_12 (rfl : tp 74 = 12) _) fl_RX8_7 rfl ?_
    refine aw_iconst (v := 0) X dX8_waitOrGo_7 (by decide) ?_
    refine aw_iald X dX8_waitOrGo_8 (X.lt (by decide)) (sh_ia 3108 (rfl : tp 75 = 4108) _) (by unfold vp_in; decide) ?_
    refine aw_icmp_ge (tgt := 124) X dX8_waitOrGo_9 (by decide) (fun c => ?_) (fun c => ?_)
    · have h := h.1 c
      exact aw_vret X dX8_waitOrGo_124 h
    · have h := h.2 c
      refine aw_aload_n X dX8_waitOrGo_12 0 rfl ?_
      refine aw_get X dX8_waitOrGo_13 (X.lt (by decide)) (sh_12 (rfl : tp 74 = 12) _) fl_RX8_43 rfl ?_
      refine aw_iload_n X dX8_waitOrGo_16 1 rfl ?_
      obtain ⟨hin, h⟩ := h
      refine aw_iald X dX8_waitOrGo_17 (X.lt (by decide)) (sh_ia 8 (rfl : tp 86 = 1008) _) hin ?_
      refine aw_iconst (v := 2) X dX8_waitOrGo_18 (by decide) ?_
      refine aw_icmp_ne (tgt := 67) X dX8_waitOrGo_19 (by decide) (fun c => ?_) (fun c => ?_)
      · have h := h.1 c
        exact aw_sub [0, 1] rfl (lb_X8_waitOrGo_67 X  ih _ _ h)
      · have h := h.2 c
        refine aw_aload_n X dX8_waitOrGo_22 0 rfl ?_
        refine aw_iload_n X dX8_waitOrGo_23 1 rfl ?_
        refine aw_bipush (v := 7) X dX8_waitOrGo_24 (by decide) ?_
        refine ca_v X (rn_v X [.int x1, .int 7] [] (X.lt (by decide)) (sh_12 (rfl : tp 74 = 12) _) rfl rfl kw1206 kw70 (c_X8_more h) cal_yX8_more kw1204 (Nat.le_of_ble_eq_true rfl) rfl rfl (Nat.le_of_ble_eq_true rfl) dX8_waitOrGo_26) (fun M1 h => ?_)
        refine aw_aload_n X dX8_waitOrGo_29 0 rfl ?_
        refine aw_get X dX8_waitOrGo_30 (X.lt (by decide)) (sh_12 (rfl : tp 74 = 12) _) fl_RX8_7 rfl ?_
        refine aw_bipush (v := 9) X dX8_waitOrGo_33 (by decide) ?_
        refine aw_dup2 X dX8_waitOrGo_35 rfl rfl ?_
        refine aw_iald X dX8_waitOrGo_36 (X.lt (by decide)) (sh_ia 3108 (rfl : tp 75 = 4108) _) (by unfold vp_in; decide) ?_
        refine aw_iconst (v := 1) X dX8_waitOrGo_37 (by decide) ?_
        refine aw_iadd X dX8_waitOrGo_38 ?_
        refine aw_iast X dX8_waitOrGo_39 (X.lt (by decide)) (sh_ia 3108 (rfl : tp 75 = 4108) _) (sh_ia 3108 (rfl : tp 75 = 4108) _) (by unfold vp_in; decide) (fun M3 eM3 => ?_)
        have h := h M3 eM3
        refine aw_aload_n X dX8_waitOrGo_40 0 rfl ?_
        refine aw_iload_n X dX8_waitOrGo_41 1 rfl ?_
        refine aw_bipush (v := 7) X dX8_waitOrGo_42 (by decide) ?_
        refine ca_i X (rn_v X [.int x1, .int 7] [] (X.lt (by decide)) (sh_12 (rfl : tp 74 = 12) _) rfl rfl kw1101 kw56 (c_X8_of h) cal_yX8_of kw1099 (Nat.le_of_ble_eq_true rfl) rfl rfl (Nat.le_of_ble_eq_true rfl) dX8_waitOrGo_44) (fun M4 r5 h => ?_)
        refine aw_aload_n X dX8_waitOrGo_47 0 rfl ?_
        refine aw_iload_n X dX8_waitOrGo_48 1 rfl ?_
        refine ca_i X (rn_v X [.int x1] [.int r5] (X.lt (by decide)) (sh_12 (rfl : tp 74 = 12) _) rfl rfl kw1109 kw58 (c_X8_stays h) cal_yX8_stays kw1107 (Nat.le_of_ble_eq_true rfl) rfl rfl (Nat.le_of_ble_eq_true rfl) dX8_waitOrGo_49) (fun M6 r7 h => ?_)
        refine aw_icmp_lt (tgt := 67) X dX8_waitOrGo_52 (by decide) (fun c => ?_) (fun c => ?_)
        · have h := h.1 c
          exact aw_sub [0, 1] rfl (lb_X8_waitOrGo_67 X  ih _ _ h)
        · have h := h.2 c
          refine aw_aload_n X dX8_waitOrGo_55 0 rfl ?_
          refine aw_iload_n X dX8_waitOrGo_56 1 rfl ?_
          refine ca_v X (rn_v X [.int x1] [] (X.lt (by decide)) (sh_12 (rfl : tp 74 = 12) _) rfl rfl kw1218 kw73 (c_X8_goesBack h) cal_yX8_goesBack kw1216 (Nat.le_of_ble_eq_true rfl) rfl rfl (Nat.le_of_ble_eq_true rfl) dX8_waitOrGo_57) (fun M8 h => ?_)
          refine aw_aload_n X dX8_waitOrGo_60 0 rfl ?_
          refine aw_iload_n X dX8_waitOrGo_61 1 rfl ?_
          refine aw_bipush (v := 10) X dX8_waitOrGo_62 (by decide) ?_
          refine ca_v X (rn_v X [.int x1, .int 10] [] (X.lt (by decide)) (sh_12 (rfl : tp 74 = 12) _) rfl rfl kw1206 kw70 (c_X8_more h) cal_yX8_more kw1204 (Nat.le_of_ble_eq_true rfl) rfl rfl (Nat.le_of_ble_eq_true rfl) dX8_waitOrGo_64) (fun M10 h => ?_)
          exact aw_sub [0, 1] rfl (lb_X8_waitOrGo_67 X  ih _ _ h)
def wp_X8_waitOrGo (n : Nat)  (M : Mm)  (K : Mm → Prop) : Prop := ∃ kf : Nat, wl_X8_waitOrGo_2 n K kf M 0
set_option maxHeartbeats 4000000 in
set_option maxRecDepth 100000 in
theorem c_X8_waitOrGo {l : Launch} {E : En} {M : Mm}  {K : Mm → Prop}  (h : wp_X8_waitOrGo (eN E)  M  K) : Ctr l E yX8_waitOrGo cX8_waitOrGo 2 none 3 [.ref (eA E 74)] M (QV E K) := by
  refine Ctr.of (by decide +kernel) (Nat.le_of_ble_eq_true rfl) (fun g A hgl X => ?_)
  subst hgl
  have X : CX g cX8_waitOrGo RX8 none 3 E A 2 := X
  show AW g E A 2 _ 0 [(0, .ref (eA E 74))] [] M
  unfold wp_X8_waitOrGo at h
  refine aw_iconst (v := 0) X dX8_waitOrGo_0 (by decide) ?_
  refine aw_istore_n (lv' := [(1, .int 0), (0, .ref (eA E 74))]) X dX8_waitOrGo_1 (by decide) rfl ?_
  obtain ⟨kf, h⟩ := h
  exact aw_sub [1, 0] rfl (lw_X8_waitOrGo_2 X   kf _ _ h)
def wb_X8_goesOn_226 (n : Nat)  (Z175 : Mm → Int32 → Prop) (K : Mm → Prop) (M : Mm) (x3 : Int32) (s0 : Int32) (s1 : Int32) (s2 : Int32) : Prop := wp_X8_sets n M s2 s1 s0 (fun M20 => ∀ v22 : Int32, v22 = x3 + 1 → Z175 M20 v22)
set_option maxHeartbeats 4000000 in
set_option maxRecDepth 100000 in
theorem lb_X8_goesOn_226 {g : Gm} {E : En} {A : Nat → Prop} {K : Mm → Prop} (X : CX g cX8_goesOn RX8 none 5 E A 4)    {Z175 : Mm → Int32 → Prop} (hZ175 : ∀ (M : Mm) (x3 : Int32), Z175 M x3 → AW g E A 4 (MQ (gB g) (QV E K A) (gA g) (gS g) (gk g) (gn g) A) 175 [(0, .ref (eA E 74)), (3, .int x3)] [] M) (M : Mm) (x3 : Int32) (s0 : Int32) (s1 : Int32) (s2 : Int32) (h : wb_X8_goesOn_226 (eN E)  Z175 K M x3 s0 s1 s2) : AW g E A 4 (MQ (gB g) (QV E K A) (gA g) (gS g) (gk g) (gn g) A) 226 [(0, .ref (eA E 74)), (3, .int x3)] [.int s0, .int s1, .int s2, .ref (eA E 74)] M := by
  unfold wb_X8_goesOn_226 at h
  refine ca_v X (rn_v X [.int s2, .int s1, .int s0] [] (X.lt (by decide)) (sh_12 (rfl : tp 74 = 12) _) rfl rfl kw1202 kw69 (c_X8_sets h) cal_yX8_sets kw1200 (Nat.le_of_ble_eq_true rfl) rfl rfl (Nat.le_of_ble_eq_true rfl) dX8_goesOn_226) (fun M20 h => ?_)
  obtain ⟨v22, ev22⟩ : ∃ y : Int32, y = x3 + 1 := ⟨_, rfl⟩
  have h := h v22 ev22
  refine aw_iinc (v := v22) (lv' := [(3, .int v22), (0, .ref (eA E 74))]) X dX8_goesOn_229 1 rfl (by rw [ev22]; rfl) (by decide) rfl ?_
  refine aw_goto (tgt := 175) X dX8_goesOn_232 (by decide) ?_
  exact aw_sub [1, 0] rfl (hZ175 _ _ h)
def wb_X8_goesOn_220 (n : Nat)  (Z175 : Mm → Int32 → Prop) (K : Mm → Prop) (M : Mm) (x3 : Int32) (s0 : Int32) (s1 : Int32) : Prop := wp_X8_of n M x3 3 (fun M18 r19 => wb_X8_goesOn_226 n Z175 K M18 x3 r19 s0 s1)
set_option maxHeartbeats 4000000 in
set_option maxRecDepth 100000 in
theorem lb_X8_goesOn_220 {g : Gm} {E : En} {A : Nat → Prop} {K : Mm → Prop} (X : CX g cX8_goesOn RX8 none 5 E A 4)    {Z175 : Mm → Int32 → Prop} (hZ175 : ∀ (M : Mm) (x3 : Int32), Z175 M x3 → AW g E A 4 (MQ (gB g) (QV E K A) (gA g) (gS g) (gk g) (gn g) A) 175 [(0, .ref (eA E 74)), (3, .int x3)] [] M) (M : Mm) (x3 : Int32) (s0 : Int32) (s1 : Int32) (h : wb_X8_goesOn_220 (eN E)  Z175 K M x3 s0 s1) : AW g E A 4 (MQ (gB g) (QV E K A) (gA g) (gS g) (gk g) (gn g) A) 220 [(0, .ref (eA E 74)), (3, .int x3)] [.int s0, .int s1, .ref (eA E 74)] M := by
  unfold wb_X8_goesOn_220 at h
  refine aw_aload_n X dX8_goesOn_220 0 rfl ?_
  refine aw_iload_n X dX8_goesOn_221 1 rfl ?_
  refine aw_iconst (v := 3) X dX8_goesOn_222 (by decide) ?_
  refine ca_i X (rn_v X [.int x3, .int 3] [.int s0, .int s1, .ref (eA E 74)] (X.lt (by decide)) (sh_12 (rfl : tp 74 = 12) _) rfl rfl kw1101 kw56 (c_X8_of h) cal_yX8_of kw1099 (Nat.le_of_ble_eq_true rfl) rfl rfl (Nat.le_of_ble_eq_true rfl) dX8_goesOn_223) (fun M18 r19 h => ?_)
  exact aw_sub [0, 1] rfl (lb_X8_goesOn_226 X  hZ175 _ _ _ _ _ h)
def wl_X8_goesOn_175 (n : Nat)   (K : Mm → Prop) : Nat → Mm → Int32 → Prop
  | 0, _, _ => False
  | k + 1, M, x3 => ((M 75 0) ≤ x3 → K M) ∧ (¬ (M 75 0) ≤ x3 → (¬ (jrem (M 75 2) 1440) = 0 → K M) ∧ ((jrem (M 75 2) 1440) = 0 → ((M 74 13) < 0 → wb_X8_goesOn_220 n (fun M x3 => wl_X8_goesOn_175 n K k M x3) K M x3 4 x3) ∧ (¬ (M 74 13) < 0 → ((M 74 13) = x3 → wb_X8_goesOn_220 n (fun M x3 => wl_X8_goesOn_175 n K k M x3) K M x3 4 x3) ∧ (¬ (M 74 13) = x3 → wb_X8_goesOn_226 n (fun M x3 => wl_X8_goesOn_175 n K k M x3) K M x3 0 4 x3))))
set_option maxHeartbeats 4000000 in
set_option maxRecDepth 100000 in
theorem lw_X8_goesOn_175 {g : Gm} {E : En} {A : Nat → Prop} {K : Mm → Prop} (X : CX g cX8_goesOn RX8 none 5 E A 4)    : ∀ (k : Nat) (M : Mm) (x3 : Int32), wl_X8_goesOn_175 (eN E)   K k M x3 → AW g E A 4 (MQ (gB g) (QV E K A) (gA g) (gS g) (gk g) (gn g) A) 175 [(0, .ref (eA E 74)), (3, .int x3)] [] M := by
  intro k
  induction k with
  | zero => intro M x3 h; exact h.elim
  | succ k ih =>
    intro M x3 h
    rw [wl_X8_goesOn_175] at h
    refine aw_iload_n X dX8_goesOn_175 1 rfl ?_
    refine aw_aload_n X dX8_goesOn_176 0 rfl ?_
    refine aw_get X dX8_goesOn_177 (X.lt (by decide)) (sh_12 (rfl : tp 74 = 12) _) fl_RX8_7 rfl ?_
    refine aw_iconst (v := 0) X dX8_goesOn_180 (by decide) ?_
    refine aw_iald X dX8_goesOn_181 (X.lt (by decide)) (sh_ia 3108 (rfl : tp 75 = 4108) _) (by unfold vp_in; decide) ?_
    refine aw_icmp_ge (tgt := 235) X dX8_goesOn_182 (by decide) (fun c => ?_) (fun c => ?_)
    · have h := h.1 c
      exact aw_vret X dX8_goesOn_235 h
    · have h := h.2 c
      refine aw_aload_n X dX8_goesOn_185 0 rfl ?_
      refine aw_get X dX8_goesOn_186 (X.lt (by decide)) (sh_12 (rfl : tp 74 = 12) _) fl_RX8_7 rfl ?_
      refine aw_iconst (v := 2) X dX8_goesOn_189 (by decide) ?_
      refine aw_iald X dX8_goesOn_190 (X.lt (by decide)) (sh_ia 3108 (rfl : tp 75 = 4108) _) (by unfold vp_in; decide) ?_
      refine aw_sipush (v := 1440) X dX8_goesOn_191 (by decide) ?_
      refine aw_irem X dX8_goesOn_194 (by decide) ?_
      refine aw_if_ne (tgt := 235) X dX8_goesOn_195 (by decide) (fun c => ?_) (fun c => ?_)
      · have h := h.1 c
        exact aw_vret X dX8_goesOn_235 h
      · have h := h.2 c
        refine aw_aload_n X dX8_goesOn_198 0 rfl ?_
        refine aw_iload_n X dX8_goesOn_199 1 rfl ?_
        refine aw_iconst (v := 4) X dX8_goesOn_200 (by decide) ?_
        refine aw_aload_n X dX8_goesOn_201 0 rfl ?_
        refine aw_get X dX8_goesOn_202 (X.lt (by decide)) (sh_12 (rfl : tp 74 = 12) _) fl_RX8_46 rfl ?_
        refine aw_if_lt (tgt := 220) X dX8_goesOn_205 (by decide) (fun c => ?_) (fun c => ?_)
        · have h := h.1 c
          exact aw_sub [0, 1] rfl (lb_X8_goesOn_220 X  ih _ _ _ _ h)
        · have h := h.2 c
          refine aw_aload_n X dX8_goesOn_208 0 rfl ?_
          refine aw_get X dX8_goesOn_209 (X.lt (by decide)) (sh_12 (rfl : tp 74 = 12) _) fl_RX8_46 rfl ?_
          refine aw_iload_n X dX8_goesOn_212 1 rfl ?_
          refine aw_icmp_eq (tgt := 220) X dX8_goesOn_213 (by decide) (fun c => ?_) (fun c => ?_)
          · have h := h.1 c
            exact aw_sub [0, 1] rfl (lb_X8_goesOn_220 X  ih _ _ _ _ h)
          · have h := h.2 c
            refine aw_iconst (v := 0) X dX8_goesOn_216 (by decide) ?_
            refine aw_goto (tgt := 226) X dX8_goesOn_217 (by decide) ?_
            exact aw_sub [0, 1] rfl (lb_X8_goesOn_226 X  ih _ _ _ _ _ h)
def wb_X8_goesOn_163 (n : Nat)   (K : Mm → Prop) (M : Mm)  : Prop := ∀ M16 : Mm, M16 = wr M 75 2 ((M 75 2) + 1) → ∃ kf : Nat, wl_X8_goesOn_175 n K kf M16 0
set_option maxHeartbeats 4000000 in
set_option maxRecDepth 100000 in
theorem lb_X8_goesOn_163 {g : Gm} {E : En} {A : Nat → Prop} {K : Mm → Prop} (X : CX g cX8_goesOn RX8 none 5 E A 4)    (M : Mm)  (h : wb_X8_goesOn_163 (eN E)   K M ) : AW g E A 4 (MQ (gB g) (QV E K A) (gA g) (gS g) (gk g) (gn g) A) 163 [(0, .ref (eA E 74))] [] M := by
  unfold wb_X8_goesOn_163 at h
  refine aw_aload_n X dX8_goesOn_163 0 rfl ?_
  refine aw_get X dX8_goesOn_164 (X.lt (by decide)) (sh_12 (rfl : tp 74 = 12) _) fl_RX8_7 rfl ?_
  refine aw_iconst (v := 2) X dX8_goesOn_167 (by decide) ?_
  refine aw_dup2 X dX8_goesOn_168 rfl rfl ?_
  refine aw_iald X dX8_goesOn_169 (X.lt (by decide)) (sh_ia 3108 (rfl : tp 75 = 4108) _) (by unfold vp_in; decide) ?_
  refine aw_iconst (v := 1) X dX8_goesOn_170 (by decide) ?_
  refine aw_iadd X dX8_goesOn_171 ?_
  refine aw_iast X dX8_goesOn_172 (X.lt (by decide)) (sh_ia 3108 (rfl : tp 75 = 4108) _) (sh_ia 3108 (rfl : tp 75 = 4108) _) (by unfold vp_in; decide) (fun M16 eM16 => ?_)
  have h := h M16 eM16
  refine aw_iconst (v := 0) X dX8_goesOn_173 (by decide) ?_
  refine aw_istore_n (lv' := [(3, .int 0), (0, .ref (eA E 74))]) X dX8_goesOn_174 (by decide) rfl ?_
  obtain ⟨kf, h⟩ := h
  exact aw_sub [1, 0] rfl (lw_X8_goesOn_175 X   kf _ _ h)
def wb_X8_goesOn_161 (n : Nat)   (K : Mm → Prop) (M : Mm) (s0 : Int32) (s1 : Int32) (s2 : Int32) : Prop := vp_in s2 3108 ∧ (∀ M17 : Mm, M17 = wr M 75 s2.toNatClampNeg (s1 + s0) → wb_X8_goesOn_163 n K M17 )
set_option maxHeartbeats 4000000 in
set_option maxRecDepth 100000 in
theorem lb_X8_goesOn_161 {g : Gm} {E : En} {A : Nat → Prop} {K : Mm → Prop} (X : CX g cX8_goesOn RX8 none 5 E A 4)    (M : Mm) (s0 : Int32) (s1 : Int32) (s2 : Int32) (h : wb_X8_goesOn_161 (eN E)   K M s0 s1 s2) : AW g E A 4 (MQ (gB g) (QV E K A) (gA g) (gS g) (gk g) (gn g) A) 161 [(0, .ref (eA E 74))] [.int s0, .int s1, .int s2, .ref (eA E 75)] M := by
  unfold wb_X8_goesOn_161 at h
  refine aw_iadd X dX8_goesOn_161 ?_
  obtain ⟨hin, h⟩ := h
  refine aw_iast X dX8_goesOn_162 (X.lt (by decide)) (sh_ia 3108 (rfl : tp 75 = 4108) _) (sh_ia 3108 (rfl : tp 75 = 4108) _) hin (fun M17 eM17 => ?_)
  have h := h M17 eM17
  exact aw_sub [0] rfl (lb_X8_goesOn_163 X   _ h)
def wb_X8_goesOn_101 (n : Nat)   (K : Mm → Prop) (M : Mm) (x1 : Int32) (x2 : Int32) (s0 : Int32) (s1 : Int32) : Prop := vp_in s1 3108 ∧ (∀ M14 : Mm, M14 = wr M 75 s1.toNatClampNeg s0 → (¬ x1 = 0 → wb_X8_goesOn_163 n K M14 ) ∧ (x1 = 0 → (¬ x2 = 0 → wb_X8_goesOn_163 n K M14 ) ∧ (x2 = 0 → ((M14 75 8) < (M14 75 3) → wb_X8_goesOn_163 n K M14 ) ∧ (¬ (M14 75 8) < (M14 75 3) → ∀ M15 : Mm, M15 = wr M14 75 8 0 → ((M15 75 4) ≤ (M15 75 5) → wb_X8_goesOn_161 n K M15 0 (M15 75 5) 5) ∧ (¬ (M15 75 4) ≤ (M15 75 5) → wb_X8_goesOn_161 n K M15 1 (M15 75 5) 5)))))
set_option maxHeartbeats 4000000 in
set_option maxRecDepth 100000 in
theorem lb_X8_goesOn_101 {g : Gm} {E : En} {A : Nat → Prop} {K : Mm → Prop} (X : CX g cX8_goesOn RX8 none 5 E A 4)    (M : Mm) (x1 : Int32) (x2 : Int32) (s0 : Int32) (s1 : Int32) (h : wb_X8_goesOn_101 (eN E)   K M x1 x2 s0 s1) : AW g E A 4 (MQ (gB g) (QV E K A) (gA g) (gS g) (gk g) (gn g) A) 101 [(0, .ref (eA E 74)), (1, .int x1), (2, .int x2)] [.int s0, .int s1, .ref (eA E 75)] M := by
  unfold wb_X8_goesOn_101 at h
  obtain ⟨hin, h⟩ := h
  refine aw_iast X dX8_goesOn_101 (X.lt (by decide)) (sh_ia 3108 (rfl : tp 75 = 4108) _) (sh_ia 3108 (rfl : tp 75 = 4108) _) hin (fun M14 eM14 => ?_)
  have h := h M14 eM14
  refine aw_iload_n X dX8_goesOn_102 1 rfl ?_
  refine aw_if_ne (tgt := 163) X dX8_goesOn_103 (by decide) (fun c => ?_) (fun c => ?_)
  · have h := h.1 c
    exact aw_sub [0] rfl (lb_X8_goesOn_163 X   _ h)
  · have h := h.2 c
    refine aw_iload_n X dX8_goesOn_106 2 rfl ?_
    refine aw_if_ne (tgt := 163) X dX8_goesOn_107 (by decide) (fun c => ?_) (fun c => ?_)
    · have h := h.1 c
      exact aw_sub [0] rfl (lb_X8_goesOn_163 X   _ h)
    · have h := h.2 c
      refine aw_aload_n X dX8_goesOn_110 0 rfl ?_
      refine aw_get X dX8_goesOn_111 (X.lt (by decide)) (sh_12 (rfl : tp 74 = 12) _) fl_RX8_7 rfl ?_
      refine aw_bipush (v := 8) X dX8_goesOn_114 (by decide) ?_
      refine aw_iald X dX8_goesOn_116 (X.lt (by decide)) (sh_ia 3108 (rfl : tp 75 = 4108) _) (by unfold vp_in; decide) ?_
      refine aw_aload_n X dX8_goesOn_117 0 rfl ?_
      refine aw_get X dX8_goesOn_118 (X.lt (by decide)) (sh_12 (rfl : tp 74 = 12) _) fl_RX8_7 rfl ?_
      refine aw_iconst (v := 3) X dX8_goesOn_121 (by decide) ?_
      refine aw_iald X dX8_goesOn_122 (X.lt (by decide)) (sh_ia 3108 (rfl : tp 75 = 4108) _) (by unfold vp_in; decide) ?_
      refine aw_icmp_lt (tgt := 163) X dX8_goesOn_123 (by decide) (fun c => ?_) (fun c => ?_)
      · have h := h.1 c
        exact aw_sub [0] rfl (lb_X8_goesOn_163 X   _ h)
      · have h := h.2 c
        refine aw_aload_n X dX8_goesOn_126 0 rfl ?_
        refine aw_get X dX8_goesOn_127 (X.lt (by decide)) (sh_12 (rfl : tp 74 = 12) _) fl_RX8_7 rfl ?_
        refine aw_bipush (v := 8) X dX8_goesOn_130 (by decide) ?_
        refine aw_iconst (v := 0) X dX8_goesOn_132 (by decide) ?_
        refine aw_iast X dX8_goesOn_133 (X.lt (by decide)) (sh_ia 3108 (rfl : tp 75 = 4108) _) (sh_ia 3108 (rfl : tp 75 = 4108) _) (by unfold vp_in; decide) (fun M15 eM15 => ?_)
        have h := h M15 eM15
        refine aw_aload_n X dX8_goesOn_134 0 rfl ?_
        refine aw_get X dX8_goesOn_135 (X.lt (by decide)) (sh_12 (rfl : tp 74 = 12) _) fl_RX8_7 rfl ?_
        refine aw_iconst (v := 5) X dX8_goesOn_138 (by decide) ?_
        refine aw_dup2 X dX8_goesOn_139 rfl rfl ?_
        refine aw_iald X dX8_goesOn_140 (X.lt (by decide)) (sh_ia 3108 (rfl : tp 75 = 4108) _) (by unfold vp_in; decide) ?_
        refine aw_aload_n X dX8_goesOn_141 0 rfl ?_
        refine aw_get X dX8_goesOn_142 (X.lt (by decide)) (sh_12 (rfl : tp 74 = 12) _) fl_RX8_7 rfl ?_
        refine aw_iconst (v := 5) X dX8_goesOn_145 (by decide) ?_
        refine aw_iald X dX8_goesOn_146 (X.lt (by decide)) (sh_ia 3108 (rfl : tp 75 = 4108) _) (by unfold vp_in; decide) ?_
        refine aw_aload_n X dX8_goesOn_147 0 rfl ?_
        refine aw_get X dX8_goesOn_148 (X.lt (by decide)) (sh_12 (rfl : tp 74 = 12) _) fl_RX8_7 rfl ?_
        refine aw_iconst (v := 4) X dX8_goesOn_151 (by decide) ?_
        refine aw_iald X dX8_goesOn_152 (X.lt (by decide)) (sh_ia 3108 (rfl : tp 75 = 4108) _) (by unfold vp_in; decide) ?_
        refine aw_icmp_ge (tgt := 160) X dX8_goesOn_153 (by decide) (fun c => ?_) (fun c => ?_)
        · have h := h.1 c
          refine aw_iconst (v := 0) X dX8_goesOn_160 (by decide) ?_
          exact aw_sub [0] rfl (lb_X8_goesOn_161 X   _ _ _ _ h)
        · have h := h.2 c
          refine aw_iconst (v := 1) X dX8_goesOn_156 (by decide) ?_
          refine aw_goto (tgt := 161) X dX8_goesOn_157 (by decide) ?_
          exact aw_sub [0] rfl (lb_X8_goesOn_161 X   _ _ _ _ h)
def wb_X8_goesOn_88 (n : Nat)   (K : Mm → Prop) (M : Mm) (x1 : Int32) (x2 : Int32) (s0 : Int32) : Prop := wb_X8_goesOn_101 n K M x1 x2 0 s0
set_option maxHeartbeats 4000000 in
set_option maxRecDepth 100000 in
theorem lb_X8_goesOn_88 {g : Gm} {E : En} {A : Nat → Prop} {K : Mm → Prop} (X : CX g cX8_goesOn RX8 none 5 E A 4)    (M : Mm) (x1 : Int32) (x2 : Int32) (s0 : Int32) (h : wb_X8_goesOn_88 (eN E)   K M x1 x2 s0) : AW g E A 4 (MQ (gB g) (QV E K A) (gA g) (gS g) (gk g) (gn g) A) 88 [(0, .ref (eA E 74)), (1, .int x1), (2, .int x2)] [.int s0, .ref (eA E 75)] M := by
  unfold wb_X8_goesOn_88 at h
  refine aw_iconst (v := 0) X dX8_goesOn_88 (by decide) ?_
  refine aw_goto (tgt := 101) X dX8_goesOn_89 (by decide) ?_
  exact aw_sub [0, 1, 2] rfl (lb_X8_goesOn_101 X   _ _ _ _ _ h)
def wb_X8_goesOn_70 (n : Nat)   (K : Mm → Prop) (M : Mm) (x1 : Int32) (x2 : Int32) (s0 : Int32) (s1 : Int32) : Prop := ∀ M13 : Mm, M13 = wr M 74 14 (s1 + s0) → (¬ x1 = 0 → wb_X8_goesOn_88 n K M13 x1 x2 8) ∧ (x1 = 0 → (x2 = 0 → wb_X8_goesOn_101 n K M13 x1 x2 ((M13 75 8) + 1) 8) ∧ (¬ x2 = 0 → wb_X8_goesOn_88 n K M13 x1 x2 8))
set_option maxHeartbeats 4000000 in
set_option maxRecDepth 100000 in
theorem lb_X8_goesOn_70 {g : Gm} {E : En} {A : Nat → Prop} {K : Mm → Prop} (X : CX g cX8_goesOn RX8 none 5 E A 4)    (M : Mm) (x1 : Int32) (x2 : Int32) (s0 : Int32) (s1 : Int32) (h : wb_X8_goesOn_70 (eN E)   K M x1 x2 s0 s1) : AW g E A 4 (MQ (gB g) (QV E K A) (gA g) (gS g) (gk g) (gn g) A) 70 [(0, .ref (eA E 74)), (1, .int x1), (2, .int x2)] [.int s0, .int s1, .ref (eA E 74)] M := by
  unfold wb_X8_goesOn_70 at h
  refine aw_iadd X dX8_goesOn_70 ?_
  refine aw_put X dX8_goesOn_71 (X.lt (by decide)) (sh_12 (rfl : tp 74 = 12) _) fl_RX8_176 fw_8_14 (Nat.le_of_ble_eq_true rfl) (sp_12_14 (rfl : tp 74 = 12) _ _) (fun M13 eM13 => ?_)
  have h := h M13 eM13
  refine aw_aload_n X dX8_goesOn_74 0 rfl ?_
  refine aw_get X dX8_goesOn_75 (X.lt (by decide)) (sh_12 (rfl : tp 74 = 12) _) fl_RX8_7 rfl ?_
  refine aw_bipush (v := 8) X dX8_goesOn_78 (by decide) ?_
  refine aw_iload_n X dX8_goesOn_80 1 rfl ?_
  refine aw_if_ne (tgt := 88) X dX8_goesOn_81 (by decide) (fun c => ?_) (fun c => ?_)
  · have h := h.1 c
    exact aw_sub [0, 1, 2] rfl (lb_X8_goesOn_88 X   _ _ _ _ h)
  · have h := h.2 c
    refine aw_iload_n X dX8_goesOn_84 2 rfl ?_
    refine aw_if_eq (tgt := 92) X dX8_goesOn_85 (by decide) (fun c => ?_) (fun c => ?_)
    · have h := h.1 c
      refine aw_aload_n X dX8_goesOn_92 0 rfl ?_
      refine aw_get X dX8_goesOn_93 (X.lt (by decide)) (sh_12 (rfl : tp 74 = 12) _) fl_RX8_7 rfl ?_
      refine aw_bipush (v := 8) X dX8_goesOn_96 (by decide) ?_
      refine aw_iald X dX8_goesOn_98 (X.lt (by decide)) (sh_ia 3108 (rfl : tp 75 = 4108) _) (by unfold vp_in; decide) ?_
      refine aw_iconst (v := 1) X dX8_goesOn_99 (by decide) ?_
      refine aw_iadd X dX8_goesOn_100 ?_
      exact aw_sub [0, 1, 2] rfl (lb_X8_goesOn_101 X   _ _ _ _ _ h)
    · have h := h.2 c
      exact aw_sub [0, 1, 2] rfl (lb_X8_goesOn_88 X   _ _ _ _ h)
def wb_X8_goesOn_55 (n : Nat)   (K : Mm → Prop) (M : Mm) (x1 : Int32) (s0 : Int32) : Prop := (s0 = 0 → wb_X8_goesOn_70 n K M x1 s0 0 (M 74 14)) ∧ (¬ s0 = 0 → wb_X8_goesOn_70 n K M x1 s0 1 (M 74 14))
set_option maxHeartbeats 4000000 in
set_option maxRecDepth 100000 in
theorem lb_X8_goesOn_55 {g : Gm} {E : En} {A : Nat → Prop} {K : Mm → Prop} (X : CX g cX8_goesOn RX8 none 5 E A 4)    (M : Mm) (x1 : Int32) (s0 : Int32) (h : wb_X8_goesOn_55 (eN E)   K M x1 s0) : AW g E A 4 (MQ (gB g) (QV E K A) (gA g) (gS g) (gk g) (gn g) A) 55 [(0, .ref (eA E 74)), (1, .int x1)] [.int s0] M := by
  unfold wb_X8_goesOn_55 at h
  refine aw_istore_n (lv' := [(2, .int s0), (0, .ref (eA E 74)), (1, .int x1)]) X dX8_goesOn_55 (by decide) rfl ?_
  refine aw_aload_n X dX8_goesOn_56 1 rfl ?_
  refine aw_dup X dX8_goesOn_57 rfl ?_
  refine aw_get X dX8_goesOn_58 (X.lt (by decide)) (sh_12 (rfl : tp 74 = 12) _) fl_RX8_176 rfl ?_
  refine aw_iload_n X dX8_goesOn_61 0 rfl ?_
  refine aw_if_eq (tgt := 69) X dX8_goesOn_62 (by decide) (fun c => ?_) (fun c => ?_)
  · have h := h.1 c
    refine aw_iconst (v := 0) X dX8_goesOn_69 (by decide) ?_
    exact aw_sub [1, 2, 0] rfl (lb_X8_goesOn_70 X   _ _ _ _ _ h)
  · have h := h.2 c
    refine aw_iconst (v := 1) X dX8_goesOn_65 (by decide) ?_
    refine aw_goto (tgt := 70) X dX8_goesOn_66 (by decide) ?_
    exact aw_sub [1, 2, 0] rfl (lb_X8_goesOn_70 X   _ _ _ _ _ h)
def wl_X8_goesOn_2 (n : Nat)   (K : Mm → Prop) : Nat → Mm → Int32 → Prop
  | 0, _, _ => False
  | k + 1, M, x1 => ((M 75 0) ≤ x1 → wp_X8_leaveHome n M (fun M1 => wp_X8_comeThere n M1 (fun M3 r4 => wp_X8_waitOrGo n M3 (fun M5 => wp_X8_standing n M5 (fun M7 r8 => (r8 ≤ 0 → wb_X8_goesOn_55 n K M7 r4 0) ∧ (¬ r8 ≤ 0 → wb_X8_goesOn_55 n K M7 r4 1)))))) ∧ (¬ (M 75 0) ≤ x1 → wp_X8_of n M x1 5 (fun M9 r10 => vp_in x1 8 ∧ (∀ M11 : Mm, M11 = wr M9 86 x1.toNatClampNeg r10 → ∀ v12 : Int32, v12 = x1 + 1 → wl_X8_goesOn_2 n K k M11 v12)))
set_option maxHeartbeats 4000000 in
set_option maxRecDepth 100000 in
theorem lw_X8_goesOn_2 {g : Gm} {E : En} {A : Nat → Prop} {K : Mm → Prop} (X : CX g cX8_goesOn RX8 none 5 E A 4)    : ∀ (k : Nat) (M : Mm) (x1 : Int32), wl_X8_goesOn_2 (eN E)   K k M x1 → AW g E A 4 (MQ (gB g) (QV E K A) (gA g) (gS g) (gk g) (gn g) A) 2 [(0, .ref (eA E 74)), (1, .int x1)] [] M := by
  intro k
  induction k with
  | zero => intro M x1 h; exact h.elim
  | succ k ih =>
    intro M x1 h
    rw [wl_X8_goesOn_2] at h
    refine aw_iload_n X dX8_goesOn_2 1 rfl ?_
    refine aw_aload_n X dX8_goesOn_3 0 rfl ?_
    refine aw_get X dX8_goesOn_4 (X.lt (by decide)) (sh_12 (rfl : tp 74 = 12) _) fl_RX8_7 rfl ?_
    refine aw_iconst (v := 0) X dX8_goesOn_7 (by decide) ?_
    refine aw_iald X dX8_goesOn_8 (X.lt (by decide)) (sh_ia 3108 (rfl : tp 75 = 4108) _) (by unfold vp_in; decide) ?_
    refine aw_icmp_ge (tgt := 30) X dX8_goesOn_9 (by decide) (fun c => ?_) (fun c => ?_)
    · have h := h.1 c
      refine aw_aload_n X dX8_goesOn_30 0 rfl ?_
      refine ca_v X (rn_v X [] [] (X.lt (by decide)) (sh_12 (rfl : tp 74 = 12) _) rfl rfl kw1198 kw68 (c_X8_leaveHome h) cal_yX8_leaveHome kw1196 (Nat.le_of_ble_eq_true rfl) rfl rfl (Nat.le_of_ble_eq_true rfl) dX8_goesOn_31) (fun M1 h => ?_)
      refine aw_aload_n X dX8_goesOn_34 0 rfl ?_
      refine ca_i X (rn_v X [] [] (X.lt (by decide)) (sh_12 (rfl : tp 74 = 12) _) rfl rfl kw1210 kw71 (c_X8_comeThere h) cal_yX8_comeThere kw1208 (Nat.le_of_ble_eq_true rfl) rfl rfl (Nat.le_of_ble_eq_true rfl) dX8_goesOn_35) (fun M3 r4 h => ?_)
      refine aw_istore_n (lv' := [(1, .int r4), (0, .ref (eA E 74))]) X dX8_goesOn_38 (by decide) rfl ?_
      refine aw_aload_n X dX8_goesOn_39 1 rfl ?_
      refine ca_v X (rn_v X [] [] (X.lt (by decide)) (sh_12 (rfl : tp 74 = 12) _) rfl rfl kw1222 kw74 (c_X8_waitOrGo h) cal_yX8_waitOrGo kw1220 (Nat.le_of_ble_eq_true rfl) rfl rfl (Nat.le_of_ble_eq_true rfl) dX8_goesOn_40) (fun M5 h => ?_)
      refine aw_aload_n X dX8_goesOn_43 1 rfl ?_
      refine ca_i X (rn_v X [] [] (X.lt (by decide)) (sh_12 (rfl : tp 74 = 12) _) rfl rfl kw1121 kw61 (c_X8_standing h) cal_yX8_standing kw1119 (Nat.le_of_ble_eq_true rfl) rfl rfl (Nat.le_of_ble_eq_true rfl) dX8_goesOn_44) (fun M7 r8 h => ?_)
      refine aw_if_le (tgt := 54) X dX8_goesOn_47 (by decide) (fun c => ?_) (fun c => ?_)
      · have h := h.1 c
        refine aw_iconst (v := 0) X dX8_goesOn_54 (by decide) ?_
        exact aw_sub [1, 0] rfl (lb_X8_goesOn_55 X   _ _ _ h)
      · have h := h.2 c
        refine aw_iconst (v := 1) X dX8_goesOn_50 (by decide) ?_
        refine aw_goto (tgt := 55) X dX8_goesOn_51 (by decide) ?_
        exact aw_sub [1, 0] rfl (lb_X8_goesOn_55 X   _ _ _ h)
    · have h := h.2 c
      refine aw_aload_n X dX8_goesOn_12 0 rfl ?_
      refine aw_get X dX8_goesOn_13 (X.lt (by decide)) (sh_12 (rfl : tp 74 = 12) _) fl_RX8_43 rfl ?_
      refine aw_iload_n X dX8_goesOn_16 1 rfl ?_
      refine aw_aload_n X dX8_goesOn_17 0 rfl ?_
      refine aw_iload_n X dX8_goesOn_18 1 rfl ?_
      refine aw_iconst (v := 5) X dX8_goesOn_19 (by decide) ?_
      refine ca_i X (rn_v X [.int x1, .int 5] [.int x1, .ref (eA E 86)] (X.lt (by decide)) (sh_12 (rfl : tp 74 = 12) _) rfl rfl kw1101 kw56 (c_X8_of h) cal_yX8_of kw1099 (Nat.le_of_ble_eq_true rfl) rfl rfl (Nat.le_of_ble_eq_true rfl) dX8_goesOn_20) (fun M9 r10 h => ?_)
      obtain ⟨hin, h⟩ := h
      refine aw_iast X dX8_goesOn_23 (X.lt (by decide)) (sh_ia 8 (rfl : tp 86 = 1008) _) (sh_ia 8 (rfl : tp 86 = 1008) _) hin (fun M11 eM11 => ?_)
      have h := h M11 eM11
      obtain ⟨v12, ev12⟩ : ∃ y : Int32, y = x1 + 1 := ⟨_, rfl⟩
      have h := h v12 ev12
      refine aw_iinc (v := v12) (lv' := [(1, .int v12), (0, .ref (eA E 74))]) X dX8_goesOn_24 1 rfl (by rw [ev12]; rfl) (by decide) rfl ?_
      refine aw_goto (tgt := 2) X dX8_goesOn_27 (by decide) ?_
      exact aw_sub [1, 0] rfl (ih _ _ h)
def wp_X8_goesOn (n : Nat)  (M : Mm)  (K : Mm → Prop) : Prop := ∃ kf : Nat, wl_X8_goesOn_2 n K kf M 0
set_option maxHeartbeats 4000000 in
set_option maxRecDepth 100000 in
theorem c_X8_goesOn {l : Launch} {E : En} {M : Mm}  {K : Mm → Prop}  (h : wp_X8_goesOn (eN E)  M  K) : Ctr l E yX8_goesOn cX8_goesOn 4 none 5 [.ref (eA E 74)] M (QV E K) := by
  refine Ctr.of (by decide +kernel) (Nat.le_of_ble_eq_true rfl) (fun g A hgl X => ?_)
  subst hgl
  have X : CX g cX8_goesOn RX8 none 5 E A 4 := X
  show AW g E A 4 _ 0 [(0, .ref (eA E 74))] [] M
  unfold wp_X8_goesOn at h
  refine aw_iconst (v := 0) X dX8_goesOn_0 (by decide) ?_
  refine aw_istore_n (lv' := [(1, .int 0), (0, .ref (eA E 74))]) X dX8_goesOn_1 (by decide) rfl ?_
  obtain ⟨kf, h⟩ := h
  exact aw_sub [1, 0] rfl (lw_X8_goesOn_2 X   kf _ _ h)
def wl_X8_ofAll_4 (n : Nat) (p1 : Int32)  (K : Mm → Int32 → Prop) : Nat → Mm → Int32 → Int32 → Prop
  | 0, _, _, _ => False
  | k + 1, M, x2, x3 => ((M 75 0) ≤ x3 → K M x2) ∧ (¬ (M 75 0) ≤ x3 → wp_X8_of n M x3 p1 (fun M1 r2 => ∀ v3 : Int32, v3 = x2 + r2 → ∀ v4 : Int32, v4 = x3 + 1 → wl_X8_ofAll_4 n p1 K k M1 v3 v4))
set_option maxHeartbeats 4000000 in
set_option maxRecDepth 100000 in
theorem lw_X8_ofAll_4 {g : Gm} {E : En} {A : Nat → Prop} {K : Mm → Int32 → Prop} (X : CX g cX8_ofAll RX8 (some .int) 1 E A 4) (p1 : Int32)   : ∀ (k : Nat) (M : Mm) (x2 : Int32) (x3 : Int32), wl_X8_ofAll_4 (eN E) p1  K k M x2 x3 → AW g E A 4 (MQ (gB g) (QI E K A) (gA g) (gS g) (gk g) (gn g) A) 4 [(0, .ref (eA E 74)), (1, .int p1), (2, .int x2), (3, .int x3)] [] M := by
  intro k
  induction k with
  | zero => intro M x2 x3 h; exact h.elim
  | succ k ih =>
    intro M x2 x3 h
    rw [wl_X8_ofAll_4] at h
    refine aw_iload_n X dX8_ofAll_4 3 rfl ?_
    refine aw_aload_n X dX8_ofAll_5 0 rfl ?_
    refine aw_get X dX8_ofAll_6 (X.lt (by decide)) (sh_12 (rfl : tp 74 = 12) _) fl_RX8_7 rfl ?_
    refine aw_iconst (v := 0) X dX8_ofAll_9 (by decide) ?_
    refine aw_iald X dX8_ofAll_10 (X.lt (by decide)) (sh_ia 3108 (rfl : tp 75 = 4108) _) (by unfold vp_in; decide) ?_
    refine aw_icmp_ge (tgt := 29) X dX8_ofAll_11 (by decide) (fun c => ?_) (fun c => ?_)
    · have h := h.1 c
      refine aw_iload_n X dX8_ofAll_29 2 rfl ?_
      exact aw_iret X dX8_ofAll_30 h
    · have h := h.2 c
      refine aw_iload_n X dX8_ofAll_14 2 rfl ?_
      refine aw_aload_n X dX8_ofAll_15 0 rfl ?_
      refine aw_iload_n X dX8_ofAll_16 3 rfl ?_
      refine aw_iload_n X dX8_ofAll_17 1 rfl ?_
      refine ca_i X (rn_v X [.int x3, .int p1] [.int x2] (X.lt (by decide)) (sh_12 (rfl : tp 74 = 12) _) rfl rfl kw1101 kw56 (c_X8_of h) cal_yX8_of kw1099 (Nat.le_of_ble_eq_true rfl) rfl rfl (Nat.le_of_ble_eq_true rfl) dX8_ofAll_18) (fun M1 r2 h => ?_)
      refine aw_iadd X dX8_ofAll_21 ?_
      refine aw_top (fun v3 ev3 => ?_)
      have h := h v3 ev3
      refine aw_istore_n (lv' := [(2, .int v3), (0, .ref (eA E 74)), (1, .int p1), (3, .int x3)]) X dX8_ofAll_22 (by decide) rfl ?_
      obtain ⟨v4, ev4⟩ : ∃ y : Int32, y = x3 + 1 := ⟨_, rfl⟩
      have h := h v4 ev4
      refine aw_iinc (v := v4) (lv' := [(3, .int v4), (2, .int v3), (0, .ref (eA E 74)), (1, .int p1)]) X dX8_ofAll_23 3 rfl (by rw [ev4]; rfl) (by decide) rfl ?_
      refine aw_goto (tgt := 4) X dX8_ofAll_26 (by decide) ?_
      exact aw_sub [2, 3, 1, 0] rfl (ih _ _ _ h)
def wp_X8_ofAll (n : Nat)  (M : Mm) (p1 : Int32) (K : Mm → Int32 → Prop) : Prop := ∃ kf : Nat, wl_X8_ofAll_4 n p1 K kf M 0 0
set_option maxHeartbeats 4000000 in
set_option maxRecDepth 100000 in
theorem c_X8_ofAll {l : Launch} {E : En} {M : Mm} {p1 : Int32} {K : Mm → Int32 → Prop}  (h : wp_X8_ofAll (eN E)  M p1 K) : Ctr l E yX8_ofAll cX8_ofAll 4 (some .int) 1 [.ref (eA E 74), .int p1] M (QI E K) := by
  refine Ctr.of (by decide +kernel) (Nat.le_of_ble_eq_true rfl) (fun g A hgl X => ?_)
  subst hgl
  have X : CX g cX8_ofAll RX8 (some .int) 1 E A 4 := X
  show AW g E A 4 _ 0 [(0, .ref (eA E 74)), (1, .int p1)] [] M
  unfold wp_X8_ofAll at h
  refine aw_iconst (v := 0) X dX8_ofAll_0 (by decide) ?_
  refine aw_istore_n (lv' := [(2, .int 0), (0, .ref (eA E 74)), (1, .int p1)]) X dX8_ofAll_1 (by decide) rfl ?_
  refine aw_iconst (v := 0) X dX8_ofAll_2 (by decide) ?_
  refine aw_istore_n (lv' := [(3, .int 0), (2, .int 0), (0, .ref (eA E 74)), (1, .int p1)]) X dX8_ofAll_3 (by decide) rfl ?_
  obtain ⟨kf, h⟩ := h
  exact aw_sub [2, 3, 1, 0] rfl (lw_X8_ofAll_4 X p1  kf _ _ _ h)
def wb_X8_run_43 (n : Nat) (p1 : Int32)  (K : Mm → Int32 → Prop) (M : Mm)  : Prop := wp_X8_ofAll n M 9 (fun M6 r7 => K M6 r7)
set_option maxHeartbeats 4000000 in
set_option maxRecDepth 100000 in
theorem lb_X8_run_43 {g : Gm} {E : En} {A : Nat → Prop} {K : Mm → Int32 → Prop} (X : CX g cX8_run RX8 (some .int) 6 E A 3) (p1 : Int32)   (M : Mm)  (h : wb_X8_run_43 (eN E) p1  K M ) : AW g E A 3 (MQ (gB g) (QI E K A) (gA g) (gS g) (gk g) (gn g) A) 43 [(0, .ref (eA E 74))] [] M := by
  unfold wb_X8_run_43 at h
  refine aw_aload_n X dX8_run_43 0 rfl ?_
  refine aw_bipush (v := 9) X dX8_run_44 (by decide) ?_
  refine ca_i X (rn_v X [.int 9] [] (X.lt (by decide)) (sh_12 (rfl : tp 74 = 12) _) rfl rfl kw1226 kw75 (c_X8_ofAll h) cal_yX8_ofAll kw1224 (Nat.le_of_ble_eq_true rfl) rfl rfl (Nat.le_of_ble_eq_true rfl) dX8_run_46) (fun M6 r7 h => ?_)
  exact aw_iret X dX8_run_49 h
def wl_X8_run_17 (n : Nat) (p1 : Int32)  (K : Mm → Int32 → Prop) : Nat → Mm → Int32 → Prop
  | 0, _, _ => False
  | k + 1, M, x2 => (p1 ≤ x2 → wb_X8_run_43 n p1 K M ) ∧ (¬ p1 ≤ x2 → (99999 ≤ (M 75 2) → wb_X8_run_43 n p1 K M ) ∧ (¬ 99999 ≤ (M 75 2) → wp_X8_goesOn n M (fun M3 => ∀ v5 : Int32, v5 = x2 + 1 → wl_X8_run_17 n p1 K k M3 v5)))
set_option maxHeartbeats 4000000 in
set_option maxRecDepth 100000 in
theorem lw_X8_run_17 {g : Gm} {E : En} {A : Nat → Prop} {K : Mm → Int32 → Prop} (X : CX g cX8_run RX8 (some .int) 6 E A 3) (p1 : Int32)   : ∀ (k : Nat) (M : Mm) (x2 : Int32), wl_X8_run_17 (eN E) p1  K k M x2 → AW g E A 3 (MQ (gB g) (QI E K A) (gA g) (gS g) (gk g) (gn g) A) 17 [(0, .ref (eA E 74)), (1, .int p1), (2, .int x2)] [] M := by
  intro k
  induction k with
  | zero => intro M x2 h; exact h.elim
  | succ k ih =>
    intro M x2 h
    rw [wl_X8_run_17] at h
    refine aw_iload_n X dX8_run_17 2 rfl ?_
    refine aw_iload_n X dX8_run_18 1 rfl ?_
    refine aw_icmp_ge (tgt := 43) X dX8_run_19 (by decide) (fun c => ?_) (fun c => ?_)
    · have h := h.1 c
      exact aw_sub [0] rfl (lb_X8_run_43 X p1  _ h)
    · have h := h.2 c
      refine aw_aload_n X dX8_run_22 0 rfl ?_
      refine aw_get X dX8_run_23 (X.lt (by decide)) (sh_12 (rfl : tp 74 = 12) _) fl_RX8_7 rfl ?_
      refine aw_iconst (v := 2) X dX8_run_26 (by decide) ?_
      refine aw_iald X dX8_run_27 (X.lt (by decide)) (sh_ia 3108 (rfl : tp 75 = 4108) _) (by unfold vp_in; decide) ?_
      refine aw_ldc (v := 99999) X dX8_run_28 kw1191 ?_
      refine aw_icmp_ge (tgt := 43) X dX8_run_30 (by decide) (fun c => ?_) (fun c => ?_)
      · have h := h.1 c
        exact aw_sub [0] rfl (lb_X8_run_43 X p1  _ h)
      · have h := h.2 c
        refine aw_aload_n X dX8_run_33 0 rfl ?_
        refine ca_v X (rn_v X [] [] (X.lt (by decide)) (sh_12 (rfl : tp 74 = 12) _) rfl rfl kw1194 kw67 (c_X8_goesOn h) cal_yX8_goesOn kw1192 (Nat.le_of_ble_eq_true rfl) rfl rfl (Nat.le_of_ble_eq_true rfl) dX8_run_34) (fun M3 h => ?_)
        obtain ⟨v5, ev5⟩ : ∃ y : Int32, y = x2 + 1 := ⟨_, rfl⟩
        have h := h v5 ev5
        refine aw_iinc (v := v5) (lv' := [(2, .int v5), (0, .ref (eA E 74)), (1, .int p1)]) X dX8_run_37 2 rfl (by rw [ev5]; rfl) (by decide) rfl ?_
        refine aw_goto (tgt := 17) X dX8_run_40 (by decide) ?_
        exact aw_sub [1, 2, 0] rfl (ih _ _ h)
def wp_X8_run (n : Nat)  (M : Mm) (p1 : Int32) (K : Mm → Int32 → Prop) : Prop := wp_X8_isIn n M p1.toInt64 1 300 (fun M1 r2 => (¬ r2 = 0 → ∃ kf : Nat, wl_X8_run_17 n p1 K kf M1 0) ∧ (r2 = 0 → K M1 (-1000000001)))
set_option maxHeartbeats 4000000 in
set_option maxRecDepth 100000 in
theorem c_X8_run {l : Launch} {E : En} {M : Mm} {p1 : Int32} {K : Mm → Int32 → Prop}  (h : wp_X8_run (eN E)  M p1 K) : Ctr l E yX8_run cX8_run 3 (some .int) 6 [.ref (eA E 74), .int p1] M (QI E K) := by
  refine Ctr.of (by decide +kernel) (Nat.le_of_ble_eq_true rfl) (fun g A hgl X => ?_)
  subst hgl
  have X : CX g cX8_run RX8 (some .int) 6 E A 3 := X
  show AW g E A 3 _ 0 [(0, .ref (eA E 74)), (1, .int p1)] [] M
  unfold wp_X8_run at h
  refine aw_iload_n X dX8_run_0 1 rfl ?_
  refine aw_i2l X dX8_run_1 ?_
  refine aw_lconst (v := 1) X dX8_run_2 (by decide) ?_
  refine aw_ldc2_w (v := 300) X dX8_run_3 kw1190 ?_
  refine ca_i X (rn_s X [.long p1.toInt64, .long 1, .long 300] [] kw1079 (c_X8_isIn h) cal_yX8_isIn kw1078 (Nat.le_of_ble_eq_true rfl) rfl rfl (Nat.le_of_ble_eq_true rfl) dX8_run_6) (fun M1 r2 h => ?_)
  refine aw_if_ne (tgt := 15) X dX8_run_9 (by decide) (fun c => ?_) (fun c => ?_)
  · have h := h.1 c
    refine aw_iconst (v := 0) X dX8_run_15 (by decide) ?_
    refine aw_istore_n (lv' := [(2, .int 0), (0, .ref (eA E 74)), (1, .int p1)]) X dX8_run_16 (by decide) rfl ?_
    obtain ⟨kf, h⟩ := h
    exact aw_sub [1, 2, 0] rfl (lw_X8_run_17 X p1  kf _ _ h)
  · have h := h.2 c
    refine aw_ldc (v := (-1000000001)) X dX8_run_12 kw1084 ?_
    exact aw_iret X dX8_run_14 h
def wl_X8_laysBy_2 (n : Nat)   (K : Mm → Prop) : Nat → Mm → Int32 → Prop
  | 0, _, _ => False
  | k + 1, M, x1 => (108 ≤ x1 → K M) ∧ (¬ 108 ≤ x1 → vp_in x1 3108 ∧ (vp_in x1 108 ∧ (∀ M1 : Mm, M1 = wr M 87 x1.toNatClampNeg (M 75 x1.toNatClampNeg) → ∀ v2 : Int32, v2 = x1 + 1 → wl_X8_laysBy_2 n K k M1 v2)))
set_option maxHeartbeats 4000000 in
set_option maxRecDepth 100000 in
theorem lw_X8_laysBy_2 {g : Gm} {E : En} {A : Nat → Prop} {K : Mm → Prop} (X : CX g cX8_laysBy RX8 none 0 E A 2)    : ∀ (k : Nat) (M : Mm) (x1 : Int32), wl_X8_laysBy_2 (eN E)   K k M x1 → AW g E A 2 (MQ (gB g) (QV E K A) (gA g) (gS g) (gk g) (gn g) A) 2 [(0, .ref (eA E 74)), (1, .int x1)] [] M := by
  intro k
  induction k with
  | zero => intro M x1 h; exact h.elim
  | succ k ih =>
    intro M x1 h
    rw [wl_X8_laysBy_2] at h
    refine aw_iload_n X dX8_laysBy_2 1 rfl ?_
    refine aw_bipush (v := 108) X dX8_laysBy_3 (by decide) ?_
    refine aw_icmp_ge (tgt := 26) X dX8_laysBy_5 (by decide) (fun c => ?_) (fun c => ?_)
    · have h := h.1 c
      exact aw_vret X dX8_laysBy_26 h
    · have h := h.2 c
      refine aw_aload_n X dX8_laysBy_8 0 rfl ?_
      refine aw_get X dX8_laysBy_9 (X.lt (by decide)) (sh_12 (rfl : tp 74 = 12) _) fl_RX8_50 rfl ?_
      refine aw_iload_n X dX8_laysBy_12 1 rfl ?_
      refine aw_aload_n X dX8_laysBy_13 0 rfl ?_
      refine aw_get X dX8_laysBy_14 (X.lt (by decide)) (sh_12 (rfl : tp 74 = 12) _) fl_RX8_7 rfl ?_
      refine aw_iload_n X dX8_laysBy_17 1 rfl ?_
      obtain ⟨hin, h⟩ := h
      refine aw_iald X dX8_laysBy_18 (X.lt (by decide)) (sh_ia 3108 (rfl : tp 75 = 4108) _) hin ?_
      obtain ⟨hin, h⟩ := h
      refine aw_iast X dX8_laysBy_19 (X.lt (by decide)) (sh_ia 108 (rfl : tp 87 = 1108) _) (sh_ia 108 (rfl : tp 87 = 1108) _) hin (fun M1 eM1 => ?_)
      have h := h M1 eM1
      obtain ⟨v2, ev2⟩ : ∃ y : Int32, y = x1 + 1 := ⟨_, rfl⟩
      have h := h v2 ev2
      refine aw_iinc (v := v2) (lv' := [(1, .int v2), (0, .ref (eA E 74))]) X dX8_laysBy_20 1 rfl (by rw [ev2]; rfl) (by decide) rfl ?_
      refine aw_goto (tgt := 2) X dX8_laysBy_23 (by decide) ?_
      exact aw_sub [1, 0] rfl (ih _ _ h)
def wp_X8_laysBy (n : Nat)  (M : Mm)  (K : Mm → Prop) : Prop := ∃ kf : Nat, wl_X8_laysBy_2 n K kf M 0
set_option maxHeartbeats 4000000 in
set_option maxRecDepth 100000 in
theorem c_X8_laysBy {l : Launch} {E : En} {M : Mm}  {K : Mm → Prop}  (h : wp_X8_laysBy (eN E)  M  K) : Ctr l E yX8_laysBy cX8_laysBy 2 none 0 [.ref (eA E 74)] M (QV E K) := by
  refine Ctr.of (by decide +kernel) (Nat.le_of_ble_eq_true rfl) (fun g A hgl X => ?_)
  subst hgl
  have X : CX g cX8_laysBy RX8 none 0 E A 2 := X
  show AW g E A 2 _ 0 [(0, .ref (eA E 74))] [] M
  unfold wp_X8_laysBy at h
  refine aw_iconst (v := 0) X dX8_laysBy_0 (by decide) ?_
  refine aw_istore_n (lv' := [(1, .int 0), (0, .ref (eA E 74))]) X dX8_laysBy_1 (by decide) rfl ?_
  obtain ⟨kf, h⟩ := h
  exact aw_sub [1, 0] rfl (lw_X8_laysBy_2 X   kf _ _ h)
def wl_X8_laysBack_2 (n : Nat)   (K : Mm → Prop) : Nat → Mm → Int32 → Prop
  | 0, _, _ => False
  | k + 1, M, x1 => (108 ≤ x1 → K M) ∧ (¬ 108 ≤ x1 → vp_in x1 108 ∧ (vp_in x1 3108 ∧ (∀ M1 : Mm, M1 = wr M 75 x1.toNatClampNeg (M 87 x1.toNatClampNeg) → ∀ v2 : Int32, v2 = x1 + 1 → wl_X8_laysBack_2 n K k M1 v2)))
set_option maxHeartbeats 4000000 in
set_option maxRecDepth 100000 in
theorem lw_X8_laysBack_2 {g : Gm} {E : En} {A : Nat → Prop} {K : Mm → Prop} (X : CX g cX8_laysBack RX8 none 0 E A 2)    : ∀ (k : Nat) (M : Mm) (x1 : Int32), wl_X8_laysBack_2 (eN E)   K k M x1 → AW g E A 2 (MQ (gB g) (QV E K A) (gA g) (gS g) (gk g) (gn g) A) 2 [(0, .ref (eA E 74)), (1, .int x1)] [] M := by
  intro k
  induction k with
  | zero => intro M x1 h; exact h.elim
  | succ k ih =>
    intro M x1 h
    rw [wl_X8_laysBack_2] at h
    refine aw_iload_n X dX8_laysBack_2 1 rfl ?_
    refine aw_bipush (v := 108) X dX8_laysBack_3 (by decide) ?_
    refine aw_icmp_ge (tgt := 26) X dX8_laysBack_5 (by decide) (fun c => ?_) (fun c => ?_)
    · have h := h.1 c
      exact aw_vret X dX8_laysBack_26 h
    · have h := h.2 c
      refine aw_aload_n X dX8_laysBack_8 0 rfl ?_
      refine aw_get X dX8_laysBack_9 (X.lt (by decide)) (sh_12 (rfl : tp 74 = 12) _) fl_RX8_7 rfl ?_
      refine aw_iload_n X dX8_laysBack_12 1 rfl ?_
      refine aw_aload_n X dX8_laysBack_13 0 rfl ?_
      refine aw_get X dX8_laysBack_14 (X.lt (by decide)) (sh_12 (rfl : tp 74 = 12) _) fl_RX8_50 rfl ?_
      refine aw_iload_n X dX8_laysBack_17 1 rfl ?_
      obtain ⟨hin, h⟩ := h
      refine aw_iald X dX8_laysBack_18 (X.lt (by decide)) (sh_ia 108 (rfl : tp 87 = 1108) _) hin ?_
      obtain ⟨hin, h⟩ := h
      refine aw_iast X dX8_laysBack_19 (X.lt (by decide)) (sh_ia 3108 (rfl : tp 75 = 4108) _) (sh_ia 3108 (rfl : tp 75 = 4108) _) hin (fun M1 eM1 => ?_)
      have h := h M1 eM1
      obtain ⟨v2, ev2⟩ : ∃ y : Int32, y = x1 + 1 := ⟨_, rfl⟩
      have h := h v2 ev2
      refine aw_iinc (v := v2) (lv' := [(1, .int v2), (0, .ref (eA E 74))]) X dX8_laysBack_20 1 rfl (by rw [ev2]; rfl) (by decide) rfl ?_
      refine aw_goto (tgt := 2) X dX8_laysBack_23 (by decide) ?_
      exact aw_sub [1, 0] rfl (ih _ _ h)
def wp_X8_laysBack (n : Nat)  (M : Mm)  (K : Mm → Prop) : Prop := ∃ kf : Nat, wl_X8_laysBack_2 n K kf M 0
set_option maxHeartbeats 4000000 in
set_option maxRecDepth 100000 in
theorem c_X8_laysBack {l : Launch} {E : En} {M : Mm}  {K : Mm → Prop}  (h : wp_X8_laysBack (eN E)  M  K) : Ctr l E yX8_laysBack cX8_laysBack 2 none 0 [.ref (eA E 74)] M (QV E K) := by
  refine Ctr.of (by decide +kernel) (Nat.le_of_ble_eq_true rfl) (fun g A hgl X => ?_)
  subst hgl
  have X : CX g cX8_laysBack RX8 none 0 E A 2 := X
  show AW g E A 2 _ 0 [(0, .ref (eA E 74))] [] M
  unfold wp_X8_laysBack at h
  refine aw_iconst (v := 0) X dX8_laysBack_0 (by decide) ?_
  refine aw_istore_n (lv' := [(1, .int 0), (0, .ref (eA E 74))]) X dX8_laysBack_1 (by decide) rfl ?_
  obtain ⟨kf, h⟩ := h
  exact aw_sub [1, 0] rfl (lw_X8_laysBack_2 X   kf _ _ h)
def wl_X8_goesOnMany_2 (n : Nat) (p1 : Int32)  (K : Mm → Prop) : Nat → Mm → Int32 → Prop
  | 0, _, _ => False
  | k + 1, M, x2 => (p1 ≤ x2 → K M) ∧ (¬ p1 ≤ x2 → wp_X8_goesOn n M (fun M1 => ∀ v3 : Int32, v3 = x2 + 1 → wl_X8_goesOnMany_2 n p1 K k M1 v3))
set_option maxHeartbeats 4000000 in
set_option maxRecDepth 100000 in
theorem lw_X8_goesOnMany_2 {g : Gm} {E : En} {A : Nat → Prop} {K : Mm → Prop} (X : CX g cX8_goesOnMany RX8 none 6 E A 3) (p1 : Int32)   : ∀ (k : Nat) (M : Mm) (x2 : Int32), wl_X8_goesOnMany_2 (eN E) p1  K k M x2 → AW g E A 3 (MQ (gB g) (QV E K A) (gA g) (gS g) (gk g) (gn g) A) 2 [(0, .ref (eA E 74)), (1, .int p1), (2, .int x2)] [] M := by
  intro k
  induction k with
  | zero => intro M x2 h; exact h.elim
  | succ k ih =>
    intro M x2 h
    rw [wl_X8_goesOnMany_2] at h
    refine aw_iload_n X dX8_goesOnMany_2 2 rfl ?_
    refine aw_iload_n X dX8_goesOnMany_3 1 rfl ?_
    refine aw_icmp_ge (tgt := 17) X dX8_goesOnMany_4 (by decide) (fun c => ?_) (fun c => ?_)
    · have h := h.1 c
      exact aw_vret X dX8_goesOnMany_17 h
    · have h := h.2 c
      refine aw_aload_n X dX8_goesOnMany_7 0 rfl ?_
      refine ca_v X (rn_v X [] [] (X.lt (by decide)) (sh_12 (rfl : tp 74 = 12) _) rfl rfl kw1194 kw67 (c_X8_goesOn h) cal_yX8_goesOn kw1192 (Nat.le_of_ble_eq_true rfl) rfl rfl (Nat.le_of_ble_eq_true rfl) dX8_goesOnMany_8) (fun M1 h => ?_)
      obtain ⟨v3, ev3⟩ : ∃ y : Int32, y = x2 + 1 := ⟨_, rfl⟩
      have h := h v3 ev3
      refine aw_iinc (v := v3) (lv' := [(2, .int v3), (0, .ref (eA E 74)), (1, .int p1)]) X dX8_goesOnMany_11 2 rfl (by rw [ev3]; rfl) (by decide) rfl ?_
      refine aw_goto (tgt := 2) X dX8_goesOnMany_14 (by decide) ?_
      exact aw_sub [1, 2, 0] rfl (ih _ _ h)
def wp_X8_goesOnMany (n : Nat)  (M : Mm) (p1 : Int32) (K : Mm → Prop) : Prop := ∃ kf : Nat, wl_X8_goesOnMany_2 n p1 K kf M 0
set_option maxHeartbeats 4000000 in
set_option maxRecDepth 100000 in
theorem c_X8_goesOnMany {l : Launch} {E : En} {M : Mm} {p1 : Int32} {K : Mm → Prop}  (h : wp_X8_goesOnMany (eN E)  M p1 K) : Ctr l E yX8_goesOnMany cX8_goesOnMany 3 none 6 [.ref (eA E 74), .int p1] M (QV E K) := by
  refine Ctr.of (by decide +kernel) (Nat.le_of_ble_eq_true rfl) (fun g A hgl X => ?_)
  subst hgl
  have X : CX g cX8_goesOnMany RX8 none 6 E A 3 := X
  show AW g E A 3 _ 0 [(0, .ref (eA E 74)), (1, .int p1)] [] M
  unfold wp_X8_goesOnMany at h
  refine aw_iconst (v := 0) X dX8_goesOnMany_0 (by decide) ?_
  refine aw_istore_n (lv' := [(2, .int 0), (0, .ref (eA E 74)), (1, .int p1)]) X dX8_goesOnMany_1 (by decide) rfl ?_
  obtain ⟨kf, h⟩ := h
  exact aw_sub [1, 2, 0] rfl (lw_X8_goesOnMany_2 X p1  kf _ _ h)
def wb_X8_behind_86 (n : Nat) (p1 : Int32) (p2 : Int32)  (K : Mm → Int32 → Prop) (M : Mm) (s0 : Int32) : Prop := wp_X8_laysBack n M (fun M14 => K M14 s0)
set_option maxHeartbeats 4000000 in
set_option maxRecDepth 100000 in
theorem lb_X8_behind_86 {g : Gm} {E : En} {A : Nat → Prop} {K : Mm → Int32 → Prop} (X : CX g cX8_behind RX8 (some .int) 7 E A 4) (p1 : Int32) (p2 : Int32)   (M : Mm) (s0 : Int32) (h : wb_X8_behind_86 (eN E) p1 p2  K M s0) : AW g E A 4 (MQ (gB g) (QI E K A) (gA g) (gS g) (gk g) (gn g) A) 86 [(0, .ref (eA E 74))] [.int s0] M := by
  unfold wb_X8_behind_86 at h
  refine aw_istore_n (lv' := [(3, .int s0), (0, .ref (eA E 74))]) X dX8_behind_86 (by decide) rfl ?_
  refine aw_aload_n X dX8_behind_87 1 rfl ?_
  refine ca_v X (rn_v X [] [] (X.lt (by decide)) (sh_12 (rfl : tp 74 = 12) _) rfl rfl kw1243 kw78 (c_X8_laysBack h) cal_yX8_laysBack kw1241 (Nat.le_of_ble_eq_true rfl) rfl rfl (Nat.le_of_ble_eq_true rfl) dX8_behind_88) (fun M14 h => ?_)
  refine aw_iload_n X dX8_behind_91 0 rfl ?_
  exact aw_iret X dX8_behind_92 h
def wp_X8_behind (n : Nat)  (M : Mm) (p1 : Int32) (p2 : Int32) (K : Mm → Int32 → Prop) : Prop := wp_X8_isIn n M p1.toInt64 0 300 (fun M1 r2 => (r2 = 0 → K M1 (-1000000001)) ∧ (¬ r2 = 0 → wp_X8_isIn n M1 p2.toInt64 0 3 (fun M3 r4 => (¬ r4 = 0 → wp_X8_laysBy n M3 (fun M5 => ∀ M7 : Mm, M7 = wr M5 74 14 0 → wp_X8_goesOnMany n M7 p1 (fun M8 => (¬ p2 = 0 → (¬ p2 = 1 → (¬ p2 = 2 → wb_X8_behind_86 n p1 p2 K M8 (M8 74 14)) ∧ (p2 = 2 → wp_X8_ofAll n M8 10 (fun M10 r11 => wb_X8_behind_86 n p1 p2 K M10 r11))) ∧ (p2 = 1 → wp_X8_ofAll n M8 9 (fun M12 r13 => wb_X8_behind_86 n p1 p2 K M12 r13))) ∧ (p2 = 0 → wb_X8_behind_86 n p1 p2 K M8 (M8 75 5))))) ∧ (r4 = 0 → K M3 (-1000000001)))))
set_option maxHeartbeats 4000000 in
set_option maxRecDepth 100000 in
theorem c_X8_behind {l : Launch} {E : En} {M : Mm} {p1 : Int32} {p2 : Int32} {K : Mm → Int32 → Prop}  (h : wp_X8_behind (eN E)  M p1 p2 K) : Ctr l E yX8_behind cX8_behind 4 (some .int) 7 [.ref (eA E 74), .int p1, .int p2] M (QI E K) := by
  refine Ctr.of (by decide +kernel) (Nat.le_of_ble_eq_true rfl) (fun g A hgl X => ?_)
  subst hgl
  have X : CX g cX8_behind RX8 (some .int) 7 E A 4 := X
  show AW g E A 4 _ 0 [(0, .ref (eA E 74)), (1, .int p1), (2, .int p2)] [] M
  unfold wp_X8_behind at h
  refine aw_iload_n X dX8_behind_0 1 rfl ?_
  refine aw_i2l X dX8_behind_1 ?_
  refine aw_lconst (v := 0) X dX8_behind_2 (by decide) ?_
  refine aw_ldc2_w (v := 300) X dX8_behind_3 kw1190 ?_
  refine ca_i X (rn_s X [.long p1.toInt64, .long 0, .long 300] [] kw1079 (c_X8_isIn h) cal_yX8_isIn kw1078 (Nat.le_of_ble_eq_true rfl) rfl rfl (Nat.le_of_ble_eq_true rfl) dX8_behind_6) (fun M1 r2 h => ?_)
  refine aw_if_eq (tgt := 24) X dX8_behind_9 (by decide) (fun c => ?_) (fun c => ?_)
  · have h := h.1 c
    refine aw_ldc (v := (-1000000001)) X dX8_behind_24 kw1084 ?_
    exact aw_iret X dX8_behind_26 h
  · have h := h.2 c
    refine aw_iload_n X dX8_behind_12 2 rfl ?_
    refine aw_i2l X dX8_behind_13 ?_
    refine aw_lconst (v := 0) X dX8_behind_14 (by decide) ?_
    refine aw_ldc2_w (v := 3) X dX8_behind_15 kw1232 ?_
    refine ca_i X (rn_s X [.long p2.toInt64, .long 0, .long 3] [] kw1079 (c_X8_isIn h) cal_yX8_isIn kw1078 (Nat.le_of_ble_eq_true rfl) rfl rfl (Nat.le_of_ble_eq_true rfl) dX8_behind_18) (fun M3 r4 h => ?_)
    refine aw_if_ne (tgt := 27) X dX8_behind_21 (by decide) (fun c => ?_) (fun c => ?_)
    · have h := h.1 c
      refine aw_aload_n X dX8_behind_27 0 rfl ?_
      refine ca_v X (rn_v X [] [] (X.lt (by decide)) (sh_12 (rfl : tp 74 = 12) _) rfl rfl kw1235 kw76 (c_X8_laysBy h) cal_yX8_laysBy kw1233 (Nat.le_of_ble_eq_true rfl) rfl rfl (Nat.le_of_ble_eq_true rfl) dX8_behind_28) (fun M5 h => ?_)
      refine aw_aload_n X dX8_behind_31 0 rfl ?_
      refine aw_iconst (v := 0) X dX8_behind_32 (by decide) ?_
      refine aw_put X dX8_behind_33 (X.lt (by decide)) (sh_12 (rfl : tp 74 = 12) _) fl_RX8_176 fw_8_14 (Nat.le_of_ble_eq_true rfl) (sp_12_14 (rfl : tp 74 = 12) _ _) (fun M7 eM7 => ?_)
      have h := h M7 eM7
      refine aw_aload_n X dX8_behind_36 0 rfl ?_
      refine aw_iload_n X dX8_behind_37 1 rfl ?_
      refine ca_v X (rn_v X [.int p1] [] (X.lt (by decide)) (sh_12 (rfl : tp 74 = 12) _) rfl rfl kw1239 kw77 (c_X8_goesOnMany h) cal_yX8_goesOnMany kw1237 (Nat.le_of_ble_eq_true rfl) rfl rfl (Nat.le_of_ble_eq_true rfl) dX8_behind_38) (fun M8 h => ?_)
      refine aw_iload_n X dX8_behind_41 2 rfl ?_
      refine aw_if_ne (tgt := 54) X dX8_behind_42 (by decide) (fun c => ?_) (fun c => ?_)
      · have h := h.1 c
        refine aw_iload_n X dX8_behind_54 2 rfl ?_
        refine aw_iconst (v := 1) X dX8_behind_55 (by decide) ?_
        refine aw_icmp_ne (tgt := 68) X dX8_behind_56 (by decide) (fun c => ?_) (fun c => ?_)
        · have h := h.1 c
          refine aw_iload_n X dX8_behind_68 2 rfl ?_
          refine aw_iconst (v := 2) X dX8_behind_69 (by decide) ?_
          refine aw_icmp_ne (tgt := 82) X dX8_behind_70 (by decide) (fun c => ?_) (fun c => ?_)
          · have h := h.1 c
            refine aw_aload_n X dX8_behind_82 0 rfl ?_
            refine aw_get X dX8_behind_83 (X.lt (by decide)) (sh_12 (rfl : tp 74 = 12) _) fl_RX8_176 rfl ?_
            exact aw_sub [0] rfl (lb_X8_behind_86 X p1 p2  _ _ h)
          · have h := h.2 c
            refine aw_aload_n X dX8_behind_73 0 rfl ?_
            refine aw_bipush (v := 10) X dX8_behind_74 (by decide) ?_
            refine ca_i X (rn_v X [.int 10] [] (X.lt (by decide)) (sh_12 (rfl : tp 74 = 12) _) rfl rfl kw1226 kw75 (c_X8_ofAll h) cal_yX8_ofAll kw1224 (Nat.le_of_ble_eq_true rfl) rfl rfl (Nat.le_of_ble_eq_true rfl) dX8_behind_76) (fun M10 r11 h => ?_)
            refine aw_goto (tgt := 86) X dX8_behind_79 (by decide) ?_
            exact aw_sub [0] rfl (lb_X8_behind_86 X p1 p2  _ _ h)
        · have h := h.2 c
          refine aw_aload_n X dX8_behind_59 0 rfl ?_
          refine aw_bipush (v := 9) X dX8_behind_60 (by decide) ?_
          refine ca_i X (rn_v X [.int 9] [] (X.lt (by decide)) (sh_12 (rfl : tp 74 = 12) _) rfl rfl kw1226 kw75 (c_X8_ofAll h) cal_yX8_ofAll kw1224 (Nat.le_of_ble_eq_true rfl) rfl rfl (Nat.le_of_ble_eq_true rfl) dX8_behind_62) (fun M12 r13 h => ?_)
          refine aw_goto (tgt := 86) X dX8_behind_65 (by decide) ?_
          exact aw_sub [0] rfl (lb_X8_behind_86 X p1 p2  _ _ h)
      · have h := h.2 c
        refine aw_aload_n X dX8_behind_45 0 rfl ?_
        refine aw_get X dX8_behind_46 (X.lt (by decide)) (sh_12 (rfl : tp 74 = 12) _) fl_RX8_7 rfl ?_
        refine aw_iconst (v := 5) X dX8_behind_49 (by decide) ?_
        refine aw_iald X dX8_behind_50 (X.lt (by decide)) (sh_ia 3108 (rfl : tp 75 = 4108) _) (by unfold vp_in; decide) ?_
        refine aw_goto (tgt := 86) X dX8_behind_51 (by decide) ?_
        exact aw_sub [0] rfl (lb_X8_behind_86 X p1 p2  _ _ h)
    · have h := h.2 c
      refine aw_ldc (v := (-1000000001)) X dX8_behind_24 kw1084 ?_
      exact aw_iret X dX8_behind_26 h
def wb_X8_fullIn_65 (n : Nat) (p1 : Int32)  (K : Mm → Int32 → Prop) (M : Mm) (s0 : Int32) : Prop := K M (s0 + (((p1 - (M 75 5)) - 1) * (M 75 3)))
set_option maxHeartbeats 4000000 in
set_option maxRecDepth 100000 in
theorem lb_X8_fullIn_65 {g : Gm} {E : En} {A : Nat → Prop} {K : Mm → Int32 → Prop} (X : CX g cX8_fullIn RX8 (some .int) 1 E A 3) (p1 : Int32)   (M : Mm) (s0 : Int32) (h : wb_X8_fullIn_65 (eN E) p1  K M s0) : AW g E A 3 (MQ (gB g) (QI E K A) (gA g) (gS g) (gk g) (gn g) A) 65 [(0, .ref (eA E 74)), (1, .int p1)] [.int s0] M := by
  unfold wb_X8_fullIn_65 at h
  refine aw_iload_n X dX8_fullIn_65 1 rfl ?_
  refine aw_aload_n X dX8_fullIn_66 0 rfl ?_
  refine aw_get X dX8_fullIn_67 (X.lt (by decide)) (sh_12 (rfl : tp 74 = 12) _) fl_RX8_7 rfl ?_
  refine aw_iconst (v := 5) X dX8_fullIn_70 (by decide) ?_
  refine aw_iald X dX8_fullIn_71 (X.lt (by decide)) (sh_ia 3108 (rfl : tp 75 = 4108) _) (by unfold vp_in; decide) ?_
  refine aw_isub X dX8_fullIn_72 ?_
  refine aw_iconst (v := 1) X dX8_fullIn_73 (by decide) ?_
  refine aw_isub X dX8_fullIn_74 ?_
  refine aw_aload_n X dX8_fullIn_75 0 rfl ?_
  refine aw_get X dX8_fullIn_76 (X.lt (by decide)) (sh_12 (rfl : tp 74 = 12) _) fl_RX8_7 rfl ?_
  refine aw_iconst (v := 3) X dX8_fullIn_79 (by decide) ?_
  refine aw_iald X dX8_fullIn_80 (X.lt (by decide)) (sh_ia 3108 (rfl : tp 75 = 4108) _) (by unfold vp_in; decide) ?_
  refine aw_imul X dX8_fullIn_81 ?_
  refine aw_iadd X dX8_fullIn_82 ?_
  exact aw_iret X dX8_fullIn_83 h
def wp_X8_fullIn (n : Nat)  (M : Mm) (p1 : Int32) (K : Mm → Int32 → Prop) : Prop := wp_X8_isIn n M p1.toInt64 0 99 (fun M1 r2 => (¬ r2 = 0 → ((M1 75 5) < p1 → (p1 ≤ (M1 75 4) → ∀ v3 : Int32, v3 = (M1 75 3) - (M1 75 8) → (1 ≤ v3 → wb_X8_fullIn_65 n p1 K M1 v3) ∧ (¬ 1 ≤ v3 → wb_X8_fullIn_65 n p1 K M1 1)) ∧ (¬ p1 ≤ (M1 75 4) → K M1 (-1000000005))) ∧ (¬ (M1 75 5) < p1 → K M1 0)) ∧ (r2 = 0 → K M1 (-1000000001)))
set_option maxHeartbeats 4000000 in
set_option maxRecDepth 100000 in
theorem c_X8_fullIn {l : Launch} {E : En} {M : Mm} {p1 : Int32} {K : Mm → Int32 → Prop}  (h : wp_X8_fullIn (eN E)  M p1 K) : Ctr l E yX8_fullIn cX8_fullIn 3 (some .int) 1 [.ref (eA E 74), .int p1] M (QI E K) := by
  refine Ctr.of (by decide +kernel) (Nat.le_of_ble_eq_true rfl) (fun g A hgl X => ?_)
  subst hgl
  have X : CX g cX8_fullIn RX8 (some .int) 1 E A 3 := X
  show AW g E A 3 _ 0 [(0, .ref (eA E 74)), (1, .int p1)] [] M
  unfold wp_X8_fullIn at h
  refine aw_iload_n X dX8_fullIn_0 1 rfl ?_
  refine aw_i2l X dX8_fullIn_1 ?_
  refine aw_lconst (v := 0) X dX8_fullIn_2 (by decide) ?_
  refine aw_ldc2_w (v := 99) X dX8_fullIn_3 kw1170 ?_
  refine ca_i X (rn_s X [.long p1.toInt64, .long 0, .long 99] [] kw1079 (c_X8_isIn h) cal_yX8_isIn kw1078 (Nat.le_of_ble_eq_true rfl) rfl rfl (Nat.le_of_ble_eq_true rfl) dX8_fullIn_6) (fun M1 r2 h => ?_)
  refine aw_if_ne (tgt := 15) X dX8_fullIn_9 (by decide) (fun c => ?_) (fun c => ?_)
  · have h := h.1 c
    refine aw_aload_n X dX8_fullIn_15 0 rfl ?_
    refine aw_get X dX8_fullIn_16 (X.lt (by decide)) (sh_12 (rfl : tp 74 = 12) _) fl_RX8_7 rfl ?_
    refine aw_iconst (v := 5) X dX8_fullIn_19 (by decide) ?_
    refine aw_iald X dX8_fullIn_20 (X.lt (by decide)) (sh_ia 3108 (rfl : tp 75 = 4108) _) (by unfold vp_in; decide) ?_
    refine aw_iload_n X dX8_fullIn_21 1 rfl ?_
    refine aw_icmp_lt (tgt := 27) X dX8_fullIn_22 (by decide) (fun c => ?_) (fun c => ?_)
    · have h := h.1 c
      refine aw_iload_n X dX8_fullIn_27 1 rfl ?_
      refine aw_aload_n X dX8_fullIn_28 0 rfl ?_
      refine aw_get X dX8_fullIn_29 (X.lt (by decide)) (sh_12 (rfl : tp 74 = 12) _) fl_RX8_7 rfl ?_
      refine aw_iconst (v := 4) X dX8_fullIn_32 (by decide) ?_
      refine aw_iald X dX8_fullIn_33 (X.lt (by decide)) (sh_ia 3108 (rfl : tp 75 = 4108) _) (by unfold vp_in; decide) ?_
      refine aw_icmp_le (tgt := 40) X dX8_fullIn_34 (by decide) (fun c => ?_) (fun c => ?_)
      · have h := h.1 c
        refine aw_aload_n X dX8_fullIn_40 0 rfl ?_
        refine aw_get X dX8_fullIn_41 (X.lt (by decide)) (sh_12 (rfl : tp 74 = 12) _) fl_RX8_7 rfl ?_
        refine aw_iconst (v := 3) X dX8_fullIn_44 (by decide) ?_
        refine aw_iald X dX8_fullIn_45 (X.lt (by decide)) (sh_ia 3108 (rfl : tp 75 = 4108) _) (by unfold vp_in; decide) ?_
        refine aw_aload_n X dX8_fullIn_46 0 rfl ?_
        refine aw_get X dX8_fullIn_47 (X.lt (by decide)) (sh_12 (rfl : tp 74 = 12) _) fl_RX8_7 rfl ?_
        refine aw_bipush (v := 8) X dX8_fullIn_50 (by decide) ?_
        refine aw_iald X dX8_fullIn_52 (X.lt (by decide)) (sh_ia 3108 (rfl : tp 75 = 4108) _) (by unfold vp_in; decide) ?_
        refine aw_isub X dX8_fullIn_53 ?_
        refine aw_top (fun v3 ev3 => ?_)
        have h := h v3 ev3
        refine aw_istore_n (lv' := [(2, .int v3), (0, .ref (eA E 74)), (1, .int p1)]) X dX8_fullIn_54 (by decide) rfl ?_
        refine aw_iload_n X dX8_fullIn_55 0 rfl ?_
        refine aw_iconst (v := 1) X dX8_fullIn_56 (by decide) ?_
        refine aw_icmp_ge (tgt := 64) X dX8_fullIn_57 (by decide) (fun c => ?_) (fun c => ?_)
        · have h := h.1 c
          refine aw_iload_n X dX8_fullIn_64 0 rfl ?_
          exact aw_sub [1, 2] rfl (lb_X8_fullIn_65 X p1  _ _ h)
        · have h := h.2 c
          refine aw_iconst (v := 1) X dX8_fullIn_60 (by decide) ?_
          refine aw_goto (tgt := 65) X dX8_fullIn_61 (by decide) ?_
          exact aw_sub [1, 2] rfl (lb_X8_fullIn_65 X p1  _ _ h)
      · have h := h.2 c
        refine aw_ldc (v := (-1000000005)) X dX8_fullIn_37 kw1249 ?_
        exact aw_iret X dX8_fullIn_39 h
    · have h := h.2 c
      refine aw_iconst (v := 0) X dX8_fullIn_25 (by decide) ?_
      exact aw_iret X dX8_fullIn_26 h
  · have h := h.2 c
    refine aw_ldc (v := (-1000000001)) X dX8_fullIn_12 kw1084 ?_
    exact aw_iret X dX8_fullIn_14 h
def wb_X8_best_95 (n : Nat) (p1 : Int32) (p2 : Int32) (p3 : Int32) (Z46 : Mm → Int32 → Int32 → Int32 → Prop) (K : Mm → Int32 → Prop) (M : Mm) (x4 : Int32) (x5 : Int32) (x6 : Int32) : Prop := wp_X8_laysBack n M (fun M15 => ∀ v17 : Int32, v17 = x6 + 1 → Z46 M15 x4 x5 v17)
set_option maxHeartbeats 4000000 in
set_option maxRecDepth 100000 in
theorem lb_X8_best_95 {g : Gm} {E : En} {A : Nat → Prop} {K : Mm → Int32 → Prop} (X : CX g cX8_best RX8 (some .int) 7 E A 8) (p1 : Int32) (p2 : Int32) (p3 : Int32)   {Z46 : Mm → Int32 → Int32 → Int32 → Prop} (hZ46 : ∀ (M : Mm) (x4 : Int32) (x5 : Int32) (x6 : Int32), Z46 M x4 x5 x6 → AW g E A 8 (MQ (gB g) (QI E K A) (gA g) (gS g) (gk g) (gn g) A) 46 [(0, .ref (eA E 74)), (1, .int p1), (2, .int p2), (3, .int p3), (4, .int x4), (5, .int x5), (6, .int x6)] [] M) (M : Mm) (x4 : Int32) (x5 : Int32) (x6 : Int32) (h : wb_X8_best_95 (eN E) p1 p2 p3 Z46 K M x4 x5 x6) : AW g E A 8 (MQ (gB g) (QI E K A) (gA g) (gS g) (gk g) (gn g) A) 95 [(0, .ref (eA E 74)), (1, .int p1), (2, .int p2), (3, .int p3), (4, .int x4), (5, .int x5), (6, .int x6)] [] M := by
  unfold wb_X8_best_95 at h
  refine aw_aload_n X dX8_best_95 0 rfl ?_
  refine ca_v X (rn_v X [] [] (X.lt (by decide)) (sh_12 (rfl : tp 74 = 12) _) rfl rfl kw1243 kw78 (c_X8_laysBack h) cal_yX8_laysBack kw1241 (Nat.le_of_ble_eq_true rfl) rfl rfl (Nat.le_of_ble_eq_true rfl) dX8_best_96) (fun M15 h => ?_)
  obtain ⟨v17, ev17⟩ : ∃ y : Int32, y = x6 + 1 := ⟨_, rfl⟩
  have h := h v17 ev17
  refine aw_iinc (v := v17) (lv' := [(6, .int v17), (0, .ref (eA E 74)), (1, .int p1), (2, .int p2), (3, .int p3), (4, .int x4), (5, .int x5)]) X dX8_best_99 6 rfl (by rw [ev17]; rfl) (by decide) rfl ?_
  refine aw_goto (tgt := 46) X dX8_best_102 (by decide) ?_
  exact aw_sub [1, 2, 3, 4, 5, 6, 0] rfl (hZ46 _ _ _ _ h)
def wb_X8_best_87 (n : Nat) (p1 : Int32) (p2 : Int32) (p3 : Int32) (Z46 : Mm → Int32 → Int32 → Int32 → Prop) (K : Mm → Int32 → Prop) (M : Mm) (x6 : Int32) (x7 : Int32) : Prop := wb_X8_best_95 n p1 p2 p3 Z46 K M x6 x7 x6
set_option maxHeartbeats 4000000 in
set_option maxRecDepth 100000 in
theorem lb_X8_best_87 {g : Gm} {E : En} {A : Nat → Prop} {K : Mm → Int32 → Prop} (X : CX g cX8_best RX8 (some .int) 7 E A 8) (p1 : Int32) (p2 : Int32) (p3 : Int32)   {Z46 : Mm → Int32 → Int32 → Int32 → Prop} (hZ46 : ∀ (M : Mm) (x4 : Int32) (x5 : Int32) (x6 : Int32), Z46 M x4 x5 x6 → AW g E A 8 (MQ (gB g) (QI E K A) (gA g) (gS g) (gk g) (gn g) A) 46 [(0, .ref (eA E 74)), (1, .int p1), (2, .int p2), (3, .int p3), (4, .int x4), (5, .int x5), (6, .int x6)] [] M) (M : Mm) (x6 : Int32) (x7 : Int32) (h : wb_X8_best_87 (eN E) p1 p2 p3 Z46 K M x6 x7) : AW g E A 8 (MQ (gB g) (QI E K A) (gA g) (gS g) (gk g) (gn g) A) 87 [(0, .ref (eA E 74)), (1, .int p1), (2, .int p2), (3, .int p3), (6, .int x6), (7, .int x7)] [] M := by
  unfold wb_X8_best_87 at h
  refine aw_iload X dX8_best_87 4 rfl ?_
  refine aw_istore (lv' := [(4, .int x6), (0, .ref (eA E 74)), (1, .int p1), (2, .int p2), (3, .int p3), (6, .int x6), (7, .int x7)]) X dX8_best_89 (by decide) rfl ?_
  refine aw_iload X dX8_best_91 6 rfl ?_
  refine aw_istore (lv' := [(5, .int x7), (4, .int x6), (0, .ref (eA E 74)), (1, .int p1), (2, .int p2), (3, .int p3), (6, .int x6), (7, .int x7)]) X dX8_best_93 (by decide) rfl ?_
  exact aw_sub [2, 3, 4, 5, 1, 0, 6] rfl (lb_X8_best_95 X p1 p2 p3 hZ46 _ _ _ _ h)
def wl_X8_best_46 (n : Nat) (p1 : Int32) (p2 : Int32) (p3 : Int32)  (K : Mm → Int32 → Prop) : Nat → Mm → Int32 → Int32 → Int32 → Prop
  | 0, _, _, _, _ => False
  | k + 1, M, x4, x5, x6 => (60 ≤ x6 → (¬ p3 = 0 → K M x5) ∧ (p3 = 0 → K M x4)) ∧ (¬ 60 ≤ x6 → wp_X8_sets n M p1 1 x6 (fun M9 => wp_X8_goesOnMany n M9 p2 (fun M11 => wp_X8_of n M11 p1 9 (fun M13 r14 => (x4 < 0 → wb_X8_best_87 n p1 p2 p3 (fun M x4 x5 x6 => wl_X8_best_46 n p1 p2 p3 K k M x4 x5 x6) K M13 x6 r14) ∧ (¬ x4 < 0 → (r14 ≤ x5 → wb_X8_best_95 n p1 p2 p3 (fun M x4 x5 x6 => wl_X8_best_46 n p1 p2 p3 K k M x4 x5 x6) K M13 x4 x5 x6) ∧ (¬ r14 ≤ x5 → wb_X8_best_87 n p1 p2 p3 (fun M x4 x5 x6 => wl_X8_best_46 n p1 p2 p3 K k M x4 x5 x6) K M13 x6 r14))))))
set_option maxHeartbeats 4000000 in
set_option maxRecDepth 100000 in
theorem lw_X8_best_46 {g : Gm} {E : En} {A : Nat → Prop} {K : Mm → Int32 → Prop} (X : CX g cX8_best RX8 (some .int) 7 E A 8) (p1 : Int32) (p2 : Int32) (p3 : Int32)   : ∀ (k : Nat) (M : Mm) (x4 : Int32) (x5 : Int32) (x6 : Int32), wl_X8_best_46 (eN E) p1 p2 p3  K k M x4 x5 x6 → AW g E A 8 (MQ (gB g) (QI E K A) (gA g) (gS g) (gk g) (gn g) A) 46 [(0, .ref (eA E 74)), (1, .int p1), (2, .int p2), (3, .int p3), (4, .int x4), (5, .int x5), (6, .int x6)] [] M := by
  intro k
  induction k with
  | zero => intro M x4 x5 x6 h; exact h.elim
  | succ k ih =>
    intro M x4 x5 x6 h
    rw [wl_X8_best_46] at h
    refine aw_iload X dX8_best_46 6 rfl ?_
    refine aw_bipush (v := 60) X dX8_best_48 (by decide) ?_
    refine aw_icmp_ge (tgt := 105) X dX8_best_50 (by decide) (fun c => ?_) (fun c => ?_)
    · have h := h.1 c
      refine aw_iload_n X dX8_best_105 3 rfl ?_
      refine aw_if_ne (tgt := 114) X dX8_best_106 (by decide) (fun c => ?_) (fun c => ?_)
      · have h := h.1 c
        refine aw_iload X dX8_best_114 5 rfl ?_
        exact aw_iret X dX8_best_116 h
      · have h := h.2 c
        refine aw_iload X dX8_best_109 4 rfl ?_
        refine aw_goto (tgt := 116) X dX8_best_111 (by decide) ?_
        exact aw_iret X dX8_best_116 h
    · have h := h.2 c
      refine aw_aload_n X dX8_best_53 0 rfl ?_
      refine aw_iload_n X dX8_best_54 1 rfl ?_
      refine aw_iconst (v := 1) X dX8_best_55 (by decide) ?_
      refine aw_iload X dX8_best_56 6 rfl ?_
      refine ca_v X (rn_v X [.int p1, .int 1, .int x6] [] (X.lt (by decide)) (sh_12 (rfl : tp 74 = 12) _) rfl rfl kw1202 kw69 (c_X8_sets h) cal_yX8_sets kw1200 (Nat.le_of_ble_eq_true rfl) rfl rfl (Nat.le_of_ble_eq_true rfl) dX8_best_58) (fun M9 h => ?_)
      refine aw_aload_n X dX8_best_61 0 rfl ?_
      refine aw_iload_n X dX8_best_62 2 rfl ?_
      refine ca_v X (rn_v X [.int p2] [] (X.lt (by decide)) (sh_12 (rfl : tp 74 = 12) _) rfl rfl kw1239 kw77 (c_X8_goesOnMany h) cal_yX8_goesOnMany kw1237 (Nat.le_of_ble_eq_true rfl) rfl rfl (Nat.le_of_ble_eq_true rfl) dX8_best_63) (fun M11 h => ?_)
      refine aw_aload_n X dX8_best_66 0 rfl ?_
      refine aw_iload_n X dX8_best_67 1 rfl ?_
      refine aw_bipush (v := 9) X dX8_best_68 (by decide) ?_
      refine ca_i X (rn_v X [.int p1, .int 9] [] (X.lt (by decide)) (sh_12 (rfl : tp 74 = 12) _) rfl rfl kw1101 kw56 (c_X8_of h) cal_yX8_of kw1099 (Nat.le_of_ble_eq_true rfl) rfl rfl (Nat.le_of_ble_eq_true rfl) dX8_best_70) (fun M13 r14 h => ?_)
      refine aw_istore (lv' := [(7, .int r14), (0, .ref (eA E 74)), (1, .int p1), (2, .int p2), (3, .int p3), (4, .int x4), (5, .int x5), (6, .int x6)]) X dX8_best_73 (by decide) rfl ?_
      refine aw_iload X dX8_best_75 5 rfl ?_
      refine aw_if_lt (tgt := 87) X dX8_best_77 (by decide) (fun c => ?_) (fun c => ?_)
      · have h := h.1 c
        exact aw_sub [1, 2, 3, 4, 7, 0] rfl (lb_X8_best_87 X p1 p2 p3 ih _ _ _ h)
      · have h := h.2 c
        refine aw_iload X dX8_best_80 0 rfl ?_
        refine aw_iload X dX8_best_82 6 rfl ?_
        refine aw_icmp_le (tgt := 95) X dX8_best_84 (by decide) (fun c => ?_) (fun c => ?_)
        · have h := h.1 c
          exact aw_sub [1, 2, 3, 4, 5, 6, 7] rfl (lb_X8_best_95 X p1 p2 p3 ih _ _ _ _ h)
        · have h := h.2 c
          exact aw_sub [1, 2, 3, 4, 7, 0] rfl (lb_X8_best_87 X p1 p2 p3 ih _ _ _ h)
def wp_X8_best (n : Nat)  (M : Mm) (p1 : Int32) (p2 : Int32) (p3 : Int32) (K : Mm → Int32 → Prop) : Prop := wp_X8_isComer n M p1 (fun M1 r2 => (r2 = 0 → K M1 (-1000000001)) ∧ (¬ r2 = 0 → wp_X8_isIn n M1 p2.toInt64 1 120 (fun M3 r4 => (r4 = 0 → K M3 (-1000000001)) ∧ (¬ r4 = 0 → wp_X8_isIn n M3 p3.toInt64 0 1 (fun M5 r6 => (¬ r6 = 0 → wp_X8_laysBy n M5 (fun M7 => ∃ kf : Nat, wl_X8_best_46 n p1 p2 p3 K kf M7 (-1) 0 0)) ∧ (r6 = 0 → K M5 (-1000000001)))))))
set_option maxHeartbeats 4000000 in
set_option maxRecDepth 100000 in
theorem c_X8_best {l : Launch} {E : En} {M : Mm} {p1 : Int32} {p2 : Int32} {p3 : Int32} {K : Mm → Int32 → Prop}  (h : wp_X8_best (eN E)  M p1 p2 p3 K) : Ctr l E yX8_best cX8_best 8 (some .int) 7 [.ref (eA E 74), .int p1, .int p2, .int p3] M (QI E K) := by
  refine Ctr.of (by decide +kernel) (Nat.le_of_ble_eq_true rfl) (fun g A hgl X => ?_)
  subst hgl
  have X : CX g cX8_best RX8 (some .int) 7 E A 8 := X
  show AW g E A 8 _ 0 [(0, .ref (eA E 74)), (1, .int p1), (2, .int p2), (3, .int p3)] [] M
  unfold wp_X8_best at h
  refine aw_aload_n X dX8_best_0 0 rfl ?_
  refine aw_iload_n X dX8_best_1 1 rfl ?_
  refine ca_i X (rn_v X [.int p1] [] (X.lt (by decide)) (sh_12 (rfl : tp 74 = 12) _) rfl rfl kw1096 kw55 (c_X8_isComer h) cal_yX8_isComer kw1094 (Nat.le_of_ble_eq_true rfl) rfl rfl (Nat.le_of_ble_eq_true rfl) dX8_best_2) (fun M1 r2 h => ?_)
  refine aw_if_eq (tgt := 30) X dX8_best_5 (by decide) (fun c => ?_) (fun c => ?_)
  · have h := h.1 c
    refine aw_ldc (v := (-1000000001)) X dX8_best_30 kw1084 ?_
    exact aw_iret X dX8_best_32 h
  · have h := h.2 c
    refine aw_iload_n X dX8_best_8 2 rfl ?_
    refine aw_i2l X dX8_best_9 ?_
    refine aw_lconst (v := 1) X dX8_best_10 (by decide) ?_
    refine aw_ldc2_w (v := 120) X dX8_best_11 kw1254 ?_
    refine ca_i X (rn_s X [.long p2.toInt64, .long 1, .long 120] [] kw1079 (c_X8_isIn h) cal_yX8_isIn kw1078 (Nat.le_of_ble_eq_true rfl) rfl rfl (Nat.le_of_ble_eq_true rfl) dX8_best_14) (fun M3 r4 h => ?_)
    refine aw_if_eq (tgt := 30) X dX8_best_17 (by decide) (fun c => ?_) (fun c => ?_)
    · have h := h.1 c
      refine aw_ldc (v := (-1000000001)) X dX8_best_30 kw1084 ?_
      exact aw_iret X dX8_best_32 h
    · have h := h.2 c
      refine aw_iload_n X dX8_best_20 3 rfl ?_
      refine aw_i2l X dX8_best_21 ?_
      refine aw_lconst (v := 0) X dX8_best_22 (by decide) ?_
      refine aw_lconst (v := 1) X dX8_best_23 (by decide) ?_
      refine ca_i X (rn_s X [.long p3.toInt64, .long 0, .long 1] [] kw1079 (c_X8_isIn h) cal_yX8_isIn kw1078 (Nat.le_of_ble_eq_true rfl) rfl rfl (Nat.le_of_ble_eq_true rfl) dX8_best_24) (fun M5 r6 h => ?_)
      refine aw_if_ne (tgt := 33) X dX8_best_27 (by decide) (fun c => ?_) (fun c => ?_)
      · have h := h.1 c
        refine aw_aload_n X dX8_best_33 0 rfl ?_
        refine ca_v X (rn_v X [] [] (X.lt (by decide)) (sh_12 (rfl : tp 74 = 12) _) rfl rfl kw1235 kw76 (c_X8_laysBy h) cal_yX8_laysBy kw1233 (Nat.le_of_ble_eq_true rfl) rfl rfl (Nat.le_of_ble_eq_true rfl) dX8_best_34) (fun M7 h => ?_)
        refine aw_iconst (v := (-1)) X dX8_best_37 (by decide) ?_
        refine aw_istore (lv' := [(4, .int (-1)), (0, .ref (eA E 74)), (1, .int p1), (2, .int p2), (3, .int p3)]) X dX8_best_38 (by decide) rfl ?_
        refine aw_iconst (v := 0) X dX8_best_40 (by decide) ?_
        refine aw_istore (lv' := [(5, .int 0), (4, .int (-1)), (0, .ref (eA E 74)), (1, .int p1), (2, .int p2), (3, .int p3)]) X dX8_best_41 (by decide) rfl ?_
        refine aw_iconst (v := 0) X dX8_best_43 (by decide) ?_
        refine aw_istore (lv' := [(6, .int 0), (5, .int 0), (4, .int (-1)), (0, .ref (eA E 74)), (1, .int p1), (2, .int p2), (3, .int p3)]) X dX8_best_44 (by decide) rfl ?_
        obtain ⟨kf, h⟩ := h
        exact aw_sub [3, 4, 5, 6, 2, 1, 0] rfl (lw_X8_best_46 X p1 p2 p3  kf _ _ _ _ h)
      · have h := h.2 c
        refine aw_ldc (v := (-1000000001)) X dX8_best_30 kw1084 ?_
        exact aw_iret X dX8_best_32 h
def wl_X8_alone_47 (n : Nat) (p1 : Int32) (p2 : Int32)  (K : Mm → Int32 → Prop) : Nat → Mm → Int32 → Int32 → Prop
  | 0, _, _, _ => False
  | k + 1, M, x3, x4 => ((M 75 0) ≤ x4 → ∀ M13 : Mm, M13 = wr M 74 13 p1 → wp_X8_goesOnMany n M13 p2 (fun M14 => ∀ M16 : Mm, M16 = wr M14 74 13 (-1) → wp_X8_of n M16 p1 9 (fun M17 r18 => wp_X8_laysBack n M17 (fun M19 => K M19 (r18 - x3))))) ∧ (¬ (M 75 0) ≤ x4 → (x4 = p1 → ∀ v21 : Int32, v21 = x4 + 1 → wl_X8_alone_47 n p1 p2 K k M x3 v21) ∧ (¬ x4 = p1 → wp_X8_sets n M x4 5 0 (fun M22 => wp_X8_sets n M22 x4 4 0 (fun M24 => ∀ v26 : Int32, v26 = x4 + 1 → wl_X8_alone_47 n p1 p2 K k M24 x3 v26))))
set_option maxHeartbeats 4000000 in
set_option maxRecDepth 100000 in
theorem lw_X8_alone_47 {g : Gm} {E : En} {A : Nat → Prop} {K : Mm → Int32 → Prop} (X : CX g cX8_alone RX8 (some .int) 7 E A 5) (p1 : Int32) (p2 : Int32)   : ∀ (k : Nat) (M : Mm) (x3 : Int32) (x4 : Int32), wl_X8_alone_47 (eN E) p1 p2  K k M x3 x4 → AW g E A 5 (MQ (gB g) (QI E K A) (gA g) (gS g) (gk g) (gn g) A) 47 [(0, .ref (eA E 74)), (1, .int p1), (2, .int p2), (3, .int x3), (4, .int x4)] [] M := by
  intro k
  induction k with
  | zero => intro M x3 x4 h; exact h.elim
  | succ k ih =>
    intro M x3 x4 h
    rw [wl_X8_alone_47] at h
    refine aw_iload X dX8_alone_47 4 rfl ?_
    refine aw_aload_n X dX8_alone_49 0 rfl ?_
    refine aw_get X dX8_alone_50 (X.lt (by decide)) (sh_12 (rfl : tp 74 = 12) _) fl_RX8_7 rfl ?_
    refine aw_iconst (v := 0) X dX8_alone_53 (by decide) ?_
    refine aw_iald X dX8_alone_54 (X.lt (by decide)) (sh_ia 3108 (rfl : tp 75 = 4108) _) (by unfold vp_in; decide) ?_
    refine aw_icmp_ge (tgt := 86) X dX8_alone_55 (by decide) (fun c => ?_) (fun c => ?_)
    · have h := h.1 c
      refine aw_aload_n X dX8_alone_86 0 rfl ?_
      refine aw_iload_n X dX8_alone_87 1 rfl ?_
      refine aw_put X dX8_alone_88 (X.lt (by decide)) (sh_12 (rfl : tp 74 = 12) _) fl_RX8_46 fw_8_13 (Nat.le_of_ble_eq_true rfl) (sp_12_13 (rfl : tp 74 = 12) _ _) (fun M13 eM13 => ?_)
      have h := h M13 eM13
      refine aw_aload_n X dX8_alone_91 0 rfl ?_
      refine aw_iload_n X dX8_alone_92 2 rfl ?_
      refine ca_v X (rn_v X [.int p2] [] (X.lt (by decide)) (sh_12 (rfl : tp 74 = 12) _) rfl rfl kw1239 kw77 (c_X8_goesOnMany h) cal_yX8_goesOnMany kw1237 (Nat.le_of_ble_eq_true rfl) rfl rfl (Nat.le_of_ble_eq_true rfl) dX8_alone_93) (fun M14 h => ?_)
      refine aw_aload_n X dX8_alone_96 0 rfl ?_
      refine aw_iconst (v := (-1)) X dX8_alone_97 (by decide) ?_
      refine aw_put X dX8_alone_98 (X.lt (by decide)) (sh_12 (rfl : tp 74 = 12) _) fl_RX8_46 fw_8_13 (Nat.le_of_ble_eq_true rfl) (sp_12_13 (rfl : tp 74 = 12) _ _) (fun M16 eM16 => ?_)
      have h := h M16 eM16
      refine aw_aload_n X dX8_alone_101 0 rfl ?_
      refine aw_iload_n X dX8_alone_102 1 rfl ?_
      refine aw_bipush (v := 9) X dX8_alone_103 (by decide) ?_
      refine ca_i X (rn_v X [.int p1, .int 9] [] (X.lt (by decide)) (sh_12 (rfl : tp 74 = 12) _) rfl rfl kw1101 kw56 (c_X8_of h) cal_yX8_of kw1099 (Nat.le_of_ble_eq_true rfl) rfl rfl (Nat.le_of_ble_eq_true rfl) dX8_alone_105) (fun M17 r18 h => ?_)
      refine aw_istore (lv' := [(4, .int r18), (0, .ref (eA E 74)), (1, .int p1), (2, .int p2), (3, .int x3)]) X dX8_alone_108 (by decide) rfl ?_
      refine aw_aload_n X dX8_alone_110 1 rfl ?_
      refine ca_v X (rn_v X [] [] (X.lt (by decide)) (sh_12 (rfl : tp 74 = 12) _) rfl rfl kw1243 kw78 (c_X8_laysBack h) cal_yX8_laysBack kw1241 (Nat.le_of_ble_eq_true rfl) rfl rfl (Nat.le_of_ble_eq_true rfl) dX8_alone_111) (fun M19 h => ?_)
      refine aw_iload X dX8_alone_114 0 rfl ?_
      refine aw_iload_n X dX8_alone_116 4 rfl ?_
      refine aw_isub X dX8_alone_117 ?_
      exact aw_iret X dX8_alone_118 h
    · have h := h.2 c
      refine aw_iload X dX8_alone_58 4 rfl ?_
      refine aw_iload_n X dX8_alone_60 1 rfl ?_
      refine aw_icmp_eq (tgt := 80) X dX8_alone_61 (by decide) (fun c => ?_) (fun c => ?_)
      · have h := h.1 c
        obtain ⟨v21, ev21⟩ : ∃ y : Int32, y = x4 + 1 := ⟨_, rfl⟩
        have h := h v21 ev21
        refine aw_iinc (v := v21) (lv' := [(4, .int v21), (0, .ref (eA E 74)), (1, .int p1), (2, .int p2), (3, .int x3)]) X dX8_alone_80 4 rfl (by rw [ev21]; rfl) (by decide) rfl ?_
        refine aw_goto (tgt := 47) X dX8_alone_83 (by decide) ?_
        exact aw_sub [1, 2, 3, 4, 0] rfl (ih _ _ _ h)
      · have h := h.2 c
        refine aw_aload_n X dX8_alone_64 0 rfl ?_
        refine aw_iload X dX8_alone_65 4 rfl ?_
        refine aw_iconst (v := 5) X dX8_alone_67 (by decide) ?_
        refine aw_iconst (v := 0) X dX8_alone_68 (by decide) ?_
        refine ca_v X (rn_v X [.int x4, .int 5, .int 0] [] (X.lt (by decide)) (sh_12 (rfl : tp 74 = 12) _) rfl rfl kw1202 kw69 (c_X8_sets h) cal_yX8_sets kw1200 (Nat.le_of_ble_eq_true rfl) rfl rfl (Nat.le_of_ble_eq_true rfl) dX8_alone_69) (fun M22 h => ?_)
        refine aw_aload_n X dX8_alone_72 0 rfl ?_
        refine aw_iload X dX8_alone_73 4 rfl ?_
        refine aw_iconst (v := 4) X dX8_alone_75 (by decide) ?_
        refine aw_iconst (v := 0) X dX8_alone_76 (by decide) ?_
        refine ca_v X (rn_v X [.int x4, .int 4, .int 0] [] (X.lt (by decide)) (sh_12 (rfl : tp 74 = 12) _) rfl rfl kw1202 kw69 (c_X8_sets h) cal_yX8_sets kw1200 (Nat.le_of_ble_eq_true rfl) rfl rfl (Nat.le_of_ble_eq_true rfl) dX8_alone_77) (fun M24 h => ?_)
        obtain ⟨v26, ev26⟩ : ∃ y : Int32, y = x4 + 1 := ⟨_, rfl⟩
        have h := h v26 ev26
        refine aw_iinc (v := v26) (lv' := [(4, .int v26), (0, .ref (eA E 74)), (1, .int p1), (2, .int p2), (3, .int x3)]) X dX8_alone_80 4 rfl (by rw [ev26]; rfl) (by decide) rfl ?_
        refine aw_goto (tgt := 47) X dX8_alone_83 (by decide) ?_
        exact aw_sub [1, 2, 3, 4, 0] rfl (ih _ _ _ h)
def wp_X8_alone (n : Nat)  (M : Mm) (p1 : Int32) (p2 : Int32) (K : Mm → Int32 → Prop) : Prop := wp_X8_isComer n M p1 (fun M1 r2 => (r2 = 0 → K M1 (-1000000001)) ∧ (¬ r2 = 0 → wp_X8_isIn n M1 p2.toInt64 1 300 (fun M3 r4 => (¬ r4 = 0 → wp_X8_laysBy n M3 (fun M5 => wp_X8_goesOnMany n M5 p2 (fun M7 => wp_X8_of n M7 p1 9 (fun M9 r10 => wp_X8_laysBack n M9 (fun M11 => ∃ kf : Nat, wl_X8_alone_47 n p1 p2 K kf M11 r10 0))))) ∧ (r4 = 0 → K M3 (-1000000001)))))
set_option maxHeartbeats 4000000 in
set_option maxRecDepth 100000 in
theorem c_X8_alone {l : Launch} {E : En} {M : Mm} {p1 : Int32} {p2 : Int32} {K : Mm → Int32 → Prop}  (h : wp_X8_alone (eN E)  M p1 p2 K) : Ctr l E yX8_alone cX8_alone 5 (some .int) 7 [.ref (eA E 74), .int p1, .int p2] M (QI E K) := by
  refine Ctr.of (by decide +kernel) (Nat.le_of_ble_eq_true rfl) (fun g A hgl X => ?_)
  subst hgl
  have X : CX g cX8_alone RX8 (some .int) 7 E A 5 := X
  show AW g E A 5 _ 0 [(0, .ref (eA E 74)), (1, .int p1), (2, .int p2)] [] M
  unfold wp_X8_alone at h
  refine aw_aload_n X dX8_alone_0 0 rfl ?_
  refine aw_iload_n X dX8_alone_1 1 rfl ?_
  refine ca_i X (rn_v X [.int p1] [] (X.lt (by decide)) (sh_12 (rfl : tp 74 = 12) _) rfl rfl kw1096 kw55 (c_X8_isComer h) cal_yX8_isComer kw1094 (Nat.le_of_ble_eq_true rfl) rfl rfl (Nat.le_of_ble_eq_true rfl) dX8_alone_2) (fun M1 r2 h => ?_)
  refine aw_if_eq (tgt := 20) X dX8_alone_5 (by decide) (fun c => ?_) (fun c => ?_)
  · have h := h.1 c
    refine aw_ldc (v := (-1000000001)) X dX8_alone_20 kw1084 ?_
    exact aw_iret X dX8_alone_22 h
  · have h := h.2 c
    refine aw_iload_n X dX8_alone_8 2 rfl ?_
    refine aw_i2l X dX8_alone_9 ?_
    refine aw_lconst (v := 1) X dX8_alone_10 (by decide) ?_
    refine aw_ldc2_w (v := 300) X dX8_alone_11 kw1190 ?_
    refine ca_i X (rn_s X [.long p2.toInt64, .long 1, .long 300] [] kw1079 (c_X8_isIn h) cal_yX8_isIn kw1078 (Nat.le_of_ble_eq_true rfl) rfl rfl (Nat.le_of_ble_eq_true rfl) dX8_alone_14) (fun M3 r4 h => ?_)
    refine aw_if_ne (tgt := 23) X dX8_alone_17 (by decide) (fun c => ?_) (fun c => ?_)
    · have h := h.1 c
      refine aw_aload_n X dX8_alone_23 0 rfl ?_
      refine ca_v X (rn_v X [] [] (X.lt (by decide)) (sh_12 (rfl : tp 74 = 12) _) rfl rfl kw1235 kw76 (c_X8_laysBy h) cal_yX8_laysBy kw1233 (Nat.le_of_ble_eq_true rfl) rfl rfl (Nat.le_of_ble_eq_true rfl) dX8_alone_24) (fun M5 h => ?_)
      refine aw_aload_n X dX8_alone_27 0 rfl ?_
      refine aw_iload_n X dX8_alone_28 2 rfl ?_
      refine ca_v X (rn_v X [.int p2] [] (X.lt (by decide)) (sh_12 (rfl : tp 74 = 12) _) rfl rfl kw1239 kw77 (c_X8_goesOnMany h) cal_yX8_goesOnMany kw1237 (Nat.le_of_ble_eq_true rfl) rfl rfl (Nat.le_of_ble_eq_true rfl) dX8_alone_29) (fun M7 h => ?_)
      refine aw_aload_n X dX8_alone_32 0 rfl ?_
      refine aw_iload_n X dX8_alone_33 1 rfl ?_
      refine aw_bipush (v := 9) X dX8_alone_34 (by decide) ?_
      refine ca_i X (rn_v X [.int p1, .int 9] [] (X.lt (by decide)) (sh_12 (rfl : tp 74 = 12) _) rfl rfl kw1101 kw56 (c_X8_of h) cal_yX8_of kw1099 (Nat.le_of_ble_eq_true rfl) rfl rfl (Nat.le_of_ble_eq_true rfl) dX8_alone_36) (fun M9 r10 h => ?_)
      refine aw_istore_n (lv' := [(3, .int r10), (0, .ref (eA E 74)), (1, .int p1), (2, .int p2)]) X dX8_alone_39 (by decide) rfl ?_
      refine aw_aload_n X dX8_alone_40 1 rfl ?_
      refine ca_v X (rn_v X [] [] (X.lt (by decide)) (sh_12 (rfl : tp 74 = 12) _) rfl rfl kw1243 kw78 (c_X8_laysBack h) cal_yX8_laysBack kw1241 (Nat.le_of_ble_eq_true rfl) rfl rfl (Nat.le_of_ble_eq_true rfl) dX8_alone_41) (fun M11 h => ?_)
      refine aw_iconst (v := 0) X dX8_alone_44 (by decide) ?_
      refine aw_istore (lv' := [(4, .int 0), (3, .int r10), (0, .ref (eA E 74)), (1, .int p1), (2, .int p2)]) X dX8_alone_45 (by decide) rfl ?_
      obtain ⟨kf, h⟩ := h
      exact aw_sub [2, 3, 4, 1, 0] rfl (lw_X8_alone_47 X p1 p2  kf _ _ _ h)
    · have h := h.2 c
      refine aw_ldc (v := (-1000000001)) X dX8_alone_20 kw1084 ?_
      exact aw_iret X dX8_alone_22 h
def wl_X8_mean_39 (n : Nat) (p1 : Int32)  (K : Mm → Int64 → Prop) : Nat → Mm → Int32 → Int32 → Int32 → Prop
  | 0, _, _, _, _ => False
  | k + 1, M, x2, x3, x4 => (x4 ≤ 0 → (¬ p1 = 0 → ¬ x3 = 0 ∧ (K M ((x2 / x3).toInt64))) ∧ (p1 = 0 → ¬ x3 = 0 ∧ (K M (((M 75 9) / x3).toInt64)))) ∧ (¬ x4 ≤ 0 → ¬ x4 = 0 ∧ (∀ v6 : Int32, v6 = jrem x3 x4 → wl_X8_mean_39 n p1 K k M x2 x4 v6))
set_option maxHeartbeats 4000000 in
set_option maxRecDepth 100000 in
theorem lw_X8_mean_39 {g : Gm} {E : En} {A : Nat → Prop} {K : Mm → Int64 → Prop} (X : CX g cX8_mean RX8 (some .long) 2 E A 6) (p1 : Int32)   : ∀ (k : Nat) (M : Mm) (x2 : Int32) (x3 : Int32) (x4 : Int32), wl_X8_mean_39 (eN E) p1  K k M x2 x3 x4 → AW g E A 6 (MQ (gB g) (QL E K A) (gA g) (gS g) (gk g) (gn g) A) 39 [(0, .ref (eA E 74)), (1, .int p1), (2, .int x2), (3, .int x3), (4, .int x4)] [] M := by
  intro k
  induction k with
  | zero => intro M x2 x3 x4 h; exact h.elim
  | succ k ih =>
    intro M x2 x3 x4 h
    rw [wl_X8_mean_39] at h
    refine aw_iload X dX8_mean_39 4 rfl ?_
    refine aw_if_le (tgt := 60) X dX8_mean_41 (by decide) (fun c => ?_) (fun c => ?_)
    · have h := h.1 c
      refine aw_iload_n X dX8_mean_60 1 rfl ?_
      refine aw_if_ne (tgt := 74) X dX8_mean_61 (by decide) (fun c => ?_) (fun c => ?_)
      · have h := h.1 c
        refine aw_iload_n X dX8_mean_74 2 rfl ?_
        refine aw_iload_n X dX8_mean_75 3 rfl ?_
        obtain ⟨hne, h⟩ := h
        refine aw_idiv X dX8_mean_76 hne ?_
        refine aw_i2l X dX8_mean_77 ?_
        exact aw_lret X dX8_mean_78 h
      · have h := h.2 c
        refine aw_aload_n X dX8_mean_64 0 rfl ?_
        refine aw_get X dX8_mean_65 (X.lt (by decide)) (sh_12 (rfl : tp 74 = 12) _) fl_RX8_7 rfl ?_
        refine aw_bipush (v := 9) X dX8_mean_68 (by decide) ?_
        refine aw_iald X dX8_mean_70 (X.lt (by decide)) (sh_ia 3108 (rfl : tp 75 = 4108) _) (by unfold vp_in; decide) ?_
        refine aw_goto (tgt := 75) X dX8_mean_71 (by decide) ?_
        refine aw_iload_n X dX8_mean_75 3 rfl ?_
        obtain ⟨hne, h⟩ := h
        refine aw_idiv X dX8_mean_76 hne ?_
        refine aw_i2l X dX8_mean_77 ?_
        exact aw_lret X dX8_mean_78 h
    · have h := h.2 c
      refine aw_iload_n X dX8_mean_44 3 rfl ?_
      refine aw_iload X dX8_mean_45 4 rfl ?_
      obtain ⟨hne, h⟩ := h
      refine aw_irem X dX8_mean_47 hne ?_
      refine aw_top (fun v6 ev6 => ?_)
      have h := h v6 ev6
      refine aw_istore (lv' := [(5, .int v6), (0, .ref (eA E 74)), (1, .int p1), (2, .int x2), (3, .int x3), (4, .int x4)]) X dX8_mean_48 (by decide) rfl ?_
      refine aw_iload X dX8_mean_50 5 rfl ?_
      refine aw_istore_n (lv' := [(3, .int x4), (5, .int v6), (0, .ref (eA E 74)), (1, .int p1), (2, .int x2), (4, .int x4)]) X dX8_mean_52 (by decide) rfl ?_
      refine aw_iload X dX8_mean_53 1 rfl ?_
      refine aw_istore (lv' := [(4, .int v6), (3, .int x4), (5, .int v6), (0, .ref (eA E 74)), (1, .int p1), (2, .int x2)]) X dX8_mean_55 (by decide) rfl ?_
      refine aw_goto (tgt := 39) X dX8_mean_57 (by decide) ?_
      exact aw_sub [3, 4, 5, 1, 0] rfl (ih _ _ _ _ h)
def wp_X8_mean (n : Nat)  (M : Mm) (p1 : Int32) (K : Mm → Int64 → Prop) : Prop := wp_X8_isIn n M p1.toInt64 0 1 (fun M1 r2 => (¬ r2 = 0 → wp_X8_ofAll n M1 11 (fun M3 r4 => (¬ r4 = 0 → ∀ v5 : Int32, v5 = M3 75 9 → ∃ kf : Nat, wl_X8_mean_39 n p1 K kf M3 r4 v5 r4) ∧ (r4 = 0 → K M3 p1.toInt64))) ∧ (r2 = 0 → K M1 (-1000000001)))
set_option maxHeartbeats 4000000 in
set_option maxRecDepth 100000 in
theorem c_X8_mean {l : Launch} {E : En} {M : Mm} {p1 : Int32} {K : Mm → Int64 → Prop}  (h : wp_X8_mean (eN E)  M p1 K) : Ctr l E yX8_mean cX8_mean 6 (some .long) 2 [.ref (eA E 74), .int p1] M (QL E K) := by
  refine Ctr.of (by decide +kernel) (Nat.le_of_ble_eq_true rfl) (fun g A hgl X => ?_)
  subst hgl
  have X : CX g cX8_mean RX8 (some .long) 2 E A 6 := X
  show AW g E A 6 _ 0 [(0, .ref (eA E 74)), (1, .int p1)] [] M
  unfold wp_X8_mean at h
  refine aw_iload_n X dX8_mean_0 1 rfl ?_
  refine aw_i2l X dX8_mean_1 ?_
  refine aw_lconst (v := 0) X dX8_mean_2 (by decide) ?_
  refine aw_lconst (v := 1) X dX8_mean_3 (by decide) ?_
  refine ca_i X (rn_s X [.long p1.toInt64, .long 0, .long 1] [] kw1079 (c_X8_isIn h) cal_yX8_isIn kw1078 (Nat.le_of_ble_eq_true rfl) rfl rfl (Nat.le_of_ble_eq_true rfl) dX8_mean_4) (fun M1 r2 h => ?_)
  refine aw_if_ne (tgt := 14) X dX8_mean_7 (by decide) (fun c => ?_) (fun c => ?_)
  · have h := h.1 c
    refine aw_aload_n X dX8_mean_14 0 rfl ?_
    refine aw_bipush (v := 11) X dX8_mean_15 (by decide) ?_
    refine ca_i X (rn_v X [.int 11] [] (X.lt (by decide)) (sh_12 (rfl : tp 74 = 12) _) rfl rfl kw1226 kw75 (c_X8_ofAll h) cal_yX8_ofAll kw1224 (Nat.le_of_ble_eq_true rfl) rfl rfl (Nat.le_of_ble_eq_true rfl) dX8_mean_17) (fun M3 r4 h => ?_)
    refine aw_istore_n (lv' := [(2, .int r4), (0, .ref (eA E 74)), (1, .int p1)]) X dX8_mean_20 (by decide) rfl ?_
    refine aw_iload_n X dX8_mean_21 0 rfl ?_
    refine aw_if_ne (tgt := 28) X dX8_mean_22 (by decide) (fun c => ?_) (fun c => ?_)
    · have h := h.1 c
      refine aw_aload_n X dX8_mean_28 1 rfl ?_
      refine aw_get X dX8_mean_29 (X.lt (by decide)) (sh_12 (rfl : tp 74 = 12) _) fl_RX8_7 rfl ?_
      refine aw_bipush (v := 9) X dX8_mean_32 (by decide) ?_
      refine aw_iald X dX8_mean_34 (X.lt (by decide)) (sh_ia 3108 (rfl : tp 75 = 4108) _) (by unfold vp_in; decide) ?_
      refine aw_top (fun v5 ev5 => ?_)
      have h := h v5 ev5
      refine aw_istore_n (lv' := [(3, .int v5), (2, .int r4), (0, .ref (eA E 74)), (1, .int p1)]) X dX8_mean_35 (by decide) rfl ?_
      refine aw_iload_n X dX8_mean_36 1 rfl ?_
      refine aw_istore (lv' := [(4, .int r4), (3, .int v5), (2, .int r4), (0, .ref (eA E 74)), (1, .int p1)]) X dX8_mean_37 (by decide) rfl ?_
      obtain ⟨kf, h⟩ := h
      exact aw_sub [3, 4, 2, 1, 0] rfl (lw_X8_mean_39 X p1  kf _ _ _ _ h)
    · have h := h.2 c
      refine aw_iload_n X dX8_mean_25 2 rfl ?_
      refine aw_i2l X dX8_mean_26 ?_
      exact aw_lret X dX8_mean_27 h
  · have h := h.2 c
    refine aw_ldc2_w (v := (-1000000001)) X dX8_mean_10 kw1263 ?_
    exact aw_lret X dX8_mean_13 h
def wb_X8_least_74 (n : Nat)  (Z4 : Mm → Int32 → Int32 → Prop) (K : Mm → Int32 → Prop) (M : Mm) (x1 : Int32) (x2 : Int32) (s0 : Int32) : Prop := (s0 = 0 → ∀ v15 : Int32, v15 = x2 + 1 → Z4 M x1 v15) ∧ (¬ s0 = 0 → ∀ v16 : Int32, v16 = x2 + 1 → Z4 M x2 v16)
set_option maxHeartbeats 4000000 in
set_option maxRecDepth 100000 in
theorem lb_X8_least_74 {g : Gm} {E : En} {A : Nat → Prop} {K : Mm → Int32 → Prop} (X : CX g cX8_least RX8 (some .int) 1 E A 4)    {Z4 : Mm → Int32 → Int32 → Prop} (hZ4 : ∀ (M : Mm) (x1 : Int32) (x2 : Int32), Z4 M x1 x2 → AW g E A 4 (MQ (gB g) (QI E K A) (gA g) (gS g) (gk g) (gn g) A) 4 [(0, .ref (eA E 74)), (1, .int x1), (2, .int x2)] [] M) (M : Mm) (x1 : Int32) (x2 : Int32) (s0 : Int32) (h : wb_X8_least_74 (eN E)  Z4 K M x1 x2 s0) : AW g E A 4 (MQ (gB g) (QI E K A) (gA g) (gS g) (gk g) (gn g) A) 74 [(0, .ref (eA E 74)), (1, .int x1), (2, .int x2)] [.int s0] M := by
  unfold wb_X8_least_74 at h
  refine aw_istore_n (lv' := [(3, .int s0), (0, .ref (eA E 74)), (1, .int x1), (2, .int x2)]) X dX8_least_74 (by decide) rfl ?_
  refine aw_iload_n X dX8_least_75 0 rfl ?_
  refine aw_if_eq (tgt := 83) X dX8_least_76 (by decide) (fun c => ?_) (fun c => ?_)
  · have h := h.1 c
    refine aw_iload_n X dX8_least_83 2 rfl ?_
    refine aw_istore_n (lv' := [(1, .int x1), (3, .int s0), (0, .ref (eA E 74)), (2, .int x2)]) X dX8_least_84 (by decide) rfl ?_
    obtain ⟨v15, ev15⟩ : ∃ y : Int32, y = x2 + 1 := ⟨_, rfl⟩
    have h := h v15 ev15
    refine aw_iinc (v := v15) (lv' := [(2, .int v15), (1, .int x1), (3, .int s0), (0, .ref (eA E 74))]) X dX8_least_85 3 rfl (by rw [ev15]; rfl) (by decide) rfl ?_
    refine aw_goto (tgt := 4) X dX8_least_88 (by decide) ?_
    exact aw_sub [3, 1, 0] rfl (hZ4 _ _ _ h)
  · have h := h.2 c
    refine aw_iload_n X dX8_least_79 3 rfl ?_
    refine aw_goto (tgt := 84) X dX8_least_80 (by decide) ?_
    refine aw_istore_n (lv' := [(1, .int x2), (3, .int s0), (0, .ref (eA E 74)), (2, .int x2)]) X dX8_least_84 (by decide) rfl ?_
    obtain ⟨v16, ev16⟩ : ∃ y : Int32, y = x2 + 1 := ⟨_, rfl⟩
    have h := h v16 ev16
    refine aw_iinc (v := v16) (lv' := [(2, .int v16), (1, .int x2), (3, .int s0), (0, .ref (eA E 74))]) X dX8_least_85 3 rfl (by rw [ev16]; rfl) (by decide) rfl ?_
    refine aw_goto (tgt := 4) X dX8_least_88 (by decide) ?_
    exact aw_sub [3, 1, 0] rfl (hZ4 _ _ _ h)
def wb_X8_least_69 (n : Nat)  (Z4 : Mm → Int32 → Int32 → Prop) (K : Mm → Int32 → Prop) (M : Mm) (x1 : Int32) (x2 : Int32) : Prop := wb_X8_least_74 n Z4 K M x1 x2 1
set_option maxHeartbeats 4000000 in
set_option maxRecDepth 100000 in
theorem lb_X8_least_69 {g : Gm} {E : En} {A : Nat → Prop} {K : Mm → Int32 → Prop} (X : CX g cX8_least RX8 (some .int) 1 E A 4)    {Z4 : Mm → Int32 → Int32 → Prop} (hZ4 : ∀ (M : Mm) (x1 : Int32) (x2 : Int32), Z4 M x1 x2 → AW g E A 4 (MQ (gB g) (QI E K A) (gA g) (gS g) (gk g) (gn g) A) 4 [(0, .ref (eA E 74)), (1, .int x1), (2, .int x2)] [] M) (M : Mm) (x1 : Int32) (x2 : Int32) (h : wb_X8_least_69 (eN E)  Z4 K M x1 x2) : AW g E A 4 (MQ (gB g) (QI E K A) (gA g) (gS g) (gk g) (gn g) A) 69 [(0, .ref (eA E 74)), (1, .int x1), (2, .int x2)] [] M := by
  unfold wb_X8_least_69 at h
  refine aw_iconst (v := 1) X dX8_least_69 (by decide) ?_
  refine aw_goto (tgt := 74) X dX8_least_70 (by decide) ?_
  exact aw_sub [0, 1, 2] rfl (lb_X8_least_74 X  hZ4 _ _ _ _ h)
def wb_X8_least_73 (n : Nat)  (Z4 : Mm → Int32 → Int32 → Prop) (K : Mm → Int32 → Prop) (M : Mm) (x1 : Int32) (x2 : Int32) : Prop := wb_X8_least_74 n Z4 K M x1 x2 0
set_option maxHeartbeats 4000000 in
set_option maxRecDepth 100000 in
theorem lb_X8_least_73 {g : Gm} {E : En} {A : Nat → Prop} {K : Mm → Int32 → Prop} (X : CX g cX8_least RX8 (some .int) 1 E A 4)    {Z4 : Mm → Int32 → Int32 → Prop} (hZ4 : ∀ (M : Mm) (x1 : Int32) (x2 : Int32), Z4 M x1 x2 → AW g E A 4 (MQ (gB g) (QI E K A) (gA g) (gS g) (gk g) (gn g) A) 4 [(0, .ref (eA E 74)), (1, .int x1), (2, .int x2)] [] M) (M : Mm) (x1 : Int32) (x2 : Int32) (h : wb_X8_least_73 (eN E)  Z4 K M x1 x2) : AW g E A 4 (MQ (gB g) (QI E K A) (gA g) (gS g) (gk g) (gn g) A) 73 [(0, .ref (eA E 74)), (1, .int x1), (2, .int x2)] [] M := by
  unfold wb_X8_least_73 at h
  refine aw_iconst (v := 0) X dX8_least_73 (by decide) ?_
  exact aw_sub [0, 1, 2] rfl (lb_X8_least_74 X  hZ4 _ _ _ _ h)
def wl_X8_least_4 (n : Nat)   (K : Mm → Int32 → Prop) : Nat → Mm → Int32 → Int32 → Prop
  | 0, _, _, _ => False
  | k + 1, M, x1, x2 => ((M 75 0) ≤ x2 → wp_X8_orNone n M x1 (fun M1 r2 => K M1 r2)) ∧ (¬ (M 75 0) ≤ x2 → (x1 < 0 → wb_X8_least_69 n (fun M x1 x2 => wl_X8_least_4 n K k M x1 x2) K M x1 x2) ∧ (¬ x1 < 0 → wp_X8_of n M x2 10 (fun M3 r4 => wp_X8_of n M3 x1 10 (fun M5 r6 => (r6 < r4 → wb_X8_least_69 n (fun M x1 x2 => wl_X8_least_4 n K k M x1 x2) K M5 x1 x2) ∧ (¬ r6 < r4 → wp_X8_of n M5 x2 10 (fun M7 r8 => wp_X8_of n M7 x1 10 (fun M9 r10 => (¬ r8 = r10 → wb_X8_least_73 n (fun M x1 x2 => wl_X8_least_4 n K k M x1 x2) K M9 x1 x2) ∧ (r8 = r10 → wp_X8_of n M9 x2 9 (fun M11 r12 => wp_X8_of n M11 x1 9 (fun M13 r14 => (r14 ≤ r12 → wb_X8_least_73 n (fun M x1 x2 => wl_X8_least_4 n K k M x1 x2) K M13 x1 x2) ∧ (¬ r14 ≤ r12 → wb_X8_least_69 n (fun M x1 x2 => wl_X8_least_4 n K k M x1 x2) K M13 x1 x2)))))))))))
set_option maxHeartbeats 4000000 in
set_option maxRecDepth 100000 in
theorem lw_X8_least_4 {g : Gm} {E : En} {A : Nat → Prop} {K : Mm → Int32 → Prop} (X : CX g cX8_least RX8 (some .int) 1 E A 4)    : ∀ (k : Nat) (M : Mm) (x1 : Int32) (x2 : Int32), wl_X8_least_4 (eN E)   K k M x1 x2 → AW g E A 4 (MQ (gB g) (QI E K A) (gA g) (gS g) (gk g) (gn g) A) 4 [(0, .ref (eA E 74)), (1, .int x1), (2, .int x2)] [] M := by
  intro k
  induction k with
  | zero => intro M x1 x2 h; exact h.elim
  | succ k ih =>
    intro M x1 x2 h
    rw [wl_X8_least_4] at h
    refine aw_iload_n X dX8_least_4 2 rfl ?_
    refine aw_aload_n X dX8_least_5 0 rfl ?_
    refine aw_get X dX8_least_6 (X.lt (by decide)) (sh_12 (rfl : tp 74 = 12) _) fl_RX8_7 rfl ?_
    refine aw_iconst (v := 0) X dX8_least_9 (by decide) ?_
    refine aw_iald X dX8_least_10 (X.lt (by decide)) (sh_ia 3108 (rfl : tp 75 = 4108) _) (by unfold vp_in; decide) ?_
    refine aw_icmp_ge (tgt := 91) X dX8_least_11 (by decide) (fun c => ?_) (fun c => ?_)
    · have h := h.1 c
      refine aw_iload_n X dX8_least_91 1 rfl ?_
      refine ca_i X (rn_s X [.int x1] [] kw1269 (c_X8_orNone h) cal_yX8_orNone kw1268 (Nat.le_of_ble_eq_true rfl) rfl rfl (Nat.le_of_ble_eq_true rfl) dX8_least_92) (fun M1 r2 h => ?_)
      exact aw_iret X dX8_least_95 h
    · have h := h.2 c
      refine aw_iload_n X dX8_least_14 1 rfl ?_
      refine aw_if_lt (tgt := 69) X dX8_least_15 (by decide) (fun c => ?_) (fun c => ?_)
      · have h := h.1 c
        exact aw_sub [0, 1, 2] rfl (lb_X8_least_69 X  ih _ _ _ h)
      · have h := h.2 c
        refine aw_aload_n X dX8_least_18 0 rfl ?_
        refine aw_iload_n X dX8_least_19 2 rfl ?_
        refine aw_bipush (v := 10) X dX8_least_20 (by decide) ?_
        refine ca_i X (rn_v X [.int x2, .int 10] [] (X.lt (by decide)) (sh_12 (rfl : tp 74 = 12) _) rfl rfl kw1101 kw56 (c_X8_of h) cal_yX8_of kw1099 (Nat.le_of_ble_eq_true rfl) rfl rfl (Nat.le_of_ble_eq_true rfl) dX8_least_22) (fun M3 r4 h => ?_)
        refine aw_aload_n X dX8_least_25 0 rfl ?_
        refine aw_iload_n X dX8_least_26 1 rfl ?_
        refine aw_bipush (v := 10) X dX8_least_27 (by decide) ?_
        refine ca_i X (rn_v X [.int x1, .int 10] [.int r4] (X.lt (by decide)) (sh_12 (rfl : tp 74 = 12) _) rfl rfl kw1101 kw56 (c_X8_of h) cal_yX8_of kw1099 (Nat.le_of_ble_eq_true rfl) rfl rfl (Nat.le_of_ble_eq_true rfl) dX8_least_29) (fun M5 r6 h => ?_)
        refine aw_icmp_gt (tgt := 69) X dX8_least_32 (by decide) (fun c => ?_) (fun c => ?_)
        · have h := h.1 c
          exact aw_sub [0, 1, 2] rfl (lb_X8_least_69 X  ih _ _ _ h)
        · have h := h.2 c
          refine aw_aload_n X dX8_least_35 0 rfl ?_
          refine aw_iload_n X dX8_least_36 2 rfl ?_
          refine aw_bipush (v := 10) X dX8_least_37 (by decide) ?_
          refine ca_i X (rn_v X [.int x2, .int 10] [] (X.lt (by decide)) (sh_12 (rfl : tp 74 = 12) _) rfl rfl kw1101 kw56 (c_X8_of h) cal_yX8_of kw1099 (Nat.le_of_ble_eq_true rfl) rfl rfl (Nat.le_of_ble_eq_true rfl) dX8_least_39) (fun M7 r8 h => ?_)
          refine aw_aload_n X dX8_least_42 0 rfl ?_
          refine aw_iload_n X dX8_least_43 1 rfl ?_
          refine aw_bipush (v := 10) X dX8_least_44 (by decide) ?_
          refine ca_i X (rn_v X [.int x1, .int 10] [.int r8] (X.lt (by decide)) (sh_12 (rfl : tp 74 = 12) _) rfl rfl kw1101 kw56 (c_X8_of h) cal_yX8_of kw1099 (Nat.le_of_ble_eq_true rfl) rfl rfl (Nat.le_of_ble_eq_true rfl) dX8_least_46) (fun M9 r10 h => ?_)
          refine aw_icmp_ne (tgt := 73) X dX8_least_49 (by decide) (fun c => ?_) (fun c => ?_)
          · have h := h.1 c
            exact aw_sub [0, 1, 2] rfl (lb_X8_least_73 X  ih _ _ _ h)
          · have h := h.2 c
            refine aw_aload_n X dX8_least_52 0 rfl ?_
            refine aw_iload_n X dX8_least_53 2 rfl ?_
            refine aw_bipush (v := 9) X dX8_least_54 (by decide) ?_
            refine ca_i X (rn_v X [.int x2, .int 9] [] (X.lt (by decide)) (sh_12 (rfl : tp 74 = 12) _) rfl rfl kw1101 kw56 (c_X8_of h) cal_yX8_of kw1099 (Nat.le_of_ble_eq_true rfl) rfl rfl (Nat.le_of_ble_eq_true rfl) dX8_least_56) (fun M11 r12 h => ?_)
            refine aw_aload_n X dX8_least_59 0 rfl ?_
            refine aw_iload_n X dX8_least_60 1 rfl ?_
            refine aw_bipush (v := 9) X dX8_least_61 (by decide) ?_
            refine ca_i X (rn_v X [.int x1, .int 9] [.int r12] (X.lt (by decide)) (sh_12 (rfl : tp 74 = 12) _) rfl rfl kw1101 kw56 (c_X8_of h) cal_yX8_of kw1099 (Nat.le_of_ble_eq_true rfl) rfl rfl (Nat.le_of_ble_eq_true rfl) dX8_least_63) (fun M13 r14 h => ?_)
            refine aw_icmp_ge (tgt := 73) X dX8_least_66 (by decide) (fun c => ?_) (fun c => ?_)
            · have h := h.1 c
              exact aw_sub [0, 1, 2] rfl (lb_X8_least_73 X  ih _ _ _ h)
            · have h := h.2 c
              exact aw_sub [0, 1, 2] rfl (lb_X8_least_69 X  ih _ _ _ h)
def wp_X8_least (n : Nat)  (M : Mm)  (K : Mm → Int32 → Prop) : Prop := ∃ kf : Nat, wl_X8_least_4 n K kf M (-1) 0
set_option maxHeartbeats 4000000 in
set_option maxRecDepth 100000 in
theorem c_X8_least {l : Launch} {E : En} {M : Mm}  {K : Mm → Int32 → Prop}  (h : wp_X8_least (eN E)  M  K) : Ctr l E yX8_least cX8_least 4 (some .int) 1 [.ref (eA E 74)] M (QI E K) := by
  refine Ctr.of (by decide +kernel) (Nat.le_of_ble_eq_true rfl) (fun g A hgl X => ?_)
  subst hgl
  have X : CX g cX8_least RX8 (some .int) 1 E A 4 := X
  show AW g E A 4 _ 0 [(0, .ref (eA E 74))] [] M
  unfold wp_X8_least at h
  refine aw_iconst (v := (-1)) X dX8_least_0 (by decide) ?_
  refine aw_istore_n (lv' := [(1, .int (-1)), (0, .ref (eA E 74))]) X dX8_least_1 (by decide) rfl ?_
  refine aw_iconst (v := 0) X dX8_least_2 (by decide) ?_
  refine aw_istore_n (lv' := [(2, .int 0), (1, .int (-1)), (0, .ref (eA E 74))]) X dX8_least_3 (by decide) rfl ?_
  obtain ⟨kf, h⟩ := h
  exact aw_sub [2, 1, 0] rfl (lw_X8_least_4 X   kf _ _ _ h)
def wp_X8_fine (n : Nat)  (M : Mm) (p1 : Int32) (K : Mm → Int32 → Prop) : Prop := wp_X8_isComer n M p1 (fun M1 r2 => (¬ r2 = 0 → wp_X8_counts n M1 2 (fun M3 r4 => (0 ≤ r4 → wp_X8_of n M3 p1 9 (fun M5 r6 => ∀ M7 : Mm, M7 = wr M5 89 103 r6 → wp_X8_of n M7 p1 10 (fun M8 r9 => ∀ M10 : Mm, M10 = wr M8 89 101 r9 → wp_X8_worked n M10 r4 (fun M11 r12 => K M11 r12)))) ∧ (¬ 0 ≤ r4 → wp_X8_of n M3 p1 10 (fun M13 r14 => K M13 r14)))) ∧ (r2 = 0 → K M1 (-1000000001)))
set_option maxHeartbeats 4000000 in
set_option maxRecDepth 100000 in
theorem c_X8_fine {l : Launch} {E : En} {M : Mm} {p1 : Int32} {K : Mm → Int32 → Prop}  (h : wp_X8_fine (eN E)  M p1 K) : Ctr l E yX8_fine cX8_fine 3 (some .int) 2 [.ref (eA E 74), .int p1] M (QI E K) := by
  refine Ctr.of (by decide +kernel) (Nat.le_of_ble_eq_true rfl) (fun g A hgl X => ?_)
  subst hgl
  have X : CX g cX8_fine RX8 (some .int) 2 E A 3 := X
  show AW g E A 3 _ 0 [(0, .ref (eA E 74)), (1, .int p1)] [] M
  unfold wp_X8_fine at h
  refine aw_aload_n X dX8_fine_0 0 rfl ?_
  refine aw_iload_n X dX8_fine_1 1 rfl ?_
  refine ca_i X (rn_v X [.int p1] [] (X.lt (by decide)) (sh_12 (rfl : tp 74 = 12) _) rfl rfl kw1096 kw55 (c_X8_isComer h) cal_yX8_isComer kw1094 (Nat.le_of_ble_eq_true rfl) rfl rfl (Nat.le_of_ble_eq_true rfl) dX8_fine_2) (fun M1 r2 h => ?_)
  refine aw_if_ne (tgt := 11) X dX8_fine_5 (by decide) (fun c => ?_) (fun c => ?_)
  · have h := h.1 c
    refine aw_aload_n X dX8_fine_11 0 rfl ?_
    refine aw_iconst (v := 2) X dX8_fine_12 (by decide) ?_
    refine ca_i X (rn_v X [.int 2] [] (X.lt (by decide)) (sh_12 (rfl : tp 74 = 12) _) rfl rfl kw1113 kw59 (c_X8_counts h) cal_yX8_counts kw1111 (Nat.le_of_ble_eq_true rfl) rfl rfl (Nat.le_of_ble_eq_true rfl) dX8_fine_13) (fun M3 r4 h => ?_)
    refine aw_istore_n (lv' := [(2, .int r4), (0, .ref (eA E 74)), (1, .int p1)]) X dX8_fine_16 (by decide) rfl ?_
    refine aw_iload_n X dX8_fine_17 0 rfl ?_
    refine aw_if_ge (tgt := 29) X dX8_fine_18 (by decide) (fun c => ?_) (fun c => ?_)
    · have h := h.1 c
      refine aw_aload_n X dX8_fine_29 1 rfl ?_
      refine aw_get X dX8_fine_30 (X.lt (by decide)) (sh_12 (rfl : tp 74 = 12) _) fl_RX8_56 rfl ?_
      refine aw_bipush (v := 103) X dX8_fine_33 (by decide) ?_
      refine aw_aload_n X dX8_fine_35 1 rfl ?_
      refine aw_iload_n X dX8_fine_36 2 rfl ?_
      refine aw_bipush (v := 9) X dX8_fine_37 (by decide) ?_
      refine ca_i X (rn_v X [.int p1, .int 9] [.int 103, .ref (eA E 89)] (X.lt (by decide)) (sh_12 (rfl : tp 74 = 12) _) rfl rfl kw1101 kw56 (c_X8_of h) cal_yX8_of kw1099 (Nat.le_of_ble_eq_true rfl) rfl rfl (Nat.le_of_ble_eq_true rfl) dX8_fine_39) (fun M5 r6 h => ?_)
      refine aw_iast X dX8_fine_42 (X.lt (by decide)) (sh_ia 128 (rfl : tp 89 = 1128) _) (sh_ia 128 (rfl : tp 89 = 1128) _) (by unfold vp_in; decide) (fun M7 eM7 => ?_)
      have h := h M7 eM7
      refine aw_aload_n X dX8_fine_43 1 rfl ?_
      refine aw_get X dX8_fine_44 (X.lt (by decide)) (sh_12 (rfl : tp 74 = 12) _) fl_RX8_56 rfl ?_
      refine aw_bipush (v := 101) X dX8_fine_47 (by decide) ?_
      refine aw_aload_n X dX8_fine_49 1 rfl ?_
      refine aw_iload_n X dX8_fine_50 2 rfl ?_
      refine aw_bipush (v := 10) X dX8_fine_51 (by decide) ?_
      refine ca_i X (rn_v X [.int p1, .int 10] [.int 101, .ref (eA E 89)] (X.lt (by decide)) (sh_12 (rfl : tp 74 = 12) _) rfl rfl kw1101 kw56 (c_X8_of h) cal_yX8_of kw1099 (Nat.le_of_ble_eq_true rfl) rfl rfl (Nat.le_of_ble_eq_true rfl) dX8_fine_53) (fun M8 r9 h => ?_)
      refine aw_iast X dX8_fine_56 (X.lt (by decide)) (sh_ia 128 (rfl : tp 89 = 1128) _) (sh_ia 128 (rfl : tp 89 = 1128) _) (by unfold vp_in; decide) (fun M10 eM10 => ?_)
      have h := h M10 eM10
      refine aw_aload_n X dX8_fine_57 1 rfl ?_
      refine aw_iload_n X dX8_fine_58 0 rfl ?_
      refine ca_i X (rn_v X [.int r4] [] (X.lt (by decide)) (sh_12 (rfl : tp 74 = 12) _) rfl rfl kw1125 kw62 (c_X8_worked h) cal_yX8_worked kw1123 (Nat.le_of_ble_eq_true rfl) rfl rfl (Nat.le_of_ble_eq_true rfl) dX8_fine_59) (fun M11 r12 h => ?_)
      exact aw_iret X dX8_fine_62 h
    · have h := h.2 c
      refine aw_aload_n X dX8_fine_21 1 rfl ?_
      refine aw_iload_n X dX8_fine_22 2 rfl ?_
      refine aw_bipush (v := 10) X dX8_fine_23 (by decide) ?_
      refine ca_i X (rn_v X [.int p1, .int 10] [] (X.lt (by decide)) (sh_12 (rfl : tp 74 = 12) _) rfl rfl kw1101 kw56 (c_X8_of h) cal_yX8_of kw1099 (Nat.le_of_ble_eq_true rfl) rfl rfl (Nat.le_of_ble_eq_true rfl) dX8_fine_25) (fun M13 r14 h => ?_)
      exact aw_iret X dX8_fine_28 h
  · have h := h.2 c
    refine aw_ldc (v := (-1000000001)) X dX8_fine_8 kw1084 ?_
    exact aw_iret X dX8_fine_10 h
def wb_X8_feed_47 (n : Nat) (p1 : Int32) (p2 : Int32) (p3 : Int32) (Z18 : Mm → Int32 → Prop) (K : Mm → Int32 → Prop) (M : Mm) (x4 : Int32) (s0 : Int32) : Prop := vp_in (M 74 17) 96 ∧ (∀ M1 : Mm, M1 = wr M 88 (M 74 17).toNatClampNeg ((s0 >>> ((24 - (8 * (jrem x4 4))) &&& 31)) &&& 255) → ∀ M2 : Mm, M2 = wr M1 74 17 ((M1 74 17) + 1) → ∀ v3 : Int32, v3 = x4 + 1 → Z18 M2 v3)
set_option maxHeartbeats 4000000 in
set_option maxRecDepth 100000 in
theorem lb_X8_feed_47 {g : Gm} {E : En} {A : Nat → Prop} {K : Mm → Int32 → Prop} (X : CX g cX8_feed RX8 (some .int) 0 E A 6) (p1 : Int32) (p2 : Int32) (p3 : Int32)   {Z18 : Mm → Int32 → Prop} (hZ18 : ∀ (M : Mm) (x4 : Int32), Z18 M x4 → AW g E A 6 (MQ (gB g) (QI E K A) (gA g) (gS g) (gk g) (gn g) A) 18 [(0, .ref (eA E 74)), (1, .int p1), (2, .int p2), (3, .int p3), (4, .int x4)] [] M) (M : Mm) (x4 : Int32) (s0 : Int32) (h : wb_X8_feed_47 (eN E) p1 p2 p3 Z18 K M x4 s0) : AW g E A 6 (MQ (gB g) (QI E K A) (gA g) (gS g) (gk g) (gn g) A) 47 [(0, .ref (eA E 74)), (1, .int p1), (2, .int p2), (3, .int p3), (4, .int x4)] [.int s0] M := by
  unfold wb_X8_feed_47 at h
  refine aw_istore (lv' := [(5, .int s0), (0, .ref (eA E 74)), (1, .int p1), (2, .int p2), (3, .int p3), (4, .int x4)]) X dX8_feed_47 (by decide) rfl ?_
  refine aw_aload_n X dX8_feed_49 1 rfl ?_
  refine aw_get X dX8_feed_50 (X.lt (by decide)) (sh_12 (rfl : tp 74 = 12) _) fl_RX8_53 rfl ?_
  refine aw_aload_n X dX8_feed_53 1 rfl ?_
  refine aw_get X dX8_feed_54 (X.lt (by decide)) (sh_12 (rfl : tp 74 = 12) _) fl_RX8_206 rfl ?_
  refine aw_iload X dX8_feed_57 0 rfl ?_
  refine aw_bipush (v := 24) X dX8_feed_59 (by decide) ?_
  refine aw_bipush (v := 8) X dX8_feed_61 (by decide) ?_
  refine aw_iload X dX8_feed_63 5 rfl ?_
  refine aw_iconst (v := 4) X dX8_feed_65 (by decide) ?_
  refine aw_irem X dX8_feed_66 (by decide) ?_
  refine aw_imul X dX8_feed_67 ?_
  refine aw_isub X dX8_feed_68 ?_
  refine aw_ishr X dX8_feed_69 ?_
  refine aw_sipush (v := 255) X dX8_feed_70 (by decide) ?_
  refine aw_iand X dX8_feed_73 ?_
  obtain ⟨hin, h⟩ := h
  refine aw_iast X dX8_feed_74 (X.lt (by decide)) (sh_ia 96 (rfl : tp 88 = 1096) _) (sh_ia 96 (rfl : tp 88 = 1096) _) hin (fun M1 eM1 => ?_)
  have h := h M1 eM1
  refine aw_aload_n X dX8_feed_75 1 rfl ?_
  refine aw_dup X dX8_feed_76 rfl ?_
  refine aw_get X dX8_feed_77 (X.lt (by decide)) (sh_12 (rfl : tp 74 = 12) _) fl_RX8_206 rfl ?_
  refine aw_iconst (v := 1) X dX8_feed_80 (by decide) ?_
  refine aw_iadd X dX8_feed_81 ?_
  refine aw_put X dX8_feed_82 (X.lt (by decide)) (sh_12 (rfl : tp 74 = 12) _) fl_RX8_206 fw_8_17 (Nat.le_of_ble_eq_true rfl) (sp_12_17 (rfl : tp 74 = 12) _ _) (fun M2 eM2 => ?_)
  have h := h M2 eM2
  obtain ⟨v3, ev3⟩ : ∃ y : Int32, y = x4 + 1 := ⟨_, rfl⟩
  have h := h v3 ev3
  refine aw_iinc (v := v3) (lv' := [(4, .int v3), (5, .int s0), (0, .ref (eA E 74)), (1, .int p1), (2, .int p2), (3, .int p3)]) X dX8_feed_85 5 rfl (by rw [ev3]; rfl) (by decide) rfl ?_
  refine aw_goto (tgt := 18) X dX8_feed_88 (by decide) ?_
  exact aw_sub [2, 3, 4, 5, 0] rfl (hZ18 _ _ h)
def wl_X8_feed_18 (n : Nat) (p1 : Int32) (p2 : Int32) (p3 : Int32)  (K : Mm → Int32 → Prop) : Nat → Mm → Int32 → Prop
  | 0, _, _ => False
  | k + 1, M, x4 => (12 ≤ x4 → K M (M 74 17)) ∧ (¬ 12 ≤ x4 → (4 ≤ x4 → (8 ≤ x4 → wb_X8_feed_47 n p1 p2 p3 (fun M x4 => wl_X8_feed_18 n p1 p2 p3 K k M x4) K M x4 p3) ∧ (¬ 8 ≤ x4 → wb_X8_feed_47 n p1 p2 p3 (fun M x4 => wl_X8_feed_18 n p1 p2 p3 K k M x4) K M x4 p2)) ∧ (¬ 4 ≤ x4 → wb_X8_feed_47 n p1 p2 p3 (fun M x4 => wl_X8_feed_18 n p1 p2 p3 K k M x4) K M x4 p1))
set_option maxHeartbeats 4000000 in
set_option maxRecDepth 100000 in
theorem lw_X8_feed_18 {g : Gm} {E : En} {A : Nat → Prop} {K : Mm → Int32 → Prop} (X : CX g cX8_feed RX8 (some .int) 0 E A 6) (p1 : Int32) (p2 : Int32) (p3 : Int32)   : ∀ (k : Nat) (M : Mm) (x4 : Int32), wl_X8_feed_18 (eN E) p1 p2 p3  K k M x4 → AW g E A 6 (MQ (gB g) (QI E K A) (gA g) (gS g) (gk g) (gn g) A) 18 [(0, .ref (eA E 74)), (1, .int p1), (2, .int p2), (3, .int p3), (4, .int x4)] [] M := by
  intro k
  induction k with
  | zero => intro M x4 h; exact h.elim
  | succ k ih =>
    intro M x4 h
    rw [wl_X8_feed_18] at h
    refine aw_iload X dX8_feed_18 4 rfl ?_
    refine aw_bipush (v := 12) X dX8_feed_20 (by decide) ?_
    refine aw_icmp_ge (tgt := 91) X dX8_feed_22 (by decide) (fun c => ?_) (fun c => ?_)
    · have h := h.1 c
      refine aw_aload_n X dX8_feed_91 0 rfl ?_
      refine aw_get X dX8_feed_92 (X.lt (by decide)) (sh_12 (rfl : tp 74 = 12) _) fl_RX8_206 rfl ?_
      exact aw_iret X dX8_feed_95 h
    · have h := h.2 c
      refine aw_iload X dX8_feed_25 4 rfl ?_
      refine aw_iconst (v := 4) X dX8_feed_27 (by decide) ?_
      refine aw_icmp_ge (tgt := 35) X dX8_feed_28 (by decide) (fun c => ?_) (fun c => ?_)
      · have h := h.1 c
        refine aw_iload X dX8_feed_35 4 rfl ?_
        refine aw_bipush (v := 8) X dX8_feed_37 (by decide) ?_
        refine aw_icmp_ge (tgt := 46) X dX8_feed_39 (by decide) (fun c => ?_) (fun c => ?_)
        · have h := h.1 c
          refine aw_iload_n X dX8_feed_46 3 rfl ?_
          exact aw_sub [0, 1, 2, 3, 4] rfl (lb_X8_feed_47 X p1 p2 p3 ih _ _ _ h)
        · have h := h.2 c
          refine aw_iload_n X dX8_feed_42 2 rfl ?_
          refine aw_goto (tgt := 47) X dX8_feed_43 (by decide) ?_
          exact aw_sub [0, 1, 2, 3, 4] rfl (lb_X8_feed_47 X p1 p2 p3 ih _ _ _ h)
      · have h := h.2 c
        refine aw_iload_n X dX8_feed_31 1 rfl ?_
        refine aw_goto (tgt := 47) X dX8_feed_32 (by decide) ?_
        exact aw_sub [0, 1, 2, 3, 4] rfl (lb_X8_feed_47 X p1 p2 p3 ih _ _ _ h)
def wp_X8_feed (n : Nat)  (M : Mm) (p1 : Int32) (p2 : Int32) (p3 : Int32) (K : Mm → Int32 → Prop) : Prop := (((M 74 17) + 12) ≤ 96 → ∃ kf : Nat, wl_X8_feed_18 n p1 p2 p3 K kf M 0) ∧ (¬ ((M 74 17) + 12) ≤ 96 → K M (-1000000003))
set_option maxHeartbeats 4000000 in
set_option maxRecDepth 100000 in
theorem c_X8_feed {l : Launch} {E : En} {M : Mm} {p1 : Int32} {p2 : Int32} {p3 : Int32} {K : Mm → Int32 → Prop}  (h : wp_X8_feed (eN E)  M p1 p2 p3 K) : Ctr l E yX8_feed cX8_feed 6 (some .int) 0 [.ref (eA E 74), .int p1, .int p2, .int p3] M (QI E K) := by
  refine Ctr.of (by decide +kernel) (Nat.le_of_ble_eq_true rfl) (fun g A hgl X => ?_)
  subst hgl
  have X : CX g cX8_feed RX8 (some .int) 0 E A 6 := X
  show AW g E A 6 _ 0 [(0, .ref (eA E 74)), (1, .int p1), (2, .int p2), (3, .int p3)] [] M
  unfold wp_X8_feed at h
  refine aw_aload_n X dX8_feed_0 0 rfl ?_
  refine aw_get X dX8_feed_1 (X.lt (by decide)) (sh_12 (rfl : tp 74 = 12) _) fl_RX8_206 rfl ?_
  refine aw_bipush (v := 12) X dX8_feed_4 (by decide) ?_
  refine aw_iadd X dX8_feed_6 ?_
  refine aw_bipush (v := 96) X dX8_feed_7 (by decide) ?_
  refine aw_icmp_le (tgt := 15) X dX8_feed_9 (by decide) (fun c => ?_) (fun c => ?_)
  · have h := h.1 c
    refine aw_iconst (v := 0) X dX8_feed_15 (by decide) ?_
    refine aw_istore (lv' := [(4, .int 0), (0, .ref (eA E 74)), (1, .int p1), (2, .int p2), (3, .int p3)]) X dX8_feed_16 (by decide) rfl ?_
    obtain ⟨kf, h⟩ := h
    exact aw_sub [1, 2, 3, 4, 0] rfl (lw_X8_feed_18 X p1 p2 p3  kf _ _ h)
  · have h := h.2 c
    refine aw_ldc (v := (-1000000003)) X dX8_feed_12 kw1085 ?_
    exact aw_iret X dX8_feed_14 h
def wp_X8_trim (n : Nat)  (M : Mm) (p1 : Int32) (K : Mm → Int32 → Prop) : Prop := wp_X8_isIn n M p1.toInt64 0 ((M 74 17).toInt64) (fun M1 r2 => (¬ r2 = 0 → ∀ M3 : Mm, M3 = wr M1 74 17 p1 → K M3 p1) ∧ (r2 = 0 → K M1 (-1000000001)))
set_option maxHeartbeats 4000000 in
set_option maxRecDepth 100000 in
theorem c_X8_trim {l : Launch} {E : En} {M : Mm} {p1 : Int32} {K : Mm → Int32 → Prop}  (h : wp_X8_trim (eN E)  M p1 K) : Ctr l E yX8_trim cX8_trim 2 (some .int) 1 [.ref (eA E 74), .int p1] M (QI E K) := by
  refine Ctr.of (by decide +kernel) (Nat.le_of_ble_eq_true rfl) (fun g A hgl X => ?_)
  subst hgl
  have X : CX g cX8_trim RX8 (some .int) 1 E A 2 := X
  show AW g E A 2 _ 0 [(0, .ref (eA E 74)), (1, .int p1)] [] M
  unfold wp_X8_trim at h
  refine aw_iload_n X dX8_trim_0 1 rfl ?_
  refine aw_i2l X dX8_trim_1 ?_
  refine aw_lconst (v := 0) X dX8_trim_2 (by decide) ?_
  refine aw_aload_n X dX8_trim_3 0 rfl ?_
  refine aw_get X dX8_trim_4 (X.lt (by decide)) (sh_12 (rfl : tp 74 = 12) _) fl_RX8_206 rfl ?_
  refine aw_i2l X dX8_trim_7 ?_
  refine ca_i X (rn_s X [.long p1.toInt64, .long 0, .long ((M 74 17).toInt64)] [] kw1079 (c_X8_isIn h) cal_yX8_isIn kw1078 (Nat.le_of_ble_eq_true rfl) rfl rfl (Nat.le_of_ble_eq_true rfl) dX8_trim_8) (fun M1 r2 h => ?_)
  refine aw_if_ne (tgt := 17) X dX8_trim_11 (by decide) (fun c => ?_) (fun c => ?_)
  · have h := h.1 c
    refine aw_aload_n X dX8_trim_17 0 rfl ?_
    refine aw_iload_n X dX8_trim_18 1 rfl ?_
    refine aw_put X dX8_trim_19 (X.lt (by decide)) (sh_12 (rfl : tp 74 = 12) _) fl_RX8_206 fw_8_17 (Nat.le_of_ble_eq_true rfl) (sp_12_17 (rfl : tp 74 = 12) _ _) (fun M3 eM3 => ?_)
    have h := h M3 eM3
    refine aw_iload_n X dX8_trim_22 1 rfl ?_
    exact aw_iret X dX8_trim_23 h
  · have h := h.2 c
    refine aw_ldc (v := (-1000000001)) X dX8_trim_14 kw1084 ?_
    exact aw_iret X dX8_trim_16 h
def wp_X8_isLetter (n : Nat)  (M : Mm) (p1 : Int32) (K : Mm → Int32 → Prop) : Prop := ((M 74 17) ≤ p1 → K M 0) ∧ (¬ (M 74 17) ≤ p1 → vp_in p1 96 ∧ (wp_X8_isIn n M ((M 88 p1.toNatClampNeg).toInt64) 97 122 (fun M1 r2 => (r2 = 0 → K M1 0) ∧ (¬ r2 = 0 → K M1 1))))
set_option maxHeartbeats 4000000 in
set_option maxRecDepth 100000 in
theorem c_X8_isLetter {l : Launch} {E : En} {M : Mm} {p1 : Int32} {K : Mm → Int32 → Prop}  (h : wp_X8_isLetter (eN E)  M p1 K) : Ctr l E yX8_isLetter cX8_isLetter 2 (some .boolean) 1 [.ref (eA E 74), .int p1] M (QI E K) := by
  refine Ctr.of (by decide +kernel) (Nat.le_of_ble_eq_true rfl) (fun g A hgl X => ?_)
  subst hgl
  have X : CX g cX8_isLetter RX8 (some .boolean) 1 E A 2 := X
  show AW g E A 2 _ 0 [(0, .ref (eA E 74)), (1, .int p1)] [] M
  unfold wp_X8_isLetter at h
  refine aw_iload_n X dX8_isLetter_0 1 rfl ?_
  refine aw_aload_n X dX8_isLetter_1 0 rfl ?_
  refine aw_get X dX8_isLetter_2 (X.lt (by decide)) (sh_12 (rfl : tp 74 = 12) _) fl_RX8_206 rfl ?_
  refine aw_icmp_ge (tgt := 31) X dX8_isLetter_5 (by decide) (fun c => ?_) (fun c => ?_)
  · have h := h.1 c
    refine aw_iconst (v := 0) X dX8_isLetter_31 (by decide) ?_
    exact aw_zret X dX8_isLetter_32 (by decide) h
  · have h := h.2 c
    refine aw_aload_n X dX8_isLetter_8 0 rfl ?_
    refine aw_get X dX8_isLetter_9 (X.lt (by decide)) (sh_12 (rfl : tp 74 = 12) _) fl_RX8_53 rfl ?_
    refine aw_iload_n X dX8_isLetter_12 1 rfl ?_
    obtain ⟨hin, h⟩ := h
    refine aw_iald X dX8_isLetter_13 (X.lt (by decide)) (sh_ia 96 (rfl : tp 88 = 1096) _) hin ?_
    refine aw_i2l X dX8_isLetter_14 ?_
    refine aw_ldc2_w (v := 97) X dX8_isLetter_15 kw1299 ?_
    refine aw_ldc2_w (v := 122) X dX8_isLetter_18 kw1300 ?_
    refine ca_i X (rn_s X [.long ((M 88 p1.toNatClampNeg).toInt64), .long 97, .long 122] [] kw1079 (c_X8_isIn h) cal_yX8_isIn kw1078 (Nat.le_of_ble_eq_true rfl) rfl rfl (Nat.le_of_ble_eq_true rfl) dX8_isLetter_21) (fun M1 r2 h => ?_)
    refine aw_if_eq (tgt := 31) X dX8_isLetter_24 (by decide) (fun c => ?_) (fun c => ?_)
    · have h := h.1 c
      refine aw_iconst (v := 0) X dX8_isLetter_31 (by decide) ?_
      exact aw_zret X dX8_isLetter_32 (by decide) h
    · have h := h.2 c
      refine aw_iconst (v := 1) X dX8_isLetter_27 (by decide) ?_
      refine aw_goto (tgt := 32) X dX8_isLetter_28 (by decide) ?_
      exact aw_zret X dX8_isLetter_32 (by decide) h
def wp_X8_isDigit (n : Nat)  (M : Mm) (p1 : Int32) (K : Mm → Int32 → Prop) : Prop := ((M 74 17) ≤ p1 → K M 0) ∧ (¬ (M 74 17) ≤ p1 → vp_in p1 96 ∧ (wp_X8_isIn n M ((M 88 p1.toNatClampNeg).toInt64) 48 57 (fun M1 r2 => (r2 = 0 → K M1 0) ∧ (¬ r2 = 0 → K M1 1))))
set_option maxHeartbeats 4000000 in
set_option maxRecDepth 100000 in
theorem c_X8_isDigit {l : Launch} {E : En} {M : Mm} {p1 : Int32} {K : Mm → Int32 → Prop}  (h : wp_X8_isDigit (eN E)  M p1 K) : Ctr l E yX8_isDigit cX8_isDigit 2 (some .boolean) 1 [.ref (eA E 74), .int p1] M (QI E K) := by
  refine Ctr.of (by decide +kernel) (Nat.le_of_ble_eq_true rfl) (fun g A hgl X => ?_)
  subst hgl
  have X : CX g cX8_isDigit RX8 (some .boolean) 1 E A 2 := X
  show AW g E A 2 _ 0 [(0, .ref (eA E 74)), (1, .int p1)] [] M
  unfold wp_X8_isDigit at h
  refine aw_iload_n X dX8_isDigit_0 1 rfl ?_
  refine aw_aload_n X dX8_isDigit_1 0 rfl ?_
  refine aw_get X dX8_isDigit_2 (X.lt (by decide)) (sh_12 (rfl : tp 74 = 12) _) fl_RX8_206 rfl ?_
  refine aw_icmp_ge (tgt := 31) X dX8_isDigit_5 (by decide) (fun c => ?_) (fun c => ?_)
  · have h := h.1 c
    refine aw_iconst (v := 0) X dX8_isDigit_31 (by decide) ?_
    exact aw_zret X dX8_isDigit_32 (by decide) h
  · have h := h.2 c
    refine aw_aload_n X dX8_isDigit_8 0 rfl ?_
    refine aw_get X dX8_isDigit_9 (X.lt (by decide)) (sh_12 (rfl : tp 74 = 12) _) fl_RX8_53 rfl ?_
    refine aw_iload_n X dX8_isDigit_12 1 rfl ?_
    obtain ⟨hin, h⟩ := h
    refine aw_iald X dX8_isDigit_13 (X.lt (by decide)) (sh_ia 96 (rfl : tp 88 = 1096) _) hin ?_
    refine aw_i2l X dX8_isDigit_14 ?_
    refine aw_ldc2_w (v := 48) X dX8_isDigit_15 kw1305 ?_
    refine aw_ldc2_w (v := 57) X dX8_isDigit_18 kw1306 ?_
    refine ca_i X (rn_s X [.long ((M 88 p1.toNatClampNeg).toInt64), .long 48, .long 57] [] kw1079 (c_X8_isIn h) cal_yX8_isIn kw1078 (Nat.le_of_ble_eq_true rfl) rfl rfl (Nat.le_of_ble_eq_true rfl) dX8_isDigit_21) (fun M1 r2 h => ?_)
    refine aw_if_eq (tgt := 31) X dX8_isDigit_24 (by decide) (fun c => ?_) (fun c => ?_)
    · have h := h.1 c
      refine aw_iconst (v := 0) X dX8_isDigit_31 (by decide) ?_
      exact aw_zret X dX8_isDigit_32 (by decide) h
    · have h := h.2 c
      refine aw_iconst (v := 1) X dX8_isDigit_27 (by decide) ?_
      refine aw_goto (tgt := 32) X dX8_isDigit_28 (by decide) ?_
      exact aw_zret X dX8_isDigit_32 (by decide) h
def wb_X8_nextToken_266 (n : Nat)  (Z214 : Mm → Int32 → Prop) (K : Mm → Prop) (M : Mm) (x1 : Int32) (s0 : Int32) : Prop := ∀ M24 : Mm, M24 = wr M 74 21 s0 → ∀ M25 : Mm, M25 = wr M24 74 19 ((M24 74 19) + 1) → Z214 M25 x1
set_option maxHeartbeats 4000000 in
set_option maxRecDepth 100000 in
theorem lb_X8_nextToken_266 {g : Gm} {E : En} {A : Nat → Prop} {K : Mm → Prop} (X : CX g cX8_nextToken RX8 none 2 E A 3)    {Z214 : Mm → Int32 → Prop} (hZ214 : ∀ (M : Mm) (x1 : Int32), Z214 M x1 → AW g E A 3 (MQ (gB g) (QV E K A) (gA g) (gS g) (gk g) (gn g) A) 214 [(0, .ref (eA E 74)), (1, .int x1)] [] M) (M : Mm) (x1 : Int32) (s0 : Int32) (h : wb_X8_nextToken_266 (eN E)  Z214 K M x1 s0) : AW g E A 3 (MQ (gB g) (QV E K A) (gA g) (gS g) (gk g) (gn g) A) 266 [(0, .ref (eA E 74)), (1, .int x1)] [.int s0, .ref (eA E 74)] M := by
  unfold wb_X8_nextToken_266 at h
  refine aw_put X dX8_nextToken_266 (X.lt (by decide)) (sh_12 (rfl : tp 74 = 12) _) fl_RX8_235 fw_8_21 (Nat.le_of_ble_eq_true rfl) (sp_12_21 (rfl : tp 74 = 12) _ _) (fun M24 eM24 => ?_)
  have h := h M24 eM24
  refine aw_aload_n X dX8_nextToken_269 0 rfl ?_
  refine aw_dup X dX8_nextToken_270 rfl ?_
  refine aw_get X dX8_nextToken_271 (X.lt (by decide)) (sh_12 (rfl : tp 74 = 12) _) fl_RX8_217 rfl ?_
  refine aw_iconst (v := 1) X dX8_nextToken_274 (by decide) ?_
  refine aw_iadd X dX8_nextToken_275 ?_
  refine aw_put X dX8_nextToken_276 (X.lt (by decide)) (sh_12 (rfl : tp 74 = 12) _) fl_RX8_217 fw_8_19 (Nat.le_of_ble_eq_true rfl) (sp_12_19 (rfl : tp 74 = 12) _ _) (fun M25 eM25 => ?_)
  have h := h M25 eM25
  refine aw_goto (tgt := 214) X dX8_nextToken_279 (by decide) ?_
  exact aw_sub [0, 1] rfl (hZ214 _ _ h)
def wl_X8_nextToken_214 (n : Nat)   (K : Mm → Prop) : Nat → Mm → Int32 → Prop
  | 0, _, _ => False
  | k + 1, M, x1 => wp_X8_isDigit n M (M 74 19) (fun M16 r17 => (r17 = 0 → (¬ x1 = 0 → ∀ M18 : Mm, M18 = wr M16 74 20 4 → K M18) ∧ (x1 = 0 → (((M16 74 19) - (M16 74 18)) ≤ 4 → ∀ M19 : Mm, M19 = wr M16 74 20 2 → K M19) ∧ (¬ ((M16 74 19) - (M16 74 18)) ≤ 4 → ∀ M20 : Mm, M20 = wr M16 74 20 4 → K M20))) ∧ (¬ r17 = 0 → (4 ≤ ((M16 74 19) - (M16 74 18)) → wb_X8_nextToken_266 n (fun M x1 => wl_X8_nextToken_214 n K k M x1) K M16 x1 (M16 74 21)) ∧ (¬ 4 ≤ ((M16 74 19) - (M16 74 18)) → vp_in (M16 74 19) 96 ∧ (wb_X8_nextToken_266 n (fun M x1 => wl_X8_nextToken_214 n K k M x1) K M16 x1 (((10 * (M16 74 21)) + (M16 88 (M16 74 19).toNatClampNeg)) - 48)))))
set_option maxHeartbeats 4000000 in
set_option maxRecDepth 100000 in
theorem lw_X8_nextToken_214 {g : Gm} {E : En} {A : Nat → Prop} {K : Mm → Prop} (X : CX g cX8_nextToken RX8 none 2 E A 3)    : ∀ (k : Nat) (M : Mm) (x1 : Int32), wl_X8_nextToken_214 (eN E)   K k M x1 → AW g E A 3 (MQ (gB g) (QV E K A) (gA g) (gS g) (gk g) (gn g) A) 214 [(0, .ref (eA E 74)), (1, .int x1)] [] M := by
  intro k
  induction k with
  | zero => intro M x1 h; exact h.elim
  | succ k ih =>
    intro M x1 h
    rw [wl_X8_nextToken_214] at h
    refine aw_aload_n X dX8_nextToken_214 0 rfl ?_
    refine aw_aload_n X dX8_nextToken_215 0 rfl ?_
    refine aw_get X dX8_nextToken_216 (X.lt (by decide)) (sh_12 (rfl : tp 74 = 12) _) fl_RX8_217 rfl ?_
    refine ca_i X (rn_v X [.int (M 74 19)] [] (X.lt (by decide)) (sh_12 (rfl : tp 74 = 12) _) rfl rfl kw1303 kw82 (c_X8_isDigit h) cal_yX8_isDigit kw1301 (Nat.le_of_ble_eq_true rfl) rfl rfl (Nat.le_of_ble_eq_true rfl) dX8_nextToken_219) (fun M16 r17 h => ?_)
    refine aw_if_eq (tgt := 282) X dX8_nextToken_222 (by decide) (fun c => ?_) (fun c => ?_)
    · have h := h.1 c
      refine aw_aload_n X dX8_nextToken_282 0 rfl ?_
      refine aw_iload_n X dX8_nextToken_283 1 rfl ?_
      refine aw_if_ne (tgt := 300) X dX8_nextToken_284 (by decide) (fun c => ?_) (fun c => ?_)
      · have h := h.1 c
        refine aw_iconst (v := 4) X dX8_nextToken_300 (by decide) ?_
        refine aw_goto (tgt := 305) X dX8_nextToken_301 (by decide) ?_
        refine aw_put X dX8_nextToken_305 (X.lt (by decide)) (sh_12 (rfl : tp 74 = 12) _) fl_RX8_220 fw_8_20 (Nat.le_of_ble_eq_true rfl) (sp_12_20 (rfl : tp 74 = 12) _ _) (fun M18 eM18 => ?_)
        have h := h M18 eM18
        refine aw_goto (tgt := 339) X dX8_nextToken_308 (by decide) ?_
        exact aw_vret X dX8_nextToken_339 h
      · have h := h.2 c
        refine aw_aload_n X dX8_nextToken_287 0 rfl ?_
        refine aw_get X dX8_nextToken_288 (X.lt (by decide)) (sh_12 (rfl : tp 74 = 12) _) fl_RX8_217 rfl ?_
        refine aw_aload_n X dX8_nextToken_291 0 rfl ?_
        refine aw_get X dX8_nextToken_292 (X.lt (by decide)) (sh_12 (rfl : tp 74 = 12) _) fl_RX8_223 rfl ?_
        refine aw_isub X dX8_nextToken_295 ?_
        refine aw_iconst (v := 4) X dX8_nextToken_296 (by decide) ?_
        refine aw_icmp_le (tgt := 304) X dX8_nextToken_297 (by decide) (fun c => ?_) (fun c => ?_)
        · have h := h.1 c
          refine aw_iconst (v := 2) X dX8_nextToken_304 (by decide) ?_
          refine aw_put X dX8_nextToken_305 (X.lt (by decide)) (sh_12 (rfl : tp 74 = 12) _) fl_RX8_220 fw_8_20 (Nat.le_of_ble_eq_true rfl) (sp_12_20 (rfl : tp 74 = 12) _ _) (fun M19 eM19 => ?_)
          have h := h M19 eM19
          refine aw_goto (tgt := 339) X dX8_nextToken_308 (by decide) ?_
          exact aw_vret X dX8_nextToken_339 h
        · have h := h.2 c
          refine aw_iconst (v := 4) X dX8_nextToken_300 (by decide) ?_
          refine aw_goto (tgt := 305) X dX8_nextToken_301 (by decide) ?_
          refine aw_put X dX8_nextToken_305 (X.lt (by decide)) (sh_12 (rfl : tp 74 = 12) _) fl_RX8_220 fw_8_20 (Nat.le_of_ble_eq_true rfl) (sp_12_20 (rfl : tp 74 = 12) _ _) (fun M20 eM20 => ?_)
          have h := h M20 eM20
          refine aw_goto (tgt := 339) X dX8_nextToken_308 (by decide) ?_
          exact aw_vret X dX8_nextToken_339 h
    · have h := h.2 c
      refine aw_aload_n X dX8_nextToken_225 0 rfl ?_
      refine aw_aload_n X dX8_nextToken_226 0 rfl ?_
      refine aw_get X dX8_nextToken_227 (X.lt (by decide)) (sh_12 (rfl : tp 74 = 12) _) fl_RX8_217 rfl ?_
      refine aw_aload_n X dX8_nextToken_230 0 rfl ?_
      refine aw_get X dX8_nextToken_231 (X.lt (by decide)) (sh_12 (rfl : tp 74 = 12) _) fl_RX8_223 rfl ?_
      refine aw_isub X dX8_nextToken_234 ?_
      refine aw_iconst (v := 4) X dX8_nextToken_235 (by decide) ?_
      refine aw_icmp_ge (tgt := 262) X dX8_nextToken_236 (by decide) (fun c => ?_) (fun c => ?_)
      · have h := h.1 c
        refine aw_aload_n X dX8_nextToken_262 0 rfl ?_
        refine aw_get X dX8_nextToken_263 (X.lt (by decide)) (sh_12 (rfl : tp 74 = 12) _) fl_RX8_235 rfl ?_
        exact aw_sub [0, 1] rfl (lb_X8_nextToken_266 X  ih _ _ _ h)
      · have h := h.2 c
        refine aw_bipush (v := 10) X dX8_nextToken_239 (by decide) ?_
        refine aw_aload_n X dX8_nextToken_241 0 rfl ?_
        refine aw_get X dX8_nextToken_242 (X.lt (by decide)) (sh_12 (rfl : tp 74 = 12) _) fl_RX8_235 rfl ?_
        refine aw_imul X dX8_nextToken_245 ?_
        refine aw_aload_n X dX8_nextToken_246 0 rfl ?_
        refine aw_get X dX8_nextToken_247 (X.lt (by decide)) (sh_12 (rfl : tp 74 = 12) _) fl_RX8_53 rfl ?_
        refine aw_aload_n X dX8_nextToken_250 0 rfl ?_
        refine aw_get X dX8_nextToken_251 (X.lt (by decide)) (sh_12 (rfl : tp 74 = 12) _) fl_RX8_217 rfl ?_
        obtain ⟨hin, h⟩ := h
        refine aw_iald X dX8_nextToken_254 (X.lt (by decide)) (sh_ia 96 (rfl : tp 88 = 1096) _) hin ?_
        refine aw_iadd X dX8_nextToken_255 ?_
        refine aw_bipush (v := 48) X dX8_nextToken_256 (by decide) ?_
        refine aw_isub X dX8_nextToken_258 ?_
        refine aw_goto (tgt := 266) X dX8_nextToken_259 (by decide) ?_
        exact aw_sub [0, 1] rfl (lb_X8_nextToken_266 X  ih _ _ _ h)
def wb_X8_nextToken_162 (n : Nat)   (K : Mm → Prop) (M : Mm) (s0 : Int32) : Prop := ∀ M26 : Mm, M26 = wr M 74 20 s0 → (¬ ((M26 74 19) - (M26 74 18)) = 1 → ∀ M27 : Mm, M27 = wr M26 74 22 0 → K M27) ∧ (((M26 74 19) - (M26 74 18)) = 1 → vp_in (M26 74 18) 96 ∧ (∀ M28 : Mm, M28 = wr M26 74 22 (M26 88 (M26 74 18).toNatClampNeg) → K M28))
set_option maxHeartbeats 4000000 in
set_option maxRecDepth 100000 in
theorem lb_X8_nextToken_162 {g : Gm} {E : En} {A : Nat → Prop} {K : Mm → Prop} (X : CX g cX8_nextToken RX8 none 2 E A 3)    (M : Mm) (s0 : Int32) (h : wb_X8_nextToken_162 (eN E)   K M s0) : AW g E A 3 (MQ (gB g) (QV E K A) (gA g) (gS g) (gk g) (gn g) A) 162 [(0, .ref (eA E 74))] [.int s0, .ref (eA E 74)] M := by
  unfold wb_X8_nextToken_162 at h
  refine aw_put X dX8_nextToken_162 (X.lt (by decide)) (sh_12 (rfl : tp 74 = 12) _) fl_RX8_220 fw_8_20 (Nat.le_of_ble_eq_true rfl) (sp_12_20 (rfl : tp 74 = 12) _ _) (fun M26 eM26 => ?_)
  have h := h M26 eM26
  refine aw_aload_n X dX8_nextToken_165 0 rfl ?_
  refine aw_aload_n X dX8_nextToken_166 0 rfl ?_
  refine aw_get X dX8_nextToken_167 (X.lt (by decide)) (sh_12 (rfl : tp 74 = 12) _) fl_RX8_217 rfl ?_
  refine aw_aload_n X dX8_nextToken_170 0 rfl ?_
  refine aw_get X dX8_nextToken_171 (X.lt (by decide)) (sh_12 (rfl : tp 74 = 12) _) fl_RX8_223 rfl ?_
  refine aw_isub X dX8_nextToken_174 ?_
  refine aw_iconst (v := 1) X dX8_nextToken_175 (by decide) ?_
  refine aw_icmp_ne (tgt := 191) X dX8_nextToken_176 (by decide) (fun c => ?_) (fun c => ?_)
  · have h := h.1 c
    refine aw_iconst (v := 0) X dX8_nextToken_191 (by decide) ?_
    refine aw_put X dX8_nextToken_192 (X.lt (by decide)) (sh_12 (rfl : tp 74 = 12) _) fl_RX8_229 fw_8_22 (Nat.le_of_ble_eq_true rfl) (sp_12_22 (rfl : tp 74 = 12) _ _) (fun M27 eM27 => ?_)
    have h := h M27 eM27
    refine aw_goto (tgt := 339) X dX8_nextToken_195 (by decide) ?_
    exact aw_vret X dX8_nextToken_339 h
  · have h := h.2 c
    refine aw_aload_n X dX8_nextToken_179 0 rfl ?_
    refine aw_get X dX8_nextToken_180 (X.lt (by decide)) (sh_12 (rfl : tp 74 = 12) _) fl_RX8_53 rfl ?_
    refine aw_aload_n X dX8_nextToken_183 0 rfl ?_
    refine aw_get X dX8_nextToken_184 (X.lt (by decide)) (sh_12 (rfl : tp 74 = 12) _) fl_RX8_223 rfl ?_
    obtain ⟨hin, h⟩ := h
    refine aw_iald X dX8_nextToken_187 (X.lt (by decide)) (sh_ia 96 (rfl : tp 88 = 1096) _) hin ?_
    refine aw_goto (tgt := 192) X dX8_nextToken_188 (by decide) ?_
    refine aw_put X dX8_nextToken_192 (X.lt (by decide)) (sh_12 (rfl : tp 74 = 12) _) fl_RX8_229 fw_8_22 (Nat.le_of_ble_eq_true rfl) (sp_12_22 (rfl : tp 74 = 12) _ _) (fun M28 eM28 => ?_)
    have h := h M28 eM28
    refine aw_goto (tgt := 339) X dX8_nextToken_195 (by decide) ?_
    exact aw_vret X dX8_nextToken_339 h
def wl_X8_nextToken_128 (n : Nat)   (K : Mm → Prop) : Nat → Mm → Int32 → Prop
  | 0, _, _ => False
  | k + 1, M, x1 => wp_X8_isLetter n M (M 74 19) (fun M21 r22 => (r22 = 0 → (x1 = 0 → wb_X8_nextToken_162 n K M21 1) ∧ (¬ x1 = 0 → wb_X8_nextToken_162 n K M21 4)) ∧ (¬ r22 = 0 → ∀ M23 : Mm, M23 = wr M21 74 19 ((M21 74 19) + 1) → wl_X8_nextToken_128 n K k M23 x1))
set_option maxHeartbeats 4000000 in
set_option maxRecDepth 100000 in
theorem lw_X8_nextToken_128 {g : Gm} {E : En} {A : Nat → Prop} {K : Mm → Prop} (X : CX g cX8_nextToken RX8 none 2 E A 3)    : ∀ (k : Nat) (M : Mm) (x1 : Int32), wl_X8_nextToken_128 (eN E)   K k M x1 → AW g E A 3 (MQ (gB g) (QV E K A) (gA g) (gS g) (gk g) (gn g) A) 128 [(0, .ref (eA E 74)), (1, .int x1)] [] M := by
  intro k
  induction k with
  | zero => intro M x1 h; exact h.elim
  | succ k ih =>
    intro M x1 h
    rw [wl_X8_nextToken_128] at h
    refine aw_aload_n X dX8_nextToken_128 0 rfl ?_
    refine aw_aload_n X dX8_nextToken_129 0 rfl ?_
    refine aw_get X dX8_nextToken_130 (X.lt (by decide)) (sh_12 (rfl : tp 74 = 12) _) fl_RX8_217 rfl ?_
    refine ca_i X (rn_v X [.int (M 74 19)] [] (X.lt (by decide)) (sh_12 (rfl : tp 74 = 12) _) rfl rfl kw1297 kw81 (c_X8_isLetter h) cal_yX8_isLetter kw1295 (Nat.le_of_ble_eq_true rfl) rfl rfl (Nat.le_of_ble_eq_true rfl) dX8_nextToken_133) (fun M21 r22 h => ?_)
    refine aw_if_eq (tgt := 152) X dX8_nextToken_136 (by decide) (fun c => ?_) (fun c => ?_)
    · have h := h.1 c
      refine aw_aload_n X dX8_nextToken_152 0 rfl ?_
      refine aw_iload_n X dX8_nextToken_153 1 rfl ?_
      refine aw_if_eq (tgt := 161) X dX8_nextToken_154 (by decide) (fun c => ?_) (fun c => ?_)
      · have h := h.1 c
        refine aw_iconst (v := 1) X dX8_nextToken_161 (by decide) ?_
        exact aw_sub [0] rfl (lb_X8_nextToken_162 X   _ _ h)
      · have h := h.2 c
        refine aw_iconst (v := 4) X dX8_nextToken_157 (by decide) ?_
        refine aw_goto (tgt := 162) X dX8_nextToken_158 (by decide) ?_
        exact aw_sub [0] rfl (lb_X8_nextToken_162 X   _ _ h)
    · have h := h.2 c
      refine aw_aload_n X dX8_nextToken_139 0 rfl ?_
      refine aw_dup X dX8_nextToken_140 rfl ?_
      refine aw_get X dX8_nextToken_141 (X.lt (by decide)) (sh_12 (rfl : tp 74 = 12) _) fl_RX8_217 rfl ?_
      refine aw_iconst (v := 1) X dX8_nextToken_144 (by decide) ?_
      refine aw_iadd X dX8_nextToken_145 ?_
      refine aw_put X dX8_nextToken_146 (X.lt (by decide)) (sh_12 (rfl : tp 74 = 12) _) fl_RX8_217 fw_8_19 (Nat.le_of_ble_eq_true rfl) (sp_12_19 (rfl : tp 74 = 12) _ _) (fun M23 eM23 => ?_)
      have h := h M23 eM23
      refine aw_goto (tgt := 128) X dX8_nextToken_149 (by decide) ?_
      exact aw_sub [0, 1] rfl (ih _ _ h)
def wb_X8_nextToken_89 (n : Nat)   (K : Mm → Prop) (M : Mm) (s0 : Int32) : Prop := ∀ M6 : Mm, M6 = wr M 74 18 (M 74 19) → (¬ (M6 74 18) = (M6 74 17) → wp_X8_isLetter n M6 (M6 74 18) (fun M7 r8 => (r8 = 0 → wp_X8_isDigit n M7 (M7 74 18) (fun M9 r10 => (r10 = 0 → ∀ M11 : Mm, M11 = wr M9 74 20 3 → vp_in (M11 74 18) 96 ∧ (∀ M12 : Mm, M12 = wr M11 74 22 (M11 88 (M11 74 18).toNatClampNeg) → ∀ M13 : Mm, M13 = wr M12 74 19 ((M12 74 19) + 1) → K M13)) ∧ (¬ r10 = 0 → ∀ M14 : Mm, M14 = wr M9 74 21 0 → ∃ kf : Nat, wl_X8_nextToken_214 n K kf M14 s0))) ∧ (¬ r8 = 0 → ∃ kf : Nat, wl_X8_nextToken_128 n K kf M7 s0))) ∧ ((M6 74 18) = (M6 74 17) → ∀ M15 : Mm, M15 = wr M6 74 20 0 → K M15)
set_option maxHeartbeats 4000000 in
set_option maxRecDepth 100000 in
theorem lb_X8_nextToken_89 {g : Gm} {E : En} {A : Nat → Prop} {K : Mm → Prop} (X : CX g cX8_nextToken RX8 none 2 E A 3)    (M : Mm) (s0 : Int32) (h : wb_X8_nextToken_89 (eN E)   K M s0) : AW g E A 3 (MQ (gB g) (QV E K A) (gA g) (gS g) (gk g) (gn g) A) 89 [(0, .ref (eA E 74))] [.int s0] M := by
  unfold wb_X8_nextToken_89 at h
  refine aw_istore_n (lv' := [(1, .int s0), (0, .ref (eA E 74))]) X dX8_nextToken_89 (by decide) rfl ?_
  refine aw_aload_n X dX8_nextToken_90 1 rfl ?_
  refine aw_aload_n X dX8_nextToken_91 1 rfl ?_
  refine aw_get X dX8_nextToken_92 (X.lt (by decide)) (sh_12 (rfl : tp 74 = 12) _) fl_RX8_217 rfl ?_
  refine aw_put X dX8_nextToken_95 (X.lt (by decide)) (sh_12 (rfl : tp 74 = 12) _) fl_RX8_223 fw_8_18 (Nat.le_of_ble_eq_true rfl) (sp_12_18 (rfl : tp 74 = 12) _ _) (fun M6 eM6 => ?_)
  have h := h M6 eM6
  refine aw_aload_n X dX8_nextToken_98 1 rfl ?_
  refine aw_get X dX8_nextToken_99 (X.lt (by decide)) (sh_12 (rfl : tp 74 = 12) _) fl_RX8_223 rfl ?_
  refine aw_aload_n X dX8_nextToken_102 1 rfl ?_
  refine aw_get X dX8_nextToken_103 (X.lt (by decide)) (sh_12 (rfl : tp 74 = 12) _) fl_RX8_206 rfl ?_
  refine aw_icmp_ne (tgt := 117) X dX8_nextToken_106 (by decide) (fun c => ?_) (fun c => ?_)
  · have h := h.1 c
    refine aw_aload_n X dX8_nextToken_117 1 rfl ?_
    refine aw_aload_n X dX8_nextToken_118 1 rfl ?_
    refine aw_get X dX8_nextToken_119 (X.lt (by decide)) (sh_12 (rfl : tp 74 = 12) _) fl_RX8_223 rfl ?_
    refine ca_i X (rn_v X [.int (M6 74 18)] [] (X.lt (by decide)) (sh_12 (rfl : tp 74 = 12) _) rfl rfl kw1297 kw81 (c_X8_isLetter h) cal_yX8_isLetter kw1295 (Nat.le_of_ble_eq_true rfl) rfl rfl (Nat.le_of_ble_eq_true rfl) dX8_nextToken_122) (fun M7 r8 h => ?_)
    refine aw_if_eq (tgt := 198) X dX8_nextToken_125 (by decide) (fun c => ?_) (fun c => ?_)
    · have h := h.1 c
      refine aw_aload_n X dX8_nextToken_198 1 rfl ?_
      refine aw_aload_n X dX8_nextToken_199 1 rfl ?_
      refine aw_get X dX8_nextToken_200 (X.lt (by decide)) (sh_12 (rfl : tp 74 = 12) _) fl_RX8_223 rfl ?_
      refine ca_i X (rn_v X [.int (M7 74 18)] [] (X.lt (by decide)) (sh_12 (rfl : tp 74 = 12) _) rfl rfl kw1303 kw82 (c_X8_isDigit h) cal_yX8_isDigit kw1301 (Nat.le_of_ble_eq_true rfl) rfl rfl (Nat.le_of_ble_eq_true rfl) dX8_nextToken_203) (fun M9 r10 h => ?_)
      refine aw_if_eq (tgt := 311) X dX8_nextToken_206 (by decide) (fun c => ?_) (fun c => ?_)
      · have h := h.1 c
        refine aw_aload_n X dX8_nextToken_311 1 rfl ?_
        refine aw_iconst (v := 3) X dX8_nextToken_312 (by decide) ?_
        refine aw_put X dX8_nextToken_313 (X.lt (by decide)) (sh_12 (rfl : tp 74 = 12) _) fl_RX8_220 fw_8_20 (Nat.le_of_ble_eq_true rfl) (sp_12_20 (rfl : tp 74 = 12) _ _) (fun M11 eM11 => ?_)
        have h := h M11 eM11
        refine aw_aload_n X dX8_nextToken_316 1 rfl ?_
        refine aw_aload_n X dX8_nextToken_317 1 rfl ?_
        refine aw_get X dX8_nextToken_318 (X.lt (by decide)) (sh_12 (rfl : tp 74 = 12) _) fl_RX8_53 rfl ?_
        refine aw_aload_n X dX8_nextToken_321 1 rfl ?_
        refine aw_get X dX8_nextToken_322 (X.lt (by decide)) (sh_12 (rfl : tp 74 = 12) _) fl_RX8_223 rfl ?_
        obtain ⟨hin, h⟩ := h
        refine aw_iald X dX8_nextToken_325 (X.lt (by decide)) (sh_ia 96 (rfl : tp 88 = 1096) _) hin ?_
        refine aw_put X dX8_nextToken_326 (X.lt (by decide)) (sh_12 (rfl : tp 74 = 12) _) fl_RX8_229 fw_8_22 (Nat.le_of_ble_eq_true rfl) (sp_12_22 (rfl : tp 74 = 12) _ _) (fun M12 eM12 => ?_)
        have h := h M12 eM12
        refine aw_aload_n X dX8_nextToken_329 1 rfl ?_
        refine aw_dup X dX8_nextToken_330 rfl ?_
        refine aw_get X dX8_nextToken_331 (X.lt (by decide)) (sh_12 (rfl : tp 74 = 12) _) fl_RX8_217 rfl ?_
        refine aw_iconst (v := 1) X dX8_nextToken_334 (by decide) ?_
        refine aw_iadd X dX8_nextToken_335 ?_
        refine aw_put X dX8_nextToken_336 (X.lt (by decide)) (sh_12 (rfl : tp 74 = 12) _) fl_RX8_217 fw_8_19 (Nat.le_of_ble_eq_true rfl) (sp_12_19 (rfl : tp 74 = 12) _ _) (fun M13 eM13 => ?_)
        have h := h M13 eM13
        exact aw_vret X dX8_nextToken_339 h
      · have h := h.2 c
        refine aw_aload_n X dX8_nextToken_209 1 rfl ?_
        refine aw_iconst (v := 0) X dX8_nextToken_210 (by decide) ?_
        refine aw_put X dX8_nextToken_211 (X.lt (by decide)) (sh_12 (rfl : tp 74 = 12) _) fl_RX8_235 fw_8_21 (Nat.le_of_ble_eq_true rfl) (sp_12_21 (rfl : tp 74 = 12) _ _) (fun M14 eM14 => ?_)
        have h := h M14 eM14
        obtain ⟨kf, h⟩ := h
        exact aw_sub [1, 0] rfl (lw_X8_nextToken_214 X   kf _ _ h)
    · have h := h.2 c
      obtain ⟨kf, h⟩ := h
      exact aw_sub [1, 0] rfl (lw_X8_nextToken_128 X   kf _ _ h)
  · have h := h.2 c
    refine aw_aload_n X dX8_nextToken_109 1 rfl ?_
    refine aw_iconst (v := 0) X dX8_nextToken_110 (by decide) ?_
    refine aw_put X dX8_nextToken_111 (X.lt (by decide)) (sh_12 (rfl : tp 74 = 12) _) fl_RX8_220 fw_8_20 (Nat.le_of_ble_eq_true rfl) (sp_12_20 (rfl : tp 74 = 12) _ _) (fun M15 eM15 => ?_)
    have h := h M15 eM15
    refine aw_goto (tgt := 339) X dX8_nextToken_114 (by decide) ?_
    exact aw_vret X dX8_nextToken_339 h
def wb_X8_nextToken_88 (n : Nat)   (K : Mm → Prop) (M : Mm)  : Prop := wb_X8_nextToken_89 n K M 0
set_option maxHeartbeats 4000000 in
set_option maxRecDepth 100000 in
theorem lb_X8_nextToken_88 {g : Gm} {E : En} {A : Nat → Prop} {K : Mm → Prop} (X : CX g cX8_nextToken RX8 none 2 E A 3)    (M : Mm)  (h : wb_X8_nextToken_88 (eN E)   K M ) : AW g E A 3 (MQ (gB g) (QV E K A) (gA g) (gS g) (gk g) (gn g) A) 88 [(0, .ref (eA E 74))] [] M := by
  unfold wb_X8_nextToken_88 at h
  refine aw_iconst (v := 0) X dX8_nextToken_88 (by decide) ?_
  exact aw_sub [0] rfl (lb_X8_nextToken_89 X   _ _ h)
def wb_X8_nextToken_72 (n : Nat)   (K : Mm → Prop) (M : Mm) (x1 : Int32) (x2 : Int32) : Prop := (x1 = 0 → wb_X8_nextToken_88 n K M ) ∧ (¬ x1 = 0 → (¬ x2 = (M 74 19) → wb_X8_nextToken_88 n K M ) ∧ (x2 = (M 74 19) → wb_X8_nextToken_89 n K M 1))
set_option maxHeartbeats 4000000 in
set_option maxRecDepth 100000 in
theorem lb_X8_nextToken_72 {g : Gm} {E : En} {A : Nat → Prop} {K : Mm → Prop} (X : CX g cX8_nextToken RX8 none 2 E A 3)    (M : Mm) (x1 : Int32) (x2 : Int32) (h : wb_X8_nextToken_72 (eN E)   K M x1 x2) : AW g E A 3 (MQ (gB g) (QV E K A) (gA g) (gS g) (gk g) (gn g) A) 72 [(0, .ref (eA E 74)), (1, .int x1), (2, .int x2)] [] M := by
  unfold wb_X8_nextToken_72 at h
  refine aw_iload_n X dX8_nextToken_72 1 rfl ?_
  refine aw_if_eq (tgt := 88) X dX8_nextToken_73 (by decide) (fun c => ?_) (fun c => ?_)
  · have h := h.1 c
    exact aw_sub [0] rfl (lb_X8_nextToken_88 X   _ h)
  · have h := h.2 c
    refine aw_iload_n X dX8_nextToken_76 2 rfl ?_
    refine aw_aload_n X dX8_nextToken_77 0 rfl ?_
    refine aw_get X dX8_nextToken_78 (X.lt (by decide)) (sh_12 (rfl : tp 74 = 12) _) fl_RX8_217 rfl ?_
    refine aw_icmp_ne (tgt := 88) X dX8_nextToken_81 (by decide) (fun c => ?_) (fun c => ?_)
    · have h := h.1 c
      exact aw_sub [0] rfl (lb_X8_nextToken_88 X   _ h)
    · have h := h.2 c
      refine aw_iconst (v := 1) X dX8_nextToken_84 (by decide) ?_
      refine aw_goto (tgt := 89) X dX8_nextToken_85 (by decide) ?_
      exact aw_sub [0] rfl (lb_X8_nextToken_89 X   _ _ h)
def wl_X8_nextToken_34 (n : Nat)   (K : Mm → Prop) : Nat → Mm → Int32 → Int32 → Prop
  | 0, _, _, _ => False
  | k + 1, M, x1, x2 => ((M 74 17) ≤ (M 74 19) → wb_X8_nextToken_72 n K M x1 x2) ∧ (¬ (M 74 17) ≤ (M 74 19) → vp_in (M 74 19) 96 ∧ ((¬ (M 88 (M 74 19).toNatClampNeg) = 32 → wb_X8_nextToken_72 n K M x1 x2) ∧ ((M 88 (M 74 19).toNatClampNeg) = 32 → ∀ M5 : Mm, M5 = wr M 74 19 ((M 74 19) + 1) → wl_X8_nextToken_34 n K k M5 x1 x2)))
set_option maxHeartbeats 4000000 in
set_option maxRecDepth 100000 in
theorem lw_X8_nextToken_34 {g : Gm} {E : En} {A : Nat → Prop} {K : Mm → Prop} (X : CX g cX8_nextToken RX8 none 2 E A 3)    : ∀ (k : Nat) (M : Mm) (x1 : Int32) (x2 : Int32), wl_X8_nextToken_34 (eN E)   K k M x1 x2 → AW g E A 3 (MQ (gB g) (QV E K A) (gA g) (gS g) (gk g) (gn g) A) 34 [(0, .ref (eA E 74)), (1, .int x1), (2, .int x2)] [] M := by
  intro k
  induction k with
  | zero => intro M x1 x2 h; exact h.elim
  | succ k ih =>
    intro M x1 x2 h
    rw [wl_X8_nextToken_34] at h
    refine aw_aload_n X dX8_nextToken_34 0 rfl ?_
    refine aw_get X dX8_nextToken_35 (X.lt (by decide)) (sh_12 (rfl : tp 74 = 12) _) fl_RX8_217 rfl ?_
    refine aw_aload_n X dX8_nextToken_38 0 rfl ?_
    refine aw_get X dX8_nextToken_39 (X.lt (by decide)) (sh_12 (rfl : tp 74 = 12) _) fl_RX8_206 rfl ?_
    refine aw_icmp_ge (tgt := 72) X dX8_nextToken_42 (by decide) (fun c => ?_) (fun c => ?_)
    · have h := h.1 c
      exact aw_sub [0, 1, 2] rfl (lb_X8_nextToken_72 X   _ _ _ h)
    · have h := h.2 c
      refine aw_aload_n X dX8_nextToken_45 0 rfl ?_
      refine aw_get X dX8_nextToken_46 (X.lt (by decide)) (sh_12 (rfl : tp 74 = 12) _) fl_RX8_53 rfl ?_
      refine aw_aload_n X dX8_nextToken_49 0 rfl ?_
      refine aw_get X dX8_nextToken_50 (X.lt (by decide)) (sh_12 (rfl : tp 74 = 12) _) fl_RX8_217 rfl ?_
      obtain ⟨hin, h⟩ := h
      refine aw_iald X dX8_nextToken_53 (X.lt (by decide)) (sh_ia 96 (rfl : tp 88 = 1096) _) hin ?_
      refine aw_bipush (v := 32) X dX8_nextToken_54 (by decide) ?_
      refine aw_icmp_ne (tgt := 72) X dX8_nextToken_56 (by decide) (fun c => ?_) (fun c => ?_)
      · have h := h.1 c
        exact aw_sub [0, 1, 2] rfl (lb_X8_nextToken_72 X   _ _ _ h)
      · have h := h.2 c
        refine aw_aload_n X dX8_nextToken_59 0 rfl ?_
        refine aw_dup X dX8_nextToken_60 rfl ?_
        refine aw_get X dX8_nextToken_61 (X.lt (by decide)) (sh_12 (rfl : tp 74 = 12) _) fl_RX8_217 rfl ?_
        refine aw_iconst (v := 1) X dX8_nextToken_64 (by decide) ?_
        refine aw_iadd X dX8_nextToken_65 ?_
        refine aw_put X dX8_nextToken_66 (X.lt (by decide)) (sh_12 (rfl : tp 74 = 12) _) fl_RX8_217 fw_8_19 (Nat.le_of_ble_eq_true rfl) (sp_12_19 (rfl : tp 74 = 12) _ _) (fun M5 eM5 => ?_)
        have h := h M5 eM5
        refine aw_goto (tgt := 34) X dX8_nextToken_69 (by decide) ?_
        exact aw_sub [0, 1, 2] rfl (ih _ _ _ h)
def wp_X8_nextToken (n : Nat)  (M : Mm)  (K : Mm → Prop) : Prop := ((M 74 19) ≤ 0 → ∀ v1 : Int32, v1 = M 74 19 → ∃ kf : Nat, wl_X8_nextToken_34 n K kf M 0 v1) ∧ (¬ (M 74 19) ≤ 0 → ((M 74 20) = 1 → ∀ v2 : Int32, v2 = M 74 19 → ∃ kf : Nat, wl_X8_nextToken_34 n K kf M 1 v2) ∧ (¬ (M 74 20) = 1 → (¬ (M 74 20) = 2 → ∀ v3 : Int32, v3 = M 74 19 → ∃ kf : Nat, wl_X8_nextToken_34 n K kf M 0 v3) ∧ ((M 74 20) = 2 → ∀ v4 : Int32, v4 = M 74 19 → ∃ kf : Nat, wl_X8_nextToken_34 n K kf M 1 v4)))
set_option maxHeartbeats 4000000 in
set_option maxRecDepth 100000 in
theorem c_X8_nextToken {l : Launch} {E : En} {M : Mm}  {K : Mm → Prop}  (h : wp_X8_nextToken (eN E)  M  K) : Ctr l E yX8_nextToken cX8_nextToken 3 none 2 [.ref (eA E 74)] M (QV E K) := by
  refine Ctr.of (by decide +kernel) (Nat.le_of_ble_eq_true rfl) (fun g A hgl X => ?_)
  subst hgl
  have X : CX g cX8_nextToken RX8 none 2 E A 3 := X
  show AW g E A 3 _ 0 [(0, .ref (eA E 74))] [] M
  unfold wp_X8_nextToken at h
  refine aw_aload_n X dX8_nextToken_0 0 rfl ?_
  refine aw_get X dX8_nextToken_1 (X.lt (by decide)) (sh_12 (rfl : tp 74 = 12) _) fl_RX8_217 rfl ?_
  refine aw_if_le (tgt := 27) X dX8_nextToken_4 (by decide) (fun c => ?_) (fun c => ?_)
  · have h := h.1 c
    refine aw_iconst (v := 0) X dX8_nextToken_27 (by decide) ?_
    refine aw_istore_n (lv' := [(1, .int 0), (0, .ref (eA E 74))]) X dX8_nextToken_28 (by decide) rfl ?_
    refine aw_aload_n X dX8_nextToken_29 1 rfl ?_
    refine aw_get X dX8_nextToken_30 (X.lt (by decide)) (sh_12 (rfl : tp 74 = 12) _) fl_RX8_217 rfl ?_
    refine aw_top (fun v1 ev1 => ?_)
    have h := h v1 ev1
    refine aw_istore_n (lv' := [(2, .int v1), (1, .int 0), (0, .ref (eA E 74))]) X dX8_nextToken_33 (by decide) rfl ?_
    obtain ⟨kf, h⟩ := h
    exact aw_sub [2, 1, 0] rfl (lw_X8_nextToken_34 X   kf _ _ _ h)
  · have h := h.2 c
    refine aw_aload_n X dX8_nextToken_7 0 rfl ?_
    refine aw_get X dX8_nextToken_8 (X.lt (by decide)) (sh_12 (rfl : tp 74 = 12) _) fl_RX8_220 rfl ?_
    refine aw_iconst (v := 1) X dX8_nextToken_11 (by decide) ?_
    refine aw_icmp_eq (tgt := 23) X dX8_nextToken_12 (by decide) (fun c => ?_) (fun c => ?_)
    · have h := h.1 c
      refine aw_iconst (v := 1) X dX8_nextToken_23 (by decide) ?_
      refine aw_goto (tgt := 28) X dX8_nextToken_24 (by decide) ?_
      refine aw_istore_n (lv' := [(1, .int 1), (0, .ref (eA E 74))]) X dX8_nextToken_28 (by decide) rfl ?_
      refine aw_aload_n X dX8_nextToken_29 1 rfl ?_
      refine aw_get X dX8_nextToken_30 (X.lt (by decide)) (sh_12 (rfl : tp 74 = 12) _) fl_RX8_217 rfl ?_
      refine aw_top (fun v2 ev2 => ?_)
      have h := h v2 ev2
      refine aw_istore_n (lv' := [(2, .int v2), (1, .int 1), (0, .ref (eA E 74))]) X dX8_nextToken_33 (by decide) rfl ?_
      obtain ⟨kf, h⟩ := h
      exact aw_sub [2, 1, 0] rfl (lw_X8_nextToken_34 X   kf _ _ _ h)
    · have h := h.2 c
      refine aw_aload_n X dX8_nextToken_15 0 rfl ?_
      refine aw_get X dX8_nextToken_16 (X.lt (by decide)) (sh_12 (rfl : tp 74 = 12) _) fl_RX8_220 rfl ?_
      refine aw_iconst (v := 2) X dX8_nextToken_19 (by decide) ?_
      refine aw_icmp_ne (tgt := 27) X dX8_nextToken_20 (by decide) (fun c => ?_) (fun c => ?_)
      · have h := h.1 c
        refine aw_iconst (v := 0) X dX8_nextToken_27 (by decide) ?_
        refine aw_istore_n (lv' := [(1, .int 0), (0, .ref (eA E 74))]) X dX8_nextToken_28 (by decide) rfl ?_
        refine aw_aload_n X dX8_nextToken_29 1 rfl ?_
        refine aw_get X dX8_nextToken_30 (X.lt (by decide)) (sh_12 (rfl : tp 74 = 12) _) fl_RX8_217 rfl ?_
        refine aw_top (fun v3 ev3 => ?_)
        have h := h v3 ev3
        refine aw_istore_n (lv' := [(2, .int v3), (1, .int 0), (0, .ref (eA E 74))]) X dX8_nextToken_33 (by decide) rfl ?_
        obtain ⟨kf, h⟩ := h
        exact aw_sub [2, 1, 0] rfl (lw_X8_nextToken_34 X   kf _ _ _ h)
      · have h := h.2 c
        refine aw_iconst (v := 1) X dX8_nextToken_23 (by decide) ?_
        refine aw_goto (tgt := 28) X dX8_nextToken_24 (by decide) ?_
        refine aw_istore_n (lv' := [(1, .int 1), (0, .ref (eA E 74))]) X dX8_nextToken_28 (by decide) rfl ?_
        refine aw_aload_n X dX8_nextToken_29 1 rfl ?_
        refine aw_get X dX8_nextToken_30 (X.lt (by decide)) (sh_12 (rfl : tp 74 = 12) _) fl_RX8_217 rfl ?_
        refine aw_top (fun v4 ev4 => ?_)
        have h := h v4 ev4
        refine aw_istore_n (lv' := [(2, .int v4), (1, .int 1), (0, .ref (eA E 74))]) X dX8_nextToken_33 (by decide) rfl ?_
        obtain ⟨kf, h⟩ := h
        exact aw_sub [2, 1, 0] rfl (lw_X8_nextToken_34 X   kf _ _ _ h)
def wp_X8_isSign (n : Nat)  (M : Mm) (p1 : Int32) (K : Mm → Int32 → Prop) : Prop := (¬ (M 74 20) = 3 → K M 0) ∧ ((M 74 20) = 3 → (¬ (M 74 22) = p1 → K M 0) ∧ ((M 74 22) = p1 → K M 1))
set_option maxHeartbeats 4000000 in
set_option maxRecDepth 100000 in
theorem c_X8_isSign {l : Launch} {E : En} {M : Mm} {p1 : Int32} {K : Mm → Int32 → Prop}  (h : wp_X8_isSign (eN E)  M p1 K) : Ctr l E yX8_isSign cX8_isSign 2 (some .boolean) 0 [.ref (eA E 74), .int p1] M (QI E K) := by
  refine Ctr.of (by decide +kernel) (Nat.le_of_ble_eq_true rfl) (fun g A hgl X => ?_)
  subst hgl
  have X : CX g cX8_isSign RX8 (some .boolean) 0 E A 2 := X
  show AW g E A 2 _ 0 [(0, .ref (eA E 74)), (1, .int p1)] [] M
  unfold wp_X8_isSign at h
  refine aw_aload_n X dX8_isSign_0 0 rfl ?_
  refine aw_get X dX8_isSign_1 (X.lt (by decide)) (sh_12 (rfl : tp 74 = 12) _) fl_RX8_220 rfl ?_
  refine aw_iconst (v := 3) X dX8_isSign_4 (by decide) ?_
  refine aw_icmp_ne (tgt := 20) X dX8_isSign_5 (by decide) (fun c => ?_) (fun c => ?_)
  · have h := h.1 c
    refine aw_iconst (v := 0) X dX8_isSign_20 (by decide) ?_
    exact aw_zret X dX8_isSign_21 (by decide) h
  · have h := h.2 c
    refine aw_aload_n X dX8_isSign_8 0 rfl ?_
    refine aw_get X dX8_isSign_9 (X.lt (by decide)) (sh_12 (rfl : tp 74 = 12) _) fl_RX8_229 rfl ?_
    refine aw_iload_n X dX8_isSign_12 1 rfl ?_
    refine aw_icmp_ne (tgt := 20) X dX8_isSign_13 (by decide) (fun c => ?_) (fun c => ?_)
    · have h := h.1 c
      refine aw_iconst (v := 0) X dX8_isSign_20 (by decide) ?_
      exact aw_zret X dX8_isSign_21 (by decide) h
    · have h := h.2 c
      refine aw_iconst (v := 1) X dX8_isSign_16 (by decide) ?_
      refine aw_goto (tgt := 21) X dX8_isSign_17 (by decide) ?_
      exact aw_zret X dX8_isSign_21 (by decide) h
def wb_X8_isWordAt_10 (n : Nat) (p1 : Int32) (p2 : Int32) (p3 : Int32) (p4 : Int32)  (K : Mm → Int32 → Prop) (M : Mm) (s0 : Int32) : Prop := (¬ (M 74 20) = 1 → K M 0) ∧ ((M 74 20) = 1 → (¬ ((M 74 19) - (M 74 18)) = s0 → K M 0) ∧ (((M 74 19) - (M 74 18)) = s0 → vp_in (M 74 18) 96 ∧ ((¬ (M 88 (M 74 18).toNatClampNeg) = p1 → K M 0) ∧ ((M 88 (M 74 18).toNatClampNeg) = p1 → vp_in ((M 74 18) + 1) 96 ∧ ((¬ (M 88 ((M 74 18) + 1).toNatClampNeg) = p2 → K M 0) ∧ ((M 88 ((M 74 18) + 1).toNatClampNeg) = p2 → vp_in ((M 74 18) + 2) 96 ∧ ((¬ (M 88 ((M 74 18) + 2).toNatClampNeg) = p3 → K M 0) ∧ ((M 88 ((M 74 18) + 2).toNatClampNeg) = p3 → (p4 = 0 → K M 1) ∧ (¬ p4 = 0 → vp_in ((M 74 18) + 3) 96 ∧ ((¬ (M 88 ((M 74 18) + 3).toNatClampNeg) = p4 → K M 0) ∧ ((M 88 ((M 74 18) + 3).toNatClampNeg) = p4 → K M 1)))))))))))
set_option maxHeartbeats 4000000 in
set_option maxRecDepth 100000 in
theorem lb_X8_isWordAt_10 {g : Gm} {E : En} {A : Nat → Prop} {K : Mm → Int32 → Prop} (X : CX g cX8_isWordAt RX8 (some .boolean) 0 E A 6) (p1 : Int32) (p2 : Int32) (p3 : Int32) (p4 : Int32)   (M : Mm) (s0 : Int32) (h : wb_X8_isWordAt_10 (eN E) p1 p2 p3 p4  K M s0) : AW g E A 6 (MQ (gB g) (QI E K A) (gA g) (gS g) (gk g) (gn g) A) 10 [(0, .ref (eA E 74)), (1, .int p1), (2, .int p2), (3, .int p3), (4, .int p4)] [.int s0] M := by
  unfold wb_X8_isWordAt_10 at h
  refine aw_istore (lv' := [(5, .int s0), (0, .ref (eA E 74)), (1, .int p1), (2, .int p2), (3, .int p3), (4, .int p4)]) X dX8_isWordAt_10 (by decide) rfl ?_
  refine aw_aload_n X dX8_isWordAt_12 1 rfl ?_
  refine aw_get X dX8_isWordAt_13 (X.lt (by decide)) (sh_12 (rfl : tp 74 = 12) _) fl_RX8_220 rfl ?_
  refine aw_iconst (v := 1) X dX8_isWordAt_16 (by decide) ?_
  refine aw_icmp_ne (tgt := 102) X dX8_isWordAt_17 (by decide) (fun c => ?_) (fun c => ?_)
  · have h := h.1 c
    refine aw_iconst (v := 0) X dX8_isWordAt_102 (by decide) ?_
    exact aw_zret X dX8_isWordAt_103 (by decide) h
  · have h := h.2 c
    refine aw_aload_n X dX8_isWordAt_20 1 rfl ?_
    refine aw_get X dX8_isWordAt_21 (X.lt (by decide)) (sh_12 (rfl : tp 74 = 12) _) fl_RX8_217 rfl ?_
    refine aw_aload_n X dX8_isWordAt_24 1 rfl ?_
    refine aw_get X dX8_isWordAt_25 (X.lt (by decide)) (sh_12 (rfl : tp 74 = 12) _) fl_RX8_223 rfl ?_
    refine aw_isub X dX8_isWordAt_28 ?_
    refine aw_iload X dX8_isWordAt_29 0 rfl ?_
    refine aw_icmp_ne (tgt := 102) X dX8_isWordAt_31 (by decide) (fun c => ?_) (fun c => ?_)
    · have h := h.1 c
      refine aw_iconst (v := 0) X dX8_isWordAt_102 (by decide) ?_
      exact aw_zret X dX8_isWordAt_103 (by decide) h
    · have h := h.2 c
      refine aw_aload_n X dX8_isWordAt_34 1 rfl ?_
      refine aw_get X dX8_isWordAt_35 (X.lt (by decide)) (sh_12 (rfl : tp 74 = 12) _) fl_RX8_53 rfl ?_
      refine aw_aload_n X dX8_isWordAt_38 1 rfl ?_
      refine aw_get X dX8_isWordAt_39 (X.lt (by decide)) (sh_12 (rfl : tp 74 = 12) _) fl_RX8_223 rfl ?_
      obtain ⟨hin, h⟩ := h
      refine aw_iald X dX8_isWordAt_42 (X.lt (by decide)) (sh_ia 96 (rfl : tp 88 = 1096) _) hin ?_
      refine aw_iload_n X dX8_isWordAt_43 2 rfl ?_
      refine aw_icmp_ne (tgt := 102) X dX8_isWordAt_44 (by decide) (fun c => ?_) (fun c => ?_)
      · have h := h.1 c
        refine aw_iconst (v := 0) X dX8_isWordAt_102 (by decide) ?_
        exact aw_zret X dX8_isWordAt_103 (by decide) h
      · have h := h.2 c
        refine aw_aload_n X dX8_isWordAt_47 1 rfl ?_
        refine aw_get X dX8_isWordAt_48 (X.lt (by decide)) (sh_12 (rfl : tp 74 = 12) _) fl_RX8_53 rfl ?_
        refine aw_aload_n X dX8_isWordAt_51 1 rfl ?_
        refine aw_get X dX8_isWordAt_52 (X.lt (by decide)) (sh_12 (rfl : tp 74 = 12) _) fl_RX8_223 rfl ?_
        refine aw_iconst (v := 1) X dX8_isWordAt_55 (by decide) ?_
        refine aw_iadd X dX8_isWordAt_56 ?_
        obtain ⟨hin, h⟩ := h
        refine aw_iald X dX8_isWordAt_57 (X.lt (by decide)) (sh_ia 96 (rfl : tp 88 = 1096) _) hin ?_
        refine aw_iload_n X dX8_isWordAt_58 3 rfl ?_
        refine aw_icmp_ne (tgt := 102) X dX8_isWordAt_59 (by decide) (fun c => ?_) (fun c => ?_)
        · have h := h.1 c
          refine aw_iconst (v := 0) X dX8_isWordAt_102 (by decide) ?_
          exact aw_zret X dX8_isWordAt_103 (by decide) h
        · have h := h.2 c
          refine aw_aload_n X dX8_isWordAt_62 1 rfl ?_
          refine aw_get X dX8_isWordAt_63 (X.lt (by decide)) (sh_12 (rfl : tp 74 = 12) _) fl_RX8_53 rfl ?_
          refine aw_aload_n X dX8_isWordAt_66 1 rfl ?_
          refine aw_get X dX8_isWordAt_67 (X.lt (by decide)) (sh_12 (rfl : tp 74 = 12) _) fl_RX8_223 rfl ?_
          refine aw_iconst (v := 2) X dX8_isWordAt_70 (by decide) ?_
          refine aw_iadd X dX8_isWordAt_71 ?_
          obtain ⟨hin, h⟩ := h
          refine aw_iald X dX8_isWordAt_72 (X.lt (by decide)) (sh_ia 96 (rfl : tp 88 = 1096) _) hin ?_
          refine aw_iload_n X dX8_isWordAt_73 4 rfl ?_
          refine aw_icmp_ne (tgt := 102) X dX8_isWordAt_74 (by decide) (fun c => ?_) (fun c => ?_)
          · have h := h.1 c
            refine aw_iconst (v := 0) X dX8_isWordAt_102 (by decide) ?_
            exact aw_zret X dX8_isWordAt_103 (by decide) h
          · have h := h.2 c
            refine aw_iload X dX8_isWordAt_77 5 rfl ?_
            refine aw_if_eq (tgt := 98) X dX8_isWordAt_79 (by decide) (fun c => ?_) (fun c => ?_)
            · have h := h.1 c
              refine aw_iconst (v := 1) X dX8_isWordAt_98 (by decide) ?_
              refine aw_goto (tgt := 103) X dX8_isWordAt_99 (by decide) ?_
              exact aw_zret X dX8_isWordAt_103 (by decide) h
            · have h := h.2 c
              refine aw_aload_n X dX8_isWordAt_82 1 rfl ?_
              refine aw_get X dX8_isWordAt_83 (X.lt (by decide)) (sh_12 (rfl : tp 74 = 12) _) fl_RX8_53 rfl ?_
              refine aw_aload_n X dX8_isWordAt_86 1 rfl ?_
              refine aw_get X dX8_isWordAt_87 (X.lt (by decide)) (sh_12 (rfl : tp 74 = 12) _) fl_RX8_223 rfl ?_
              refine aw_iconst (v := 3) X dX8_isWordAt_90 (by decide) ?_
              refine aw_iadd X dX8_isWordAt_91 ?_
              obtain ⟨hin, h⟩ := h
              refine aw_iald X dX8_isWordAt_92 (X.lt (by decide)) (sh_ia 96 (rfl : tp 88 = 1096) _) hin ?_
              refine aw_iload X dX8_isWordAt_93 5 rfl ?_
              refine aw_icmp_ne (tgt := 102) X dX8_isWordAt_95 (by decide) (fun c => ?_) (fun c => ?_)
              · have h := h.1 c
                refine aw_iconst (v := 0) X dX8_isWordAt_102 (by decide) ?_
                exact aw_zret X dX8_isWordAt_103 (by decide) h
              · have h := h.2 c
                refine aw_iconst (v := 1) X dX8_isWordAt_98 (by decide) ?_
                refine aw_goto (tgt := 103) X dX8_isWordAt_99 (by decide) ?_
                exact aw_zret X dX8_isWordAt_103 (by decide) h
def wp_X8_isWordAt (n : Nat)  (M : Mm) (p1 : Int32) (p2 : Int32) (p3 : Int32) (p4 : Int32) (K : Mm → Int32 → Prop) : Prop := (¬ p4 = 0 → wb_X8_isWordAt_10 n p1 p2 p3 p4 K M 4) ∧ (p4 = 0 → wb_X8_isWordAt_10 n p1 p2 p3 p4 K M 3)
set_option maxHeartbeats 4000000 in
set_option maxRecDepth 100000 in
theorem c_X8_isWordAt {l : Launch} {E : En} {M : Mm} {p1 : Int32} {p2 : Int32} {p3 : Int32} {p4 : Int32} {K : Mm → Int32 → Prop}  (h : wp_X8_isWordAt (eN E)  M p1 p2 p3 p4 K) : Ctr l E yX8_isWordAt cX8_isWordAt 6 (some .boolean) 0 [.ref (eA E 74), .int p1, .int p2, .int p3, .int p4] M (QI E K) := by
  refine Ctr.of (by decide +kernel) (Nat.le_of_ble_eq_true rfl) (fun g A hgl X => ?_)
  subst hgl
  have X : CX g cX8_isWordAt RX8 (some .boolean) 0 E A 6 := X
  show AW g E A 6 _ 0 [(0, .ref (eA E 74)), (1, .int p1), (2, .int p2), (3, .int p3), (4, .int p4)] [] M
  unfold wp_X8_isWordAt at h
  refine aw_iload X dX8_isWordAt_0 4 rfl ?_
  refine aw_if_ne (tgt := 9) X dX8_isWordAt_2 (by decide) (fun c => ?_) (fun c => ?_)
  · have h := h.1 c
    refine aw_iconst (v := 4) X dX8_isWordAt_9 (by decide) ?_
    exact aw_sub [0, 1, 2, 3, 4] rfl (lb_X8_isWordAt_10 X p1 p2 p3 p4  _ _ h)
  · have h := h.2 c
    refine aw_iconst (v := 3) X dX8_isWordAt_5 (by decide) ?_
    refine aw_goto (tgt := 10) X dX8_isWordAt_6 (by decide) ?_
    exact aw_sub [0, 1, 2, 3, 4] rfl (lb_X8_isWordAt_10 X p1 p2 p3 p4  _ _ h)
def wb_X8_isLong_11 (n : Nat) (p1 : Int32) (p2 : Int32) (p3 : Int32) (p4 : Int32) (p5 : Int32) (p6 : Int32)  (K : Mm → Int32 → Prop) (M : Mm) (s0 : Int32) : Prop := (¬ (M 74 20) = 1 → K M 0) ∧ ((M 74 20) = 1 → (¬ ((M 74 19) - (M 74 18)) = s0 → K M 0) ∧ (((M 74 19) - (M 74 18)) = s0 → vp_in (M 74 18) 96 ∧ ((¬ (M 88 (M 74 18).toNatClampNeg) = p1 → K M 0) ∧ ((M 88 (M 74 18).toNatClampNeg) = p1 → vp_in ((M 74 18) + 1) 96 ∧ ((¬ (M 88 ((M 74 18) + 1).toNatClampNeg) = p2 → K M 0) ∧ ((M 88 ((M 74 18) + 1).toNatClampNeg) = p2 → vp_in ((M 74 18) + 2) 96 ∧ ((¬ (M 88 ((M 74 18) + 2).toNatClampNeg) = p3 → K M 0) ∧ ((M 88 ((M 74 18) + 2).toNatClampNeg) = p3 → vp_in ((M 74 18) + 3) 96 ∧ ((¬ (M 88 ((M 74 18) + 3).toNatClampNeg) = p4 → K M 0) ∧ ((M 88 ((M 74 18) + 3).toNatClampNeg) = p4 → vp_in ((M 74 18) + 4) 96 ∧ ((¬ (M 88 ((M 74 18) + 4).toNatClampNeg) = p5 → K M 0) ∧ ((M 88 ((M 74 18) + 4).toNatClampNeg) = p5 → (p6 = 0 → K M 1) ∧ (¬ p6 = 0 → vp_in ((M 74 18) + 5) 96 ∧ ((¬ (M 88 ((M 74 18) + 5).toNatClampNeg) = p6 → K M 0) ∧ ((M 88 ((M 74 18) + 5).toNatClampNeg) = p6 → K M 1)))))))))))))))
set_option maxHeartbeats 4000000 in
set_option maxRecDepth 100000 in
theorem lb_X8_isLong_11 {g : Gm} {E : En} {A : Nat → Prop} {K : Mm → Int32 → Prop} (X : CX g cX8_isLong RX8 (some .boolean) 0 E A 8) (p1 : Int32) (p2 : Int32) (p3 : Int32) (p4 : Int32) (p5 : Int32) (p6 : Int32)   (M : Mm) (s0 : Int32) (h : wb_X8_isLong_11 (eN E) p1 p2 p3 p4 p5 p6  K M s0) : AW g E A 8 (MQ (gB g) (QI E K A) (gA g) (gS g) (gk g) (gn g) A) 11 [(0, .ref (eA E 74)), (1, .int p1), (2, .int p2), (3, .int p3), (4, .int p4), (5, .int p5), (6, .int p6)] [.int s0] M := by
  unfold wb_X8_isLong_11 at h
  refine aw_istore (lv' := [(7, .int s0), (0, .ref (eA E 74)), (1, .int p1), (2, .int p2), (3, .int p3), (4, .int p4), (5, .int p5), (6, .int p6)]) X dX8_isLong_11 (by decide) rfl ?_
  refine aw_aload_n X dX8_isLong_13 1 rfl ?_
  refine aw_get X dX8_isLong_14 (X.lt (by decide)) (sh_12 (rfl : tp 74 = 12) _) fl_RX8_220 rfl ?_
  refine aw_iconst (v := 1) X dX8_isLong_17 (by decide) ?_
  refine aw_icmp_ne (tgt := 135) X dX8_isLong_18 (by decide) (fun c => ?_) (fun c => ?_)
  · have h := h.1 c
    refine aw_iconst (v := 0) X dX8_isLong_135 (by decide) ?_
    exact aw_zret X dX8_isLong_136 (by decide) h
  · have h := h.2 c
    refine aw_aload_n X dX8_isLong_21 1 rfl ?_
    refine aw_get X dX8_isLong_22 (X.lt (by decide)) (sh_12 (rfl : tp 74 = 12) _) fl_RX8_217 rfl ?_
    refine aw_aload_n X dX8_isLong_25 1 rfl ?_
    refine aw_get X dX8_isLong_26 (X.lt (by decide)) (sh_12 (rfl : tp 74 = 12) _) fl_RX8_223 rfl ?_
    refine aw_isub X dX8_isLong_29 ?_
    refine aw_iload X dX8_isLong_30 0 rfl ?_
    refine aw_icmp_ne (tgt := 135) X dX8_isLong_32 (by decide) (fun c => ?_) (fun c => ?_)
    · have h := h.1 c
      refine aw_iconst (v := 0) X dX8_isLong_135 (by decide) ?_
      exact aw_zret X dX8_isLong_136 (by decide) h
    · have h := h.2 c
      refine aw_aload_n X dX8_isLong_35 1 rfl ?_
      refine aw_get X dX8_isLong_36 (X.lt (by decide)) (sh_12 (rfl : tp 74 = 12) _) fl_RX8_53 rfl ?_
      refine aw_aload_n X dX8_isLong_39 1 rfl ?_
      refine aw_get X dX8_isLong_40 (X.lt (by decide)) (sh_12 (rfl : tp 74 = 12) _) fl_RX8_223 rfl ?_
      obtain ⟨hin, h⟩ := h
      refine aw_iald X dX8_isLong_43 (X.lt (by decide)) (sh_ia 96 (rfl : tp 88 = 1096) _) hin ?_
      refine aw_iload_n X dX8_isLong_44 2 rfl ?_
      refine aw_icmp_ne (tgt := 135) X dX8_isLong_45 (by decide) (fun c => ?_) (fun c => ?_)
      · have h := h.1 c
        refine aw_iconst (v := 0) X dX8_isLong_135 (by decide) ?_
        exact aw_zret X dX8_isLong_136 (by decide) h
      · have h := h.2 c
        refine aw_aload_n X dX8_isLong_48 1 rfl ?_
        refine aw_get X dX8_isLong_49 (X.lt (by decide)) (sh_12 (rfl : tp 74 = 12) _) fl_RX8_53 rfl ?_
        refine aw_aload_n X dX8_isLong_52 1 rfl ?_
        refine aw_get X dX8_isLong_53 (X.lt (by decide)) (sh_12 (rfl : tp 74 = 12) _) fl_RX8_223 rfl ?_
        refine aw_iconst (v := 1) X dX8_isLong_56 (by decide) ?_
        refine aw_iadd X dX8_isLong_57 ?_
        obtain ⟨hin, h⟩ := h
        refine aw_iald X dX8_isLong_58 (X.lt (by decide)) (sh_ia 96 (rfl : tp 88 = 1096) _) hin ?_
        refine aw_iload_n X dX8_isLong_59 3 rfl ?_
        refine aw_icmp_ne (tgt := 135) X dX8_isLong_60 (by decide) (fun c => ?_) (fun c => ?_)
        · have h := h.1 c
          refine aw_iconst (v := 0) X dX8_isLong_135 (by decide) ?_
          exact aw_zret X dX8_isLong_136 (by decide) h
        · have h := h.2 c
          refine aw_aload_n X dX8_isLong_63 1 rfl ?_
          refine aw_get X dX8_isLong_64 (X.lt (by decide)) (sh_12 (rfl : tp 74 = 12) _) fl_RX8_53 rfl ?_
          refine aw_aload_n X dX8_isLong_67 1 rfl ?_
          refine aw_get X dX8_isLong_68 (X.lt (by decide)) (sh_12 (rfl : tp 74 = 12) _) fl_RX8_223 rfl ?_
          refine aw_iconst (v := 2) X dX8_isLong_71 (by decide) ?_
          refine aw_iadd X dX8_isLong_72 ?_
          obtain ⟨hin, h⟩ := h
          refine aw_iald X dX8_isLong_73 (X.lt (by decide)) (sh_ia 96 (rfl : tp 88 = 1096) _) hin ?_
          refine aw_iload_n X dX8_isLong_74 4 rfl ?_
          refine aw_icmp_ne (tgt := 135) X dX8_isLong_75 (by decide) (fun c => ?_) (fun c => ?_)
          · have h := h.1 c
            refine aw_iconst (v := 0) X dX8_isLong_135 (by decide) ?_
            exact aw_zret X dX8_isLong_136 (by decide) h
          · have h := h.2 c
            refine aw_aload_n X dX8_isLong_78 1 rfl ?_
            refine aw_get X dX8_isLong_79 (X.lt (by decide)) (sh_12 (rfl : tp 74 = 12) _) fl_RX8_53 rfl ?_
            refine aw_aload_n X dX8_isLong_82 1 rfl ?_
            refine aw_get X dX8_isLong_83 (X.lt (by decide)) (sh_12 (rfl : tp 74 = 12) _) fl_RX8_223 rfl ?_
            refine aw_iconst (v := 3) X dX8_isLong_86 (by decide) ?_
            refine aw_iadd X dX8_isLong_87 ?_
            obtain ⟨hin, h⟩ := h
            refine aw_iald X dX8_isLong_88 (X.lt (by decide)) (sh_ia 96 (rfl : tp 88 = 1096) _) hin ?_
            refine aw_iload X dX8_isLong_89 5 rfl ?_
            refine aw_icmp_ne (tgt := 135) X dX8_isLong_91 (by decide) (fun c => ?_) (fun c => ?_)
            · have h := h.1 c
              refine aw_iconst (v := 0) X dX8_isLong_135 (by decide) ?_
              exact aw_zret X dX8_isLong_136 (by decide) h
            · have h := h.2 c
              refine aw_aload_n X dX8_isLong_94 1 rfl ?_
              refine aw_get X dX8_isLong_95 (X.lt (by decide)) (sh_12 (rfl : tp 74 = 12) _) fl_RX8_53 rfl ?_
              refine aw_aload_n X dX8_isLong_98 1 rfl ?_
              refine aw_get X dX8_isLong_99 (X.lt (by decide)) (sh_12 (rfl : tp 74 = 12) _) fl_RX8_223 rfl ?_
              refine aw_iconst (v := 4) X dX8_isLong_102 (by decide) ?_
              refine aw_iadd X dX8_isLong_103 ?_
              obtain ⟨hin, h⟩ := h
              refine aw_iald X dX8_isLong_104 (X.lt (by decide)) (sh_ia 96 (rfl : tp 88 = 1096) _) hin ?_
              refine aw_iload X dX8_isLong_105 6 rfl ?_
              refine aw_icmp_ne (tgt := 135) X dX8_isLong_107 (by decide) (fun c => ?_) (fun c => ?_)
              · have h := h.1 c
                refine aw_iconst (v := 0) X dX8_isLong_135 (by decide) ?_
                exact aw_zret X dX8_isLong_136 (by decide) h
              · have h := h.2 c
                refine aw_iload X dX8_isLong_110 7 rfl ?_
                refine aw_if_eq (tgt := 131) X dX8_isLong_112 (by decide) (fun c => ?_) (fun c => ?_)
                · have h := h.1 c
                  refine aw_iconst (v := 1) X dX8_isLong_131 (by decide) ?_
                  refine aw_goto (tgt := 136) X dX8_isLong_132 (by decide) ?_
                  exact aw_zret X dX8_isLong_136 (by decide) h
                · have h := h.2 c
                  refine aw_aload_n X dX8_isLong_115 1 rfl ?_
                  refine aw_get X dX8_isLong_116 (X.lt (by decide)) (sh_12 (rfl : tp 74 = 12) _) fl_RX8_53 rfl ?_
                  refine aw_aload_n X dX8_isLong_119 1 rfl ?_
                  refine aw_get X dX8_isLong_120 (X.lt (by decide)) (sh_12 (rfl : tp 74 = 12) _) fl_RX8_223 rfl ?_
                  refine aw_iconst (v := 5) X dX8_isLong_123 (by decide) ?_
                  refine aw_iadd X dX8_isLong_124 ?_
                  obtain ⟨hin, h⟩ := h
                  refine aw_iald X dX8_isLong_125 (X.lt (by decide)) (sh_ia 96 (rfl : tp 88 = 1096) _) hin ?_
                  refine aw_iload X dX8_isLong_126 7 rfl ?_
                  refine aw_icmp_ne (tgt := 135) X dX8_isLong_128 (by decide) (fun c => ?_) (fun c => ?_)
                  · have h := h.1 c
                    refine aw_iconst (v := 0) X dX8_isLong_135 (by decide) ?_
                    exact aw_zret X dX8_isLong_136 (by decide) h
                  · have h := h.2 c
                    refine aw_iconst (v := 1) X dX8_isLong_131 (by decide) ?_
                    refine aw_goto (tgt := 136) X dX8_isLong_132 (by decide) ?_
                    exact aw_zret X dX8_isLong_136 (by decide) h
def wp_X8_isLong (n : Nat)  (M : Mm) (p1 : Int32) (p2 : Int32) (p3 : Int32) (p4 : Int32) (p5 : Int32) (p6 : Int32) (K : Mm → Int32 → Prop) : Prop := (¬ p6 = 0 → wb_X8_isLong_11 n p1 p2 p3 p4 p5 p6 K M 6) ∧ (p6 = 0 → wb_X8_isLong_11 n p1 p2 p3 p4 p5 p6 K M 5)
set_option maxHeartbeats 4000000 in
set_option maxRecDepth 100000 in
theorem c_X8_isLong {l : Launch} {E : En} {M : Mm} {p1 : Int32} {p2 : Int32} {p3 : Int32} {p4 : Int32} {p5 : Int32} {p6 : Int32} {K : Mm → Int32 → Prop}  (h : wp_X8_isLong (eN E)  M p1 p2 p3 p4 p5 p6 K) : Ctr l E yX8_isLong cX8_isLong 8 (some .boolean) 0 [.ref (eA E 74), .int p1, .int p2, .int p3, .int p4, .int p5, .int p6] M (QI E K) := by
  refine Ctr.of (by decide +kernel) (Nat.le_of_ble_eq_true rfl) (fun g A hgl X => ?_)
  subst hgl
  have X : CX g cX8_isLong RX8 (some .boolean) 0 E A 8 := X
  show AW g E A 8 _ 0 [(0, .ref (eA E 74)), (1, .int p1), (2, .int p2), (3, .int p3), (4, .int p4), (5, .int p5), (6, .int p6)] [] M
  unfold wp_X8_isLong at h
  refine aw_iload X dX8_isLong_0 6 rfl ?_
  refine aw_if_ne (tgt := 9) X dX8_isLong_2 (by decide) (fun c => ?_) (fun c => ?_)
  · have h := h.1 c
    refine aw_bipush (v := 6) X dX8_isLong_9 (by decide) ?_
    exact aw_sub [0, 1, 2, 3, 4, 5, 6] rfl (lb_X8_isLong_11 X p1 p2 p3 p4 p5 p6  _ _ h)
  · have h := h.2 c
    refine aw_iconst (v := 5) X dX8_isLong_5 (by decide) ?_
    refine aw_goto (tgt := 11) X dX8_isLong_6 (by decide) ?_
    exact aw_sub [0, 1, 2, 3, 4, 5, 6] rfl (lb_X8_isLong_11 X p1 p2 p3 p4 p5 p6  _ _ h)
def wp_X8_key (n : Nat)  (M : Mm)  (K : Mm → Int32 → Prop) : Prop := wp_X8_isLong n M 108 101 97 118 101 0 (fun M1 r2 => (r2 = 0 → wp_X8_isWordAt n M1 115 116 97 121 (fun M3 r4 => (r4 = 0 → wp_X8_isWordAt n M3 102 105 110 101 (fun M5 r6 => (r6 = 0 → K M5 (-1)) ∧ (¬ r6 = 0 → K M5 2))) ∧ (¬ r4 = 0 → K M3 1))) ∧ (¬ r2 = 0 → K M1 0))
set_option maxHeartbeats 4000000 in
set_option maxRecDepth 100000 in
theorem c_X8_key {l : Launch} {E : En} {M : Mm}  {K : Mm → Int32 → Prop}  (h : wp_X8_key (eN E)  M  K) : Ctr l E yX8_key cX8_key 1 (some .int) 1 [.ref (eA E 74)] M (QI E K) := by
  refine Ctr.of (by decide +kernel) (Nat.le_of_ble_eq_true rfl) (fun g A hgl X => ?_)
  subst hgl
  have X : CX g cX8_key RX8 (some .int) 1 E A 1 := X
  show AW g E A 1 _ 0 [(0, .ref (eA E 74))] [] M
  unfold wp_X8_key at h
  refine aw_aload_n X dX8_key_0 0 rfl ?_
  refine aw_bipush (v := 108) X dX8_key_1 (by decide) ?_
  refine aw_bipush (v := 101) X dX8_key_3 (by decide) ?_
  refine aw_bipush (v := 97) X dX8_key_5 (by decide) ?_
  refine aw_bipush (v := 118) X dX8_key_7 (by decide) ?_
  refine aw_bipush (v := 101) X dX8_key_9 (by decide) ?_
  refine aw_iconst (v := 0) X dX8_key_11 (by decide) ?_
  refine ca_i X (rn_v X [.int 108, .int 101, .int 97, .int 118, .int 101, .int 0] [] (X.lt (by decide)) (sh_12 (rfl : tp 74 = 12) _) rfl rfl kw1313 kw84 (c_X8_isLong h) cal_yX8_isLong kw1311 (Nat.le_of_ble_eq_true rfl) rfl rfl (Nat.le_of_ble_eq_true rfl) dX8_key_12) (fun M1 r2 h => ?_)
  refine aw_if_eq (tgt := 20) X dX8_key_15 (by decide) (fun c => ?_) (fun c => ?_)
  · have h := h.1 c
    refine aw_aload_n X dX8_key_20 0 rfl ?_
    refine aw_bipush (v := 115) X dX8_key_21 (by decide) ?_
    refine aw_bipush (v := 116) X dX8_key_23 (by decide) ?_
    refine aw_bipush (v := 97) X dX8_key_25 (by decide) ?_
    refine aw_bipush (v := 121) X dX8_key_27 (by decide) ?_
    refine ca_i X (rn_v X [.int 115, .int 116, .int 97, .int 121] [] (X.lt (by decide)) (sh_12 (rfl : tp 74 = 12) _) rfl rfl kw1317 kw85 (c_X8_isWordAt h) cal_yX8_isWordAt kw1315 (Nat.le_of_ble_eq_true rfl) rfl rfl (Nat.le_of_ble_eq_true rfl) dX8_key_29) (fun M3 r4 h => ?_)
    refine aw_if_eq (tgt := 37) X dX8_key_32 (by decide) (fun c => ?_) (fun c => ?_)
    · have h := h.1 c
      refine aw_aload_n X dX8_key_37 0 rfl ?_
      refine aw_bipush (v := 102) X dX8_key_38 (by decide) ?_
      refine aw_bipush (v := 105) X dX8_key_40 (by decide) ?_
      refine aw_bipush (v := 110) X dX8_key_42 (by decide) ?_
      refine aw_bipush (v := 101) X dX8_key_44 (by decide) ?_
      refine ca_i X (rn_v X [.int 102, .int 105, .int 110, .int 101] [] (X.lt (by decide)) (sh_12 (rfl : tp 74 = 12) _) rfl rfl kw1317 kw85 (c_X8_isWordAt h) cal_yX8_isWordAt kw1315 (Nat.le_of_ble_eq_true rfl) rfl rfl (Nat.le_of_ble_eq_true rfl) dX8_key_46) (fun M5 r6 h => ?_)
      refine aw_if_eq (tgt := 56) X dX8_key_49 (by decide) (fun c => ?_) (fun c => ?_)
      · have h := h.1 c
        refine aw_iconst (v := (-1)) X dX8_key_56 (by decide) ?_
        exact aw_iret X dX8_key_57 h
      · have h := h.2 c
        refine aw_iconst (v := 2) X dX8_key_52 (by decide) ?_
        refine aw_goto (tgt := 57) X dX8_key_53 (by decide) ?_
        exact aw_iret X dX8_key_57 h
    · have h := h.2 c
      refine aw_iconst (v := 1) X dX8_key_35 (by decide) ?_
      exact aw_iret X dX8_key_36 h
  · have h := h.2 c
    refine aw_iconst (v := 0) X dX8_key_18 (by decide) ?_
    exact aw_iret X dX8_key_19 h
def wp_X8_isName (n : Nat)  (M : Mm) (p0 : Int32) (p1 : Int32) (K : Mm → Int32 → Prop) : Prop := (p0 = 0 → (p1 = 116 → K M 1) ∧ (¬ p1 = 116 → (p1 = 115 → K M 1) ∧ (¬ p1 = 115 → (¬ p1 = 97 → K M 0) ∧ (p1 = 97 → K M 1)))) ∧ (p0 = 1 → (p1 = 97 → K M 1) ∧ (¬ p1 = 97 → (p1 = 119 → K M 1) ∧ (¬ p1 = 119 → (¬ p1 = 110 → K M 0) ∧ (p1 = 110 → K M 1)))) ∧ (¬ p0 = 0 → ¬ p0 = 1 → (p1 = 103 → K M 1) ∧ (¬ p1 = 103 → (¬ p1 = 101 → K M 0) ∧ (p1 = 101 → K M 1)))
set_option maxHeartbeats 4000000 in
set_option maxRecDepth 100000 in
theorem c_X8_isName {l : Launch} {E : En} {M : Mm} {p0 : Int32} {p1 : Int32} {K : Mm → Int32 → Prop}  (h : wp_X8_isName (eN E)  M p0 p1 K) : Ctr l E yX8_isName cX8_isName 2 (some .boolean) 0 [.int p0, .int p1] M (QI E K) := by
  refine Ctr.of (by decide +kernel) (Nat.le_of_ble_eq_true rfl) (fun g A hgl X => ?_)
  subst hgl
  have X : CX g cX8_isName RX8 (some .boolean) 0 E A 2 := X
  show AW g E A 2 _ 0 [(0, .int p0), (1, .int p1)] [] M
  unfold wp_X8_isName at h
  refine aw_iload_n X dX8_isName_0 0 rfl ?_
  by_cases c0 : p0 = 0
  · have h := h.1 c0
    refine aw_lookup (tgt := 28) X dX8_isName_1 (by decide) (by first | (rw [c0]; done) | (rw [c0]; rfl)) (by decide) ?_
    refine aw_iload_n X dX8_isName_28 1 rfl ?_
    refine aw_bipush (v := 116) X dX8_isName_29 (by decide) ?_
    refine aw_icmp_eq (tgt := 46) X dX8_isName_31 (by decide) (fun c => ?_) (fun c => ?_)
    · have h := h.1 c
      refine aw_iconst (v := 1) X dX8_isName_46 (by decide) ?_
      refine aw_goto (tgt := 51) X dX8_isName_47 (by decide) ?_
      exact aw_zret X dX8_isName_51 (by decide) h
    · have h := h.2 c
      refine aw_iload_n X dX8_isName_34 1 rfl ?_
      refine aw_bipush (v := 115) X dX8_isName_35 (by decide) ?_
      refine aw_icmp_eq (tgt := 46) X dX8_isName_37 (by decide) (fun c => ?_) (fun c => ?_)
      · have h := h.1 c
        refine aw_iconst (v := 1) X dX8_isName_46 (by decide) ?_
        refine aw_goto (tgt := 51) X dX8_isName_47 (by decide) ?_
        exact aw_zret X dX8_isName_51 (by decide) h
      · have h := h.2 c
        refine aw_iload_n X dX8_isName_40 1 rfl ?_
        refine aw_bipush (v := 97) X dX8_isName_41 (by decide) ?_
        refine aw_icmp_ne (tgt := 50) X dX8_isName_43 (by decide) (fun c => ?_) (fun c => ?_)
        · have h := h.1 c
          refine aw_iconst (v := 0) X dX8_isName_50 (by decide) ?_
          exact aw_zret X dX8_isName_51 (by decide) h
        · have h := h.2 c
          refine aw_iconst (v := 1) X dX8_isName_46 (by decide) ?_
          refine aw_goto (tgt := 51) X dX8_isName_47 (by decide) ?_
          exact aw_zret X dX8_isName_51 (by decide) h
  · by_cases c1 : p0 = 1
    · have h := h.2.1 c1
      refine aw_lookup (tgt := 52) X dX8_isName_1 (by decide) (by first | (rw [c1]; done) | (rw [c1]; rfl)) (by decide) ?_
      refine aw_iload_n X dX8_isName_52 1 rfl ?_
      refine aw_bipush (v := 97) X dX8_isName_53 (by decide) ?_
      refine aw_icmp_eq (tgt := 70) X dX8_isName_55 (by decide) (fun c => ?_) (fun c => ?_)
      · have h := h.1 c
        refine aw_iconst (v := 1) X dX8_isName_70 (by decide) ?_
        refine aw_goto (tgt := 75) X dX8_isName_71 (by decide) ?_
        exact aw_zret X dX8_isName_75 (by decide) h
      · have h := h.2 c
        refine aw_iload_n X dX8_isName_58 1 rfl ?_
        refine aw_bipush (v := 119) X dX8_isName_59 (by decide) ?_
        refine aw_icmp_eq (tgt := 70) X dX8_isName_61 (by decide) (fun c => ?_) (fun c => ?_)
        · have h := h.1 c
          refine aw_iconst (v := 1) X dX8_isName_70 (by decide) ?_
          refine aw_goto (tgt := 75) X dX8_isName_71 (by decide) ?_
          exact aw_zret X dX8_isName_75 (by decide) h
        · have h := h.2 c
          refine aw_iload_n X dX8_isName_64 1 rfl ?_
          refine aw_bipush (v := 110) X dX8_isName_65 (by decide) ?_
          refine aw_icmp_ne (tgt := 74) X dX8_isName_67 (by decide) (fun c => ?_) (fun c => ?_)
          · have h := h.1 c
            refine aw_iconst (v := 0) X dX8_isName_74 (by decide) ?_
            exact aw_zret X dX8_isName_75 (by decide) h
          · have h := h.2 c
            refine aw_iconst (v := 1) X dX8_isName_70 (by decide) ?_
            refine aw_goto (tgt := 75) X dX8_isName_71 (by decide) ?_
            exact aw_zret X dX8_isName_75 (by decide) h
    · have h := h.2.2 c0 c1
      refine aw_lookup (off := 75) (tgt := 76) X dX8_isName_1 (by decide) (by show Op.lookupswitch.offset [(0, 27), (1, 51)] _ _ = _; rw [lv_osw (a := 0) c0 (by decide), lv_osw (a := 1) c1 (by decide)]; first | done | rfl) (by decide) ?_
      refine aw_iload_n X dX8_isName_76 1 rfl ?_
      refine aw_bipush (v := 103) X dX8_isName_77 (by decide) ?_
      refine aw_icmp_eq (tgt := 88) X dX8_isName_79 (by decide) (fun c => ?_) (fun c => ?_)
      · have h := h.1 c
        refine aw_iconst (v := 1) X dX8_isName_88 (by decide) ?_
        refine aw_goto (tgt := 93) X dX8_isName_89 (by decide) ?_
        exact aw_zret X dX8_isName_93 (by decide) h
      · have h := h.2 c
        refine aw_iload_n X dX8_isName_82 1 rfl ?_
        refine aw_bipush (v := 101) X dX8_isName_83 (by decide) ?_
        refine aw_icmp_ne (tgt := 92) X dX8_isName_85 (by decide) (fun c => ?_) (fun c => ?_)
        · have h := h.1 c
          refine aw_iconst (v := 0) X dX8_isName_92 (by decide) ?_
          exact aw_zret X dX8_isName_93 (by decide) h
        · have h := h.2 c
          refine aw_iconst (v := 1) X dX8_isName_88 (by decide) ?_
          refine aw_goto (tgt := 93) X dX8_isName_89 (by decide) ?_
          exact aw_zret X dX8_isName_93 (by decide) h
def wp_X8_step (n : Nat)  (M : Mm) (p1 : Int32) (p2 : Int32) (K : Mm → Prop) : Prop := vp_in ((M 74 26) + (2 * (M 74 25))) 3108 ∧ (∀ M1 : Mm, M1 = wr M 75 ((M 74 26) + (2 * (M 74 25))).toNatClampNeg p1 → vp_in (((M1 74 26) + (2 * (M1 74 25))) + 1) 3108 ∧ (∀ M2 : Mm, M2 = wr M1 75 (((M1 74 26) + (2 * (M1 74 25))) + 1).toNatClampNeg p2 → ∀ M3 : Mm, M3 = wr M2 74 25 ((M2 74 25) + 1) → K M3))
set_option maxHeartbeats 4000000 in
set_option maxRecDepth 100000 in
theorem c_X8_step {l : Launch} {E : En} {M : Mm} {p1 : Int32} {p2 : Int32} {K : Mm → Prop}  (h : wp_X8_step (eN E)  M p1 p2 K) : Ctr l E yX8_step cX8_step 3 none 0 [.ref (eA E 74), .int p1, .int p2] M (QV E K) := by
  refine Ctr.of (by decide +kernel) (Nat.le_of_ble_eq_true rfl) (fun g A hgl X => ?_)
  subst hgl
  have X : CX g cX8_step RX8 none 0 E A 3 := X
  show AW g E A 3 _ 0 [(0, .ref (eA E 74)), (1, .int p1), (2, .int p2)] [] M
  unfold wp_X8_step at h
  refine aw_aload_n X dX8_step_0 0 rfl ?_
  refine aw_get X dX8_step_1 (X.lt (by decide)) (sh_12 (rfl : tp 74 = 12) _) fl_RX8_7 rfl ?_
  refine aw_aload_n X dX8_step_4 0 rfl ?_
  refine aw_get X dX8_step_5 (X.lt (by decide)) (sh_12 (rfl : tp 74 = 12) _) fl_RX8_246 rfl ?_
  refine aw_iconst (v := 2) X dX8_step_8 (by decide) ?_
  refine aw_aload_n X dX8_step_9 0 rfl ?_
  refine aw_get X dX8_step_10 (X.lt (by decide)) (sh_12 (rfl : tp 74 = 12) _) fl_RX8_249 rfl ?_
  refine aw_imul X dX8_step_13 ?_
  refine aw_iadd X dX8_step_14 ?_
  refine aw_iload_n X dX8_step_15 1 rfl ?_
  obtain ⟨hin, h⟩ := h
  refine aw_iast X dX8_step_16 (X.lt (by decide)) (sh_ia 3108 (rfl : tp 75 = 4108) _) (sh_ia 3108 (rfl : tp 75 = 4108) _) hin (fun M1 eM1 => ?_)
  have h := h M1 eM1
  refine aw_aload_n X dX8_step_17 0 rfl ?_
  refine aw_get X dX8_step_18 (X.lt (by decide)) (sh_12 (rfl : tp 74 = 12) _) fl_RX8_7 rfl ?_
  refine aw_aload_n X dX8_step_21 0 rfl ?_
  refine aw_get X dX8_step_22 (X.lt (by decide)) (sh_12 (rfl : tp 74 = 12) _) fl_RX8_246 rfl ?_
  refine aw_iconst (v := 2) X dX8_step_25 (by decide) ?_
  refine aw_aload_n X dX8_step_26 0 rfl ?_
  refine aw_get X dX8_step_27 (X.lt (by decide)) (sh_12 (rfl : tp 74 = 12) _) fl_RX8_249 rfl ?_
  refine aw_imul X dX8_step_30 ?_
  refine aw_iadd X dX8_step_31 ?_
  refine aw_iconst (v := 1) X dX8_step_32 (by decide) ?_
  refine aw_iadd X dX8_step_33 ?_
  refine aw_iload_n X dX8_step_34 2 rfl ?_
  obtain ⟨hin, h⟩ := h
  refine aw_iast X dX8_step_35 (X.lt (by decide)) (sh_ia 3108 (rfl : tp 75 = 4108) _) (sh_ia 3108 (rfl : tp 75 = 4108) _) hin (fun M2 eM2 => ?_)
  have h := h M2 eM2
  refine aw_aload_n X dX8_step_36 0 rfl ?_
  refine aw_dup X dX8_step_37 rfl ?_
  refine aw_get X dX8_step_38 (X.lt (by decide)) (sh_12 (rfl : tp 74 = 12) _) fl_RX8_249 rfl ?_
  refine aw_iconst (v := 1) X dX8_step_41 (by decide) ?_
  refine aw_iadd X dX8_step_42 ?_
  refine aw_put X dX8_step_43 (X.lt (by decide)) (sh_12 (rfl : tp 74 = 12) _) fl_RX8_249 fw_8_25 (Nat.le_of_ble_eq_true rfl) (sp_12_25 (rfl : tp 74 = 12) _ _) (fun M3 eM3 => ?_)
  have h := h M3 eM3
  exact aw_vret X dX8_step_46 h
def wp_X8_textTold (n : Nat)  (M : Mm) (p1 : Int32) (p2 : Int32) (K : Mm → Int32 → Prop) : Prop := wp_X8_isText n M p1 (fun M1 r2 => (r2 = 0 → K M1 (-1000000001)) ∧ (¬ r2 = 0 → wp_X8_isIn n M1 p2.toInt64 0 1 (fun M3 r4 => (¬ r4 = 0 → wp_X8_textAt n M3 p1 (fun M5 r6 => vp_in (r6 + p2) 3108 ∧ (K M5 (M5 75 (r6 + p2).toNatClampNeg)))) ∧ (r4 = 0 → K M3 (-1000000001)))))
set_option maxHeartbeats 4000000 in
set_option maxRecDepth 100000 in
theorem c_X8_textTold {l : Launch} {E : En} {M : Mm} {p1 : Int32} {p2 : Int32} {K : Mm → Int32 → Prop}  (h : wp_X8_textTold (eN E)  M p1 p2 K) : Ctr l E yX8_textTold cX8_textTold 3 (some .int) 2 [.ref (eA E 74), .int p1, .int p2] M (QI E K) := by
  refine Ctr.of (by decide +kernel) (Nat.le_of_ble_eq_true rfl) (fun g A hgl X => ?_)
  subst hgl
  have X : CX g cX8_textTold RX8 (some .int) 2 E A 3 := X
  show AW g E A 3 _ 0 [(0, .ref (eA E 74)), (1, .int p1), (2, .int p2)] [] M
  unfold wp_X8_textTold at h
  refine aw_aload_n X dX8_textTold_0 0 rfl ?_
  refine aw_iload_n X dX8_textTold_1 1 rfl ?_
  refine ca_i X (rn_v X [.int p1] [] (X.lt (by decide)) (sh_12 (rfl : tp 74 = 12) _) rfl rfl kw1360 kw94 (c_X8_isText h) cal_yX8_isText kw1358 (Nat.le_of_ble_eq_true rfl) rfl rfl (Nat.le_of_ble_eq_true rfl) dX8_textTold_2) (fun M1 r2 h => ?_)
  refine aw_if_eq (tgt := 18) X dX8_textTold_5 (by decide) (fun c => ?_) (fun c => ?_)
  · have h := h.1 c
    refine aw_ldc (v := (-1000000001)) X dX8_textTold_18 kw1084 ?_
    exact aw_iret X dX8_textTold_20 h
  · have h := h.2 c
    refine aw_iload_n X dX8_textTold_8 2 rfl ?_
    refine aw_i2l X dX8_textTold_9 ?_
    refine aw_lconst (v := 0) X dX8_textTold_10 (by decide) ?_
    refine aw_lconst (v := 1) X dX8_textTold_11 (by decide) ?_
    refine ca_i X (rn_s X [.long p2.toInt64, .long 0, .long 1] [] kw1079 (c_X8_isIn h) cal_yX8_isIn kw1078 (Nat.le_of_ble_eq_true rfl) rfl rfl (Nat.le_of_ble_eq_true rfl) dX8_textTold_12) (fun M3 r4 h => ?_)
    refine aw_if_ne (tgt := 21) X dX8_textTold_15 (by decide) (fun c => ?_) (fun c => ?_)
    · have h := h.1 c
      refine aw_aload_n X dX8_textTold_21 0 rfl ?_
      refine aw_get X dX8_textTold_22 (X.lt (by decide)) (sh_12 (rfl : tp 74 = 12) _) fl_RX8_7 rfl ?_
      refine aw_aload_n X dX8_textTold_25 0 rfl ?_
      refine aw_iload_n X dX8_textTold_26 1 rfl ?_
      refine ca_i X (rn_v X [.int p1] [.ref (eA E 75)] (X.lt (by decide)) (sh_12 (rfl : tp 74 = 12) _) rfl rfl kw1117 kw60 (c_X8_textAt h) cal_yX8_textAt kw1115 (Nat.le_of_ble_eq_true rfl) rfl rfl (Nat.le_of_ble_eq_true rfl) dX8_textTold_27) (fun M5 r6 h => ?_)
      refine aw_iload_n X dX8_textTold_30 2 rfl ?_
      refine aw_iadd X dX8_textTold_31 ?_
      obtain ⟨hin, h⟩ := h
      refine aw_iald X dX8_textTold_32 (X.lt (by decide)) (sh_ia 3108 (rfl : tp 75 = 4108) _) hin ?_
      exact aw_iret X dX8_textTold_33 h
    · have h := h.2 c
      refine aw_ldc (v := (-1000000001)) X dX8_textTold_18 kw1084 ?_
      exact aw_iret X dX8_textTold_20 h
def wp_X8_why (n : Nat)  (M : Mm) (p1 : Int32) (K : Mm → Int32 → Prop) : Prop := wp_X8_isIn n M p1.toInt64 0 2 (fun M1 r2 => (r2 = 0 → K M1 (-1000000001)) ∧ (¬ r2 = 0 → wp_X8_counts n M1 p1 (fun M3 r4 => wp_X8_orNone n M3 r4 (fun M5 r6 => K M5 r6))))
set_option maxHeartbeats 4000000 in
set_option maxRecDepth 100000 in
theorem c_X8_why {l : Launch} {E : En} {M : Mm} {p1 : Int32} {K : Mm → Int32 → Prop}  (h : wp_X8_why (eN E)  M p1 K) : Ctr l E yX8_why cX8_why 2 (some .int) 2 [.ref (eA E 74), .int p1] M (QI E K) := by
  refine Ctr.of (by decide +kernel) (Nat.le_of_ble_eq_true rfl) (fun g A hgl X => ?_)
  subst hgl
  have X : CX g cX8_why RX8 (some .int) 2 E A 2 := X
  show AW g E A 2 _ 0 [(0, .ref (eA E 74)), (1, .int p1)] [] M
  unfold wp_X8_why at h
  refine aw_iload_n X dX8_why_0 1 rfl ?_
  refine aw_i2l X dX8_why_1 ?_
  refine aw_lconst (v := 0) X dX8_why_2 (by decide) ?_
  refine aw_ldc2_w (v := 2) X dX8_why_3 kw1366 ?_
  refine ca_i X (rn_s X [.long p1.toInt64, .long 0, .long 2] [] kw1079 (c_X8_isIn h) cal_yX8_isIn kw1078 (Nat.le_of_ble_eq_true rfl) rfl rfl (Nat.le_of_ble_eq_true rfl) dX8_why_6) (fun M1 r2 h => ?_)
  refine aw_if_eq (tgt := 23) X dX8_why_9 (by decide) (fun c => ?_) (fun c => ?_)
  · have h := h.1 c
    refine aw_ldc (v := (-1000000001)) X dX8_why_23 kw1084 ?_
    exact aw_iret X dX8_why_25 h
  · have h := h.2 c
    refine aw_aload_n X dX8_why_12 0 rfl ?_
    refine aw_iload_n X dX8_why_13 1 rfl ?_
    refine ca_i X (rn_v X [.int p1] [] (X.lt (by decide)) (sh_12 (rfl : tp 74 = 12) _) rfl rfl kw1113 kw59 (c_X8_counts h) cal_yX8_counts kw1111 (Nat.le_of_ble_eq_true rfl) rfl rfl (Nat.le_of_ble_eq_true rfl) dX8_why_14) (fun M3 r4 h => ?_)
    refine ca_i X (rn_s X [.int r4] [] kw1269 (c_X8_orNone h) cal_yX8_orNone kw1268 (Nat.le_of_ble_eq_true rfl) rfl rfl (Nat.le_of_ble_eq_true rfl) dX8_why_17) (fun M5 r6 h => ?_)
    refine aw_goto (tgt := 25) X dX8_why_20 (by decide) ?_
    exact aw_iret X dX8_why_25 h
def wp_X8_isSheet (n : Nat)  (M : Mm) (p0 : Int32) (K : Mm → Int32 → Prop) : Prop := wp_X8_isIn n M p0.toInt64 0 3 (fun M1 r2 => (r2 = 0 ∨ r2 = 1) ∧ K M1 r2)
set_option maxHeartbeats 4000000 in
set_option maxRecDepth 100000 in
theorem c_X8_isSheet {l : Launch} {E : En} {M : Mm} {p0 : Int32} {K : Mm → Int32 → Prop}  (h : wp_X8_isSheet (eN E)  M p0 K) : Ctr l E yX8_isSheet cX8_isSheet 1 (some .boolean) 1 [.int p0] M (QI E K) := by
  refine Ctr.of (by decide +kernel) (Nat.le_of_ble_eq_true rfl) (fun g A hgl X => ?_)
  subst hgl
  have X : CX g cX8_isSheet RX8 (some .boolean) 1 E A 1 := X
  show AW g E A 1 _ 0 [(0, .int p0)] [] M
  unfold wp_X8_isSheet at h
  refine aw_iload_n X dX8_isSheet_0 0 rfl ?_
  refine aw_i2l X dX8_isSheet_1 ?_
  refine aw_lconst (v := 0) X dX8_isSheet_2 (by decide) ?_
  refine aw_ldc2_w (v := 3) X dX8_isSheet_3 kw1232 ?_
  refine ca_i X (rn_s X [.long p0.toInt64, .long 0, .long 3] [] kw1079 (c_X8_isIn h) cal_yX8_isIn kw1078 (Nat.le_of_ble_eq_true rfl) rfl rfl (Nat.le_of_ble_eq_true rfl) dX8_isSheet_6) (fun M1 r2 h => ?_)
  exact aw_zret X dX8_isSheet_9 (nar_z h.1) h.2
def wl_X8_sheet_69 (n : Nat) (p1 : Int32) (p2 : Int32) (p3 : Int32)  (K : Mm → Int32 → Prop) : Nat → Mm → Int32 → Prop
  | 0, _, _ => False
  | k + 1, M, x4 => (24 ≤ x4 → vp_in p1 4 ∧ (K M (M 79 p1.toNatClampNeg))) ∧ (¬ 24 ≤ x4 → vp_in ((24 * p1) + x4) 96 ∧ (∀ M8 : Mm, M8 = wr M 80 ((24 * p1) + x4).toNatClampNeg 0 → ∀ v9 : Int32, v9 = x4 + 1 → wl_X8_sheet_69 n p1 p2 p3 K k M8 v9))
set_option maxHeartbeats 4000000 in
set_option maxRecDepth 100000 in
theorem lw_X8_sheet_69 {g : Gm} {E : En} {A : Nat → Prop} {K : Mm → Int32 → Prop} (X : CX g cX8_sheet RX8 (some .int) 2 E A 5) (p1 : Int32) (p2 : Int32) (p3 : Int32)   : ∀ (k : Nat) (M : Mm) (x4 : Int32), wl_X8_sheet_69 (eN E) p1 p2 p3  K k M x4 → AW g E A 5 (MQ (gB g) (QI E K A) (gA g) (gS g) (gk g) (gn g) A) 69 [(0, .ref (eA E 74)), (1, .int p1), (4, .int x4)] [] M := by
  intro k
  induction k with
  | zero => intro M x4 h; exact h.elim
  | succ k ih =>
    intro M x4 h
    rw [wl_X8_sheet_69] at h
    refine aw_iload X dX8_sheet_69 2 rfl ?_
    refine aw_bipush (v := 24) X dX8_sheet_71 (by decide) ?_
    refine aw_icmp_ge (tgt := 95) X dX8_sheet_73 (by decide) (fun c => ?_) (fun c => ?_)
    · have h := h.1 c
      refine aw_aload_n X dX8_sheet_95 0 rfl ?_
      refine aw_get X dX8_sheet_96 (X.lt (by decide)) (sh_12 (rfl : tp 74 = 12) _) fl_RX8_22 rfl ?_
      refine aw_iload_n X dX8_sheet_99 1 rfl ?_
      obtain ⟨hin, h⟩ := h
      refine aw_iald X dX8_sheet_100 (X.lt (by decide)) (sh_ia 4 (rfl : tp 79 = 1004) _) hin ?_
      exact aw_iret X dX8_sheet_101 h
    · have h := h.2 c
      refine aw_aload_n X dX8_sheet_76 0 rfl ?_
      refine aw_get X dX8_sheet_77 (X.lt (by decide)) (sh_12 (rfl : tp 74 = 12) _) fl_RX8_25 rfl ?_
      refine aw_bipush (v := 24) X dX8_sheet_80 (by decide) ?_
      refine aw_iload_n X dX8_sheet_82 1 rfl ?_
      refine aw_imul X dX8_sheet_83 ?_
      refine aw_iload X dX8_sheet_84 2 rfl ?_
      refine aw_iadd X dX8_sheet_86 ?_
      refine aw_iconst (v := 0) X dX8_sheet_87 (by decide) ?_
      obtain ⟨hin, h⟩ := h
      refine aw_iast X dX8_sheet_88 (X.lt (by decide)) (sh_ia 96 (rfl : tp 80 = 1096) _) (sh_ia 96 (rfl : tp 80 = 1096) _) hin (fun M8 eM8 => ?_)
      have h := h M8 eM8
      obtain ⟨v9, ev9⟩ : ∃ y : Int32, y = x4 + 1 := ⟨_, rfl⟩
      have h := h v9 ev9
      refine aw_iinc (v := v9) (lv' := [(4, .int v9), (0, .ref (eA E 74)), (1, .int p1)]) X dX8_sheet_89 2 rfl (by rw [ev9]; rfl) (by decide) rfl ?_
      refine aw_goto (tgt := 69) X dX8_sheet_92 (by decide) ?_
      exact aw_sub [1, 2, 0] rfl (ih _ _ h)
def wb_X8_sheet_44 (n : Nat) (p1 : Int32) (p2 : Int32) (p3 : Int32)  (K : Mm → Int32 → Prop) (M : Mm)  : Prop := vp_in p1 4 ∧ (∀ M5 : Mm, M5 = wr M 78 p1.toNatClampNeg p2 → (0 ≤ p2 → vp_in p1 4 ∧ (∀ M6 : Mm, M6 = wr M5 79 p1.toNatClampNeg p3 → ∃ kf : Nat, wl_X8_sheet_69 n p1 p2 p3 K kf M6 0)) ∧ (¬ 0 ≤ p2 → vp_in p1 4 ∧ (∀ M7 : Mm, M7 = wr M5 79 p1.toNatClampNeg 0 → ∃ kf : Nat, wl_X8_sheet_69 n p1 p2 p3 K kf M7 0)))
set_option maxHeartbeats 4000000 in
set_option maxRecDepth 100000 in
theorem lb_X8_sheet_44 {g : Gm} {E : En} {A : Nat → Prop} {K : Mm → Int32 → Prop} (X : CX g cX8_sheet RX8 (some .int) 2 E A 5) (p1 : Int32) (p2 : Int32) (p3 : Int32)   (M : Mm)  (h : wb_X8_sheet_44 (eN E) p1 p2 p3  K M ) : AW g E A 5 (MQ (gB g) (QI E K A) (gA g) (gS g) (gk g) (gn g) A) 44 [(0, .ref (eA E 74)), (1, .int p1), (2, .int p2), (3, .int p3)] [] M := by
  unfold wb_X8_sheet_44 at h
  refine aw_aload_n X dX8_sheet_44 0 rfl ?_
  refine aw_get X dX8_sheet_45 (X.lt (by decide)) (sh_12 (rfl : tp 74 = 12) _) fl_RX8_19 rfl ?_
  refine aw_iload_n X dX8_sheet_48 1 rfl ?_
  refine aw_iload_n X dX8_sheet_49 2 rfl ?_
  obtain ⟨hin, h⟩ := h
  refine aw_iast X dX8_sheet_50 (X.lt (by decide)) (sh_ia 4 (rfl : tp 78 = 1004) _) (sh_ia 4 (rfl : tp 78 = 1004) _) hin (fun M5 eM5 => ?_)
  have h := h M5 eM5
  refine aw_aload_n X dX8_sheet_51 0 rfl ?_
  refine aw_get X dX8_sheet_52 (X.lt (by decide)) (sh_12 (rfl : tp 74 = 12) _) fl_RX8_22 rfl ?_
  refine aw_iload_n X dX8_sheet_55 1 rfl ?_
  refine aw_iload_n X dX8_sheet_56 2 rfl ?_
  refine aw_if_ge (tgt := 64) X dX8_sheet_57 (by decide) (fun c => ?_) (fun c => ?_)
  · have h := h.1 c
    refine aw_iload_n X dX8_sheet_64 3 rfl ?_
    obtain ⟨hin, h⟩ := h
    refine aw_iast X dX8_sheet_65 (X.lt (by decide)) (sh_ia 4 (rfl : tp 79 = 1004) _) (sh_ia 4 (rfl : tp 79 = 1004) _) hin (fun M6 eM6 => ?_)
    have h := h M6 eM6
    refine aw_iconst (v := 0) X dX8_sheet_66 (by decide) ?_
    refine aw_istore (lv' := [(4, .int 0), (0, .ref (eA E 74)), (1, .int p1), (2, .int p2), (3, .int p3)]) X dX8_sheet_67 (by decide) rfl ?_
    obtain ⟨kf, h⟩ := h
    exact aw_sub [1, 2, 0] rfl (lw_X8_sheet_69 X p1 p2 p3  kf _ _ h)
  · have h := h.2 c
    refine aw_iconst (v := 0) X dX8_sheet_60 (by decide) ?_
    refine aw_goto (tgt := 65) X dX8_sheet_61 (by decide) ?_
    obtain ⟨hin, h⟩ := h
    refine aw_iast X dX8_sheet_65 (X.lt (by decide)) (sh_ia 4 (rfl : tp 79 = 1004) _) (sh_ia 4 (rfl : tp 79 = 1004) _) hin (fun M7 eM7 => ?_)
    have h := h M7 eM7
    refine aw_iconst (v := 0) X dX8_sheet_66 (by decide) ?_
    refine aw_istore (lv' := [(4, .int 0), (0, .ref (eA E 74)), (1, .int p1), (2, .int p2), (3, .int p3)]) X dX8_sheet_67 (by decide) rfl ?_
    obtain ⟨kf, h⟩ := h
    exact aw_sub [1, 2, 0] rfl (lw_X8_sheet_69 X p1 p2 p3  kf _ _ h)
def wb_X8_sheet_32 (n : Nat) (p1 : Int32) (p2 : Int32) (p3 : Int32)  (K : Mm → Int32 → Prop) (M : Mm)  : Prop := (p2 < 0 → wb_X8_sheet_44 n p1 p2 p3 K M ) ∧ (¬ p2 < 0 → (0 ≤ p3 → wb_X8_sheet_44 n p1 p2 p3 K M ) ∧ (¬ 0 ≤ p3 → K M (-1000000014)))
set_option maxHeartbeats 4000000 in
set_option maxRecDepth 100000 in
theorem lb_X8_sheet_32 {g : Gm} {E : En} {A : Nat → Prop} {K : Mm → Int32 → Prop} (X : CX g cX8_sheet RX8 (some .int) 2 E A 5) (p1 : Int32) (p2 : Int32) (p3 : Int32)   (M : Mm)  (h : wb_X8_sheet_32 (eN E) p1 p2 p3  K M ) : AW g E A 5 (MQ (gB g) (QI E K A) (gA g) (gS g) (gk g) (gn g) A) 32 [(0, .ref (eA E 74)), (1, .int p1), (2, .int p2), (3, .int p3)] [] M := by
  unfold wb_X8_sheet_32 at h
  refine aw_iload_n X dX8_sheet_32 2 rfl ?_
  refine aw_if_lt (tgt := 44) X dX8_sheet_33 (by decide) (fun c => ?_) (fun c => ?_)
  · have h := h.1 c
    exact aw_sub [0, 1, 2, 3] rfl (lb_X8_sheet_44 X p1 p2 p3  _ h)
  · have h := h.2 c
    refine aw_iload_n X dX8_sheet_36 3 rfl ?_
    refine aw_if_ge (tgt := 44) X dX8_sheet_37 (by decide) (fun c => ?_) (fun c => ?_)
    · have h := h.1 c
      exact aw_sub [0, 1, 2, 3] rfl (lb_X8_sheet_44 X p1 p2 p3  _ h)
    · have h := h.2 c
      refine aw_ldc_w (v := (-1000000014)) X dX8_sheet_40 kw1375 ?_
      exact aw_iret X dX8_sheet_43 h
def wp_X8_sheet (n : Nat)  (M : Mm) (p1 : Int32) (p2 : Int32) (p3 : Int32) (K : Mm → Int32 → Prop) : Prop := wp_X8_isSheet n M p1 (fun M1 r2 => (r2 = 0 → K M1 (-1000000001)) ∧ (¬ r2 = 0 → wp_X8_isIn n M1 p2.toInt64 (-1) 1 (fun M3 r4 => (r4 = 0 → K M3 (-1000000001)) ∧ (¬ r4 = 0 → (p2 < 0 → wb_X8_sheet_32 n p1 p2 p3 K M3 ) ∧ (¬ p2 < 0 → (p3 ≤ 24 → wb_X8_sheet_32 n p1 p2 p3 K M3 ) ∧ (¬ p3 ≤ 24 → K M3 (-1000000001)))))))
set_option maxHeartbeats 4000000 in
set_option maxRecDepth 100000 in
theorem c_X8_sheet {l : Launch} {E : En} {M : Mm} {p1 : Int32} {p2 : Int32} {p3 : Int32} {K : Mm → Int32 → Prop}  (h : wp_X8_sheet (eN E)  M p1 p2 p3 K) : Ctr l E yX8_sheet cX8_sheet 5 (some .int) 2 [.ref (eA E 74), .int p1, .int p2, .int p3] M (QI E K) := by
  refine Ctr.of (by decide +kernel) (Nat.le_of_ble_eq_true rfl) (fun g A hgl X => ?_)
  subst hgl
  have X : CX g cX8_sheet RX8 (some .int) 2 E A 5 := X
  show AW g E A 5 _ 0 [(0, .ref (eA E 74)), (1, .int p1), (2, .int p2), (3, .int p3)] [] M
  unfold wp_X8_sheet at h
  refine aw_iload_n X dX8_sheet_0 1 rfl ?_
  refine ca_i X (rn_s X [.int p1] [] kw1372 (c_X8_isSheet h) cal_yX8_isSheet kw1371 (Nat.le_of_ble_eq_true rfl) rfl rfl (Nat.le_of_ble_eq_true rfl) dX8_sheet_1) (fun M1 r2 h => ?_)
  refine aw_if_eq (tgt := 29) X dX8_sheet_4 (by decide) (fun c => ?_) (fun c => ?_)
  · have h := h.1 c
    refine aw_ldc (v := (-1000000001)) X dX8_sheet_29 kw1084 ?_
    exact aw_iret X dX8_sheet_31 h
  · have h := h.2 c
    refine aw_iload_n X dX8_sheet_7 2 rfl ?_
    refine aw_i2l X dX8_sheet_8 ?_
    refine aw_ldc2_w (v := (-1)) X dX8_sheet_9 kw1374 ?_
    refine aw_lconst (v := 1) X dX8_sheet_12 (by decide) ?_
    refine ca_i X (rn_s X [.long p2.toInt64, .long (-1), .long 1] [] kw1079 (c_X8_isIn h) cal_yX8_isIn kw1078 (Nat.le_of_ble_eq_true rfl) rfl rfl (Nat.le_of_ble_eq_true rfl) dX8_sheet_13) (fun M3 r4 h => ?_)
    refine aw_if_eq (tgt := 29) X dX8_sheet_16 (by decide) (fun c => ?_) (fun c => ?_)
    · have h := h.1 c
      refine aw_ldc (v := (-1000000001)) X dX8_sheet_29 kw1084 ?_
      exact aw_iret X dX8_sheet_31 h
    · have h := h.2 c
      refine aw_iload_n X dX8_sheet_19 2 rfl ?_
      refine aw_if_lt (tgt := 32) X dX8_sheet_20 (by decide) (fun c => ?_) (fun c => ?_)
      · have h := h.1 c
        exact aw_sub [0, 1, 2, 3] rfl (lb_X8_sheet_32 X p1 p2 p3  _ h)
      · have h := h.2 c
        refine aw_iload_n X dX8_sheet_23 3 rfl ?_
        refine aw_bipush (v := 24) X dX8_sheet_24 (by decide) ?_
        refine aw_icmp_le (tgt := 32) X dX8_sheet_26 (by decide) (fun c => ?_) (fun c => ?_)
        · have h := h.1 c
          exact aw_sub [0, 1, 2, 3] rfl (lb_X8_sheet_32 X p1 p2 p3  _ h)
        · have h := h.2 c
          refine aw_ldc (v := (-1000000001)) X dX8_sheet_29 kw1084 ?_
          exact aw_iret X dX8_sheet_31 h
def wb_X8_mark_96 (n : Nat) (p1 : Int32) (p2 : Int32) (p3 : Int32)  (K : Mm → Int32 → Prop) (M : Mm)  : Prop := vp_in p1 4 ∧ ((¬ (M 78 p1.toNatClampNeg) = 0 → vp_in ((24 * p1) + p2) 96 ∧ (∀ M7 : Mm, M7 = wr M 80 ((24 * p1) + p2).toNatClampNeg p3 → K M7 1)) ∧ ((M 78 p1.toNatClampNeg) = 0 → vp_in ((24 * p1) + p2) 96 ∧ (∀ M8 : Mm, M8 = wr M 80 ((24 * p1) + p2).toNatClampNeg ((p3 <<< (16 &&& 31)) >>> (16 &&& 31)) → K M8 1)))
set_option maxHeartbeats 4000000 in
set_option maxRecDepth 100000 in
theorem lb_X8_mark_96 {g : Gm} {E : En} {A : Nat → Prop} {K : Mm → Int32 → Prop} (X : CX g cX8_mark RX8 (some .int) 2 E A 4) (p1 : Int32) (p2 : Int32) (p3 : Int32)   (M : Mm)  (h : wb_X8_mark_96 (eN E) p1 p2 p3  K M ) : AW g E A 4 (MQ (gB g) (QI E K A) (gA g) (gS g) (gk g) (gn g) A) 96 [(0, .ref (eA E 74)), (1, .int p1), (2, .int p2), (3, .int p3)] [] M := by
  unfold wb_X8_mark_96 at h
  refine aw_aload_n X dX8_mark_96 0 rfl ?_
  refine aw_get X dX8_mark_97 (X.lt (by decide)) (sh_12 (rfl : tp 74 = 12) _) fl_RX8_25 rfl ?_
  refine aw_bipush (v := 24) X dX8_mark_100 (by decide) ?_
  refine aw_iload_n X dX8_mark_102 1 rfl ?_
  refine aw_imul X dX8_mark_103 ?_
  refine aw_iload_n X dX8_mark_104 2 rfl ?_
  refine aw_iadd X dX8_mark_105 ?_
  refine aw_aload_n X dX8_mark_106 0 rfl ?_
  refine aw_get X dX8_mark_107 (X.lt (by decide)) (sh_12 (rfl : tp 74 = 12) _) fl_RX8_19 rfl ?_
  refine aw_iload_n X dX8_mark_110 1 rfl ?_
  obtain ⟨hin, h⟩ := h
  refine aw_iald X dX8_mark_111 (X.lt (by decide)) (sh_ia 4 (rfl : tp 78 = 1004) _) hin ?_
  refine aw_if_ne (tgt := 125) X dX8_mark_112 (by decide) (fun c => ?_) (fun c => ?_)
  · have h := h.1 c
    refine aw_iload_n X dX8_mark_125 3 rfl ?_
    obtain ⟨hin, h⟩ := h
    refine aw_iast X dX8_mark_126 (X.lt (by decide)) (sh_ia 96 (rfl : tp 80 = 1096) _) (sh_ia 96 (rfl : tp 80 = 1096) _) hin (fun M7 eM7 => ?_)
    have h := h M7 eM7
    refine aw_iconst (v := 1) X dX8_mark_127 (by decide) ?_
    exact aw_iret X dX8_mark_128 h
  · have h := h.2 c
    refine aw_iload_n X dX8_mark_115 3 rfl ?_
    refine aw_bipush (v := 16) X dX8_mark_116 (by decide) ?_
    refine aw_ishl X dX8_mark_118 ?_
    refine aw_bipush (v := 16) X dX8_mark_119 (by decide) ?_
    refine aw_ishr X dX8_mark_121 ?_
    refine aw_goto (tgt := 126) X dX8_mark_122 (by decide) ?_
    obtain ⟨hin, h⟩ := h
    refine aw_iast X dX8_mark_126 (X.lt (by decide)) (sh_ia 96 (rfl : tp 80 = 1096) _) (sh_ia 96 (rfl : tp 80 = 1096) _) hin (fun M8 eM8 => ?_)
    have h := h M8 eM8
    refine aw_iconst (v := 1) X dX8_mark_127 (by decide) ?_
    exact aw_iret X dX8_mark_128 h
def wb_X8_mark_63 (n : Nat) (p1 : Int32) (p2 : Int32) (p3 : Int32)  (K : Mm → Int32 → Prop) (M : Mm)  : Prop := vp_in p1 4 ∧ ((¬ (M 78 p1.toNatClampNeg) = 1 → wb_X8_mark_96 n p1 p2 p3 K M ) ∧ ((M 78 p1.toNatClampNeg) = 1 → (p3 = (-1000000005) → wb_X8_mark_96 n p1 p2 p3 K M ) ∧ (¬ p3 = (-1000000005) → wp_X8_isIn n M p3.toInt64 (-99999) 99999 (fun M5 r6 => (¬ r6 = 0 → wb_X8_mark_96 n p1 p2 p3 K M5 ) ∧ (r6 = 0 → K M5 (-1000000001))))))
set_option maxHeartbeats 4000000 in
set_option maxRecDepth 100000 in
theorem lb_X8_mark_63 {g : Gm} {E : En} {A : Nat → Prop} {K : Mm → Int32 → Prop} (X : CX g cX8_mark RX8 (some .int) 2 E A 4) (p1 : Int32) (p2 : Int32) (p3 : Int32)   (M : Mm)  (h : wb_X8_mark_63 (eN E) p1 p2 p3  K M ) : AW g E A 4 (MQ (gB g) (QI E K A) (gA g) (gS g) (gk g) (gn g) A) 63 [(0, .ref (eA E 74)), (1, .int p1), (2, .int p2), (3, .int p3)] [] M := by
  unfold wb_X8_mark_63 at h
  refine aw_aload_n X dX8_mark_63 0 rfl ?_
  refine aw_get X dX8_mark_64 (X.lt (by decide)) (sh_12 (rfl : tp 74 = 12) _) fl_RX8_19 rfl ?_
  refine aw_iload_n X dX8_mark_67 1 rfl ?_
  obtain ⟨hin, h⟩ := h
  refine aw_iald X dX8_mark_68 (X.lt (by decide)) (sh_ia 4 (rfl : tp 78 = 1004) _) hin ?_
  refine aw_iconst (v := 1) X dX8_mark_69 (by decide) ?_
  refine aw_icmp_ne (tgt := 96) X dX8_mark_70 (by decide) (fun c => ?_) (fun c => ?_)
  · have h := h.1 c
    exact aw_sub [0, 1, 2, 3] rfl (lb_X8_mark_96 X p1 p2 p3  _ h)
  · have h := h.2 c
    refine aw_iload_n X dX8_mark_73 3 rfl ?_
    refine aw_ldc (v := (-1000000005)) X dX8_mark_74 kw1249 ?_
    refine aw_icmp_eq (tgt := 96) X dX8_mark_76 (by decide) (fun c => ?_) (fun c => ?_)
    · have h := h.1 c
      exact aw_sub [0, 1, 2, 3] rfl (lb_X8_mark_96 X p1 p2 p3  _ h)
    · have h := h.2 c
      refine aw_iload_n X dX8_mark_79 3 rfl ?_
      refine aw_i2l X dX8_mark_80 ?_
      refine aw_ldc2_w (v := (-99999)) X dX8_mark_81 kw1382 ?_
      refine aw_ldc2_w (v := 99999) X dX8_mark_84 kw1383 ?_
      refine ca_i X (rn_s X [.long p3.toInt64, .long (-99999), .long 99999] [] kw1079 (c_X8_isIn h) cal_yX8_isIn kw1078 (Nat.le_of_ble_eq_true rfl) rfl rfl (Nat.le_of_ble_eq_true rfl) dX8_mark_87) (fun M5 r6 h => ?_)
      refine aw_if_ne (tgt := 96) X dX8_mark_90 (by decide) (fun c => ?_) (fun c => ?_)
      · have h := h.1 c
        exact aw_sub [0, 1, 2, 3] rfl (lb_X8_mark_96 X p1 p2 p3  _ h)
      · have h := h.2 c
        refine aw_ldc (v := (-1000000001)) X dX8_mark_93 kw1084 ?_
        exact aw_iret X dX8_mark_95 h
def wp_X8_mark (n : Nat)  (M : Mm) (p1 : Int32) (p2 : Int32) (p3 : Int32) (K : Mm → Int32 → Prop) : Prop := wp_X8_isSheet n M p1 (fun M1 r2 => (¬ r2 = 0 → vp_in p1 4 ∧ ((0 ≤ (M1 78 p1.toNatClampNeg) → vp_in p1 4 ∧ (wp_X8_isIn n M1 p2.toInt64 0 (((M1 79 p1.toNatClampNeg) - 1).toInt64) (fun M3 r4 => (¬ r4 = 0 → vp_in p1 4 ∧ ((¬ (M3 78 p1.toNatClampNeg) = 0 → wb_X8_mark_63 n p1 p2 p3 K M3 ) ∧ ((M3 78 p1.toNatClampNeg) = 0 → (¬ p3 = (-1000000005) → wb_X8_mark_63 n p1 p2 p3 K M3 ) ∧ (p3 = (-1000000005) → K M3 (-1000000012))))) ∧ (r4 = 0 → K M3 (-1000000013))))) ∧ (¬ 0 ≤ (M1 78 p1.toNatClampNeg) → K M1 (-1000000011)))) ∧ (r2 = 0 → K M1 (-1000000001)))
set_option maxHeartbeats 4000000 in
set_option maxRecDepth 100000 in
theorem c_X8_mark {l : Launch} {E : En} {M : Mm} {p1 : Int32} {p2 : Int32} {p3 : Int32} {K : Mm → Int32 → Prop}  (h : wp_X8_mark (eN E)  M p1 p2 p3 K) : Ctr l E yX8_mark cX8_mark 4 (some .int) 2 [.ref (eA E 74), .int p1, .int p2, .int p3] M (QI E K) := by
  refine Ctr.of (by decide +kernel) (Nat.le_of_ble_eq_true rfl) (fun g A hgl X => ?_)
  subst hgl
  have X : CX g cX8_mark RX8 (some .int) 2 E A 4 := X
  show AW g E A 4 _ 0 [(0, .ref (eA E 74)), (1, .int p1), (2, .int p2), (3, .int p3)] [] M
  unfold wp_X8_mark at h
  refine aw_iload_n X dX8_mark_0 1 rfl ?_
  refine ca_i X (rn_s X [.int p1] [] kw1372 (c_X8_isSheet h) cal_yX8_isSheet kw1371 (Nat.le_of_ble_eq_true rfl) rfl rfl (Nat.le_of_ble_eq_true rfl) dX8_mark_1) (fun M1 r2 h => ?_)
  refine aw_if_ne (tgt := 10) X dX8_mark_4 (by decide) (fun c => ?_) (fun c => ?_)
  · have h := h.1 c
    refine aw_aload_n X dX8_mark_10 0 rfl ?_
    refine aw_get X dX8_mark_11 (X.lt (by decide)) (sh_12 (rfl : tp 74 = 12) _) fl_RX8_19 rfl ?_
    refine aw_iload_n X dX8_mark_14 1 rfl ?_
    obtain ⟨hin, h⟩ := h
    refine aw_iald X dX8_mark_15 (X.lt (by decide)) (sh_ia 4 (rfl : tp 78 = 1004) _) hin ?_
    refine aw_if_ge (tgt := 23) X dX8_mark_16 (by decide) (fun c => ?_) (fun c => ?_)
    · have h := h.1 c
      refine aw_iload_n X dX8_mark_23 2 rfl ?_
      refine aw_i2l X dX8_mark_24 ?_
      refine aw_lconst (v := 0) X dX8_mark_25 (by decide) ?_
      refine aw_aload_n X dX8_mark_26 0 rfl ?_
      refine aw_get X dX8_mark_27 (X.lt (by decide)) (sh_12 (rfl : tp 74 = 12) _) fl_RX8_22 rfl ?_
      refine aw_iload_n X dX8_mark_30 1 rfl ?_
      obtain ⟨hin, h⟩ := h
      refine aw_iald X dX8_mark_31 (X.lt (by decide)) (sh_ia 4 (rfl : tp 79 = 1004) _) hin ?_
      refine aw_iconst (v := 1) X dX8_mark_32 (by decide) ?_
      refine aw_isub X dX8_mark_33 ?_
      refine aw_i2l X dX8_mark_34 ?_
      refine ca_i X (rn_s X [.long p2.toInt64, .long 0, .long (((M1 79 p1.toNatClampNeg) - 1).toInt64)] [] kw1079 (c_X8_isIn h) cal_yX8_isIn kw1078 (Nat.le_of_ble_eq_true rfl) rfl rfl (Nat.le_of_ble_eq_true rfl) dX8_mark_35) (fun M3 r4 h => ?_)
      refine aw_if_ne (tgt := 45) X dX8_mark_38 (by decide) (fun c => ?_) (fun c => ?_)
      · have h := h.1 c
        refine aw_aload_n X dX8_mark_45 0 rfl ?_
        refine aw_get X dX8_mark_46 (X.lt (by decide)) (sh_12 (rfl : tp 74 = 12) _) fl_RX8_19 rfl ?_
        refine aw_iload_n X dX8_mark_49 1 rfl ?_
        obtain ⟨hin, h⟩ := h
        refine aw_iald X dX8_mark_50 (X.lt (by decide)) (sh_ia 4 (rfl : tp 78 = 1004) _) hin ?_
        refine aw_if_ne (tgt := 63) X dX8_mark_51 (by decide) (fun c => ?_) (fun c => ?_)
        · have h := h.1 c
          exact aw_sub [0, 1, 2, 3] rfl (lb_X8_mark_63 X p1 p2 p3  _ h)
        · have h := h.2 c
          refine aw_iload_n X dX8_mark_54 3 rfl ?_
          refine aw_ldc (v := (-1000000005)) X dX8_mark_55 kw1249 ?_
          refine aw_icmp_ne (tgt := 63) X dX8_mark_57 (by decide) (fun c => ?_) (fun c => ?_)
          · have h := h.1 c
            exact aw_sub [0, 1, 2, 3] rfl (lb_X8_mark_63 X p1 p2 p3  _ h)
          · have h := h.2 c
            refine aw_ldc (v := (-1000000012)) X dX8_mark_60 kw1148 ?_
            exact aw_iret X dX8_mark_62 h
      · have h := h.2 c
        refine aw_ldc_w (v := (-1000000013)) X dX8_mark_41 kw1381 ?_
        exact aw_iret X dX8_mark_44 h
    · have h := h.2 c
      refine aw_ldc_w (v := (-1000000011)) X dX8_mark_19 kw1380 ?_
      exact aw_iret X dX8_mark_22 h
  · have h := h.2 c
    refine aw_ldc (v := (-1000000001)) X dX8_mark_7 kw1084 ?_
    exact aw_iret X dX8_mark_9 h
def wb_X8_pour_87 (n : Nat) (p1 : Int32) (Z27 : Mm → Int32 → Int32 → Prop) (K : Mm → Int32 → Prop) (M : Mm) (x2 : Int32) (x3 : Int32) (x5 : Int32) (s0 : Int32) : Prop := wp_X8_sets n M x3 3 s0 (fun M8 => (¬ s0 = x5 → ∀ v10 : Int32, v10 = x2 + 1 → ∀ v11 : Int32, v11 = x3 + 1 → Z27 M8 v10 v11) ∧ (s0 = x5 → ∀ v12 : Int32, v12 = x2 + 0 → ∀ v13 : Int32, v13 = x3 + 1 → Z27 M8 v12 v13))
set_option maxHeartbeats 4000000 in
set_option maxRecDepth 100000 in
theorem lb_X8_pour_87 {g : Gm} {E : En} {A : Nat → Prop} {K : Mm → Int32 → Prop} (X : CX g cX8_pour RX8 (some .int) 2 E A 7) (p1 : Int32)   {Z27 : Mm → Int32 → Int32 → Prop} (hZ27 : ∀ (M : Mm) (x2 : Int32) (x3 : Int32), Z27 M x2 x3 → AW g E A 7 (MQ (gB g) (QI E K A) (gA g) (gS g) (gk g) (gn g) A) 27 [(0, .ref (eA E 74)), (1, .int p1), (2, .int x2), (3, .int x3)] [] M) (M : Mm) (x2 : Int32) (x3 : Int32) (x5 : Int32) (s0 : Int32) (h : wb_X8_pour_87 (eN E) p1 Z27 K M x2 x3 x5 s0) : AW g E A 7 (MQ (gB g) (QI E K A) (gA g) (gS g) (gk g) (gn g) A) 87 [(0, .ref (eA E 74)), (1, .int p1), (2, .int x2), (3, .int x3), (5, .int x5)] [.int s0] M := by
  unfold wb_X8_pour_87 at h
  refine aw_istore (lv' := [(6, .int s0), (0, .ref (eA E 74)), (1, .int p1), (2, .int x2), (3, .int x3), (5, .int x5)]) X dX8_pour_87 (by decide) rfl ?_
  refine aw_aload_n X dX8_pour_89 1 rfl ?_
  refine aw_iload_n X dX8_pour_90 4 rfl ?_
  refine aw_iconst (v := 3) X dX8_pour_91 (by decide) ?_
  refine aw_iload X dX8_pour_92 0 rfl ?_
  refine ca_v X (rn_v X [.int x3, .int 3, .int s0] [] (X.lt (by decide)) (sh_12 (rfl : tp 74 = 12) _) rfl rfl kw1202 kw69 (c_X8_sets h) cal_yX8_sets kw1200 (Nat.le_of_ble_eq_true rfl) rfl rfl (Nat.le_of_ble_eq_true rfl) dX8_pour_94) (fun M8 h => ?_)
  refine aw_iload_n X dX8_pour_97 3 rfl ?_
  refine aw_iload X dX8_pour_98 0 rfl ?_
  refine aw_iload X dX8_pour_100 5 rfl ?_
  refine aw_icmp_ne (tgt := 109) X dX8_pour_102 (by decide) (fun c => ?_) (fun c => ?_)
  · have h := h.1 c
    refine aw_iconst (v := 1) X dX8_pour_109 (by decide) ?_
    refine aw_iadd X dX8_pour_110 ?_
    refine aw_top (fun v10 ev10 => ?_)
    have h := h v10 ev10
    refine aw_istore_n (lv' := [(2, .int v10), (6, .int s0), (0, .ref (eA E 74)), (1, .int p1), (3, .int x3), (5, .int x5)]) X dX8_pour_111 (by decide) rfl ?_
    obtain ⟨v11, ev11⟩ : ∃ y : Int32, y = x3 + 1 := ⟨_, rfl⟩
    have h := h v11 ev11
    refine aw_iinc (v := v11) (lv' := [(3, .int v11), (2, .int v10), (6, .int s0), (0, .ref (eA E 74)), (1, .int p1), (5, .int x5)]) X dX8_pour_112 4 rfl (by rw [ev11]; rfl) (by decide) rfl ?_
    refine aw_goto (tgt := 27) X dX8_pour_115 (by decide) ?_
    exact aw_sub [3, 4, 1, 0] rfl (hZ27 _ _ _ h)
  · have h := h.2 c
    refine aw_iconst (v := 0) X dX8_pour_105 (by decide) ?_
    refine aw_goto (tgt := 110) X dX8_pour_106 (by decide) ?_
    refine aw_iadd X dX8_pour_110 ?_
    refine aw_top (fun v12 ev12 => ?_)
    have h := h v12 ev12
    refine aw_istore_n (lv' := [(2, .int v12), (6, .int s0), (0, .ref (eA E 74)), (1, .int p1), (3, .int x3), (5, .int x5)]) X dX8_pour_111 (by decide) rfl ?_
    obtain ⟨v13, ev13⟩ : ∃ y : Int32, y = x3 + 1 := ⟨_, rfl⟩
    have h := h v13 ev13
    refine aw_iinc (v := v13) (lv' := [(3, .int v13), (2, .int v12), (6, .int s0), (0, .ref (eA E 74)), (1, .int p1), (5, .int x5)]) X dX8_pour_112 4 rfl (by rw [ev13]; rfl) (by decide) rfl ?_
    refine aw_goto (tgt := 27) X dX8_pour_115 (by decide) ?_
    exact aw_sub [3, 4, 1, 0] rfl (hZ27 _ _ _ h)
def wl_X8_pour_27 (n : Nat) (p1 : Int32)  (K : Mm → Int32 → Prop) : Nat → Mm → Int32 → Int32 → Prop
  | 0, _, _, _ => False
  | k + 1, M, x2, x3 => vp_in p1 4 ∧ (((M 79 p1.toNatClampNeg) ≤ x3 → K M x2) ∧ (¬ (M 79 p1.toNatClampNeg) ≤ x3 → ((M 75 0) ≤ x3 → K M x2) ∧ (¬ (M 75 0) ≤ x3 → vp_in ((24 * p1) + x3) 96 ∧ (∀ v3 : Int32, v3 = M 80 ((24 * p1) + x3).toNatClampNeg → wp_X8_of n M x3 3 (fun M4 r5 => (¬ v3 = (-1000000005) → wp_X8_within n M4 v3 9 (fun M6 r7 => wb_X8_pour_87 n p1 (fun M x2 x3 => wl_X8_pour_27 n p1 K k M x2 x3) K M6 x2 x3 r5 r7)) ∧ (v3 = (-1000000005) → wb_X8_pour_87 n p1 (fun M x2 x3 => wl_X8_pour_27 n p1 K k M x2 x3) K M4 x2 x3 r5 r5))))))
set_option maxHeartbeats 4000000 in
set_option maxRecDepth 100000 in
theorem lw_X8_pour_27 {g : Gm} {E : En} {A : Nat → Prop} {K : Mm → Int32 → Prop} (X : CX g cX8_pour RX8 (some .int) 2 E A 7) (p1 : Int32)   : ∀ (k : Nat) (M : Mm) (x2 : Int32) (x3 : Int32), wl_X8_pour_27 (eN E) p1  K k M x2 x3 → AW g E A 7 (MQ (gB g) (QI E K A) (gA g) (gS g) (gk g) (gn g) A) 27 [(0, .ref (eA E 74)), (1, .int p1), (2, .int x2), (3, .int x3)] [] M := by
  intro k
  induction k with
  | zero => intro M x2 x3 h; exact h.elim
  | succ k ih =>
    intro M x2 x3 h
    rw [wl_X8_pour_27] at h
    refine aw_iload_n X dX8_pour_27 3 rfl ?_
    refine aw_aload_n X dX8_pour_28 0 rfl ?_
    refine aw_get X dX8_pour_29 (X.lt (by decide)) (sh_12 (rfl : tp 74 = 12) _) fl_RX8_22 rfl ?_
    refine aw_iload_n X dX8_pour_32 1 rfl ?_
    obtain ⟨hin, h⟩ := h
    refine aw_iald X dX8_pour_33 (X.lt (by decide)) (sh_ia 4 (rfl : tp 79 = 1004) _) hin ?_
    refine aw_icmp_ge (tgt := 118) X dX8_pour_34 (by decide) (fun c => ?_) (fun c => ?_)
    · have h := h.1 c
      refine aw_iload_n X dX8_pour_118 2 rfl ?_
      exact aw_iret X dX8_pour_119 h
    · have h := h.2 c
      refine aw_iload_n X dX8_pour_37 3 rfl ?_
      refine aw_aload_n X dX8_pour_38 0 rfl ?_
      refine aw_get X dX8_pour_39 (X.lt (by decide)) (sh_12 (rfl : tp 74 = 12) _) fl_RX8_7 rfl ?_
      refine aw_iconst (v := 0) X dX8_pour_42 (by decide) ?_
      refine aw_iald X dX8_pour_43 (X.lt (by decide)) (sh_ia 3108 (rfl : tp 75 = 4108) _) (by unfold vp_in; decide) ?_
      refine aw_icmp_ge (tgt := 118) X dX8_pour_44 (by decide) (fun c => ?_) (fun c => ?_)
      · have h := h.1 c
        refine aw_iload_n X dX8_pour_118 2 rfl ?_
        exact aw_iret X dX8_pour_119 h
      · have h := h.2 c
        refine aw_aload_n X dX8_pour_47 0 rfl ?_
        refine aw_get X dX8_pour_48 (X.lt (by decide)) (sh_12 (rfl : tp 74 = 12) _) fl_RX8_25 rfl ?_
        refine aw_bipush (v := 24) X dX8_pour_51 (by decide) ?_
        refine aw_iload_n X dX8_pour_53 1 rfl ?_
        refine aw_imul X dX8_pour_54 ?_
        refine aw_iload_n X dX8_pour_55 3 rfl ?_
        refine aw_iadd X dX8_pour_56 ?_
        obtain ⟨hin, h⟩ := h
        refine aw_iald X dX8_pour_57 (X.lt (by decide)) (sh_ia 96 (rfl : tp 80 = 1096) _) hin ?_
        refine aw_top (fun v3 ev3 => ?_)
        have h := h v3 ev3
        refine aw_istore (lv' := [(4, .int v3), (0, .ref (eA E 74)), (1, .int p1), (2, .int x2), (3, .int x3)]) X dX8_pour_58 (by decide) rfl ?_
        refine aw_aload_n X dX8_pour_60 1 rfl ?_
        refine aw_iload_n X dX8_pour_61 4 rfl ?_
        refine aw_iconst (v := 3) X dX8_pour_62 (by decide) ?_
        refine ca_i X (rn_v X [.int x3, .int 3] [] (X.lt (by decide)) (sh_12 (rfl : tp 74 = 12) _) rfl rfl kw1101 kw56 (c_X8_of h) cal_yX8_of kw1099 (Nat.le_of_ble_eq_true rfl) rfl rfl (Nat.le_of_ble_eq_true rfl) dX8_pour_63) (fun M4 r5 h => ?_)
        refine aw_istore (lv' := [(5, .int r5), (4, .int v3), (0, .ref (eA E 74)), (1, .int p1), (2, .int x2), (3, .int x3)]) X dX8_pour_66 (by decide) rfl ?_
        refine aw_iload X dX8_pour_68 1 rfl ?_
        refine aw_ldc (v := (-1000000005)) X dX8_pour_70 kw1249 ?_
        refine aw_icmp_ne (tgt := 80) X dX8_pour_72 (by decide) (fun c => ?_) (fun c => ?_)
        · have h := h.1 c
          refine aw_iload X dX8_pour_80 1 rfl ?_
          refine aw_bipush (v := 9) X dX8_pour_82 (by decide) ?_
          refine ca_i X (rn_s X [.int v3, .int 9] [] kw1131 (c_X8_within h) cal_yX8_within kw1130 (Nat.le_of_ble_eq_true rfl) rfl rfl (Nat.le_of_ble_eq_true rfl) dX8_pour_84) (fun M6 r7 h => ?_)
          exact aw_sub [2, 3, 4, 5, 0] rfl (lb_X8_pour_87 X p1 ih _ _ _ _ _ h)
        · have h := h.2 c
          refine aw_iload X dX8_pour_75 0 rfl ?_
          refine aw_goto (tgt := 87) X dX8_pour_77 (by decide) ?_
          exact aw_sub [2, 3, 4, 5, 0] rfl (lb_X8_pour_87 X p1 ih _ _ _ _ _ h)
def wp_X8_pour (n : Nat)  (M : Mm) (p1 : Int32) (K : Mm → Int32 → Prop) : Prop := wp_X8_isSheet n M p1 (fun M1 r2 => (¬ r2 = 0 → vp_in p1 4 ∧ ((0 ≤ (M1 78 p1.toNatClampNeg) → ∃ kf : Nat, wl_X8_pour_27 n p1 K kf M1 0 0) ∧ (¬ 0 ≤ (M1 78 p1.toNatClampNeg) → K M1 (-1000000011)))) ∧ (r2 = 0 → K M1 (-1000000001)))
set_option maxHeartbeats 4000000 in
set_option maxRecDepth 100000 in
theorem c_X8_pour {l : Launch} {E : En} {M : Mm} {p1 : Int32} {K : Mm → Int32 → Prop}  (h : wp_X8_pour (eN E)  M p1 K) : Ctr l E yX8_pour cX8_pour 7 (some .int) 2 [.ref (eA E 74), .int p1] M (QI E K) := by
  refine Ctr.of (by decide +kernel) (Nat.le_of_ble_eq_true rfl) (fun g A hgl X => ?_)
  subst hgl
  have X : CX g cX8_pour RX8 (some .int) 2 E A 7 := X
  show AW g E A 7 _ 0 [(0, .ref (eA E 74)), (1, .int p1)] [] M
  unfold wp_X8_pour at h
  refine aw_iload_n X dX8_pour_0 1 rfl ?_
  refine ca_i X (rn_s X [.int p1] [] kw1372 (c_X8_isSheet h) cal_yX8_isSheet kw1371 (Nat.le_of_ble_eq_true rfl) rfl rfl (Nat.le_of_ble_eq_true rfl) dX8_pour_1) (fun M1 r2 h => ?_)
  refine aw_if_ne (tgt := 10) X dX8_pour_4 (by decide) (fun c => ?_) (fun c => ?_)
  · have h := h.1 c
    refine aw_aload_n X dX8_pour_10 0 rfl ?_
    refine aw_get X dX8_pour_11 (X.lt (by decide)) (sh_12 (rfl : tp 74 = 12) _) fl_RX8_19 rfl ?_
    refine aw_iload_n X dX8_pour_14 1 rfl ?_
    obtain ⟨hin, h⟩ := h
    refine aw_iald X dX8_pour_15 (X.lt (by decide)) (sh_ia 4 (rfl : tp 78 = 1004) _) hin ?_
    refine aw_if_ge (tgt := 23) X dX8_pour_16 (by decide) (fun c => ?_) (fun c => ?_)
    · have h := h.1 c
      refine aw_iconst (v := 0) X dX8_pour_23 (by decide) ?_
      refine aw_istore_n (lv' := [(2, .int 0), (0, .ref (eA E 74)), (1, .int p1)]) X dX8_pour_24 (by decide) rfl ?_
      refine aw_iconst (v := 0) X dX8_pour_25 (by decide) ?_
      refine aw_istore_n (lv' := [(3, .int 0), (2, .int 0), (0, .ref (eA E 74)), (1, .int p1)]) X dX8_pour_26 (by decide) rfl ?_
      obtain ⟨kf, h⟩ := h
      exact aw_sub [2, 3, 1, 0] rfl (lw_X8_pour_27 X p1  kf _ _ _ h)
    · have h := h.2 c
      refine aw_ldc_w (v := (-1000000011)) X dX8_pour_19 kw1380 ?_
      exact aw_iret X dX8_pour_22 h
  · have h := h.2 c
    refine aw_ldc (v := (-1000000001)) X dX8_pour_7 kw1084 ?_
    exact aw_iret X dX8_pour_9 h
def wb_X8_waterBehind_39 (n : Nat) (p1 : Int32) (p2 : Int32)  (K : Mm → Int32 → Prop) (M : Mm) (s0 : Int32) : Prop := ((M 75 5) ≤ s0 → K M s0) ∧ (¬ (M 75 5) ≤ s0 → K M (M 75 5))
set_option maxHeartbeats 4000000 in
set_option maxRecDepth 100000 in
theorem lb_X8_waterBehind_39 {g : Gm} {E : En} {A : Nat → Prop} {K : Mm → Int32 → Prop} (X : CX g cX8_waterBehind RX8 (some .int) 0 E A 4) (p1 : Int32) (p2 : Int32)   (M : Mm) (s0 : Int32) (h : wb_X8_waterBehind_39 (eN E) p1 p2  K M s0) : AW g E A 4 (MQ (gB g) (QI E K A) (gA g) (gS g) (gk g) (gn g) A) 39 [(0, .ref (eA E 74))] [.int s0] M := by
  unfold wb_X8_waterBehind_39 at h
  refine aw_istore_n (lv' := [(3, .int s0), (0, .ref (eA E 74))]) X dX8_waterBehind_39 (by decide) rfl ?_
  refine aw_iload_n X dX8_waterBehind_40 0 rfl ?_
  refine aw_aload_n X dX8_waterBehind_41 1 rfl ?_
  refine aw_get X dX8_waterBehind_42 (X.lt (by decide)) (sh_12 (rfl : tp 74 = 12) _) fl_RX8_7 rfl ?_
  refine aw_iconst (v := 5) X dX8_waterBehind_45 (by decide) ?_
  refine aw_iald X dX8_waterBehind_46 (X.lt (by decide)) (sh_ia 3108 (rfl : tp 75 = 4108) _) (by unfold vp_in; decide) ?_
  refine aw_icmp_ge (tgt := 59) X dX8_waterBehind_47 (by decide) (fun c => ?_) (fun c => ?_)
  · have h := h.1 c
    refine aw_iload_n X dX8_waterBehind_59 0 rfl ?_
    exact aw_iret X dX8_waterBehind_60 h
  · have h := h.2 c
    refine aw_aload_n X dX8_waterBehind_50 1 rfl ?_
    refine aw_get X dX8_waterBehind_51 (X.lt (by decide)) (sh_12 (rfl : tp 74 = 12) _) fl_RX8_7 rfl ?_
    refine aw_iconst (v := 5) X dX8_waterBehind_54 (by decide) ?_
    refine aw_iald X dX8_waterBehind_55 (X.lt (by decide)) (sh_ia 3108 (rfl : tp 75 = 4108) _) (by unfold vp_in; decide) ?_
    refine aw_goto (tgt := 60) X dX8_waterBehind_56 (by decide) ?_
    exact aw_iret X dX8_waterBehind_60 h
def wp_X8_waterBehind (n : Nat)  (M : Mm) (p1 : Int32) (p2 : Int32) (K : Mm → Int32 → Prop) : Prop := ¬ p2 = 0 ∧ (∀ v1 : Int32, v1 = (M 75 5) + (((M 75 8) + p1) / p2) → (v1 ≤ (M 75 4) → wb_X8_waterBehind_39 n p1 p2 K M v1) ∧ (¬ v1 ≤ (M 75 4) → wb_X8_waterBehind_39 n p1 p2 K M (M 75 4)))
set_option maxHeartbeats 4000000 in
set_option maxRecDepth 100000 in
theorem c_X8_waterBehind {l : Launch} {E : En} {M : Mm} {p1 : Int32} {p2 : Int32} {K : Mm → Int32 → Prop}  (h : wp_X8_waterBehind (eN E)  M p1 p2 K) : Ctr l E yX8_waterBehind cX8_waterBehind 4 (some .int) 0 [.ref (eA E 74), .int p1, .int p2] M (QI E K) := by
  refine Ctr.of (by decide +kernel) (Nat.le_of_ble_eq_true rfl) (fun g A hgl X => ?_)
  subst hgl
  have X : CX g cX8_waterBehind RX8 (some .int) 0 E A 4 := X
  show AW g E A 4 _ 0 [(0, .ref (eA E 74)), (1, .int p1), (2, .int p2)] [] M
  unfold wp_X8_waterBehind at h
  refine aw_aload_n X dX8_waterBehind_0 0 rfl ?_
  refine aw_get X dX8_waterBehind_1 (X.lt (by decide)) (sh_12 (rfl : tp 74 = 12) _) fl_RX8_7 rfl ?_
  refine aw_iconst (v := 5) X dX8_waterBehind_4 (by decide) ?_
  refine aw_iald X dX8_waterBehind_5 (X.lt (by decide)) (sh_ia 3108 (rfl : tp 75 = 4108) _) (by unfold vp_in; decide) ?_
  refine aw_aload_n X dX8_waterBehind_6 0 rfl ?_
  refine aw_get X dX8_waterBehind_7 (X.lt (by decide)) (sh_12 (rfl : tp 74 = 12) _) fl_RX8_7 rfl ?_
  refine aw_bipush (v := 8) X dX8_waterBehind_10 (by decide) ?_
  refine aw_iald X dX8_waterBehind_12 (X.lt (by decide)) (sh_ia 3108 (rfl : tp 75 = 4108) _) (by unfold vp_in; decide) ?_
  refine aw_iload_n X dX8_waterBehind_13 1 rfl ?_
  refine aw_iadd X dX8_waterBehind_14 ?_
  refine aw_iload_n X dX8_waterBehind_15 2 rfl ?_
  obtain ⟨hne, h⟩ := h
  refine aw_idiv X dX8_waterBehind_16 hne ?_
  refine aw_iadd X dX8_waterBehind_17 ?_
  refine aw_top (fun v1 ev1 => ?_)
  have h := h v1 ev1
  refine aw_istore_n (lv' := [(3, .int v1), (0, .ref (eA E 74)), (1, .int p1), (2, .int p2)]) X dX8_waterBehind_18 (by decide) rfl ?_
  refine aw_iload_n X dX8_waterBehind_19 0 rfl ?_
  refine aw_aload_n X dX8_waterBehind_20 1 rfl ?_
  refine aw_get X dX8_waterBehind_21 (X.lt (by decide)) (sh_12 (rfl : tp 74 = 12) _) fl_RX8_7 rfl ?_
  refine aw_iconst (v := 4) X dX8_waterBehind_24 (by decide) ?_
  refine aw_iald X dX8_waterBehind_25 (X.lt (by decide)) (sh_ia 3108 (rfl : tp 75 = 4108) _) (by unfold vp_in; decide) ?_
  refine aw_icmp_le (tgt := 38) X dX8_waterBehind_26 (by decide) (fun c => ?_) (fun c => ?_)
  · have h := h.1 c
    refine aw_iload_n X dX8_waterBehind_38 0 rfl ?_
    exact aw_sub [1] rfl (lb_X8_waterBehind_39 X p1 p2  _ _ h)
  · have h := h.2 c
    refine aw_aload_n X dX8_waterBehind_29 1 rfl ?_
    refine aw_get X dX8_waterBehind_30 (X.lt (by decide)) (sh_12 (rfl : tp 74 = 12) _) fl_RX8_7 rfl ?_
    refine aw_iconst (v := 4) X dX8_waterBehind_33 (by decide) ?_
    refine aw_iald X dX8_waterBehind_34 (X.lt (by decide)) (sh_ia 3108 (rfl : tp 75 = 4108) _) (by unfold vp_in; decide) ?_
    refine aw_goto (tgt := 39) X dX8_waterBehind_35 (by decide) ?_
    exact aw_sub [1] rfl (lb_X8_waterBehind_39 X p1 p2  _ _ h)
def wb_X8_explained_104 (n : Nat) (p1 : Int32) (p2 : Int32) (Z41 : Mm → Int32 → Int32 → Int32 → Prop) (Z54 : Mm → Int32 → Int32 → Int32 → Int32 → Int32 → Prop) (K : Mm → Int32 → Prop) (M : Mm) (x3 : Int32) (x4 : Int32) (x5 : Int32) (x6 : Int32) (x7 : Int32) (s0 : Int32) : Prop := (0 ≤ s0 → ∀ v11 : Int32, v11 = x6 + s0 → ∀ v12 : Int32, v12 = x7 + 1 → Z54 M x3 x4 x5 v11 v12) ∧ (¬ 0 ≤ s0 → ∀ v13 : Int32, v13 = x6 + (-s0) → ∀ v14 : Int32, v14 = x7 + 1 → Z54 M x3 x4 x5 v13 v14)
set_option maxHeartbeats 4000000 in
set_option maxRecDepth 100000 in
theorem lb_X8_explained_104 {g : Gm} {E : En} {A : Nat → Prop} {K : Mm → Int32 → Prop} (X : CX g cX8_explained RX8 (some .int) 2 E A 10) (p1 : Int32) (p2 : Int32)   {Z41 : Mm → Int32 → Int32 → Int32 → Prop} (hZ41 : ∀ (M : Mm) (x3 : Int32) (x4 : Int32) (x5 : Int32), Z41 M x3 x4 x5 → AW g E A 10 (MQ (gB g) (QI E K A) (gA g) (gS g) (gk g) (gn g) A) 41 [(0, .ref (eA E 74)), (1, .int p1), (2, .int p2), (3, .int x3), (4, .int x4), (5, .int x5)] [] M) {Z54 : Mm → Int32 → Int32 → Int32 → Int32 → Int32 → Prop} (hZ54 : ∀ (M : Mm) (x3 : Int32) (x4 : Int32) (x5 : Int32) (x6 : Int32) (x7 : Int32), Z54 M x3 x4 x5 x6 x7 → AW g E A 10 (MQ (gB g) (QI E K A) (gA g) (gS g) (gk g) (gn g) A) 54 [(0, .ref (eA E 74)), (1, .int p1), (2, .int p2), (3, .int x3), (4, .int x4), (5, .int x5), (6, .int x6), (7, .int x7)] [] M) (M : Mm) (x3 : Int32) (x4 : Int32) (x5 : Int32) (x6 : Int32) (x7 : Int32) (s0 : Int32) (h : wb_X8_explained_104 (eN E) p1 p2 Z41 Z54 K M x3 x4 x5 x6 x7 s0) : AW g E A 10 (MQ (gB g) (QI E K A) (gA g) (gS g) (gk g) (gn g) A) 104 [(0, .ref (eA E 74)), (1, .int p1), (2, .int p2), (3, .int x3), (4, .int x4), (5, .int x5), (6, .int x6), (7, .int x7)] [.int s0] M := by
  unfold wb_X8_explained_104 at h
  refine aw_istore (lv' := [(9, .int s0), (0, .ref (eA E 74)), (1, .int p1), (2, .int p2), (3, .int x3), (4, .int x4), (5, .int x5), (6, .int x6), (7, .int x7)]) X dX8_explained_104 (by decide) rfl ?_
  refine aw_iload X dX8_explained_106 7 rfl ?_
  refine aw_iload X dX8_explained_108 0 rfl ?_
  refine aw_if_ge (tgt := 119) X dX8_explained_110 (by decide) (fun c => ?_) (fun c => ?_)
  · have h := h.1 c
    refine aw_iload X dX8_explained_119 0 rfl ?_
    refine aw_iadd X dX8_explained_121 ?_
    refine aw_top (fun v11 ev11 => ?_)
    have h := h v11 ev11
    refine aw_istore (lv' := [(6, .int v11), (9, .int s0), (0, .ref (eA E 74)), (1, .int p1), (2, .int p2), (3, .int x3), (4, .int x4), (5, .int x5), (7, .int x7)]) X dX8_explained_122 (by decide) rfl ?_
    obtain ⟨v12, ev12⟩ : ∃ y : Int32, y = x7 + 1 := ⟨_, rfl⟩
    have h := h v12 ev12
    refine aw_iinc (v := v12) (lv' := [(7, .int v12), (6, .int v11), (9, .int s0), (0, .ref (eA E 74)), (1, .int p1), (2, .int p2), (3, .int x3), (4, .int x4), (5, .int x5)]) X dX8_explained_124 8 rfl (by rw [ev12]; rfl) (by decide) rfl ?_
    refine aw_goto (tgt := 54) X dX8_explained_127 (by decide) ?_
    exact aw_sub [3, 4, 5, 6, 7, 8, 1, 0] rfl (hZ54 _ _ _ _ _ _ h)
  · have h := h.2 c
    refine aw_iload X dX8_explained_113 0 rfl ?_
    refine aw_ineg X dX8_explained_115 ?_
    refine aw_goto (tgt := 121) X dX8_explained_116 (by decide) ?_
    refine aw_iadd X dX8_explained_121 ?_
    refine aw_top (fun v13 ev13 => ?_)
    have h := h v13 ev13
    refine aw_istore (lv' := [(6, .int v13), (9, .int s0), (0, .ref (eA E 74)), (1, .int p1), (2, .int p2), (3, .int x3), (4, .int x4), (5, .int x5), (7, .int x7)]) X dX8_explained_122 (by decide) rfl ?_
    obtain ⟨v14, ev14⟩ : ∃ y : Int32, y = x7 + 1 := ⟨_, rfl⟩
    have h := h v14 ev14
    refine aw_iinc (v := v14) (lv' := [(7, .int v14), (6, .int v13), (9, .int s0), (0, .ref (eA E 74)), (1, .int p1), (2, .int p2), (3, .int x3), (4, .int x4), (5, .int x5)]) X dX8_explained_124 8 rfl (by rw [ev14]; rfl) (by decide) rfl ?_
    refine aw_goto (tgt := 54) X dX8_explained_127 (by decide) ?_
    exact aw_sub [3, 4, 5, 6, 7, 8, 1, 0] rfl (hZ54 _ _ _ _ _ _ h)
def wl_X8_explained_54 (n : Nat) (p1 : Int32) (p2 : Int32) (Z41 : Mm → Int32 → Int32 → Int32 → Prop) (K : Mm → Int32 → Prop) : Nat → Mm → Int32 → Int32 → Int32 → Int32 → Int32 → Prop
  | 0, _, _, _, _, _, _ => False
  | k + 1, M, x3, x4, x5, x6, x7 => vp_in p1 4 ∧ (((M 79 p1.toNatClampNeg) ≤ x7 → (x3 = 0 → ∀ v5 : Int32, v5 = x5 + 1 → Z41 M x5 x6 v5) ∧ (¬ x3 = 0 → (x4 ≤ x6 → ∀ v6 : Int32, v6 = x5 + 1 → Z41 M x3 x4 v6) ∧ (¬ x4 ≤ x6 → ∀ v7 : Int32, v7 = x5 + 1 → Z41 M x5 x6 v7))) ∧ (¬ (M 79 p1.toNatClampNeg) ≤ x7 → vp_in ((24 * p1) + x7) 96 ∧ (∀ v8 : Int32, v8 = M 80 ((24 * p1) + x7).toNatClampNeg → (¬ v8 = (-1000000005) → wp_X8_waterBehind n M (10 * x7) x5 (fun M9 r10 => wb_X8_explained_104 n p1 p2 Z41 (fun M x3 x4 x5 x6 x7 => wl_X8_explained_54 n p1 p2 Z41 K k M x3 x4 x5 x6 x7) K M9 x3 x4 x5 x6 x7 (v8 - r10))) ∧ (v8 = (-1000000005) → wb_X8_explained_104 n p1 p2 Z41 (fun M x3 x4 x5 x6 x7 => wl_X8_explained_54 n p1 p2 Z41 K k M x3 x4 x5 x6 x7) K M x3 x4 x5 x6 x7 0))))
set_option maxHeartbeats 4000000 in
set_option maxRecDepth 100000 in
theorem lw_X8_explained_54 {g : Gm} {E : En} {A : Nat → Prop} {K : Mm → Int32 → Prop} (X : CX g cX8_explained RX8 (some .int) 2 E A 10) (p1 : Int32) (p2 : Int32)   {Z41 : Mm → Int32 → Int32 → Int32 → Prop} (hZ41 : ∀ (M : Mm) (x3 : Int32) (x4 : Int32) (x5 : Int32), Z41 M x3 x4 x5 → AW g E A 10 (MQ (gB g) (QI E K A) (gA g) (gS g) (gk g) (gn g) A) 41 [(0, .ref (eA E 74)), (1, .int p1), (2, .int p2), (3, .int x3), (4, .int x4), (5, .int x5)] [] M) : ∀ (k : Nat) (M : Mm) (x3 : Int32) (x4 : Int32) (x5 : Int32) (x6 : Int32) (x7 : Int32), wl_X8_explained_54 (eN E) p1 p2 Z41 K k M x3 x4 x5 x6 x7 → AW g E A 10 (MQ (gB g) (QI E K A) (gA g) (gS g) (gk g) (gn g) A) 54 [(0, .ref (eA E 74)), (1, .int p1), (2, .int p2), (3, .int x3), (4, .int x4), (5, .int x5), (6, .int x6), (7, .int x7)] [] M := by
  intro k
  induction k with
  | zero => intro M x3 x4 x5 x6 x7 h; exact h.elim
  | succ k ih =>
    intro M x3 x4 x5 x6 x7 h
    rw [wl_X8_explained_54] at h
    refine aw_iload X dX8_explained_54 7 rfl ?_
    refine aw_aload_n X dX8_explained_56 0 rfl ?_
    refine aw_get X dX8_explained_57 (X.lt (by decide)) (sh_12 (rfl : tp 74 = 12) _) fl_RX8_22 rfl ?_
    refine aw_iload_n X dX8_explained_60 1 rfl ?_
    obtain ⟨hin, h⟩ := h
    refine aw_iald X dX8_explained_61 (X.lt (by decide)) (sh_ia 4 (rfl : tp 79 = 1004) _) hin ?_
    refine aw_icmp_ge (tgt := 130) X dX8_explained_62 (by decide) (fun c => ?_) (fun c => ?_)
    · have h := h.1 c
      refine aw_iload_n X dX8_explained_130 3 rfl ?_
      refine aw_if_eq (tgt := 141) X dX8_explained_131 (by decide) (fun c => ?_) (fun c => ?_)
      · have h := h.1 c
        refine aw_iload X dX8_explained_141 5 rfl ?_
        refine aw_istore_n (lv' := [(3, .int x5), (0, .ref (eA E 74)), (1, .int p1), (2, .int p2), (4, .int x4), (5, .int x5), (6, .int x6), (7, .int x7)]) X dX8_explained_143 (by decide) rfl ?_
        refine aw_iload X dX8_explained_144 6 rfl ?_
        refine aw_istore (lv' := [(4, .int x6), (3, .int x5), (0, .ref (eA E 74)), (1, .int p1), (2, .int p2), (5, .int x5), (6, .int x6), (7, .int x7)]) X dX8_explained_146 (by decide) rfl ?_
        obtain ⟨v5, ev5⟩ : ∃ y : Int32, y = x5 + 1 := ⟨_, rfl⟩
        have h := h v5 ev5
        refine aw_iinc (v := v5) (lv' := [(5, .int v5), (4, .int x6), (3, .int x5), (0, .ref (eA E 74)), (1, .int p1), (2, .int p2), (6, .int x6), (7, .int x7)]) X dX8_explained_148 5 rfl (by rw [ev5]; rfl) (by decide) rfl ?_
        refine aw_goto (tgt := 41) X dX8_explained_151 (by decide) ?_
        exact aw_sub [3, 4, 5, 2, 1, 0] rfl (hZ41 _ _ _ _ h)
      · have h := h.2 c
        refine aw_iload X dX8_explained_134 6 rfl ?_
        refine aw_iload X dX8_explained_136 4 rfl ?_
        refine aw_icmp_ge (tgt := 148) X dX8_explained_138 (by decide) (fun c => ?_) (fun c => ?_)
        · have h := h.1 c
          obtain ⟨v6, ev6⟩ : ∃ y : Int32, y = x5 + 1 := ⟨_, rfl⟩
          have h := h v6 ev6
          refine aw_iinc (v := v6) (lv' := [(5, .int v6), (0, .ref (eA E 74)), (1, .int p1), (2, .int p2), (3, .int x3), (4, .int x4), (6, .int x6), (7, .int x7)]) X dX8_explained_148 5 rfl (by rw [ev6]; rfl) (by decide) rfl ?_
          refine aw_goto (tgt := 41) X dX8_explained_151 (by decide) ?_
          exact aw_sub [1, 2, 3, 4, 5, 0] rfl (hZ41 _ _ _ _ h)
        · have h := h.2 c
          refine aw_iload X dX8_explained_141 5 rfl ?_
          refine aw_istore_n (lv' := [(3, .int x5), (0, .ref (eA E 74)), (1, .int p1), (2, .int p2), (4, .int x4), (5, .int x5), (6, .int x6), (7, .int x7)]) X dX8_explained_143 (by decide) rfl ?_
          refine aw_iload X dX8_explained_144 6 rfl ?_
          refine aw_istore (lv' := [(4, .int x6), (3, .int x5), (0, .ref (eA E 74)), (1, .int p1), (2, .int p2), (5, .int x5), (6, .int x6), (7, .int x7)]) X dX8_explained_146 (by decide) rfl ?_
          obtain ⟨v7, ev7⟩ : ∃ y : Int32, y = x5 + 1 := ⟨_, rfl⟩
          have h := h v7 ev7
          refine aw_iinc (v := v7) (lv' := [(5, .int v7), (4, .int x6), (3, .int x5), (0, .ref (eA E 74)), (1, .int p1), (2, .int p2), (6, .int x6), (7, .int x7)]) X dX8_explained_148 5 rfl (by rw [ev7]; rfl) (by decide) rfl ?_
          refine aw_goto (tgt := 41) X dX8_explained_151 (by decide) ?_
          exact aw_sub [3, 4, 5, 2, 1, 0] rfl (hZ41 _ _ _ _ h)
    · have h := h.2 c
      refine aw_aload_n X dX8_explained_65 0 rfl ?_
      refine aw_get X dX8_explained_66 (X.lt (by decide)) (sh_12 (rfl : tp 74 = 12) _) fl_RX8_25 rfl ?_
      refine aw_bipush (v := 24) X dX8_explained_69 (by decide) ?_
      refine aw_iload_n X dX8_explained_71 1 rfl ?_
      refine aw_imul X dX8_explained_72 ?_
      refine aw_iload X dX8_explained_73 7 rfl ?_
      refine aw_iadd X dX8_explained_75 ?_
      obtain ⟨hin, h⟩ := h
      refine aw_iald X dX8_explained_76 (X.lt (by decide)) (sh_ia 96 (rfl : tp 80 = 1096) _) hin ?_
      refine aw_top (fun v8 ev8 => ?_)
      have h := h v8 ev8
      refine aw_istore (lv' := [(8, .int v8), (0, .ref (eA E 74)), (1, .int p1), (2, .int p2), (3, .int x3), (4, .int x4), (5, .int x5), (6, .int x6), (7, .int x7)]) X dX8_explained_77 (by decide) rfl ?_
      refine aw_iload X dX8_explained_79 0 rfl ?_
      refine aw_ldc (v := (-1000000005)) X dX8_explained_81 kw1249 ?_
      refine aw_icmp_ne (tgt := 90) X dX8_explained_83 (by decide) (fun c => ?_) (fun c => ?_)
      · have h := h.1 c
        refine aw_iload X dX8_explained_90 0 rfl ?_
        refine aw_aload_n X dX8_explained_92 1 rfl ?_
        refine aw_bipush (v := 10) X dX8_explained_93 (by decide) ?_
        refine aw_iload X dX8_explained_95 8 rfl ?_
        refine aw_imul X dX8_explained_97 ?_
        refine aw_iload X dX8_explained_98 6 rfl ?_
        refine ca_i X (rn_v X [.int (10 * x7), .int x5] [.int v8] (X.lt (by decide)) (sh_12 (rfl : tp 74 = 12) _) rfl rfl kw1394 kw95 (c_X8_waterBehind h) cal_yX8_waterBehind kw1392 (Nat.le_of_ble_eq_true rfl) rfl rfl (Nat.le_of_ble_eq_true rfl) dX8_explained_100) (fun M9 r10 h => ?_)
        refine aw_isub X dX8_explained_103 ?_
        exact aw_sub [1, 2, 3, 4, 5, 6, 7, 8] rfl (lb_X8_explained_104 X p1 p2 hZ41 ih _ _ _ _ _ _ _ h)
      · have h := h.2 c
        refine aw_iconst (v := 0) X dX8_explained_86 (by decide) ?_
        refine aw_goto (tgt := 104) X dX8_explained_87 (by decide) ?_
        exact aw_sub [1, 2, 3, 4, 5, 6, 7, 8] rfl (lb_X8_explained_104 X p1 p2 hZ41 ih _ _ _ _ _ _ _ h)
def wl_X8_explained_41 (n : Nat) (p1 : Int32) (p2 : Int32)  (K : Mm → Int32 → Prop) : Nat → Mm → Int32 → Int32 → Int32 → Prop
  | 0, _, _, _, _ => False
  | k + 1, M, x3, x4, x5 => (60 < x5 → (¬ p2 = 0 → K M x4) ∧ (p2 = 0 → K M x3)) ∧ (¬ 60 < x5 → ∃ kf : Nat, wl_X8_explained_54 n p1 p2 (fun M x3 x4 x5 => wl_X8_explained_41 n p1 p2 K k M x3 x4 x5) K kf M x3 x4 x5 0 0)
set_option maxHeartbeats 4000000 in
set_option maxRecDepth 100000 in
theorem lw_X8_explained_41 {g : Gm} {E : En} {A : Nat → Prop} {K : Mm → Int32 → Prop} (X : CX g cX8_explained RX8 (some .int) 2 E A 10) (p1 : Int32) (p2 : Int32)   : ∀ (k : Nat) (M : Mm) (x3 : Int32) (x4 : Int32) (x5 : Int32), wl_X8_explained_41 (eN E) p1 p2  K k M x3 x4 x5 → AW g E A 10 (MQ (gB g) (QI E K A) (gA g) (gS g) (gk g) (gn g) A) 41 [(0, .ref (eA E 74)), (1, .int p1), (2, .int p2), (3, .int x3), (4, .int x4), (5, .int x5)] [] M := by
  intro k
  induction k with
  | zero => intro M x3 x4 x5 h; exact h.elim
  | succ k ih =>
    intro M x3 x4 x5 h
    rw [wl_X8_explained_41] at h
    refine aw_iload X dX8_explained_41 5 rfl ?_
    refine aw_bipush (v := 60) X dX8_explained_43 (by decide) ?_
    refine aw_icmp_gt (tgt := 154) X dX8_explained_45 (by decide) (fun c => ?_) (fun c => ?_)
    · have h := h.1 c
      refine aw_iload_n X dX8_explained_154 2 rfl ?_
      refine aw_if_ne (tgt := 162) X dX8_explained_155 (by decide) (fun c => ?_) (fun c => ?_)
      · have h := h.1 c
        refine aw_iload X dX8_explained_162 4 rfl ?_
        exact aw_iret X dX8_explained_164 h
      · have h := h.2 c
        refine aw_iload_n X dX8_explained_158 3 rfl ?_
        refine aw_goto (tgt := 164) X dX8_explained_159 (by decide) ?_
        exact aw_iret X dX8_explained_164 h
    · have h := h.2 c
      refine aw_iconst (v := 0) X dX8_explained_48 (by decide) ?_
      refine aw_istore (lv' := [(6, .int 0), (0, .ref (eA E 74)), (1, .int p1), (2, .int p2), (3, .int x3), (4, .int x4), (5, .int x5)]) X dX8_explained_49 (by decide) rfl ?_
      refine aw_iconst (v := 0) X dX8_explained_51 (by decide) ?_
      refine aw_istore (lv' := [(7, .int 0), (6, .int 0), (0, .ref (eA E 74)), (1, .int p1), (2, .int p2), (3, .int x3), (4, .int x4), (5, .int x5)]) X dX8_explained_52 (by decide) rfl ?_
      obtain ⟨kf, h⟩ := h
      exact aw_sub [2, 3, 4, 5, 6, 7, 1, 0] rfl (lw_X8_explained_54 X p1 p2 ih kf _ _ _ _ _ _ h)
def wp_X8_explained (n : Nat)  (M : Mm) (p1 : Int32) (p2 : Int32) (K : Mm → Int32 → Prop) : Prop := wp_X8_isSheet n M p1 (fun M1 r2 => (r2 = 0 → K M1 (-1000000001)) ∧ (¬ r2 = 0 → wp_X8_isIn n M1 p2.toInt64 0 1 (fun M3 r4 => (¬ r4 = 0 → vp_in p1 4 ∧ ((0 ≤ (M3 78 p1.toNatClampNeg) → ∃ kf : Nat, wl_X8_explained_41 n p1 p2 K kf M3 0 0 1) ∧ (¬ 0 ≤ (M3 78 p1.toNatClampNeg) → K M3 (-1000000011)))) ∧ (r4 = 0 → K M3 (-1000000001)))))
set_option maxHeartbeats 4000000 in
set_option maxRecDepth 100000 in
theorem c_X8_explained {l : Launch} {E : En} {M : Mm} {p1 : Int32} {p2 : Int32} {K : Mm → Int32 → Prop}  (h : wp_X8_explained (eN E)  M p1 p2 K) : Ctr l E yX8_explained cX8_explained 10 (some .int) 2 [.ref (eA E 74), .int p1, .int p2] M (QI E K) := by
  refine Ctr.of (by decide +kernel) (Nat.le_of_ble_eq_true rfl) (fun g A hgl X => ?_)
  subst hgl
  have X : CX g cX8_explained RX8 (some .int) 2 E A 10 := X
  show AW g E A 10 _ 0 [(0, .ref (eA E 74)), (1, .int p1), (2, .int p2)] [] M
  unfold wp_X8_explained at h
  refine aw_iload_n X dX8_explained_0 1 rfl ?_
  refine ca_i X (rn_s X [.int p1] [] kw1372 (c_X8_isSheet h) cal_yX8_isSheet kw1371 (Nat.le_of_ble_eq_true rfl) rfl rfl (Nat.le_of_ble_eq_true rfl) dX8_explained_1) (fun M1 r2 h => ?_)
  refine aw_if_eq (tgt := 17) X dX8_explained_4 (by decide) (fun c => ?_) (fun c => ?_)
  · have h := h.1 c
    refine aw_ldc (v := (-1000000001)) X dX8_explained_17 kw1084 ?_
    exact aw_iret X dX8_explained_19 h
  · have h := h.2 c
    refine aw_iload_n X dX8_explained_7 2 rfl ?_
    refine aw_i2l X dX8_explained_8 ?_
    refine aw_lconst (v := 0) X dX8_explained_9 (by decide) ?_
    refine aw_lconst (v := 1) X dX8_explained_10 (by decide) ?_
    refine ca_i X (rn_s X [.long p2.toInt64, .long 0, .long 1] [] kw1079 (c_X8_isIn h) cal_yX8_isIn kw1078 (Nat.le_of_ble_eq_true rfl) rfl rfl (Nat.le_of_ble_eq_true rfl) dX8_explained_11) (fun M3 r4 h => ?_)
    refine aw_if_ne (tgt := 20) X dX8_explained_14 (by decide) (fun c => ?_) (fun c => ?_)
    · have h := h.1 c
      refine aw_aload_n X dX8_explained_20 0 rfl ?_
      refine aw_get X dX8_explained_21 (X.lt (by decide)) (sh_12 (rfl : tp 74 = 12) _) fl_RX8_19 rfl ?_
      refine aw_iload_n X dX8_explained_24 1 rfl ?_
      obtain ⟨hin, h⟩ := h
      refine aw_iald X dX8_explained_25 (X.lt (by decide)) (sh_ia 4 (rfl : tp 78 = 1004) _) hin ?_
      refine aw_if_ge (tgt := 33) X dX8_explained_26 (by decide) (fun c => ?_) (fun c => ?_)
      · have h := h.1 c
        refine aw_iconst (v := 0) X dX8_explained_33 (by decide) ?_
        refine aw_istore_n (lv' := [(3, .int 0), (0, .ref (eA E 74)), (1, .int p1), (2, .int p2)]) X dX8_explained_34 (by decide) rfl ?_
        refine aw_iconst (v := 0) X dX8_explained_35 (by decide) ?_
        refine aw_istore (lv' := [(4, .int 0), (3, .int 0), (0, .ref (eA E 74)), (1, .int p1), (2, .int p2)]) X dX8_explained_36 (by decide) rfl ?_
        refine aw_iconst (v := 1) X dX8_explained_38 (by decide) ?_
        refine aw_istore (lv' := [(5, .int 1), (4, .int 0), (3, .int 0), (0, .ref (eA E 74)), (1, .int p1), (2, .int p2)]) X dX8_explained_39 (by decide) rfl ?_
        obtain ⟨kf, h⟩ := h
        exact aw_sub [3, 4, 5, 2, 1, 0] rfl (lw_X8_explained_41 X p1 p2  kf _ _ _ _ h)
      · have h := h.2 c
        refine aw_ldc_w (v := (-1000000011)) X dX8_explained_29 kw1380 ?_
        exact aw_iret X dX8_explained_32 h
    · have h := h.2 c
      refine aw_ldc (v := (-1000000001)) X dX8_explained_17 kw1084 ?_
      exact aw_iret X dX8_explained_19 h
def wl_X8_copy_150 (n : Nat) (p1 : Int32) (p2 : Int32) (p3 : Int32) (p4 : Int32) (p5 : Int32)  (K : Mm → Int32 → Prop) : Nat → Mm → Int32 → Prop
  | 0, _, _ => False
  | k + 1, M, x6 => (p5 ≤ x6 → K M p5) ∧ (¬ p5 ≤ x6 → vp_in x6 24 ∧ (vp_in (((24 * p3) + p4) + x6) 96 ∧ (∀ M7 : Mm, M7 = wr M 80 (((24 * p3) + p4) + x6).toNatClampNeg (M 91 x6.toNatClampNeg) → ∀ v8 : Int32, v8 = x6 + 1 → wl_X8_copy_150 n p1 p2 p3 p4 p5 K k M7 v8)))
set_option maxHeartbeats 4000000 in
set_option maxRecDepth 100000 in
theorem lw_X8_copy_150 {g : Gm} {E : En} {A : Nat → Prop} {K : Mm → Int32 → Prop} (X : CX g cX8_copy RX8 (some .int) 2 E A 7) (p1 : Int32) (p2 : Int32) (p3 : Int32) (p4 : Int32) (p5 : Int32)   : ∀ (k : Nat) (M : Mm) (x6 : Int32), wl_X8_copy_150 (eN E) p1 p2 p3 p4 p5  K k M x6 → AW g E A 7 (MQ (gB g) (QI E K A) (gA g) (gS g) (gk g) (gn g) A) 150 [(0, .ref (eA E 74)), (3, .int p3), (4, .int p4), (5, .int p5), (6, .int x6)] [] M := by
  intro k
  induction k with
  | zero => intro M x6 h; exact h.elim
  | succ k ih =>
    intro M x6 h
    rw [wl_X8_copy_150] at h
    refine aw_iload X dX8_copy_150 4 rfl ?_
    refine aw_iload X dX8_copy_152 3 rfl ?_
    refine aw_icmp_ge (tgt := 185) X dX8_copy_154 (by decide) (fun c => ?_) (fun c => ?_)
    · have h := h.1 c
      refine aw_iload X dX8_copy_185 3 rfl ?_
      exact aw_iret X dX8_copy_187 h
    · have h := h.2 c
      refine aw_aload_n X dX8_copy_157 0 rfl ?_
      refine aw_get X dX8_copy_158 (X.lt (by decide)) (sh_12 (rfl : tp 74 = 12) _) fl_RX8_25 rfl ?_
      refine aw_bipush (v := 24) X dX8_copy_161 (by decide) ?_
      refine aw_iload_n X dX8_copy_163 1 rfl ?_
      refine aw_imul X dX8_copy_164 ?_
      refine aw_iload X dX8_copy_165 2 rfl ?_
      refine aw_iadd X dX8_copy_167 ?_
      refine aw_iload X dX8_copy_168 4 rfl ?_
      refine aw_iadd X dX8_copy_170 ?_
      refine aw_aload_n X dX8_copy_171 0 rfl ?_
      refine aw_get X dX8_copy_172 (X.lt (by decide)) (sh_12 (rfl : tp 74 = 12) _) fl_RX8_62 rfl ?_
      refine aw_iload X dX8_copy_175 4 rfl ?_
      obtain ⟨hin, h⟩ := h
      refine aw_iald X dX8_copy_177 (X.lt (by decide)) (sh_ia 24 (rfl : tp 91 = 1024) _) hin ?_
      obtain ⟨hin, h⟩ := h
      refine aw_iast X dX8_copy_178 (X.lt (by decide)) (sh_ia 96 (rfl : tp 80 = 1096) _) (sh_ia 96 (rfl : tp 80 = 1096) _) hin (fun M7 eM7 => ?_)
      have h := h M7 eM7
      obtain ⟨v8, ev8⟩ : ∃ y : Int32, y = x6 + 1 := ⟨_, rfl⟩
      have h := h v8 ev8
      refine aw_iinc (v := v8) (lv' := [(6, .int v8), (0, .ref (eA E 74)), (3, .int p3), (4, .int p4), (5, .int p5)]) X dX8_copy_179 4 rfl (by rw [ev8]; rfl) (by decide) rfl ?_
      refine aw_goto (tgt := 150) X dX8_copy_182 (by decide) ?_
      exact aw_sub [1, 2, 3, 4, 0] rfl (ih _ _ h)
def wl_X8_copy_113 (n : Nat) (p1 : Int32) (p2 : Int32) (p3 : Int32) (p4 : Int32) (p5 : Int32)  (K : Mm → Int32 → Prop) : Nat → Mm → Int32 → Prop
  | 0, _, _ => False
  | k + 1, M, x6 => (p5 ≤ x6 → ∃ kf : Nat, wl_X8_copy_150 n p1 p2 p3 p4 p5 K kf M 0) ∧ (¬ p5 ≤ x6 → vp_in (((24 * p1) + p2) + x6) 96 ∧ (vp_in x6 24 ∧ (∀ M5 : Mm, M5 = wr M 91 x6.toNatClampNeg (M 80 (((24 * p1) + p2) + x6).toNatClampNeg) → ∀ v6 : Int32, v6 = x6 + 1 → wl_X8_copy_113 n p1 p2 p3 p4 p5 K k M5 v6)))
set_option maxHeartbeats 4000000 in
set_option maxRecDepth 100000 in
theorem lw_X8_copy_113 {g : Gm} {E : En} {A : Nat → Prop} {K : Mm → Int32 → Prop} (X : CX g cX8_copy RX8 (some .int) 2 E A 7) (p1 : Int32) (p2 : Int32) (p3 : Int32) (p4 : Int32) (p5 : Int32)   : ∀ (k : Nat) (M : Mm) (x6 : Int32), wl_X8_copy_113 (eN E) p1 p2 p3 p4 p5  K k M x6 → AW g E A 7 (MQ (gB g) (QI E K A) (gA g) (gS g) (gk g) (gn g) A) 113 [(0, .ref (eA E 74)), (1, .int p1), (2, .int p2), (3, .int p3), (4, .int p4), (5, .int p5), (6, .int x6)] [] M := by
  intro k
  induction k with
  | zero => intro M x6 h; exact h.elim
  | succ k ih =>
    intro M x6 h
    rw [wl_X8_copy_113] at h
    refine aw_iload X dX8_copy_113 6 rfl ?_
    refine aw_iload X dX8_copy_115 5 rfl ?_
    refine aw_icmp_ge (tgt := 147) X dX8_copy_117 (by decide) (fun c => ?_) (fun c => ?_)
    · have h := h.1 c
      refine aw_iconst (v := 0) X dX8_copy_147 (by decide) ?_
      refine aw_istore (lv' := [(6, .int 0), (0, .ref (eA E 74)), (1, .int p1), (2, .int p2), (3, .int p3), (4, .int p4), (5, .int p5)]) X dX8_copy_148 (by decide) rfl ?_
      obtain ⟨kf, h⟩ := h
      exact aw_sub [1, 4, 5, 6, 0] rfl (lw_X8_copy_150 X p1 p2 p3 p4 p5  kf _ _ h)
    · have h := h.2 c
      refine aw_aload_n X dX8_copy_120 0 rfl ?_
      refine aw_get X dX8_copy_121 (X.lt (by decide)) (sh_12 (rfl : tp 74 = 12) _) fl_RX8_62 rfl ?_
      refine aw_iload X dX8_copy_124 6 rfl ?_
      refine aw_aload_n X dX8_copy_126 0 rfl ?_
      refine aw_get X dX8_copy_127 (X.lt (by decide)) (sh_12 (rfl : tp 74 = 12) _) fl_RX8_25 rfl ?_
      refine aw_bipush (v := 24) X dX8_copy_130 (by decide) ?_
      refine aw_iload_n X dX8_copy_132 1 rfl ?_
      refine aw_imul X dX8_copy_133 ?_
      refine aw_iload_n X dX8_copy_134 2 rfl ?_
      refine aw_iadd X dX8_copy_135 ?_
      refine aw_iload X dX8_copy_136 6 rfl ?_
      refine aw_iadd X dX8_copy_138 ?_
      obtain ⟨hin, h⟩ := h
      refine aw_iald X dX8_copy_139 (X.lt (by decide)) (sh_ia 96 (rfl : tp 80 = 1096) _) hin ?_
      obtain ⟨hin, h⟩ := h
      refine aw_iast X dX8_copy_140 (X.lt (by decide)) (sh_ia 24 (rfl : tp 91 = 1024) _) (sh_ia 24 (rfl : tp 91 = 1024) _) hin (fun M5 eM5 => ?_)
      have h := h M5 eM5
      obtain ⟨v6, ev6⟩ : ∃ y : Int32, y = x6 + 1 := ⟨_, rfl⟩
      have h := h v6 ev6
      refine aw_iinc (v := v6) (lv' := [(6, .int v6), (0, .ref (eA E 74)), (1, .int p1), (2, .int p2), (3, .int p3), (4, .int p4), (5, .int p5)]) X dX8_copy_141 6 rfl (by rw [ev6]; rfl) (by decide) rfl ?_
      refine aw_goto (tgt := 113) X dX8_copy_144 (by decide) ?_
      exact aw_sub [1, 2, 3, 4, 5, 6, 0] rfl (ih _ _ h)
def wp_X8_copy (n : Nat)  (M : Mm) (p1 : Int32) (p2 : Int32) (p3 : Int32) (p4 : Int32) (p5 : Int32) (K : Mm → Int32 → Prop) : Prop := wp_X8_isSheet n M p1 (fun M1 r2 => (r2 = 0 → K M1 (-1000000001)) ∧ (¬ r2 = 0 → wp_X8_isSheet n M1 p3 (fun M3 r4 => (¬ r4 = 0 → vp_in p1 4 ∧ (((M3 78 p1.toNatClampNeg) < 0 → K M3 (-1000000011)) ∧ (¬ (M3 78 p1.toNatClampNeg) < 0 → vp_in p3 4 ∧ ((0 ≤ (M3 78 p3.toNatClampNeg) → vp_in p1 4 ∧ (vp_in p3 4 ∧ (((M3 78 p1.toNatClampNeg) = (M3 78 p3.toNatClampNeg) → (p2 < 0 → K M3 (-1000000013)) ∧ (¬ p2 < 0 → (p4 < 0 → K M3 (-1000000013)) ∧ (¬ p4 < 0 → (p5 < 0 → K M3 (-1000000013)) ∧ (¬ p5 < 0 → vp_in p1 4 ∧ ((0 < (lg_cmp (p2.toInt64 + p5.toInt64) ((M3 79 p1.toNatClampNeg).toInt64)) → K M3 (-1000000013)) ∧ (¬ 0 < (lg_cmp (p2.toInt64 + p5.toInt64) ((M3 79 p1.toNatClampNeg).toInt64)) → vp_in p3 4 ∧ (((lg_cmp (p4.toInt64 + p5.toInt64) ((M3 79 p3.toNatClampNeg).toInt64)) ≤ 0 → ∃ kf : Nat, wl_X8_copy_113 n p1 p2 p3 p4 p5 K kf M3 0) ∧ (¬ (lg_cmp (p4.toInt64 + p5.toInt64) ((M3 79 p3.toNatClampNeg).toInt64)) ≤ 0 → K M3 (-1000000013))))))))) ∧ (¬ (M3 78 p1.toNatClampNeg) = (M3 78 p3.toNatClampNeg) → K M3 (-1000000012))))) ∧ (¬ 0 ≤ (M3 78 p3.toNatClampNeg) → K M3 (-1000000011)))))) ∧ (r4 = 0 → K M3 (-1000000001)))))
set_option maxHeartbeats 4000000 in
set_option maxRecDepth 100000 in
theorem c_X8_copy {l : Launch} {E : En} {M : Mm} {p1 : Int32} {p2 : Int32} {p3 : Int32} {p4 : Int32} {p5 : Int32} {K : Mm → Int32 → Prop}  (h : wp_X8_copy (eN E)  M p1 p2 p3 p4 p5 K) : Ctr l E yX8_copy cX8_copy 7 (some .int) 2 [.ref (eA E 74), .int p1, .int p2, .int p3, .int p4, .int p5] M (QI E K) := by
  refine Ctr.of (by decide +kernel) (Nat.le_of_ble_eq_true rfl) (fun g A hgl X => ?_)
  subst hgl
  have X : CX g cX8_copy RX8 (some .int) 2 E A 7 := X
  show AW g E A 7 _ 0 [(0, .ref (eA E 74)), (1, .int p1), (2, .int p2), (3, .int p3), (4, .int p4), (5, .int p5)] [] M
  unfold wp_X8_copy at h
  refine aw_iload_n X dX8_copy_0 1 rfl ?_
  refine ca_i X (rn_s X [.int p1] [] kw1372 (c_X8_isSheet h) cal_yX8_isSheet kw1371 (Nat.le_of_ble_eq_true rfl) rfl rfl (Nat.le_of_ble_eq_true rfl) dX8_copy_1) (fun M1 r2 h => ?_)
  refine aw_if_eq (tgt := 14) X dX8_copy_4 (by decide) (fun c => ?_) (fun c => ?_)
  · have h := h.1 c
    refine aw_ldc (v := (-1000000001)) X dX8_copy_14 kw1084 ?_
    exact aw_iret X dX8_copy_16 h
  · have h := h.2 c
    refine aw_iload_n X dX8_copy_7 3 rfl ?_
    refine ca_i X (rn_s X [.int p3] [] kw1372 (c_X8_isSheet h) cal_yX8_isSheet kw1371 (Nat.le_of_ble_eq_true rfl) rfl rfl (Nat.le_of_ble_eq_true rfl) dX8_copy_8) (fun M3 r4 h => ?_)
    refine aw_if_ne (tgt := 17) X dX8_copy_11 (by decide) (fun c => ?_) (fun c => ?_)
    · have h := h.1 c
      refine aw_aload_n X dX8_copy_17 0 rfl ?_
      refine aw_get X dX8_copy_18 (X.lt (by decide)) (sh_12 (rfl : tp 74 = 12) _) fl_RX8_19 rfl ?_
      refine aw_iload_n X dX8_copy_21 1 rfl ?_
      obtain ⟨hin, h⟩ := h
      refine aw_iald X dX8_copy_22 (X.lt (by decide)) (sh_ia 4 (rfl : tp 78 = 1004) _) hin ?_
      refine aw_if_lt (tgt := 35) X dX8_copy_23 (by decide) (fun c => ?_) (fun c => ?_)
      · have h := h.1 c
        refine aw_ldc_w (v := (-1000000011)) X dX8_copy_35 kw1380 ?_
        exact aw_iret X dX8_copy_38 h
      · have h := h.2 c
        refine aw_aload_n X dX8_copy_26 0 rfl ?_
        refine aw_get X dX8_copy_27 (X.lt (by decide)) (sh_12 (rfl : tp 74 = 12) _) fl_RX8_19 rfl ?_
        refine aw_iload_n X dX8_copy_30 3 rfl ?_
        obtain ⟨hin, h⟩ := h
        refine aw_iald X dX8_copy_31 (X.lt (by decide)) (sh_ia 4 (rfl : tp 78 = 1004) _) hin ?_
        refine aw_if_ge (tgt := 39) X dX8_copy_32 (by decide) (fun c => ?_) (fun c => ?_)
        · have h := h.1 c
          refine aw_aload_n X dX8_copy_39 0 rfl ?_
          refine aw_get X dX8_copy_40 (X.lt (by decide)) (sh_12 (rfl : tp 74 = 12) _) fl_RX8_19 rfl ?_
          refine aw_iload_n X dX8_copy_43 1 rfl ?_
          obtain ⟨hin, h⟩ := h
          refine aw_iald X dX8_copy_44 (X.lt (by decide)) (sh_ia 4 (rfl : tp 78 = 1004) _) hin ?_
          refine aw_aload_n X dX8_copy_45 0 rfl ?_
          refine aw_get X dX8_copy_46 (X.lt (by decide)) (sh_12 (rfl : tp 74 = 12) _) fl_RX8_19 rfl ?_
          refine aw_iload_n X dX8_copy_49 3 rfl ?_
          obtain ⟨hin, h⟩ := h
          refine aw_iald X dX8_copy_50 (X.lt (by decide)) (sh_ia 4 (rfl : tp 78 = 1004) _) hin ?_
          refine aw_icmp_eq (tgt := 57) X dX8_copy_51 (by decide) (fun c => ?_) (fun c => ?_)
          · have h := h.1 c
            refine aw_iload_n X dX8_copy_57 2 rfl ?_
            refine aw_if_lt (tgt := 106) X dX8_copy_58 (by decide) (fun c => ?_) (fun c => ?_)
            · have h := h.1 c
              refine aw_ldc_w (v := (-1000000013)) X dX8_copy_106 kw1381 ?_
              exact aw_iret X dX8_copy_109 h
            · have h := h.2 c
              refine aw_iload X dX8_copy_61 4 rfl ?_
              refine aw_if_lt (tgt := 106) X dX8_copy_63 (by decide) (fun c => ?_) (fun c => ?_)
              · have h := h.1 c
                refine aw_ldc_w (v := (-1000000013)) X dX8_copy_106 kw1381 ?_
                exact aw_iret X dX8_copy_109 h
              · have h := h.2 c
                refine aw_iload X dX8_copy_66 5 rfl ?_
                refine aw_if_lt (tgt := 106) X dX8_copy_68 (by decide) (fun c => ?_) (fun c => ?_)
                · have h := h.1 c
                  refine aw_ldc_w (v := (-1000000013)) X dX8_copy_106 kw1381 ?_
                  exact aw_iret X dX8_copy_109 h
                · have h := h.2 c
                  refine aw_iload_n X dX8_copy_71 2 rfl ?_
                  refine aw_i2l X dX8_copy_72 ?_
                  refine aw_iload X dX8_copy_73 5 rfl ?_
                  refine aw_i2l X dX8_copy_75 ?_
                  refine aw_ladd X dX8_copy_76 ?_
                  refine aw_aload_n X dX8_copy_77 0 rfl ?_
                  refine aw_get X dX8_copy_78 (X.lt (by decide)) (sh_12 (rfl : tp 74 = 12) _) fl_RX8_22 rfl ?_
                  refine aw_iload_n X dX8_copy_81 1 rfl ?_
                  obtain ⟨hin, h⟩ := h
                  refine aw_iald X dX8_copy_82 (X.lt (by decide)) (sh_ia 4 (rfl : tp 79 = 1004) _) hin ?_
                  refine aw_i2l X dX8_copy_83 ?_
                  refine aw_lcmp X dX8_copy_84 ?_
                  refine aw_if_gt (tgt := 106) X dX8_copy_85 (by decide) (fun c => ?_) (fun c => ?_)
                  · have h := h.1 c
                    refine aw_ldc_w (v := (-1000000013)) X dX8_copy_106 kw1381 ?_
                    exact aw_iret X dX8_copy_109 h
                  · have h := h.2 c
                    refine aw_iload X dX8_copy_88 4 rfl ?_
                    refine aw_i2l X dX8_copy_90 ?_
                    refine aw_iload X dX8_copy_91 5 rfl ?_
                    refine aw_i2l X dX8_copy_93 ?_
                    refine aw_ladd X dX8_copy_94 ?_
                    refine aw_aload_n X dX8_copy_95 0 rfl ?_
                    refine aw_get X dX8_copy_96 (X.lt (by decide)) (sh_12 (rfl : tp 74 = 12) _) fl_RX8_22 rfl ?_
                    refine aw_iload_n X dX8_copy_99 3 rfl ?_
                    obtain ⟨hin, h⟩ := h
                    refine aw_iald X dX8_copy_100 (X.lt (by decide)) (sh_ia 4 (rfl : tp 79 = 1004) _) hin ?_
                    refine aw_i2l X dX8_copy_101 ?_
                    refine aw_lcmp X dX8_copy_102 ?_
                    refine aw_if_le (tgt := 110) X dX8_copy_103 (by decide) (fun c => ?_) (fun c => ?_)
                    · have h := h.1 c
                      refine aw_iconst (v := 0) X dX8_copy_110 (by decide) ?_
                      refine aw_istore (lv' := [(6, .int 0), (0, .ref (eA E 74)), (1, .int p1), (2, .int p2), (3, .int p3), (4, .int p4), (5, .int p5)]) X dX8_copy_111 (by decide) rfl ?_
                      obtain ⟨kf, h⟩ := h
                      exact aw_sub [1, 2, 3, 4, 5, 6, 0] rfl (lw_X8_copy_113 X p1 p2 p3 p4 p5  kf _ _ h)
                    · have h := h.2 c
                      refine aw_ldc_w (v := (-1000000013)) X dX8_copy_106 kw1381 ?_
                      exact aw_iret X dX8_copy_109 h
          · have h := h.2 c
            refine aw_ldc (v := (-1000000012)) X dX8_copy_54 kw1148 ?_
            exact aw_iret X dX8_copy_56 h
        · have h := h.2 c
          refine aw_ldc_w (v := (-1000000011)) X dX8_copy_35 kw1380 ?_
          exact aw_iret X dX8_copy_38 h
    · have h := h.2 c
      refine aw_ldc (v := (-1000000001)) X dX8_copy_14 kw1084 ?_
      exact aw_iret X dX8_copy_16 h
def wp_X8_isSlot (n : Nat)  (M : Mm) (p0 : Int32) (K : Mm → Int32 → Prop) : Prop := wp_X8_isIn n M p0.toInt64 0 4 (fun M1 r2 => (r2 = 0 ∨ r2 = 1) ∧ K M1 r2)
set_option maxHeartbeats 4000000 in
set_option maxRecDepth 100000 in
theorem c_X8_isSlot {l : Launch} {E : En} {M : Mm} {p0 : Int32} {K : Mm → Int32 → Prop}  (h : wp_X8_isSlot (eN E)  M p0 K) : Ctr l E yX8_isSlot cX8_isSlot 1 (some .boolean) 1 [.int p0] M (QI E K) := by
  refine Ctr.of (by decide +kernel) (Nat.le_of_ble_eq_true rfl) (fun g A hgl X => ?_)
  subst hgl
  have X : CX g cX8_isSlot RX8 (some .boolean) 1 E A 1 := X
  show AW g E A 1 _ 0 [(0, .int p0)] [] M
  unfold wp_X8_isSlot at h
  refine aw_iload_n X dX8_isSlot_0 0 rfl ?_
  refine aw_i2l X dX8_isSlot_1 ?_
  refine aw_lconst (v := 0) X dX8_isSlot_2 (by decide) ?_
  refine aw_ldc2_w (v := 4) X dX8_isSlot_3 kw1161 ?_
  refine ca_i X (rn_s X [.long p0.toInt64, .long 0, .long 4] [] kw1079 (c_X8_isIn h) cal_yX8_isIn kw1078 (Nat.le_of_ble_eq_true rfl) rfl rfl (Nat.le_of_ble_eq_true rfl) dX8_isSlot_6) (fun M1 r2 h => ?_)
  exact aw_zret X dX8_isSlot_9 (nar_z h.1) h.2
def wl_X8_lay_150 (n : Nat) (p1 : Int32) (p2 : Int32) (p3 : Int32)  (K : Mm → Int32 → Prop) : Nat → Mm → Int32 → Int32 → Prop
  | 0, _, _, _ => False
  | k + 1, M, x5, x6 => (24 ≤ x6 → K M x5) ∧ (¬ 24 ≤ x6 → vp_in ((24 * p3) + x6) 96 ∧ (vp_in ((24 * p1) + x6) 120 ∧ (∀ M16 : Mm, M16 = wr M 85 ((24 * p1) + x6).toNatClampNeg (M 80 ((24 * p3) + x6).toNatClampNeg) → ∀ v17 : Int32, v17 = x6 + 1 → wl_X8_lay_150 n p1 p2 p3 K k M16 x5 v17)))
set_option maxHeartbeats 4000000 in
set_option maxRecDepth 100000 in
theorem lw_X8_lay_150 {g : Gm} {E : En} {A : Nat → Prop} {K : Mm → Int32 → Prop} (X : CX g cX8_lay RX8 (some .int) 2 E A 7) (p1 : Int32) (p2 : Int32) (p3 : Int32)   : ∀ (k : Nat) (M : Mm) (x5 : Int32) (x6 : Int32), wl_X8_lay_150 (eN E) p1 p2 p3  K k M x5 x6 → AW g E A 7 (MQ (gB g) (QI E K A) (gA g) (gS g) (gk g) (gn g) A) 150 [(0, .ref (eA E 74)), (1, .int p1), (3, .int p3), (5, .int x5), (6, .int x6)] [] M := by
  intro k
  induction k with
  | zero => intro M x5 x6 h; exact h.elim
  | succ k ih =>
    intro M x5 x6 h
    rw [wl_X8_lay_150] at h
    refine aw_iload X dX8_lay_150 4 rfl ?_
    refine aw_bipush (v := 24) X dX8_lay_152 (by decide) ?_
    refine aw_icmp_ge (tgt := 187) X dX8_lay_154 (by decide) (fun c => ?_) (fun c => ?_)
    · have h := h.1 c
      refine aw_iload X dX8_lay_187 3 rfl ?_
      exact aw_iret X dX8_lay_189 h
    · have h := h.2 c
      refine aw_aload_n X dX8_lay_157 0 rfl ?_
      refine aw_get X dX8_lay_158 (X.lt (by decide)) (sh_12 (rfl : tp 74 = 12) _) fl_RX8_40 rfl ?_
      refine aw_bipush (v := 24) X dX8_lay_161 (by decide) ?_
      refine aw_iload_n X dX8_lay_163 1 rfl ?_
      refine aw_imul X dX8_lay_164 ?_
      refine aw_iload X dX8_lay_165 4 rfl ?_
      refine aw_iadd X dX8_lay_167 ?_
      refine aw_aload_n X dX8_lay_168 0 rfl ?_
      refine aw_get X dX8_lay_169 (X.lt (by decide)) (sh_12 (rfl : tp 74 = 12) _) fl_RX8_25 rfl ?_
      refine aw_bipush (v := 24) X dX8_lay_172 (by decide) ?_
      refine aw_iload_n X dX8_lay_174 2 rfl ?_
      refine aw_imul X dX8_lay_175 ?_
      refine aw_iload X dX8_lay_176 4 rfl ?_
      refine aw_iadd X dX8_lay_178 ?_
      obtain ⟨hin, h⟩ := h
      refine aw_iald X dX8_lay_179 (X.lt (by decide)) (sh_ia 96 (rfl : tp 80 = 1096) _) hin ?_
      obtain ⟨hin, h⟩ := h
      refine aw_iast X dX8_lay_180 (X.lt (by decide)) (sh_ia 120 (rfl : tp 85 = 1120) _) (sh_ia 120 (rfl : tp 85 = 1120) _) hin (fun M16 eM16 => ?_)
      have h := h M16 eM16
      obtain ⟨v17, ev17⟩ : ∃ y : Int32, y = x6 + 1 := ⟨_, rfl⟩
      have h := h v17 ev17
      refine aw_iinc (v := v17) (lv' := [(6, .int v17), (0, .ref (eA E 74)), (1, .int p1), (3, .int p3), (5, .int x5)]) X dX8_lay_181 4 rfl (by rw [ev17]; rfl) (by decide) rfl ?_
      refine aw_goto (tgt := 150) X dX8_lay_184 (by decide) ?_
      exact aw_sub [1, 2, 3, 4, 0] rfl (ih _ _ _ h)
def wb_X8_lay_129 (n : Nat) (p1 : Int32) (p2 : Int32) (p3 : Int32)  (K : Mm → Int32 → Prop) (M : Mm) (x5 : Int32) (s0 : Int32) (s1 : Int32) : Prop := vp_in s1 5 ∧ (∀ M14 : Mm, M14 = wr M 83 s1.toNatClampNeg s0 → (¬ p2 = 2 → K M14 x5) ∧ (p2 = 2 → vp_in p3 4 ∧ (vp_in p1 5 ∧ (∀ M15 : Mm, M15 = wr M14 84 p1.toNatClampNeg (M14 79 p3.toNatClampNeg) → ∃ kf : Nat, wl_X8_lay_150 n p1 p2 p3 K kf M15 x5 0))))
set_option maxHeartbeats 4000000 in
set_option maxRecDepth 100000 in
theorem lb_X8_lay_129 {g : Gm} {E : En} {A : Nat → Prop} {K : Mm → Int32 → Prop} (X : CX g cX8_lay RX8 (some .int) 2 E A 7) (p1 : Int32) (p2 : Int32) (p3 : Int32)   (M : Mm) (x5 : Int32) (s0 : Int32) (s1 : Int32) (h : wb_X8_lay_129 (eN E) p1 p2 p3  K M x5 s0 s1) : AW g E A 7 (MQ (gB g) (QI E K A) (gA g) (gS g) (gk g) (gn g) A) 129 [(0, .ref (eA E 74)), (1, .int p1), (2, .int p2), (3, .int p3), (5, .int x5)] [.int s0, .int s1, .ref (eA E 83)] M := by
  unfold wb_X8_lay_129 at h
  obtain ⟨hin, h⟩ := h
  refine aw_iast X dX8_lay_129 (X.lt (by decide)) (sh_ia 5 (rfl : tp 83 = 1005) _) (sh_ia 5 (rfl : tp 83 = 1005) _) hin (fun M14 eM14 => ?_)
  have h := h M14 eM14
  refine aw_iload_n X dX8_lay_130 2 rfl ?_
  refine aw_iconst (v := 2) X dX8_lay_131 (by decide) ?_
  refine aw_icmp_ne (tgt := 187) X dX8_lay_132 (by decide) (fun c => ?_) (fun c => ?_)
  · have h := h.1 c
    refine aw_iload X dX8_lay_187 4 rfl ?_
    exact aw_iret X dX8_lay_189 h
  · have h := h.2 c
    refine aw_aload_n X dX8_lay_135 0 rfl ?_
    refine aw_get X dX8_lay_136 (X.lt (by decide)) (sh_12 (rfl : tp 74 = 12) _) fl_RX8_37 rfl ?_
    refine aw_iload_n X dX8_lay_139 1 rfl ?_
    refine aw_aload_n X dX8_lay_140 0 rfl ?_
    refine aw_get X dX8_lay_141 (X.lt (by decide)) (sh_12 (rfl : tp 74 = 12) _) fl_RX8_22 rfl ?_
    refine aw_iload_n X dX8_lay_144 3 rfl ?_
    obtain ⟨hin, h⟩ := h
    refine aw_iald X dX8_lay_145 (X.lt (by decide)) (sh_ia 4 (rfl : tp 79 = 1004) _) hin ?_
    obtain ⟨hin, h⟩ := h
    refine aw_iast X dX8_lay_146 (X.lt (by decide)) (sh_ia 5 (rfl : tp 84 = 1005) _) (sh_ia 5 (rfl : tp 84 = 1005) _) hin (fun M15 eM15 => ?_)
    have h := h M15 eM15
    refine aw_iconst (v := 0) X dX8_lay_147 (by decide) ?_
    refine aw_istore (lv' := [(6, .int 0), (0, .ref (eA E 74)), (1, .int p1), (2, .int p2), (3, .int p3), (5, .int x5)]) X dX8_lay_148 (by decide) rfl ?_
    obtain ⟨kf, h⟩ := h
    exact aw_sub [1, 2, 4, 5, 0] rfl (lw_X8_lay_150 X p1 p2 p3  kf _ _ _ h)
def wb_X8_lay_109 (n : Nat) (p1 : Int32) (p2 : Int32) (p3 : Int32)  (K : Mm → Int32 → Prop) (M : Mm) (x5 : Int32) (s0 : Int32) (s1 : Int32) : Prop := vp_in s1 5 ∧ (∀ M11 : Mm, M11 = wr M 82 s1.toNatClampNeg s0 → (¬ p2 = 1 → wb_X8_lay_129 n p1 p2 p3 K M11 x5 0 p1) ∧ (p2 = 1 → wp_X8_worth n M11 p3 (fun M12 r13 => wb_X8_lay_129 n p1 p2 p3 K M12 x5 r13 p1)))
set_option maxHeartbeats 4000000 in
set_option maxRecDepth 100000 in
theorem lb_X8_lay_109 {g : Gm} {E : En} {A : Nat → Prop} {K : Mm → Int32 → Prop} (X : CX g cX8_lay RX8 (some .int) 2 E A 7) (p1 : Int32) (p2 : Int32) (p3 : Int32)   (M : Mm) (x5 : Int32) (s0 : Int32) (s1 : Int32) (h : wb_X8_lay_109 (eN E) p1 p2 p3  K M x5 s0 s1) : AW g E A 7 (MQ (gB g) (QI E K A) (gA g) (gS g) (gk g) (gn g) A) 109 [(0, .ref (eA E 74)), (1, .int p1), (2, .int p2), (3, .int p3), (5, .int x5)] [.int s0, .int s1, .ref (eA E 82)] M := by
  unfold wb_X8_lay_109 at h
  obtain ⟨hin, h⟩ := h
  refine aw_iast X dX8_lay_109 (X.lt (by decide)) (sh_ia 5 (rfl : tp 82 = 1005) _) (sh_ia 5 (rfl : tp 82 = 1005) _) hin (fun M11 eM11 => ?_)
  have h := h M11 eM11
  refine aw_aload_n X dX8_lay_110 0 rfl ?_
  refine aw_get X dX8_lay_111 (X.lt (by decide)) (sh_12 (rfl : tp 74 = 12) _) fl_RX8_34 rfl ?_
  refine aw_iload_n X dX8_lay_114 1 rfl ?_
  refine aw_iload_n X dX8_lay_115 2 rfl ?_
  refine aw_iconst (v := 1) X dX8_lay_116 (by decide) ?_
  refine aw_icmp_ne (tgt := 128) X dX8_lay_117 (by decide) (fun c => ?_) (fun c => ?_)
  · have h := h.1 c
    refine aw_iconst (v := 0) X dX8_lay_128 (by decide) ?_
    exact aw_sub [0, 1, 2, 3, 4] rfl (lb_X8_lay_129 X p1 p2 p3  _ _ _ _ h)
  · have h := h.2 c
    refine aw_aload_n X dX8_lay_120 0 rfl ?_
    refine aw_iload_n X dX8_lay_121 3 rfl ?_
    refine ca_i X (rn_v X [.int p3] [.int p1, .ref (eA E 83)] (X.lt (by decide)) (sh_12 (rfl : tp 74 = 12) _) rfl rfl kw1105 kw57 (c_X8_worth h) cal_yX8_worth kw1103 (Nat.le_of_ble_eq_true rfl) rfl rfl (Nat.le_of_ble_eq_true rfl) dX8_lay_122) (fun M12 r13 h => ?_)
    refine aw_goto (tgt := 129) X dX8_lay_125 (by decide) ?_
    exact aw_sub [0, 1, 2, 3, 4] rfl (lb_X8_lay_129 X p1 p2 p3  _ _ _ _ h)
def wb_X8_lay_74 (n : Nat) (p1 : Int32) (p2 : Int32) (p3 : Int32)  (K : Mm → Int32 → Prop) (M : Mm)  : Prop := vp_in p1 5 ∧ (∀ v7 : Int32, v7 = M 81 p1.toNatClampNeg → vp_in p1 5 ∧ (∀ M8 : Mm, M8 = wr M 81 p1.toNatClampNeg p2 → (¬ p2 = 1 → wb_X8_lay_109 n p1 p2 p3 K M8 v7 p3 p1) ∧ (p2 = 1 → wp_X8_of n M8 p3 0 (fun M9 r10 => wb_X8_lay_109 n p1 p2 p3 K M9 v7 r10 p1))))
set_option maxHeartbeats 4000000 in
set_option maxRecDepth 100000 in
theorem lb_X8_lay_74 {g : Gm} {E : En} {A : Nat → Prop} {K : Mm → Int32 → Prop} (X : CX g cX8_lay RX8 (some .int) 2 E A 7) (p1 : Int32) (p2 : Int32) (p3 : Int32)   (M : Mm)  (h : wb_X8_lay_74 (eN E) p1 p2 p3  K M ) : AW g E A 7 (MQ (gB g) (QI E K A) (gA g) (gS g) (gk g) (gn g) A) 74 [(0, .ref (eA E 74)), (1, .int p1), (2, .int p2), (3, .int p3)] [] M := by
  unfold wb_X8_lay_74 at h
  refine aw_aload_n X dX8_lay_74 0 rfl ?_
  refine aw_get X dX8_lay_75 (X.lt (by decide)) (sh_12 (rfl : tp 74 = 12) _) fl_RX8_28 rfl ?_
  refine aw_iload_n X dX8_lay_78 1 rfl ?_
  obtain ⟨hin, h⟩ := h
  refine aw_iald X dX8_lay_79 (X.lt (by decide)) (sh_ia 5 (rfl : tp 81 = 1005) _) hin ?_
  refine aw_top (fun v7 ev7 => ?_)
  have h := h v7 ev7
  refine aw_istore (lv' := [(5, .int v7), (0, .ref (eA E 74)), (1, .int p1), (2, .int p2), (3, .int p3)]) X dX8_lay_80 (by decide) rfl ?_
  refine aw_aload_n X dX8_lay_82 1 rfl ?_
  refine aw_get X dX8_lay_83 (X.lt (by decide)) (sh_12 (rfl : tp 74 = 12) _) fl_RX8_28 rfl ?_
  refine aw_iload_n X dX8_lay_86 2 rfl ?_
  refine aw_iload_n X dX8_lay_87 3 rfl ?_
  obtain ⟨hin, h⟩ := h
  refine aw_iast X dX8_lay_88 (X.lt (by decide)) (sh_ia 5 (rfl : tp 81 = 1005) _) (sh_ia 5 (rfl : tp 81 = 1005) _) hin (fun M8 eM8 => ?_)
  have h := h M8 eM8
  refine aw_aload_n X dX8_lay_89 1 rfl ?_
  refine aw_get X dX8_lay_90 (X.lt (by decide)) (sh_12 (rfl : tp 74 = 12) _) fl_RX8_31 rfl ?_
  refine aw_iload_n X dX8_lay_93 2 rfl ?_
  refine aw_iload_n X dX8_lay_94 3 rfl ?_
  refine aw_iconst (v := 1) X dX8_lay_95 (by decide) ?_
  refine aw_icmp_ne (tgt := 108) X dX8_lay_96 (by decide) (fun c => ?_) (fun c => ?_)
  · have h := h.1 c
    refine aw_iload_n X dX8_lay_108 4 rfl ?_
    exact aw_sub [1, 2, 3, 4, 0] rfl (lb_X8_lay_109 X p1 p2 p3  _ _ _ _ h)
  · have h := h.2 c
    refine aw_aload_n X dX8_lay_99 1 rfl ?_
    refine aw_iload_n X dX8_lay_100 4 rfl ?_
    refine aw_iconst (v := 0) X dX8_lay_101 (by decide) ?_
    refine ca_i X (rn_v X [.int p3, .int 0] [.int p1, .ref (eA E 82)] (X.lt (by decide)) (sh_12 (rfl : tp 74 = 12) _) rfl rfl kw1101 kw56 (c_X8_of h) cal_yX8_of kw1099 (Nat.le_of_ble_eq_true rfl) rfl rfl (Nat.le_of_ble_eq_true rfl) dX8_lay_102) (fun M9 r10 h => ?_)
    refine aw_goto (tgt := 109) X dX8_lay_105 (by decide) ?_
    exact aw_sub [1, 2, 3, 4, 0] rfl (lb_X8_lay_109 X p1 p2 p3  _ _ _ _ h)
def wb_X8_lay_39 (n : Nat) (p1 : Int32) (p2 : Int32) (p3 : Int32)  (K : Mm → Int32 → Prop) (M : Mm) (s0 : Int32) : Prop := wp_X8_isSlot n M p1 (fun M5 r6 => (r6 = 0 → K M5 (-1000000001)) ∧ (¬ r6 = 0 → (¬ s0 = 0 → (¬ p2 = 2 → wb_X8_lay_74 n p1 p2 p3 K M5 ) ∧ (p2 = 2 → vp_in p3 4 ∧ ((0 ≤ (M5 78 p3.toNatClampNeg) → wb_X8_lay_74 n p1 p2 p3 K M5 ) ∧ (¬ 0 ≤ (M5 78 p3.toNatClampNeg) → K M5 (-1000000011))))) ∧ (s0 = 0 → K M5 (-1000000001))))
set_option maxHeartbeats 4000000 in
set_option maxRecDepth 100000 in
theorem lb_X8_lay_39 {g : Gm} {E : En} {A : Nat → Prop} {K : Mm → Int32 → Prop} (X : CX g cX8_lay RX8 (some .int) 2 E A 7) (p1 : Int32) (p2 : Int32) (p3 : Int32)   (M : Mm) (s0 : Int32) (h : wb_X8_lay_39 (eN E) p1 p2 p3  K M s0) : AW g E A 7 (MQ (gB g) (QI E K A) (gA g) (gS g) (gk g) (gn g) A) 39 [(0, .ref (eA E 74)), (1, .int p1), (2, .int p2), (3, .int p3)] [.int s0] M := by
  unfold wb_X8_lay_39 at h
  refine aw_istore (lv' := [(4, .int s0), (0, .ref (eA E 74)), (1, .int p1), (2, .int p2), (3, .int p3)]) X dX8_lay_39 (by decide) rfl ?_
  refine aw_iload_n X dX8_lay_41 2 rfl ?_
  refine ca_i X (rn_s X [.int p1] [] kw1405 (c_X8_isSlot h) cal_yX8_isSlot kw1404 (Nat.le_of_ble_eq_true rfl) rfl rfl (Nat.le_of_ble_eq_true rfl) dX8_lay_42) (fun M5 r6 h => ?_)
  refine aw_if_eq (tgt := 53) X dX8_lay_45 (by decide) (fun c => ?_) (fun c => ?_)
  · have h := h.1 c
    refine aw_ldc (v := (-1000000001)) X dX8_lay_53 kw1084 ?_
    exact aw_iret X dX8_lay_55 h
  · have h := h.2 c
    refine aw_iload X dX8_lay_48 0 rfl ?_
    refine aw_if_ne (tgt := 56) X dX8_lay_50 (by decide) (fun c => ?_) (fun c => ?_)
    · have h := h.1 c
      refine aw_iload_n X dX8_lay_56 3 rfl ?_
      refine aw_iconst (v := 2) X dX8_lay_57 (by decide) ?_
      refine aw_icmp_ne (tgt := 74) X dX8_lay_58 (by decide) (fun c => ?_) (fun c => ?_)
      · have h := h.1 c
        exact aw_sub [1, 2, 3, 4] rfl (lb_X8_lay_74 X p1 p2 p3  _ h)
      · have h := h.2 c
        refine aw_aload_n X dX8_lay_61 1 rfl ?_
        refine aw_get X dX8_lay_62 (X.lt (by decide)) (sh_12 (rfl : tp 74 = 12) _) fl_RX8_19 rfl ?_
        refine aw_iload_n X dX8_lay_65 4 rfl ?_
        obtain ⟨hin, h⟩ := h
        refine aw_iald X dX8_lay_66 (X.lt (by decide)) (sh_ia 4 (rfl : tp 78 = 1004) _) hin ?_
        refine aw_if_ge (tgt := 74) X dX8_lay_67 (by decide) (fun c => ?_) (fun c => ?_)
        · have h := h.1 c
          exact aw_sub [1, 2, 3, 4] rfl (lb_X8_lay_74 X p1 p2 p3  _ h)
        · have h := h.2 c
          refine aw_ldc_w (v := (-1000000011)) X dX8_lay_70 kw1380 ?_
          exact aw_iret X dX8_lay_73 h
    · have h := h.2 c
      refine aw_ldc (v := (-1000000001)) X dX8_lay_53 kw1084 ?_
      exact aw_iret X dX8_lay_55 h
def wb_X8_lay_34 (n : Nat) (p1 : Int32) (p2 : Int32) (p3 : Int32)  (K : Mm → Int32 → Prop) (M : Mm)  : Prop := wb_X8_lay_39 n p1 p2 p3 K M 1
set_option maxHeartbeats 4000000 in
set_option maxRecDepth 100000 in
theorem lb_X8_lay_34 {g : Gm} {E : En} {A : Nat → Prop} {K : Mm → Int32 → Prop} (X : CX g cX8_lay RX8 (some .int) 2 E A 7) (p1 : Int32) (p2 : Int32) (p3 : Int32)   (M : Mm)  (h : wb_X8_lay_34 (eN E) p1 p2 p3  K M ) : AW g E A 7 (MQ (gB g) (QI E K A) (gA g) (gS g) (gk g) (gn g) A) 34 [(0, .ref (eA E 74)), (1, .int p1), (2, .int p2), (3, .int p3)] [] M := by
  unfold wb_X8_lay_34 at h
  refine aw_iconst (v := 1) X dX8_lay_34 (by decide) ?_
  refine aw_goto (tgt := 39) X dX8_lay_35 (by decide) ?_
  exact aw_sub [0, 1, 2, 3] rfl (lb_X8_lay_39 X p1 p2 p3  _ _ h)
def wb_X8_lay_38 (n : Nat) (p1 : Int32) (p2 : Int32) (p3 : Int32)  (K : Mm → Int32 → Prop) (M : Mm)  : Prop := wb_X8_lay_39 n p1 p2 p3 K M 0
set_option maxHeartbeats 4000000 in
set_option maxRecDepth 100000 in
theorem lb_X8_lay_38 {g : Gm} {E : En} {A : Nat → Prop} {K : Mm → Int32 → Prop} (X : CX g cX8_lay RX8 (some .int) 2 E A 7) (p1 : Int32) (p2 : Int32) (p3 : Int32)   (M : Mm)  (h : wb_X8_lay_38 (eN E) p1 p2 p3  K M ) : AW g E A 7 (MQ (gB g) (QI E K A) (gA g) (gS g) (gk g) (gn g) A) 38 [(0, .ref (eA E 74)), (1, .int p1), (2, .int p2), (3, .int p3)] [] M := by
  unfold wb_X8_lay_38 at h
  refine aw_iconst (v := 0) X dX8_lay_38 (by decide) ?_
  exact aw_sub [0, 1, 2, 3] rfl (lb_X8_lay_39 X p1 p2 p3  _ _ h)
def wb_X8_lay_22 (n : Nat) (p1 : Int32) (p2 : Int32) (p3 : Int32)  (K : Mm → Int32 → Prop) (M : Mm)  : Prop := (¬ p2 = 2 → wb_X8_lay_38 n p1 p2 p3 K M ) ∧ (p2 = 2 → wp_X8_isSheet n M p3 (fun M3 r4 => (r4 = 0 → wb_X8_lay_38 n p1 p2 p3 K M3 ) ∧ (¬ r4 = 0 → wb_X8_lay_34 n p1 p2 p3 K M3 )))
set_option maxHeartbeats 4000000 in
set_option maxRecDepth 100000 in
theorem lb_X8_lay_22 {g : Gm} {E : En} {A : Nat → Prop} {K : Mm → Int32 → Prop} (X : CX g cX8_lay RX8 (some .int) 2 E A 7) (p1 : Int32) (p2 : Int32) (p3 : Int32)   (M : Mm)  (h : wb_X8_lay_22 (eN E) p1 p2 p3  K M ) : AW g E A 7 (MQ (gB g) (QI E K A) (gA g) (gS g) (gk g) (gn g) A) 22 [(0, .ref (eA E 74)), (1, .int p1), (2, .int p2), (3, .int p3)] [] M := by
  unfold wb_X8_lay_22 at h
  refine aw_iload_n X dX8_lay_22 2 rfl ?_
  refine aw_iconst (v := 2) X dX8_lay_23 (by decide) ?_
  refine aw_icmp_ne (tgt := 38) X dX8_lay_24 (by decide) (fun c => ?_) (fun c => ?_)
  · have h := h.1 c
    exact aw_sub [0, 1, 2, 3] rfl (lb_X8_lay_38 X p1 p2 p3  _ h)
  · have h := h.2 c
    refine aw_iload_n X dX8_lay_27 3 rfl ?_
    refine ca_i X (rn_s X [.int p3] [] kw1372 (c_X8_isSheet h) cal_yX8_isSheet kw1371 (Nat.le_of_ble_eq_true rfl) rfl rfl (Nat.le_of_ble_eq_true rfl) dX8_lay_28) (fun M3 r4 h => ?_)
    refine aw_if_eq (tgt := 38) X dX8_lay_31 (by decide) (fun c => ?_) (fun c => ?_)
    · have h := h.1 c
      exact aw_sub [0, 1, 2, 3] rfl (lb_X8_lay_38 X p1 p2 p3  _ h)
    · have h := h.2 c
      exact aw_sub [0, 1, 2, 3] rfl (lb_X8_lay_34 X p1 p2 p3  _ h)
def wp_X8_lay (n : Nat)  (M : Mm) (p1 : Int32) (p2 : Int32) (p3 : Int32) (K : Mm → Int32 → Prop) : Prop := (p2 = 0 → wb_X8_lay_34 n p1 p2 p3 K M ) ∧ (¬ p2 = 0 → (p2 = 3 → wb_X8_lay_34 n p1 p2 p3 K M ) ∧ (¬ p2 = 3 → (¬ p2 = 1 → wb_X8_lay_22 n p1 p2 p3 K M ) ∧ (p2 = 1 → wp_X8_isComer n M p3 (fun M1 r2 => (¬ r2 = 0 → wb_X8_lay_34 n p1 p2 p3 K M1 ) ∧ (r2 = 0 → wb_X8_lay_22 n p1 p2 p3 K M1 )))))
set_option maxHeartbeats 4000000 in
set_option maxRecDepth 100000 in
theorem c_X8_lay {l : Launch} {E : En} {M : Mm} {p1 : Int32} {p2 : Int32} {p3 : Int32} {K : Mm → Int32 → Prop}  (h : wp_X8_lay (eN E)  M p1 p2 p3 K) : Ctr l E yX8_lay cX8_lay 7 (some .int) 2 [.ref (eA E 74), .int p1, .int p2, .int p3] M (QI E K) := by
  refine Ctr.of (by decide +kernel) (Nat.le_of_ble_eq_true rfl) (fun g A hgl X => ?_)
  subst hgl
  have X : CX g cX8_lay RX8 (some .int) 2 E A 7 := X
  show AW g E A 7 _ 0 [(0, .ref (eA E 74)), (1, .int p1), (2, .int p2), (3, .int p3)] [] M
  unfold wp_X8_lay at h
  refine aw_iload_n X dX8_lay_0 2 rfl ?_
  refine aw_if_eq (tgt := 34) X dX8_lay_1 (by decide) (fun c => ?_) (fun c => ?_)
  · have h := h.1 c
    exact aw_sub [0, 1, 2, 3] rfl (lb_X8_lay_34 X p1 p2 p3  _ h)
  · have h := h.2 c
    refine aw_iload_n X dX8_lay_4 2 rfl ?_
    refine aw_iconst (v := 3) X dX8_lay_5 (by decide) ?_
    refine aw_icmp_eq (tgt := 34) X dX8_lay_6 (by decide) (fun c => ?_) (fun c => ?_)
    · have h := h.1 c
      exact aw_sub [0, 1, 2, 3] rfl (lb_X8_lay_34 X p1 p2 p3  _ h)
    · have h := h.2 c
      refine aw_iload_n X dX8_lay_9 2 rfl ?_
      refine aw_iconst (v := 1) X dX8_lay_10 (by decide) ?_
      refine aw_icmp_ne (tgt := 22) X dX8_lay_11 (by decide) (fun c => ?_) (fun c => ?_)
      · have h := h.1 c
        exact aw_sub [0, 1, 2, 3] rfl (lb_X8_lay_22 X p1 p2 p3  _ h)
      · have h := h.2 c
        refine aw_aload_n X dX8_lay_14 0 rfl ?_
        refine aw_iload_n X dX8_lay_15 3 rfl ?_
        refine ca_i X (rn_v X [.int p3] [] (X.lt (by decide)) (sh_12 (rfl : tp 74 = 12) _) rfl rfl kw1096 kw55 (c_X8_isComer h) cal_yX8_isComer kw1094 (Nat.le_of_ble_eq_true rfl) rfl rfl (Nat.le_of_ble_eq_true rfl) dX8_lay_16) (fun M1 r2 h => ?_)
        refine aw_if_ne (tgt := 34) X dX8_lay_19 (by decide) (fun c => ?_) (fun c => ?_)
        · have h := h.1 c
          exact aw_sub [0, 1, 2, 3] rfl (lb_X8_lay_34 X p1 p2 p3  _ h)
        · have h := h.2 c
          exact aw_sub [0, 1, 2, 3] rfl (lb_X8_lay_22 X p1 p2 p3  _ h)
def wp_X8_ask (n : Nat)  (M : Mm) (p1 : Int32) (p2 : Int32) (K : Mm → Int32 → Prop) : Prop := wp_X8_isSlot n M p1 (fun M1 r2 => (r2 = 0 → K M1 (-1000000001)) ∧ (¬ r2 = 0 → wp_X8_isIn n M1 p2.toInt64 0 5 (fun M3 r4 => (¬ r4 = 0 → vp_in p1 5 ∧ ((¬ (M3 81 p1.toNatClampNeg) = 0 → vp_in p1 5 ∧ ((¬ (M3 81 p1.toNatClampNeg) = 1 → K M3 (-1000000012)) ∧ ((M3 81 p1.toNatClampNeg) = 1 → vp_in p1 5 ∧ (wp_X8_isOf n M3 (M3 82 p1.toNatClampNeg) p2 (fun M5 r6 => (r6 = 0 → K M5 (-1000000012)) ∧ (¬ r6 = 0 → vp_in p1 5 ∧ (K M5 (M5 83 p1.toNatClampNeg)))))))) ∧ ((M3 81 p1.toNatClampNeg) = 0 → K M3 (-1000000011)))) ∧ (r4 = 0 → K M3 (-1000000001)))))
set_option maxHeartbeats 4000000 in
set_option maxRecDepth 100000 in
theorem c_X8_ask {l : Launch} {E : En} {M : Mm} {p1 : Int32} {p2 : Int32} {K : Mm → Int32 → Prop}  (h : wp_X8_ask (eN E)  M p1 p2 K) : Ctr l E yX8_ask cX8_ask 3 (some .int) 2 [.ref (eA E 74), .int p1, .int p2] M (QI E K) := by
  refine Ctr.of (by decide +kernel) (Nat.le_of_ble_eq_true rfl) (fun g A hgl X => ?_)
  subst hgl
  have X : CX g cX8_ask RX8 (some .int) 2 E A 3 := X
  show AW g E A 3 _ 0 [(0, .ref (eA E 74)), (1, .int p1), (2, .int p2)] [] M
  unfold wp_X8_ask at h
  refine aw_iload_n X dX8_ask_0 1 rfl ?_
  refine ca_i X (rn_s X [.int p1] [] kw1405 (c_X8_isSlot h) cal_yX8_isSlot kw1404 (Nat.le_of_ble_eq_true rfl) rfl rfl (Nat.le_of_ble_eq_true rfl) dX8_ask_1) (fun M1 r2 h => ?_)
  refine aw_if_eq (tgt := 19) X dX8_ask_4 (by decide) (fun c => ?_) (fun c => ?_)
  · have h := h.1 c
    refine aw_ldc (v := (-1000000001)) X dX8_ask_19 kw1084 ?_
    exact aw_iret X dX8_ask_21 h
  · have h := h.2 c
    refine aw_iload_n X dX8_ask_7 2 rfl ?_
    refine aw_i2l X dX8_ask_8 ?_
    refine aw_lconst (v := 0) X dX8_ask_9 (by decide) ?_
    refine aw_ldc2_w (v := 5) X dX8_ask_10 kw1077 ?_
    refine ca_i X (rn_s X [.long p2.toInt64, .long 0, .long 5] [] kw1079 (c_X8_isIn h) cal_yX8_isIn kw1078 (Nat.le_of_ble_eq_true rfl) rfl rfl (Nat.le_of_ble_eq_true rfl) dX8_ask_13) (fun M3 r4 h => ?_)
    refine aw_if_ne (tgt := 22) X dX8_ask_16 (by decide) (fun c => ?_) (fun c => ?_)
    · have h := h.1 c
      refine aw_aload_n X dX8_ask_22 0 rfl ?_
      refine aw_get X dX8_ask_23 (X.lt (by decide)) (sh_12 (rfl : tp 74 = 12) _) fl_RX8_28 rfl ?_
      refine aw_iload_n X dX8_ask_26 1 rfl ?_
      obtain ⟨hin, h⟩ := h
      refine aw_iald X dX8_ask_27 (X.lt (by decide)) (sh_ia 5 (rfl : tp 81 = 1005) _) hin ?_
      refine aw_if_ne (tgt := 35) X dX8_ask_28 (by decide) (fun c => ?_) (fun c => ?_)
      · have h := h.1 c
        refine aw_aload_n X dX8_ask_35 0 rfl ?_
        refine aw_get X dX8_ask_36 (X.lt (by decide)) (sh_12 (rfl : tp 74 = 12) _) fl_RX8_28 rfl ?_
        refine aw_iload_n X dX8_ask_39 1 rfl ?_
        obtain ⟨hin, h⟩ := h
        refine aw_iald X dX8_ask_40 (X.lt (by decide)) (sh_ia 5 (rfl : tp 81 = 1005) _) hin ?_
        refine aw_iconst (v := 1) X dX8_ask_41 (by decide) ?_
        refine aw_icmp_ne (tgt := 67) X dX8_ask_42 (by decide) (fun c => ?_) (fun c => ?_)
        · have h := h.1 c
          refine aw_ldc (v := (-1000000012)) X dX8_ask_67 kw1148 ?_
          exact aw_iret X dX8_ask_69 h
        · have h := h.2 c
          refine aw_aload_n X dX8_ask_45 0 rfl ?_
          refine aw_get X dX8_ask_46 (X.lt (by decide)) (sh_12 (rfl : tp 74 = 12) _) fl_RX8_31 rfl ?_
          refine aw_iload_n X dX8_ask_49 1 rfl ?_
          obtain ⟨hin, h⟩ := h
          refine aw_iald X dX8_ask_50 (X.lt (by decide)) (sh_ia 5 (rfl : tp 82 = 1005) _) hin ?_
          refine aw_iload_n X dX8_ask_51 2 rfl ?_
          refine ca_i X (rn_s X [.int (M3 82 p1.toNatClampNeg), .int p2] [] kw1146 (c_X8_isOf h) cal_yX8_isOf kw1145 (Nat.le_of_ble_eq_true rfl) rfl rfl (Nat.le_of_ble_eq_true rfl) dX8_ask_52) (fun M5 r6 h => ?_)
          refine aw_if_eq (tgt := 67) X dX8_ask_55 (by decide) (fun c => ?_) (fun c => ?_)
          · have h := h.1 c
            refine aw_ldc (v := (-1000000012)) X dX8_ask_67 kw1148 ?_
            exact aw_iret X dX8_ask_69 h
          · have h := h.2 c
            refine aw_aload_n X dX8_ask_58 0 rfl ?_
            refine aw_get X dX8_ask_59 (X.lt (by decide)) (sh_12 (rfl : tp 74 = 12) _) fl_RX8_34 rfl ?_
            refine aw_iload_n X dX8_ask_62 1 rfl ?_
            obtain ⟨hin, h⟩ := h
            refine aw_iald X dX8_ask_63 (X.lt (by decide)) (sh_ia 5 (rfl : tp 83 = 1005) _) hin ?_
            refine aw_goto (tgt := 69) X dX8_ask_64 (by decide) ?_
            exact aw_iret X dX8_ask_69 h
      · have h := h.2 c
        refine aw_ldc_w (v := (-1000000011)) X dX8_ask_31 kw1380 ?_
        exact aw_iret X dX8_ask_34 h
    · have h := h.2 c
      refine aw_ldc (v := (-1000000001)) X dX8_ask_19 kw1084 ?_
      exact aw_iret X dX8_ask_21 h
def wp_X8_item (n : Nat)  (M : Mm) (p1 : Int32) (p2 : Int32) (K : Mm → Int32 → Prop) : Prop := wp_X8_isSlot n M p1 (fun M1 r2 => (¬ r2 = 0 → vp_in p1 5 ∧ (((M1 81 p1.toNatClampNeg) = 2 → vp_in p1 5 ∧ (wp_X8_isIn n M1 p2.toInt64 0 (((M1 84 p1.toNatClampNeg) - 1).toInt64) (fun M3 r4 => (¬ r4 = 0 → vp_in ((24 * p1) + p2) 120 ∧ (∀ v5 : Int32, v5 = M3 85 ((24 * p1) + p2).toNatClampNeg → (¬ v5 = (-1000000005) → K M3 v5) ∧ (v5 = (-1000000005) → K M3 (-1000000012)))) ∧ (r4 = 0 → K M3 (-1000000013))))) ∧ (¬ (M1 81 p1.toNatClampNeg) = 2 → vp_in p1 5 ∧ ((¬ (M1 81 p1.toNatClampNeg) = 0 → K M1 (-1000000012)) ∧ ((M1 81 p1.toNatClampNeg) = 0 → K M1 (-1000000011)))))) ∧ (r2 = 0 → K M1 (-1000000001)))
set_option maxHeartbeats 4000000 in
set_option maxRecDepth 100000 in
theorem c_X8_item {l : Launch} {E : En} {M : Mm} {p1 : Int32} {p2 : Int32} {K : Mm → Int32 → Prop}  (h : wp_X8_item (eN E)  M p1 p2 K) : Ctr l E yX8_item cX8_item 4 (some .int) 2 [.ref (eA E 74), .int p1, .int p2] M (QI E K) := by
  refine Ctr.of (by decide +kernel) (Nat.le_of_ble_eq_true rfl) (fun g A hgl X => ?_)
  subst hgl
  have X : CX g cX8_item RX8 (some .int) 2 E A 4 := X
  show AW g E A 4 _ 0 [(0, .ref (eA E 74)), (1, .int p1), (2, .int p2)] [] M
  unfold wp_X8_item at h
  refine aw_iload_n X dX8_item_0 1 rfl ?_
  refine ca_i X (rn_s X [.int p1] [] kw1405 (c_X8_isSlot h) cal_yX8_isSlot kw1404 (Nat.le_of_ble_eq_true rfl) rfl rfl (Nat.le_of_ble_eq_true rfl) dX8_item_1) (fun M1 r2 h => ?_)
  refine aw_if_ne (tgt := 10) X dX8_item_4 (by decide) (fun c => ?_) (fun c => ?_)
  · have h := h.1 c
    refine aw_aload_n X dX8_item_10 0 rfl ?_
    refine aw_get X dX8_item_11 (X.lt (by decide)) (sh_12 (rfl : tp 74 = 12) _) fl_RX8_28 rfl ?_
    refine aw_iload_n X dX8_item_14 1 rfl ?_
    obtain ⟨hin, h⟩ := h
    refine aw_iald X dX8_item_15 (X.lt (by decide)) (sh_ia 5 (rfl : tp 81 = 1005) _) hin ?_
    refine aw_iconst (v := 2) X dX8_item_16 (by decide) ?_
    refine aw_icmp_eq (tgt := 38) X dX8_item_17 (by decide) (fun c => ?_) (fun c => ?_)
    · have h := h.1 c
      refine aw_iload_n X dX8_item_38 2 rfl ?_
      refine aw_i2l X dX8_item_39 ?_
      refine aw_lconst (v := 0) X dX8_item_40 (by decide) ?_
      refine aw_aload_n X dX8_item_41 0 rfl ?_
      refine aw_get X dX8_item_42 (X.lt (by decide)) (sh_12 (rfl : tp 74 = 12) _) fl_RX8_37 rfl ?_
      refine aw_iload_n X dX8_item_45 1 rfl ?_
      obtain ⟨hin, h⟩ := h
      refine aw_iald X dX8_item_46 (X.lt (by decide)) (sh_ia 5 (rfl : tp 84 = 1005) _) hin ?_
      refine aw_iconst (v := 1) X dX8_item_47 (by decide) ?_
      refine aw_isub X dX8_item_48 ?_
      refine aw_i2l X dX8_item_49 ?_
      refine ca_i X (rn_s X [.long p2.toInt64, .long 0, .long (((M1 84 p1.toNatClampNeg) - 1).toInt64)] [] kw1079 (c_X8_isIn h) cal_yX8_isIn kw1078 (Nat.le_of_ble_eq_true rfl) rfl rfl (Nat.le_of_ble_eq_true rfl) dX8_item_50) (fun M3 r4 h => ?_)
      refine aw_if_ne (tgt := 60) X dX8_item_53 (by decide) (fun c => ?_) (fun c => ?_)
      · have h := h.1 c
        refine aw_aload_n X dX8_item_60 0 rfl ?_
        refine aw_get X dX8_item_61 (X.lt (by decide)) (sh_12 (rfl : tp 74 = 12) _) fl_RX8_40 rfl ?_
        refine aw_bipush (v := 24) X dX8_item_64 (by decide) ?_
        refine aw_iload_n X dX8_item_66 1 rfl ?_
        refine aw_imul X dX8_item_67 ?_
        refine aw_iload_n X dX8_item_68 2 rfl ?_
        refine aw_iadd X dX8_item_69 ?_
        obtain ⟨hin, h⟩ := h
        refine aw_iald X dX8_item_70 (X.lt (by decide)) (sh_ia 120 (rfl : tp 85 = 1120) _) hin ?_
        refine aw_top (fun v5 ev5 => ?_)
        have h := h v5 ev5
        refine aw_istore_n (lv' := [(3, .int v5), (0, .ref (eA E 74)), (1, .int p1), (2, .int p2)]) X dX8_item_71 (by decide) rfl ?_
        refine aw_iload_n X dX8_item_72 0 rfl ?_
        refine aw_ldc (v := (-1000000005)) X dX8_item_73 kw1249 ?_
        refine aw_icmp_ne (tgt := 83) X dX8_item_75 (by decide) (fun c => ?_) (fun c => ?_)
        · have h := h.1 c
          refine aw_iload_n X dX8_item_83 0 rfl ?_
          exact aw_iret X dX8_item_84 h
        · have h := h.2 c
          refine aw_ldc (v := (-1000000012)) X dX8_item_78 kw1148 ?_
          refine aw_goto (tgt := 84) X dX8_item_80 (by decide) ?_
          exact aw_iret X dX8_item_84 h
      · have h := h.2 c
        refine aw_ldc_w (v := (-1000000013)) X dX8_item_56 kw1381 ?_
        exact aw_iret X dX8_item_59 h
    · have h := h.2 c
      refine aw_aload_n X dX8_item_20 0 rfl ?_
      refine aw_get X dX8_item_21 (X.lt (by decide)) (sh_12 (rfl : tp 74 = 12) _) fl_RX8_28 rfl ?_
      refine aw_iload_n X dX8_item_24 1 rfl ?_
      obtain ⟨hin, h⟩ := h
      refine aw_iald X dX8_item_25 (X.lt (by decide)) (sh_ia 5 (rfl : tp 81 = 1005) _) hin ?_
      refine aw_if_ne (tgt := 35) X dX8_item_26 (by decide) (fun c => ?_) (fun c => ?_)
      · have h := h.1 c
        refine aw_ldc (v := (-1000000012)) X dX8_item_35 kw1148 ?_
        exact aw_iret X dX8_item_37 h
      · have h := h.2 c
        refine aw_ldc_w (v := (-1000000011)) X dX8_item_29 kw1380 ?_
        refine aw_goto (tgt := 37) X dX8_item_32 (by decide) ?_
        exact aw_iret X dX8_item_37 h
  · have h := h.2 c
    refine aw_ldc (v := (-1000000001)) X dX8_item_7 kw1084 ?_
    exact aw_iret X dX8_item_9 h
def wp_X8_rest (n : Nat)  (M : Mm) (p1 : Int32) (p2 : Int32) (K : Mm → Int32 → Prop) : Prop := wp_X8_isSlot n M p1 (fun M1 r2 => (¬ r2 = 0 → vp_in p1 5 ∧ (((M1 81 p1.toNatClampNeg) = 3 → (¬ p2 = 0 → vp_in p1 5 ∧ (¬ p2 = 0 ∧ (K M1 (jrem (M1 82 p1.toNatClampNeg) p2)))) ∧ (p2 = 0 → K M1 (-1000000002))) ∧ (¬ (M1 81 p1.toNatClampNeg) = 3 → vp_in p1 5 ∧ ((¬ (M1 81 p1.toNatClampNeg) = 0 → K M1 (-1000000012)) ∧ ((M1 81 p1.toNatClampNeg) = 0 → K M1 (-1000000011)))))) ∧ (r2 = 0 → K M1 (-1000000001)))
set_option maxHeartbeats 4000000 in
set_option maxRecDepth 100000 in
theorem c_X8_rest {l : Launch} {E : En} {M : Mm} {p1 : Int32} {p2 : Int32} {K : Mm → Int32 → Prop}  (h : wp_X8_rest (eN E)  M p1 p2 K) : Ctr l E yX8_rest cX8_rest 3 (some .int) 2 [.ref (eA E 74), .int p1, .int p2] M (QI E K) := by
  refine Ctr.of (by decide +kernel) (Nat.le_of_ble_eq_true rfl) (fun g A hgl X => ?_)
  subst hgl
  have X : CX g cX8_rest RX8 (some .int) 2 E A 3 := X
  show AW g E A 3 _ 0 [(0, .ref (eA E 74)), (1, .int p1), (2, .int p2)] [] M
  unfold wp_X8_rest at h
  refine aw_iload_n X dX8_rest_0 1 rfl ?_
  refine ca_i X (rn_s X [.int p1] [] kw1405 (c_X8_isSlot h) cal_yX8_isSlot kw1404 (Nat.le_of_ble_eq_true rfl) rfl rfl (Nat.le_of_ble_eq_true rfl) dX8_rest_1) (fun M1 r2 h => ?_)
  refine aw_if_ne (tgt := 10) X dX8_rest_4 (by decide) (fun c => ?_) (fun c => ?_)
  · have h := h.1 c
    refine aw_aload_n X dX8_rest_10 0 rfl ?_
    refine aw_get X dX8_rest_11 (X.lt (by decide)) (sh_12 (rfl : tp 74 = 12) _) fl_RX8_28 rfl ?_
    refine aw_iload_n X dX8_rest_14 1 rfl ?_
    obtain ⟨hin, h⟩ := h
    refine aw_iald X dX8_rest_15 (X.lt (by decide)) (sh_ia 5 (rfl : tp 81 = 1005) _) hin ?_
    refine aw_iconst (v := 3) X dX8_rest_16 (by decide) ?_
    refine aw_icmp_eq (tgt := 38) X dX8_rest_17 (by decide) (fun c => ?_) (fun c => ?_)
    · have h := h.1 c
      refine aw_iload_n X dX8_rest_38 2 rfl ?_
      refine aw_if_ne (tgt := 48) X dX8_rest_39 (by decide) (fun c => ?_) (fun c => ?_)
      · have h := h.1 c
        refine aw_aload_n X dX8_rest_48 0 rfl ?_
        refine aw_get X dX8_rest_49 (X.lt (by decide)) (sh_12 (rfl : tp 74 = 12) _) fl_RX8_31 rfl ?_
        refine aw_iload_n X dX8_rest_52 1 rfl ?_
        obtain ⟨hin, h⟩ := h
        refine aw_iald X dX8_rest_53 (X.lt (by decide)) (sh_ia 5 (rfl : tp 82 = 1005) _) hin ?_
        refine aw_iload_n X dX8_rest_54 2 rfl ?_
        obtain ⟨hne, h⟩ := h
        refine aw_irem X dX8_rest_55 hne ?_
        exact aw_iret X dX8_rest_56 h
      · have h := h.2 c
        refine aw_ldc_w (v := (-1000000002)) X dX8_rest_42 kw1419 ?_
        refine aw_goto (tgt := 56) X dX8_rest_45 (by decide) ?_
        exact aw_iret X dX8_rest_56 h
    · have h := h.2 c
      refine aw_aload_n X dX8_rest_20 0 rfl ?_
      refine aw_get X dX8_rest_21 (X.lt (by decide)) (sh_12 (rfl : tp 74 = 12) _) fl_RX8_28 rfl ?_
      refine aw_iload_n X dX8_rest_24 1 rfl ?_
      obtain ⟨hin, h⟩ := h
      refine aw_iald X dX8_rest_25 (X.lt (by decide)) (sh_ia 5 (rfl : tp 81 = 1005) _) hin ?_
      refine aw_if_ne (tgt := 35) X dX8_rest_26 (by decide) (fun c => ?_) (fun c => ?_)
      · have h := h.1 c
        refine aw_ldc (v := (-1000000012)) X dX8_rest_35 kw1148 ?_
        exact aw_iret X dX8_rest_37 h
      · have h := h.2 c
        refine aw_ldc_w (v := (-1000000011)) X dX8_rest_29 kw1380 ?_
        refine aw_goto (tgt := 37) X dX8_rest_32 (by decide) ?_
        exact aw_iret X dX8_rest_37 h
  · have h := h.2 c
    refine aw_ldc (v := (-1000000001)) X dX8_rest_7 kw1084 ?_
    exact aw_iret X dX8_rest_9 h
def wp_X8_tell (n : Nat)  (M : Mm) (p1 : Int32) (K : Mm → Int32 → Prop) : Prop := (¬ (M 74 32) = 60 → vp_in (M 74 32) 60 ∧ (∀ M1 : Mm, M1 = wr M 92 (M 74 32).toNatClampNeg p1 → ∀ M2 : Mm, M2 = wr M1 74 32 ((M1 74 32) + 1) → K M2 (M2 74 32))) ∧ ((M 74 32) = 60 → K M (-1000000003))
set_option maxHeartbeats 4000000 in
set_option maxRecDepth 100000 in
theorem c_X8_tell {l : Launch} {E : En} {M : Mm} {p1 : Int32} {K : Mm → Int32 → Prop}  (h : wp_X8_tell (eN E)  M p1 K) : Ctr l E yX8_tell cX8_tell 2 (some .int) 0 [.ref (eA E 74), .int p1] M (QI E K) := by
  refine Ctr.of (by decide +kernel) (Nat.le_of_ble_eq_true rfl) (fun g A hgl X => ?_)
  subst hgl
  have X : CX g cX8_tell RX8 (some .int) 0 E A 2 := X
  show AW g E A 2 _ 0 [(0, .ref (eA E 74)), (1, .int p1)] [] M
  unfold wp_X8_tell at h
  refine aw_aload_n X dX8_tell_0 0 rfl ?_
  refine aw_get X dX8_tell_1 (X.lt (by decide)) (sh_12 (rfl : tp 74 = 12) _) fl_RX8_328 rfl ?_
  refine aw_bipush (v := 60) X dX8_tell_4 (by decide) ?_
  refine aw_icmp_ne (tgt := 12) X dX8_tell_6 (by decide) (fun c => ?_) (fun c => ?_)
  · have h := h.1 c
    refine aw_aload_n X dX8_tell_12 0 rfl ?_
    refine aw_get X dX8_tell_13 (X.lt (by decide)) (sh_12 (rfl : tp 74 = 12) _) fl_RX8_65 rfl ?_
    refine aw_aload_n X dX8_tell_16 0 rfl ?_
    refine aw_get X dX8_tell_17 (X.lt (by decide)) (sh_12 (rfl : tp 74 = 12) _) fl_RX8_328 rfl ?_
    refine aw_iload_n X dX8_tell_20 1 rfl ?_
    obtain ⟨hin, h⟩ := h
    refine aw_iast X dX8_tell_21 (X.lt (by decide)) (sh_ia 60 (rfl : tp 92 = 1060) _) (sh_ia 60 (rfl : tp 92 = 1060) _) hin (fun M1 eM1 => ?_)
    have h := h M1 eM1
    refine aw_aload_n X dX8_tell_22 0 rfl ?_
    refine aw_dup X dX8_tell_23 rfl ?_
    refine aw_get X dX8_tell_24 (X.lt (by decide)) (sh_12 (rfl : tp 74 = 12) _) fl_RX8_328 rfl ?_
    refine aw_iconst (v := 1) X dX8_tell_27 (by decide) ?_
    refine aw_iadd X dX8_tell_28 ?_
    refine aw_put X dX8_tell_29 (X.lt (by decide)) (sh_12 (rfl : tp 74 = 12) _) fl_RX8_328 fw_8_32 (Nat.le_of_ble_eq_true rfl) (sp_12_32 (rfl : tp 74 = 12) _ _) (fun M2 eM2 => ?_)
    have h := h M2 eM2
    refine aw_aload_n X dX8_tell_32 0 rfl ?_
    refine aw_get X dX8_tell_33 (X.lt (by decide)) (sh_12 (rfl : tp 74 = 12) _) fl_RX8_328 rfl ?_
    exact aw_iret X dX8_tell_36 h
  · have h := h.2 c
    refine aw_ldc (v := (-1000000003)) X dX8_tell_9 kw1085 ?_
    exact aw_iret X dX8_tell_11 h
def wl_X8_setAside_2 (n : Nat) (p1 : Nat) (p2 : Nat)  (K : Mm → Prop) : Nat → Mm → Int32 → Prop
  | 0, _, _ => False
  | k + 1, M, x3 => (2908 ≤ x3 → K M) ∧ (¬ 2908 ≤ x3 → vp_in x3 3108 ∧ (vp_in x3 3108 ∧ (∀ M1 : Mm, M1 = wr M p2 x3.toNatClampNeg (M p1 x3.toNatClampNeg) → ∀ v2 : Int32, v2 = x3 + 1 → wl_X8_setAside_2 n p1 p2 K k M1 v2)))
set_option maxHeartbeats 4000000 in
set_option maxRecDepth 100000 in
theorem lw_X8_setAside_2 {g : Gm} {E : En} {A : Nat → Prop} {K : Mm → Prop} (X : CX g cX8_setAside RX8 none 0 E A 4) (p1 : Nat) (p2 : Nat)  (hp1 : tp p1 = 4108) (hp2 : tp p2 = 4108) : ∀ (k : Nat) (M : Mm) (x3 : Int32), wl_X8_setAside_2 (eN E) p1 p2  K k M x3 → AW g E A 4 (MQ (gB g) (QV E K A) (gA g) (gS g) (gk g) (gn g) A) 2 [(1, .ref (eA E p1)), (2, .ref (eA E p2)), (3, .int x3)] [] M := by
  intro k
  induction k with
  | zero => intro M x3 h; exact h.elim
  | succ k ih =>
    intro M x3 h
    rw [wl_X8_setAside_2] at h
    refine aw_iload_n X dX8_setAside_2 2 rfl ?_
    refine aw_sipush (v := 2908) X dX8_setAside_3 (by decide) ?_
    refine aw_icmp_ge (tgt := 21) X dX8_setAside_6 (by decide) (fun c => ?_) (fun c => ?_)
    · have h := h.1 c
      exact aw_vret X dX8_setAside_21 h
    · have h := h.2 c
      refine aw_aload_n X dX8_setAside_9 1 rfl ?_
      refine aw_iload_n X dX8_setAside_10 2 rfl ?_
      refine aw_aload_n X dX8_setAside_11 0 rfl ?_
      refine aw_iload_n X dX8_setAside_12 2 rfl ?_
      obtain ⟨hin, h⟩ := h
      refine aw_iald X dX8_setAside_13 (X.il hp1 (by decide)) (sh_ia 3108 hp1 _) hin ?_
      obtain ⟨hin, h⟩ := h
      refine aw_iast X dX8_setAside_14 (X.il hp2 (by decide)) (sh_ia 3108 hp2 _) (sh_ia 3108 hp2 _) hin (fun M1 eM1 => ?_)
      have h := h M1 eM1
      obtain ⟨v2, ev2⟩ : ∃ y : Int32, y = x3 + 1 := ⟨_, rfl⟩
      have h := h v2 ev2
      refine aw_iinc (v := v2) (lv' := [(3, .int v2), (1, .ref (eA E p1)), (2, .ref (eA E p2))]) X dX8_setAside_15 2 rfl (by rw [ev2]; rfl) (by decide) rfl ?_
      refine aw_goto (tgt := 2) X dX8_setAside_18 (by decide) ?_
      exact aw_sub [1, 2, 0] rfl (ih _ _ h)
def wp_X8_setAside (n : Nat)  (M : Mm) (p1 : Nat) (p2 : Nat) (K : Mm → Prop) : Prop := (tp p1 = 4108) ∧ ((tp p2 = 4108) ∧ (∃ kf : Nat, wl_X8_setAside_2 n p1 p2 K kf M 0))
set_option maxHeartbeats 4000000 in
set_option maxRecDepth 100000 in
theorem c_X8_setAside {l : Launch} {E : En} {M : Mm} {p1 : Nat} {p2 : Nat} {K : Mm → Prop}  (h : wp_X8_setAside (eN E)  M p1 p2 K) : Ctr l E yX8_setAside cX8_setAside 4 none 0 [.ref (eA E 74), .ref (eA E p1), .ref (eA E p2)] M (QV E K) := by
  refine Ctr.of (by decide +kernel) (Nat.le_of_ble_eq_true rfl) (fun g A hgl X => ?_)
  subst hgl
  have X : CX g cX8_setAside RX8 none 0 E A 4 := X
  show AW g E A 4 _ 0 [(0, .ref (eA E 74)), (1, .ref (eA E p1)), (2, .ref (eA E p2))] [] M
  unfold wp_X8_setAside at h
  obtain ⟨hp1, h⟩ := h
  obtain ⟨hp2, h⟩ := h
  refine aw_iconst (v := 0) X dX8_setAside_0 (by decide) ?_
  refine aw_istore_n (lv' := [(3, .int 0), (0, .ref (eA E 74)), (1, .ref (eA E p1)), (2, .ref (eA E p2))]) X dX8_setAside_1 (by decide) rfl ?_
  obtain ⟨kf, h⟩ := h
  exact aw_sub [2, 3, 0] rfl (lw_X8_setAside_2 X p1 p2 hp1 hp2  kf _ _ h)
def wb_X8_check_169 (n : Nat) (p1 : Int32)  (K : Mm → Int32 → Prop) (M : Mm) (x2 : Int32) (x3 : Int32) (x4 : Int32) : Prop := (¬ x4 = x2 → K M (1 + x4)) ∧ (x4 = x2 → (¬ x4 = x3 → K M (1 + x4)) ∧ (x4 = x3 → K M 0))
set_option maxHeartbeats 4000000 in
set_option maxRecDepth 100000 in
theorem lb_X8_check_169 {g : Gm} {E : En} {A : Nat → Prop} {K : Mm → Int32 → Prop} (X : CX g cX8_check RX8 (some .int) 6 E A 5) (p1 : Int32)   (M : Mm) (x2 : Int32) (x3 : Int32) (x4 : Int32) (h : wb_X8_check_169 (eN E) p1  K M x2 x3 x4) : AW g E A 5 (MQ (gB g) (QI E K A) (gA g) (gS g) (gk g) (gn g) A) 169 [(2, .int x2), (3, .int x3), (4, .int x4)] [] M := by
  unfold wb_X8_check_169 at h
  refine aw_iload X dX8_check_169 2 rfl ?_
  refine aw_iload_n X dX8_check_171 0 rfl ?_
  refine aw_icmp_ne (tgt := 185) X dX8_check_172 (by decide) (fun c => ?_) (fun c => ?_)
  · have h := h.1 c
    refine aw_iconst (v := 1) X dX8_check_185 (by decide) ?_
    refine aw_iload X dX8_check_186 2 rfl ?_
    refine aw_iadd X dX8_check_188 ?_
    exact aw_iret X dX8_check_189 h
  · have h := h.2 c
    refine aw_iload X dX8_check_175 2 rfl ?_
    refine aw_iload_n X dX8_check_177 1 rfl ?_
    refine aw_icmp_ne (tgt := 185) X dX8_check_178 (by decide) (fun c => ?_) (fun c => ?_)
    · have h := h.1 c
      refine aw_iconst (v := 1) X dX8_check_185 (by decide) ?_
      refine aw_iload X dX8_check_186 2 rfl ?_
      refine aw_iadd X dX8_check_188 ?_
      exact aw_iret X dX8_check_189 h
    · have h := h.2 c
      refine aw_iconst (v := 0) X dX8_check_181 (by decide) ?_
      refine aw_goto (tgt := 189) X dX8_check_182 (by decide) ?_
      exact aw_iret X dX8_check_189 h
def wl_X8_check_134 (n : Nat) (p1 : Int32)  (K : Mm → Int32 → Prop) : Nat → Mm → Int32 → Int32 → Int32 → Prop
  | 0, _, _, _, _ => False
  | k + 1, M, x2, x3, x4 => (x2 ≤ x4 → wb_X8_check_169 n p1 K M x2 x3 x4) ∧ (¬ x2 ≤ x4 → (x3 ≤ x4 → wb_X8_check_169 n p1 K M x2 x3 x4) ∧ (¬ x3 ≤ x4 → vp_in x4 60 ∧ (vp_in x4 60 ∧ ((¬ (M 92 x4.toNatClampNeg) = (M 93 x4.toNatClampNeg) → wb_X8_check_169 n p1 K M x2 x3 x4) ∧ ((M 92 x4.toNatClampNeg) = (M 93 x4.toNatClampNeg) → ∀ v19 : Int32, v19 = x4 + 1 → wl_X8_check_134 n p1 K k M x2 x3 v19)))))
set_option maxHeartbeats 4000000 in
set_option maxRecDepth 100000 in
theorem lw_X8_check_134 {g : Gm} {E : En} {A : Nat → Prop} {K : Mm → Int32 → Prop} (X : CX g cX8_check RX8 (some .int) 6 E A 5) (p1 : Int32)   : ∀ (k : Nat) (M : Mm) (x2 : Int32) (x3 : Int32) (x4 : Int32), wl_X8_check_134 (eN E) p1  K k M x2 x3 x4 → AW g E A 5 (MQ (gB g) (QI E K A) (gA g) (gS g) (gk g) (gn g) A) 134 [(0, .ref (eA E 74)), (2, .int x2), (3, .int x3), (4, .int x4)] [] M := by
  intro k
  induction k with
  | zero => intro M x2 x3 x4 h; exact h.elim
  | succ k ih =>
    intro M x2 x3 x4 h
    rw [wl_X8_check_134] at h
    refine aw_iload X dX8_check_134 3 rfl ?_
    refine aw_iload_n X dX8_check_136 1 rfl ?_
    refine aw_icmp_ge (tgt := 169) X dX8_check_137 (by decide) (fun c => ?_) (fun c => ?_)
    · have h := h.1 c
      exact aw_sub [1, 2, 3] rfl (lb_X8_check_169 X p1  _ _ _ _ h)
    · have h := h.2 c
      refine aw_iload X dX8_check_140 3 rfl ?_
      refine aw_iload_n X dX8_check_142 2 rfl ?_
      refine aw_icmp_ge (tgt := 169) X dX8_check_143 (by decide) (fun c => ?_) (fun c => ?_)
      · have h := h.1 c
        exact aw_sub [1, 2, 3] rfl (lb_X8_check_169 X p1  _ _ _ _ h)
      · have h := h.2 c
        refine aw_aload_n X dX8_check_146 0 rfl ?_
        refine aw_get X dX8_check_147 (X.lt (by decide)) (sh_12 (rfl : tp 74 = 12) _) fl_RX8_65 rfl ?_
        refine aw_iload X dX8_check_150 3 rfl ?_
        obtain ⟨hin, h⟩ := h
        refine aw_iald X dX8_check_152 (X.lt (by decide)) (sh_ia 60 (rfl : tp 92 = 1060) _) hin ?_
        refine aw_aload_n X dX8_check_153 0 rfl ?_
        refine aw_get X dX8_check_154 (X.lt (by decide)) (sh_12 (rfl : tp 74 = 12) _) fl_RX8_68 rfl ?_
        refine aw_iload X dX8_check_157 3 rfl ?_
        obtain ⟨hin, h⟩ := h
        refine aw_iald X dX8_check_159 (X.lt (by decide)) (sh_ia 60 (rfl : tp 93 = 1060) _) hin ?_
        refine aw_icmp_ne (tgt := 169) X dX8_check_160 (by decide) (fun c => ?_) (fun c => ?_)
        · have h := h.1 c
          exact aw_sub [1, 2, 3] rfl (lb_X8_check_169 X p1  _ _ _ _ h)
        · have h := h.2 c
          obtain ⟨v19, ev19⟩ : ∃ y : Int32, y = x4 + 1 := ⟨_, rfl⟩
          have h := h v19 ev19
          refine aw_iinc (v := v19) (lv' := [(4, .int v19), (0, .ref (eA E 74)), (2, .int x2), (3, .int x3)]) X dX8_check_163 3 rfl (by rw [ev19]; rfl) (by decide) rfl ?_
          refine aw_goto (tgt := 134) X dX8_check_166 (by decide) ?_
          exact aw_sub [1, 2, 3, 0] rfl (ih _ _ _ _ h)
def wb_X8_check_119 (n : Nat) (p1 : Int32)  (K : Mm → Int32 → Prop) (M : Mm) (x2 : Int32) (x3 : Int32) : Prop := wp_X8_setAside n M 77 75 (fun M17 => ∃ kf : Nat, wl_X8_check_134 n p1 K kf M17 x2 x3 0)
set_option maxHeartbeats 4000000 in
set_option maxRecDepth 100000 in
theorem lb_X8_check_119 {g : Gm} {E : En} {A : Nat → Prop} {K : Mm → Int32 → Prop} (X : CX g cX8_check RX8 (some .int) 6 E A 5) (p1 : Int32)   (M : Mm) (x2 : Int32) (x3 : Int32) (h : wb_X8_check_119 (eN E) p1  K M x2 x3) : AW g E A 5 (MQ (gB g) (QI E K A) (gA g) (gS g) (gk g) (gn g) A) 119 [(0, .ref (eA E 74)), (2, .int x2), (3, .int x3)] [] M := by
  unfold wb_X8_check_119 at h
  refine aw_aload_n X dX8_check_119 0 rfl ?_
  refine aw_aload_n X dX8_check_120 0 rfl ?_
  refine aw_get X dX8_check_121 (X.lt (by decide)) (sh_12 (rfl : tp 74 = 12) _) fl_RX8_16 rfl ?_
  refine aw_aload_n X dX8_check_124 0 rfl ?_
  refine aw_get X dX8_check_125 (X.lt (by decide)) (sh_12 (rfl : tp 74 = 12) _) fl_RX8_7 rfl ?_
  refine ca_v X (rn_v X [.ref (eA E 77), .ref (eA E 75)] [] (X.lt (by decide)) (sh_12 (rfl : tp 74 = 12) _) rfl rfl kw1430 kw96 (c_X8_setAside h) cal_yX8_setAside kw1428 (Nat.le_of_ble_eq_true rfl) rfl rfl (Nat.le_of_ble_eq_true rfl) dX8_check_128) (fun M17 h => ?_)
  refine aw_iconst (v := 0) X dX8_check_131 (by decide) ?_
  refine aw_istore (lv' := [(4, .int 0), (0, .ref (eA E 74)), (2, .int x2), (3, .int x3)]) X dX8_check_132 (by decide) rfl ?_
  obtain ⟨kf, h⟩ := h
  exact aw_sub [1, 2, 3, 0] rfl (lw_X8_check_134 X p1  kf _ _ _ _ h)
def wl_X8_check_65 (n : Nat) (p1 : Int32)  (K : Mm → Int32 → Prop) : Nat → Mm → Int32 → Int32 → Int32 → Prop
  | 0, _, _, _, _ => False
  | k + 1, M, x2, x3, x4 => (p1 ≤ x4 → wb_X8_check_119 n p1 K M x2 x3) ∧ (¬ p1 ≤ x4 → (99999 ≤ (M 75 2) → wb_X8_check_119 n p1 K M x2 x3) ∧ (¬ 99999 ≤ (M 75 2) → wp_X8_goesOn n M (fun M9 => vp_in x3 60 ∧ (∀ M11 : Mm, M11 = wr M9 93 x3.toNatClampNeg (M9 75 5) → wp_X8_standing n M11 (fun M12 r13 => vp_in (x3 + 1) 60 ∧ (∀ M14 : Mm, M14 = wr M12 93 (x3 + 1).toNatClampNeg r13 → ∀ v15 : Int32, v15 = x3 + 2 → ∀ v16 : Int32, v16 = x4 + 1 → wl_X8_check_65 n p1 K k M14 x2 v15 v16))))))
set_option maxHeartbeats 4000000 in
set_option maxRecDepth 100000 in
theorem lw_X8_check_65 {g : Gm} {E : En} {A : Nat → Prop} {K : Mm → Int32 → Prop} (X : CX g cX8_check RX8 (some .int) 6 E A 5) (p1 : Int32)   : ∀ (k : Nat) (M : Mm) (x2 : Int32) (x3 : Int32) (x4 : Int32), wl_X8_check_65 (eN E) p1  K k M x2 x3 x4 → AW g E A 5 (MQ (gB g) (QI E K A) (gA g) (gS g) (gk g) (gn g) A) 65 [(0, .ref (eA E 74)), (1, .int p1), (2, .int x2), (3, .int x3), (4, .int x4)] [] M := by
  intro k
  induction k with
  | zero => intro M x2 x3 x4 h; exact h.elim
  | succ k ih =>
    intro M x2 x3 x4 h
    rw [wl_X8_check_65] at h
    refine aw_iload X dX8_check_65 4 rfl ?_
    refine aw_iload_n X dX8_check_67 1 rfl ?_
    refine aw_icmp_ge (tgt := 119) X dX8_check_68 (by decide) (fun c => ?_) (fun c => ?_)
    · have h := h.1 c
      exact aw_sub [0, 2, 3] rfl (lb_X8_check_119 X p1  _ _ _ h)
    · have h := h.2 c
      refine aw_aload_n X dX8_check_71 0 rfl ?_
      refine aw_get X dX8_check_72 (X.lt (by decide)) (sh_12 (rfl : tp 74 = 12) _) fl_RX8_7 rfl ?_
      refine aw_iconst (v := 2) X dX8_check_75 (by decide) ?_
      refine aw_iald X dX8_check_76 (X.lt (by decide)) (sh_ia 3108 (rfl : tp 75 = 4108) _) (by unfold vp_in; decide) ?_
      refine aw_ldc (v := 99999) X dX8_check_77 kw1191 ?_
      refine aw_icmp_ge (tgt := 119) X dX8_check_79 (by decide) (fun c => ?_) (fun c => ?_)
      · have h := h.1 c
        exact aw_sub [0, 2, 3] rfl (lb_X8_check_119 X p1  _ _ _ h)
      · have h := h.2 c
        refine aw_aload_n X dX8_check_82 0 rfl ?_
        refine ca_v X (rn_v X [] [] (X.lt (by decide)) (sh_12 (rfl : tp 74 = 12) _) rfl rfl kw1194 kw67 (c_X8_goesOn h) cal_yX8_goesOn kw1192 (Nat.le_of_ble_eq_true rfl) rfl rfl (Nat.le_of_ble_eq_true rfl) dX8_check_83) (fun M9 h => ?_)
        refine aw_aload_n X dX8_check_86 0 rfl ?_
        refine aw_get X dX8_check_87 (X.lt (by decide)) (sh_12 (rfl : tp 74 = 12) _) fl_RX8_68 rfl ?_
        refine aw_iload_n X dX8_check_90 3 rfl ?_
        refine aw_aload_n X dX8_check_91 0 rfl ?_
        refine aw_get X dX8_check_92 (X.lt (by decide)) (sh_12 (rfl : tp 74 = 12) _) fl_RX8_7 rfl ?_
        refine aw_iconst (v := 5) X dX8_check_95 (by decide) ?_
        refine aw_iald X dX8_check_96 (X.lt (by decide)) (sh_ia 3108 (rfl : tp 75 = 4108) _) (by unfold vp_in; decide) ?_
        obtain ⟨hin, h⟩ := h
        refine aw_iast X dX8_check_97 (X.lt (by decide)) (sh_ia 60 (rfl : tp 93 = 1060) _) (sh_ia 60 (rfl : tp 93 = 1060) _) hin (fun M11 eM11 => ?_)
        have h := h M11 eM11
        refine aw_aload_n X dX8_check_98 0 rfl ?_
        refine aw_get X dX8_check_99 (X.lt (by decide)) (sh_12 (rfl : tp 74 = 12) _) fl_RX8_68 rfl ?_
        refine aw_iload_n X dX8_check_102 3 rfl ?_
        refine aw_iconst (v := 1) X dX8_check_103 (by decide) ?_
        refine aw_iadd X dX8_check_104 ?_
        refine aw_aload_n X dX8_check_105 0 rfl ?_
        refine ca_i X (rn_v X [] [.int (x3 + 1), .ref (eA E 93)] (X.lt (by decide)) (sh_12 (rfl : tp 74 = 12) _) rfl rfl kw1121 kw61 (c_X8_standing h) cal_yX8_standing kw1119 (Nat.le_of_ble_eq_true rfl) rfl rfl (Nat.le_of_ble_eq_true rfl) dX8_check_106) (fun M12 r13 h => ?_)
        obtain ⟨hin, h⟩ := h
        refine aw_iast X dX8_check_109 (X.lt (by decide)) (sh_ia 60 (rfl : tp 93 = 1060) _) (sh_ia 60 (rfl : tp 93 = 1060) _) hin (fun M14 eM14 => ?_)
        have h := h M14 eM14
        obtain ⟨v15, ev15⟩ : ∃ y : Int32, y = x3 + 2 := ⟨_, rfl⟩
        have h := h v15 ev15
        refine aw_iinc (v := v15) (lv' := [(3, .int v15), (0, .ref (eA E 74)), (1, .int p1), (2, .int x2), (4, .int x4)]) X dX8_check_110 3 rfl (by rw [ev15]; rfl) (by decide) rfl ?_
        obtain ⟨v16, ev16⟩ : ∃ y : Int32, y = x4 + 1 := ⟨_, rfl⟩
        have h := h v16 ev16
        refine aw_iinc (v := v16) (lv' := [(4, .int v16), (3, .int v15), (0, .ref (eA E 74)), (1, .int p1), (2, .int x2)]) X dX8_check_113 4 rfl (by rw [ev16]; rfl) (by decide) rfl ?_
        refine aw_goto (tgt := 65) X dX8_check_116 (by decide) ?_
        exact aw_sub [2, 3, 4, 1, 0] rfl (ih _ _ _ _ h)
def wp_X8_check (n : Nat)  (M : Mm) (p1 : Int32) (K : Mm → Int32 → Prop) : Prop := ∀ v1 : Int32, v1 = M 74 32 → ∀ M2 : Mm, M2 = wr M 74 32 0 → wp_X8_isIn n M2 p1.toInt64 1 30 (fun M3 r4 => (¬ r4 = 0 → (¬ (M3 74 3) = 0 → wp_X8_setAside n M3 75 77 (fun M5 => wp_X8_setAside n M5 76 75 (fun M7 => ∃ kf : Nat, wl_X8_check_65 n p1 K kf M7 v1 0 0))) ∧ ((M3 74 3) = 0 → K M3 (-1000000002))) ∧ (r4 = 0 → K M3 (-1000000001)))
set_option maxHeartbeats 4000000 in
set_option maxRecDepth 100000 in
theorem c_X8_check {l : Launch} {E : En} {M : Mm} {p1 : Int32} {K : Mm → Int32 → Prop}  (h : wp_X8_check (eN E)  M p1 K) : Ctr l E yX8_check cX8_check 5 (some .int) 6 [.ref (eA E 74), .int p1] M (QI E K) := by
  refine Ctr.of (by decide +kernel) (Nat.le_of_ble_eq_true rfl) (fun g A hgl X => ?_)
  subst hgl
  have X : CX g cX8_check RX8 (some .int) 6 E A 5 := X
  show AW g E A 5 _ 0 [(0, .ref (eA E 74)), (1, .int p1)] [] M
  unfold wp_X8_check at h
  refine aw_aload_n X dX8_check_0 0 rfl ?_
  refine aw_get X dX8_check_1 (X.lt (by decide)) (sh_12 (rfl : tp 74 = 12) _) fl_RX8_328 rfl ?_
  refine aw_top (fun v1 ev1 => ?_)
  have h := h v1 ev1
  refine aw_istore_n (lv' := [(2, .int v1), (0, .ref (eA E 74)), (1, .int p1)]) X dX8_check_4 (by decide) rfl ?_
  refine aw_aload_n X dX8_check_5 1 rfl ?_
  refine aw_iconst (v := 0) X dX8_check_6 (by decide) ?_
  refine aw_put X dX8_check_7 (X.lt (by decide)) (sh_12 (rfl : tp 74 = 12) _) fl_RX8_328 fw_8_32 (Nat.le_of_ble_eq_true rfl) (sp_12_32 (rfl : tp 74 = 12) _ _) (fun M2 eM2 => ?_)
  have h := h M2 eM2
  refine aw_iload_n X dX8_check_10 2 rfl ?_
  refine aw_i2l X dX8_check_11 ?_
  refine aw_lconst (v := 1) X dX8_check_12 (by decide) ?_
  refine aw_ldc2_w (v := 30) X dX8_check_13 kw1082 ?_
  refine ca_i X (rn_s X [.long p1.toInt64, .long 1, .long 30] [] kw1079 (c_X8_isIn h) cal_yX8_isIn kw1078 (Nat.le_of_ble_eq_true rfl) rfl rfl (Nat.le_of_ble_eq_true rfl) dX8_check_16) (fun M3 r4 h => ?_)
  refine aw_if_ne (tgt := 25) X dX8_check_19 (by decide) (fun c => ?_) (fun c => ?_)
  · have h := h.1 c
    refine aw_aload_n X dX8_check_25 1 rfl ?_
    refine aw_get X dX8_check_26 (X.lt (by decide)) (sh_12 (rfl : tp 74 = 12) _) fl_RX8_331 rfl ?_
    refine aw_if_ne (tgt := 36) X dX8_check_29 (by decide) (fun c => ?_) (fun c => ?_)
    · have h := h.1 c
      refine aw_aload_n X dX8_check_36 1 rfl ?_
      refine aw_aload_n X dX8_check_37 1 rfl ?_
      refine aw_get X dX8_check_38 (X.lt (by decide)) (sh_12 (rfl : tp 74 = 12) _) fl_RX8_7 rfl ?_
      refine aw_aload_n X dX8_check_41 1 rfl ?_
      refine aw_get X dX8_check_42 (X.lt (by decide)) (sh_12 (rfl : tp 74 = 12) _) fl_RX8_16 rfl ?_
      refine ca_v X (rn_v X [.ref (eA E 75), .ref (eA E 77)] [] (X.lt (by decide)) (sh_12 (rfl : tp 74 = 12) _) rfl rfl kw1430 kw96 (c_X8_setAside h) cal_yX8_setAside kw1428 (Nat.le_of_ble_eq_true rfl) rfl rfl (Nat.le_of_ble_eq_true rfl) dX8_check_45) (fun M5 h => ?_)
      refine aw_aload_n X dX8_check_48 1 rfl ?_
      refine aw_aload_n X dX8_check_49 1 rfl ?_
      refine aw_get X dX8_check_50 (X.lt (by decide)) (sh_12 (rfl : tp 74 = 12) _) fl_RX8_13 rfl ?_
      refine aw_aload_n X dX8_check_53 1 rfl ?_
      refine aw_get X dX8_check_54 (X.lt (by decide)) (sh_12 (rfl : tp 74 = 12) _) fl_RX8_7 rfl ?_
      refine ca_v X (rn_v X [.ref (eA E 76), .ref (eA E 75)] [] (X.lt (by decide)) (sh_12 (rfl : tp 74 = 12) _) rfl rfl kw1430 kw96 (c_X8_setAside h) cal_yX8_setAside kw1428 (Nat.le_of_ble_eq_true rfl) rfl rfl (Nat.le_of_ble_eq_true rfl) dX8_check_57) (fun M7 h => ?_)
      refine aw_iconst (v := 0) X dX8_check_60 (by decide) ?_
      refine aw_istore_n (lv' := [(3, .int 0), (2, .int v1), (0, .ref (eA E 74)), (1, .int p1)]) X dX8_check_61 (by decide) rfl ?_
      refine aw_iconst (v := 0) X dX8_check_62 (by decide) ?_
      refine aw_istore (lv' := [(4, .int 0), (3, .int 0), (2, .int v1), (0, .ref (eA E 74)), (1, .int p1)]) X dX8_check_63 (by decide) rfl ?_
      obtain ⟨kf, h⟩ := h
      exact aw_sub [3, 4, 2, 1, 0] rfl (lw_X8_check_65 X p1  kf _ _ _ _ h)
    · have h := h.2 c
      refine aw_ldc_w (v := (-1000000002)) X dX8_check_32 kw1419 ?_
      exact aw_iret X dX8_check_35 h
  · have h := h.2 c
    refine aw_ldc (v := (-1000000001)) X dX8_check_22 kw1084 ?_
    exact aw_iret X dX8_check_24 h
def wp_X8_keep (n : Nat)  (M : Mm)  (K : Mm → Int32 → Prop) : Prop := ∀ M1 : Mm, M1 = wr M 74 3 1 → wp_X8_setAside n M1 75 76 (fun M2 => K M2 (M2 75 0))
set_option maxHeartbeats 4000000 in
set_option maxRecDepth 100000 in
theorem c_X8_keep {l : Launch} {E : En} {M : Mm}  {K : Mm → Int32 → Prop}  (h : wp_X8_keep (eN E)  M  K) : Ctr l E yX8_keep cX8_keep 1 (some .int) 1 [.ref (eA E 74)] M (QI E K) := by
  refine Ctr.of (by decide +kernel) (Nat.le_of_ble_eq_true rfl) (fun g A hgl X => ?_)
  subst hgl
  have X : CX g cX8_keep RX8 (some .int) 1 E A 1 := X
  show AW g E A 1 _ 0 [(0, .ref (eA E 74))] [] M
  unfold wp_X8_keep at h
  refine aw_aload_n X dX8_keep_0 0 rfl ?_
  refine aw_iconst (v := 1) X dX8_keep_1 (by decide) ?_
  refine aw_putT X dX8_keep_2 (X.lt (by decide)) (sh_12 (rfl : tp 74 = 12) _) fl_RX8_331 fw_8_3 (by decide) (by decide) (Nat.le_of_ble_eq_true rfl) (sp_12_3 (rfl : tp 74 = 12) _ _) (fun M1 eM1 => ?_)
  have h := h M1 eM1
  refine aw_aload_n X dX8_keep_5 0 rfl ?_
  refine aw_aload_n X dX8_keep_6 0 rfl ?_
  refine aw_get X dX8_keep_7 (X.lt (by decide)) (sh_12 (rfl : tp 74 = 12) _) fl_RX8_7 rfl ?_
  refine aw_aload_n X dX8_keep_10 0 rfl ?_
  refine aw_get X dX8_keep_11 (X.lt (by decide)) (sh_12 (rfl : tp 74 = 12) _) fl_RX8_13 rfl ?_
  refine ca_v X (rn_v X [.ref (eA E 75), .ref (eA E 76)] [] (X.lt (by decide)) (sh_12 (rfl : tp 74 = 12) _) rfl rfl kw1430 kw96 (c_X8_setAside h) cal_yX8_setAside kw1428 (Nat.le_of_ble_eq_true rfl) rfl rfl (Nat.le_of_ble_eq_true rfl) dX8_keep_14) (fun M2 h => ?_)
  refine aw_aload_n X dX8_keep_17 0 rfl ?_
  refine aw_get X dX8_keep_18 (X.lt (by decide)) (sh_12 (rfl : tp 74 = 12) _) fl_RX8_7 rfl ?_
  refine aw_iconst (v := 0) X dX8_keep_21 (by decide) ?_
  refine aw_iald X dX8_keep_22 (X.lt (by decide)) (sh_ia 3108 (rfl : tp 75 = 4108) _) (by unfold vp_in; decide) ?_
  exact aw_iret X dX8_keep_23 h
def wp_X8_back (n : Nat)  (M : Mm)  (K : Mm → Int32 → Prop) : Prop := (¬ (M 74 3) = 0 → wp_X8_setAside n M 76 75 (fun M1 => K M1 (M1 75 0))) ∧ ((M 74 3) = 0 → K M (-1000000002))
set_option maxHeartbeats 4000000 in
set_option maxRecDepth 100000 in
theorem c_X8_back {l : Launch} {E : En} {M : Mm}  {K : Mm → Int32 → Prop}  (h : wp_X8_back (eN E)  M  K) : Ctr l E yX8_back cX8_back 1 (some .int) 1 [.ref (eA E 74)] M (QI E K) := by
  refine Ctr.of (by decide +kernel) (Nat.le_of_ble_eq_true rfl) (fun g A hgl X => ?_)
  subst hgl
  have X : CX g cX8_back RX8 (some .int) 1 E A 1 := X
  show AW g E A 1 _ 0 [(0, .ref (eA E 74))] [] M
  unfold wp_X8_back at h
  refine aw_aload_n X dX8_back_0 0 rfl ?_
  refine aw_get X dX8_back_1 (X.lt (by decide)) (sh_12 (rfl : tp 74 = 12) _) fl_RX8_331 rfl ?_
  refine aw_if_ne (tgt := 11) X dX8_back_4 (by decide) (fun c => ?_) (fun c => ?_)
  · have h := h.1 c
    refine aw_aload_n X dX8_back_11 0 rfl ?_
    refine aw_aload_n X dX8_back_12 0 rfl ?_
    refine aw_get X dX8_back_13 (X.lt (by decide)) (sh_12 (rfl : tp 74 = 12) _) fl_RX8_13 rfl ?_
    refine aw_aload_n X dX8_back_16 0 rfl ?_
    refine aw_get X dX8_back_17 (X.lt (by decide)) (sh_12 (rfl : tp 74 = 12) _) fl_RX8_7 rfl ?_
    refine ca_v X (rn_v X [.ref (eA E 76), .ref (eA E 75)] [] (X.lt (by decide)) (sh_12 (rfl : tp 74 = 12) _) rfl rfl kw1430 kw96 (c_X8_setAside h) cal_yX8_setAside kw1428 (Nat.le_of_ble_eq_true rfl) rfl rfl (Nat.le_of_ble_eq_true rfl) dX8_back_20) (fun M1 h => ?_)
    refine aw_aload_n X dX8_back_23 0 rfl ?_
    refine aw_get X dX8_back_24 (X.lt (by decide)) (sh_12 (rfl : tp 74 = 12) _) fl_RX8_7 rfl ?_
    refine aw_iconst (v := 0) X dX8_back_27 (by decide) ?_
    refine aw_iald X dX8_back_28 (X.lt (by decide)) (sh_ia 3108 (rfl : tp 75 = 4108) _) (by unfold vp_in; decide) ?_
    exact aw_iret X dX8_back_29 h
  · have h := h.2 c
    refine aw_ldc_w (v := (-1000000002)) X dX8_back_7 kw1419 ?_
    exact aw_iret X dX8_back_10 h
def wp_X8_count (n : Nat)  (M : Mm) (p1 : Int32) (K : Mm → Int32 → Prop) : Prop := (p1 = 0 → K M (M 75 0)) ∧ (p1 = 1 → wp_X8_standing n M (fun M1 r2 => K M1 r2)) ∧ (p1 = 2 → K M (M 75 2)) ∧ (p1 = 3 → K M (M 75 5)) ∧ (p1 = 4 → K M (M 75 8)) ∧ (p1 = 5 → K M (M 75 9)) ∧ (p1 = 6 → wp_X8_ofAll n M 9 (fun M3 r4 => K M3 r4)) ∧ (p1 = 7 → wp_X8_ofAll n M 10 (fun M5 r6 => K M5 r6)) ∧ (p1 = 8 → K M (M 75 1)) ∧ (p1 = 9 → K M (M 74 32)) ∧ (p1 = 10 → K M (M 74 17)) ∧ (p1 = 11 → K M (M 75 10)) ∧ (¬ p1 = 0 → ¬ p1 = 1 → ¬ p1 = 2 → ¬ p1 = 3 → ¬ p1 = 4 → ¬ p1 = 5 → ¬ p1 = 6 → ¬ p1 = 7 → ¬ p1 = 8 → ¬ p1 = 9 → ¬ p1 = 10 → ¬ p1 = 11 → K M (-1000000001))
set_option maxHeartbeats 4000000 in
set_option maxRecDepth 100000 in
theorem c_X8_count {l : Launch} {E : En} {M : Mm} {p1 : Int32} {K : Mm → Int32 → Prop}  (h : wp_X8_count (eN E)  M p1 K) : Ctr l E yX8_count cX8_count 2 (some .int) 2 [.ref (eA E 74), .int p1] M (QI E K) := by
  refine Ctr.of (by decide +kernel) (Nat.le_of_ble_eq_true rfl) (fun g A hgl X => ?_)
  subst hgl
  have X : CX g cX8_count RX8 (some .int) 2 E A 2 := X
  show AW g E A 2 _ 0 [(0, .ref (eA E 74)), (1, .int p1)] [] M
  unfold wp_X8_count at h
  refine aw_iload_n X dX8_count_0 1 rfl ?_
  by_cases c0 : p1 = 0
  · have h := h.1 c0
    refine aw_tableIn (tgt := 64) X dX8_count_1 0 c0 (by decide) (by decide) rfl (by decide) ?_
    refine aw_aload_n X dX8_count_64 0 rfl ?_
    refine aw_get X dX8_count_65 (X.lt (by decide)) (sh_12 (rfl : tp 74 = 12) _) fl_RX8_7 rfl ?_
    refine aw_iconst (v := 0) X dX8_count_68 (by decide) ?_
    refine aw_iald X dX8_count_69 (X.lt (by decide)) (sh_ia 3108 (rfl : tp 75 = 4108) _) (by unfold vp_in; decide) ?_
    exact aw_iret X dX8_count_70 h
  · by_cases c1 : p1 = 1
    · have h := h.2.1 c1
      refine aw_tableIn (tgt := 71) X dX8_count_1 1 c1 (by decide) (by decide) rfl (by decide) ?_
      refine aw_aload_n X dX8_count_71 0 rfl ?_
      refine ca_i X (rn_v X [] [] (X.lt (by decide)) (sh_12 (rfl : tp 74 = 12) _) rfl rfl kw1121 kw61 (c_X8_standing h) cal_yX8_standing kw1119 (Nat.le_of_ble_eq_true rfl) rfl rfl (Nat.le_of_ble_eq_true rfl) dX8_count_72) (fun M1 r2 h => ?_)
      exact aw_iret X dX8_count_75 h
    · by_cases c2 : p1 = 2
      · have h := h.2.2.1 c2
        refine aw_tableIn (tgt := 76) X dX8_count_1 2 c2 (by decide) (by decide) rfl (by decide) ?_
        refine aw_aload_n X dX8_count_76 0 rfl ?_
        refine aw_get X dX8_count_77 (X.lt (by decide)) (sh_12 (rfl : tp 74 = 12) _) fl_RX8_7 rfl ?_
        refine aw_iconst (v := 2) X dX8_count_80 (by decide) ?_
        refine aw_iald X dX8_count_81 (X.lt (by decide)) (sh_ia 3108 (rfl : tp 75 = 4108) _) (by unfold vp_in; decide) ?_
        exact aw_iret X dX8_count_82 h
      · by_cases c3 : p1 = 3
        · have h := h.2.2.2.1 c3
          refine aw_tableIn (tgt := 83) X dX8_count_1 3 c3 (by decide) (by decide) rfl (by decide) ?_
          refine aw_aload_n X dX8_count_83 0 rfl ?_
          refine aw_get X dX8_count_84 (X.lt (by decide)) (sh_12 (rfl : tp 74 = 12) _) fl_RX8_7 rfl ?_
          refine aw_iconst (v := 5) X dX8_count_87 (by decide) ?_
          refine aw_iald X dX8_count_88 (X.lt (by decide)) (sh_ia 3108 (rfl : tp 75 = 4108) _) (by unfold vp_in; decide) ?_
          exact aw_iret X dX8_count_89 h
        · by_cases c4 : p1 = 4
          · have h := h.2.2.2.2.1 c4
            refine aw_tableIn (tgt := 90) X dX8_count_1 4 c4 (by decide) (by decide) rfl (by decide) ?_
            refine aw_aload_n X dX8_count_90 0 rfl ?_
            refine aw_get X dX8_count_91 (X.lt (by decide)) (sh_12 (rfl : tp 74 = 12) _) fl_RX8_7 rfl ?_
            refine aw_bipush (v := 8) X dX8_count_94 (by decide) ?_
            refine aw_iald X dX8_count_96 (X.lt (by decide)) (sh_ia 3108 (rfl : tp 75 = 4108) _) (by unfold vp_in; decide) ?_
            exact aw_iret X dX8_count_97 h
          · by_cases c5 : p1 = 5
            · have h := h.2.2.2.2.2.1 c5
              refine aw_tableIn (tgt := 98) X dX8_count_1 5 c5 (by decide) (by decide) rfl (by decide) ?_
              refine aw_aload_n X dX8_count_98 0 rfl ?_
              refine aw_get X dX8_count_99 (X.lt (by decide)) (sh_12 (rfl : tp 74 = 12) _) fl_RX8_7 rfl ?_
              refine aw_bipush (v := 9) X dX8_count_102 (by decide) ?_
              refine aw_iald X dX8_count_104 (X.lt (by decide)) (sh_ia 3108 (rfl : tp 75 = 4108) _) (by unfold vp_in; decide) ?_
              exact aw_iret X dX8_count_105 h
            · by_cases c6 : p1 = 6
              · have h := h.2.2.2.2.2.2.1 c6
                refine aw_tableIn (tgt := 106) X dX8_count_1 6 c6 (by decide) (by decide) rfl (by decide) ?_
                refine aw_aload_n X dX8_count_106 0 rfl ?_
                refine aw_bipush (v := 9) X dX8_count_107 (by decide) ?_
                refine ca_i X (rn_v X [.int 9] [] (X.lt (by decide)) (sh_12 (rfl : tp 74 = 12) _) rfl rfl kw1226 kw75 (c_X8_ofAll h) cal_yX8_ofAll kw1224 (Nat.le_of_ble_eq_true rfl) rfl rfl (Nat.le_of_ble_eq_true rfl) dX8_count_109) (fun M3 r4 h => ?_)
                exact aw_iret X dX8_count_112 h
              · by_cases c7 : p1 = 7
                · have h := h.2.2.2.2.2.2.2.1 c7
                  refine aw_tableIn (tgt := 113) X dX8_count_1 7 c7 (by decide) (by decide) rfl (by decide) ?_
                  refine aw_aload_n X dX8_count_113 0 rfl ?_
                  refine aw_bipush (v := 10) X dX8_count_114 (by decide) ?_
                  refine ca_i X (rn_v X [.int 10] [] (X.lt (by decide)) (sh_12 (rfl : tp 74 = 12) _) rfl rfl kw1226 kw75 (c_X8_ofAll h) cal_yX8_ofAll kw1224 (Nat.le_of_ble_eq_true rfl) rfl rfl (Nat.le_of_ble_eq_true rfl) dX8_count_116) (fun M5 r6 h => ?_)
                  exact aw_iret X dX8_count_119 h
                · by_cases c8 : p1 = 8
                  · have h := h.2.2.2.2.2.2.2.2.1 c8
                    refine aw_tableIn (tgt := 120) X dX8_count_1 8 c8 (by decide) (by decide) rfl (by decide) ?_
                    refine aw_aload_n X dX8_count_120 0 rfl ?_
                    refine aw_get X dX8_count_121 (X.lt (by decide)) (sh_12 (rfl : tp 74 = 12) _) fl_RX8_7 rfl ?_
                    refine aw_iconst (v := 1) X dX8_count_124 (by decide) ?_
                    refine aw_iald X dX8_count_125 (X.lt (by decide)) (sh_ia 3108 (rfl : tp 75 = 4108) _) (by unfold vp_in; decide) ?_
                    exact aw_iret X dX8_count_126 h
                  · by_cases c9 : p1 = 9
                    · have h := h.2.2.2.2.2.2.2.2.2.1 c9
                      refine aw_tableIn (tgt := 127) X dX8_count_1 9 c9 (by decide) (by decide) rfl (by decide) ?_
                      refine aw_aload_n X dX8_count_127 0 rfl ?_
                      refine aw_get X dX8_count_128 (X.lt (by decide)) (sh_12 (rfl : tp 74 = 12) _) fl_RX8_328 rfl ?_
                      exact aw_iret X dX8_count_131 h
                    · by_cases c10 : p1 = 10
                      · have h := h.2.2.2.2.2.2.2.2.2.2.1 c10
                        refine aw_tableIn (tgt := 132) X dX8_count_1 10 c10 (by decide) (by decide) rfl (by decide) ?_
                        refine aw_aload_n X dX8_count_132 0 rfl ?_
                        refine aw_get X dX8_count_133 (X.lt (by decide)) (sh_12 (rfl : tp 74 = 12) _) fl_RX8_206 rfl ?_
                        exact aw_iret X dX8_count_136 h
                      · by_cases c11 : p1 = 11
                        · have h := h.2.2.2.2.2.2.2.2.2.2.2.1 c11
                          refine aw_tableIn (tgt := 137) X dX8_count_1 11 c11 (by decide) (by decide) rfl (by decide) ?_
                          refine aw_aload_n X dX8_count_137 0 rfl ?_
                          refine aw_get X dX8_count_138 (X.lt (by decide)) (sh_12 (rfl : tp 74 = 12) _) fl_RX8_7 rfl ?_
                          refine aw_bipush (v := 10) X dX8_count_141 (by decide) ?_
                          refine aw_iald X dX8_count_143 (X.lt (by decide)) (sh_ia 3108 (rfl : tp 75 = 4108) _) (by unfold vp_in; decide) ?_
                          exact aw_iret X dX8_count_144 h
                        · have h := h.2.2.2.2.2.2.2.2.2.2.2.2 c0 c1 c2 c3 c4 c5 c6 c7 c8 c9 c10 c11
                          refine aw_tableOut (tgt := 145) X dX8_count_1 (by have n0 := lv_neT (a := 0) c0 rfl; have n1 := lv_neT (a := 1) c1 rfl; have n2 := lv_neT (a := 2) c2 rfl; have n3 := lv_neT (a := 3) c3 rfl; have n4 := lv_neT (a := 4) c4 rfl; have n5 := lv_neT (a := 5) c5 rfl; have n6 := lv_neT (a := 6) c6 rfl; have n7 := lv_neT (a := 7) c7 rfl; have n8 := lv_neT (a := 8) c8 rfl; have n9 := lv_neT (a := 9) c9 rfl; have n10 := lv_neT (a := 10) c10 rfl; have n11 := lv_neT (a := 11) c11 rfl; omega) (by decide) ?_
                          refine aw_ldc (v := (-1000000001)) X dX8_count_145 kw1084 ?_
                          exact aw_iret X dX8_count_147 h
