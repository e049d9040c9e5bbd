def wp_X7_within (n : Nat)  (M : Mm) (p0 : Int32) (p1 : Int32) (p2 : Int32) (K : Mm → Int32 → Prop) : Prop := (p0 < p1 → K M 0) ∧ (¬ p0 < p1 → (p2 < p0 → K M 0) ∧ (¬ p2 < p0 → K M 1))
set_option maxHeartbeats 4000000 in
set_option maxRecDepth 100000 in
theorem c_X7_within {l : Launch} {E : En} {M : Mm} {p0 : Int32} {p1 : Int32} {p2 : Int32} {K : Mm → Int32 → Prop}  (h : wp_X7_within (eN E)  M p0 p1 p2 K) : Ctr l E yX7_within cX7_within 3 (some .boolean) 0 [.int p0, .int p1, .int p2] M (QI E K) := by
  refine Ctr.of (by decide +kernel) (Nat.le_of_ble_eq_true rfl) (fun g A hgl X => ?_)
  subst hgl
  have X : CX g cX7_within RX7 (some .boolean) 0 E A 3 := X
  show AW g E A 3 _ 0 [(0, .int p0), (1, .int p1), (2, .int p2)] [] M
  unfold wp_X7_within at h
  refine aw_iload_n X dX7_within_0 0 rfl ?_
  refine aw_iload_n X dX7_within_1 1 rfl ?_
  refine aw_icmp_lt (tgt := 14) X dX7_within_2 (by decide) (fun c => ?_) (fun c => ?_)
  · have h := h.1 c
    refine aw_iconst (v := 0) X dX7_within_14 (by decide) ?_
    exact aw_zret X dX7_within_15 (by decide) h
  · have h := h.2 c
    refine aw_iload_n X dX7_within_5 0 rfl ?_
    refine aw_iload_n X dX7_within_6 2 rfl ?_
    refine aw_icmp_gt (tgt := 14) X dX7_within_7 (by decide) (fun c => ?_) (fun c => ?_)
    · have h := h.1 c
      refine aw_iconst (v := 0) X dX7_within_14 (by decide) ?_
      exact aw_zret X dX7_within_15 (by decide) h
    · have h := h.2 c
      refine aw_iconst (v := 1) X dX7_within_10 (by decide) ?_
      refine aw_goto (tgt := 15) X dX7_within_11 (by decide) ?_
      exact aw_zret X dX7_within_15 (by decide) h
def wp_X7_isKind (n : Nat)  (M : Mm) (p0 : Int32) (K : Mm → Int32 → Prop) : Prop := wp_X7_within n M p0 0 (6 - 1) (fun M1 r2 => (r2 = 0 ∨ r2 = 1) ∧ K M1 r2)
set_option maxHeartbeats 4000000 in
set_option maxRecDepth 100000 in
theorem c_X7_isKind {l : Launch} {E : En} {M : Mm} {p0 : Int32} {K : Mm → Int32 → Prop}  (h : wp_X7_isKind (eN E)  M p0 K) : Ctr l E yX7_isKind cX7_isKind 1 (some .boolean) 1 [.int p0] M (QI E K) := by
  refine Ctr.of (by decide +kernel) (Nat.le_of_ble_eq_true rfl) (fun g A hgl X => ?_)
  subst hgl
  have X : CX g cX7_isKind RX7 (some .boolean) 1 E A 1 := X
  show AW g E A 1 _ 0 [(0, .int p0)] [] M
  unfold wp_X7_isKind at h
  refine aw_iload_n X dX7_isKind_0 0 rfl ?_
  refine aw_iconst (v := 0) X dX7_isKind_1 (by decide) ?_
  refine aw_gets X dX7_isKind_2 X.sta.1.1.1 kw391 rfl ?_
  refine aw_tlen (v := 6) X dX7_isKind_5 X.sta.1.1.2 (by decide) ?_
  refine aw_iconst (v := 1) X dX7_isKind_6 (by decide) ?_
  refine aw_isub X dX7_isKind_7 ?_
  refine ca_i X (rn_s X [.int p0, .int 0, .int (6 - 1)] [] kw394 (c_X7_within h) cal_yX7_within kw393 (Nat.le_of_ble_eq_true rfl) rfl rfl (Nat.le_of_ble_eq_true rfl) dX7_isKind_8) (fun M1 r2 h => ?_)
  exact aw_zret X dX7_isKind_11 (nar_z h.1) h.2
def wp_X7_fitsHabit (n : Nat)  (M : Mm) (p0 : Int32) (p1 : Int32) (K : Mm → Int32 → Prop) : Prop := wp_X7_within n M p0 1 4 (fun M1 r2 => (r2 = 0 → K M1 0) ∧ (¬ r2 = 0 → vp_in p0 5 ∧ (vp_in p0 5 ∧ (wp_X7_within n M1 p1 (([0, 0, 1, 0, 0] : List Int32).getD p0.toNatClampNeg 0) (([5, 59, 30, 9, 9] : List Int32).getD p0.toNatClampNeg 0) (fun M3 r4 => (r4 = 0 → K M3 0) ∧ (¬ r4 = 0 → K M3 1))))))
set_option maxHeartbeats 4000000 in
set_option maxRecDepth 100000 in
theorem c_X7_fitsHabit {l : Launch} {E : En} {M : Mm} {p0 : Int32} {p1 : Int32} {K : Mm → Int32 → Prop}  (h : wp_X7_fitsHabit (eN E)  M p0 p1 K) : Ctr l E yX7_fitsHabit cX7_fitsHabit 2 (some .boolean) 1 [.int p0, .int p1] M (QI E K) := by
  refine Ctr.of (by decide +kernel) (Nat.le_of_ble_eq_true rfl) (fun g A hgl X => ?_)
  subst hgl
  have X : CX g cX7_fitsHabit RX7 (some .boolean) 1 E A 2 := X
  show AW g E A 2 _ 0 [(0, .int p0), (1, .int p1)] [] M
  unfold wp_X7_fitsHabit at h
  refine aw_iload_n X dX7_fitsHabit_0 0 rfl ?_
  refine aw_iconst (v := 1) X dX7_fitsHabit_1 (by decide) ?_
  refine aw_iconst (v := 4) X dX7_fitsHabit_2 (by decide) ?_
  refine ca_i X (rn_s X [.int p0, .int 1, .int 4] [] kw394 (c_X7_within h) cal_yX7_within kw393 (Nat.le_of_ble_eq_true rfl) rfl rfl (Nat.le_of_ble_eq_true rfl) dX7_fitsHabit_3) (fun M1 r2 h => ?_)
  refine aw_if_eq (tgt := 30) X dX7_fitsHabit_6 (by decide) (fun c => ?_) (fun c => ?_)
  · have h := h.1 c
    refine aw_iconst (v := 0) X dX7_fitsHabit_30 (by decide) ?_
    exact aw_zret X dX7_fitsHabit_31 (by decide) h
  · have h := h.2 c
    refine aw_iload_n X dX7_fitsHabit_9 1 rfl ?_
    refine aw_gets X dX7_fitsHabit_10 X.sta.1.2.1.1 kw399 rfl ?_
    refine aw_iload_n X dX7_fitsHabit_13 0 rfl ?_
    obtain ⟨hin, h⟩ := h
    refine aw_ti X dX7_fitsHabit_14 X.sta.1.2.1.2 hin ?_
    refine aw_gets X dX7_fitsHabit_15 X.sta.1.2.2.1.1 kw401 rfl ?_
    refine aw_iload_n X dX7_fitsHabit_18 0 rfl ?_
    obtain ⟨hin, h⟩ := h
    refine aw_ti X dX7_fitsHabit_19 X.sta.1.2.2.1.2 hin ?_
    refine ca_i X (rn_s X [.int p1, .int (([0, 0, 1, 0, 0] : List Int32).getD p0.toNatClampNeg 0), .int (([5, 59, 30, 9, 9] : List Int32).getD p0.toNatClampNeg 0)] [] kw394 (c_X7_within h) cal_yX7_within kw393 (Nat.le_of_ble_eq_true rfl) rfl rfl (Nat.le_of_ble_eq_true rfl) dX7_fitsHabit_20) (fun M3 r4 h => ?_)
    refine aw_if_eq (tgt := 30) X dX7_fitsHabit_23 (by decide) (fun c => ?_) (fun c => ?_)
    · have h := h.1 c
      refine aw_iconst (v := 0) X dX7_fitsHabit_30 (by decide) ?_
      exact aw_zret X dX7_fitsHabit_31 (by decide) h
    · have h := h.2 c
      refine aw_iconst (v := 1) X dX7_fitsHabit_26 (by decide) ?_
      refine aw_goto (tgt := 31) X dX7_fitsHabit_27 (by decide) ?_
      exact aw_zret X dX7_fitsHabit_31 (by decide) h
def wp_X0_start (n : Nat)  (M : Mm) (this : Nat) (p1 : Int32) (p2 : Int32) (p3 : Int32) (p4 : Int32) (K : Mm → Prop) : Prop := (tp this = 5) ∧ (∀ M1 : Mm, M1 = wr M this 0 p1 → ∀ M2 : Mm, M2 = wr M1 this 1 p2 → ∀ M3 : Mm, M3 = wr M2 this 2 p3 → ∀ M4 : Mm, M4 = wr M3 this 3 p4 → ∀ M5 : Mm, M5 = wr M4 this 4 p4 → ∀ M6 : Mm, M6 = wr M5 this 5 0 → ∀ M7 : Mm, M7 = wr M6 this 6 0 → ∀ M8 : Mm, M8 = wr M7 this 7 0 → ∀ M9 : Mm, M9 = wr M8 this 8 0 → ∀ M10 : Mm, M10 = wr M9 this 9 0 → ∀ M11 : Mm, M11 = wr M10 this 10 0 → ∀ M12 : Mm, M12 = wr M11 this 11 0 → K M12)
set_option maxHeartbeats 4000000 in
set_option maxRecDepth 100000 in
theorem c_X0_start {l : Launch} {E : En} {M : Mm} {this : Nat} {p1 : Int32} {p2 : Int32} {p3 : Int32} {p4 : Int32} {K : Mm → Prop}  (h : wp_X0_start (eN E)  M this p1 p2 p3 p4 K) : Ctr l E yX0_start cX0_start 5 none 0 [.ref (eA E this), .int p1, .int p2, .int p3, .int p4] M (QV E K) := by
  refine Ctr.of (by decide +kernel) (Nat.le_of_ble_eq_true rfl) (fun g A hgl X => ?_)
  subst hgl
  have X : CX g cX0_start RX0 none 0 E A 5 := X
  show AW g E A 5 _ 0 [(0, .ref (eA E this)), (1, .int p1), (2, .int p2), (3, .int p3), (4, .int p4)] [] M
  unfold wp_X0_start at h
  obtain ⟨hthis, h⟩ := h
  refine aw_aload_n X dX0_start_0 0 rfl ?_
  refine aw_iload_n X dX0_start_1 1 rfl ?_
  refine aw_put X dX0_start_2 (X.il hthis (by decide)) (sh_5 hthis _) fl_RX0_9 fw_0_0 (Nat.le_of_ble_eq_true rfl) (sp_5_0 hthis _ _) (fun M1 eM1 => ?_)
  have h := h M1 eM1
  refine aw_aload_n X dX0_start_5 0 rfl ?_
  refine aw_iload_n X dX0_start_6 2 rfl ?_
  refine aw_put X dX0_start_7 (X.il hthis (by decide)) (sh_5 hthis _) fl_RX0_15 fw_0_1 (Nat.le_of_ble_eq_true rfl) (sp_5_1 hthis _ _) (fun M2 eM2 => ?_)
  have h := h M2 eM2
  refine aw_aload_n X dX0_start_10 0 rfl ?_
  refine aw_iload_n X dX0_start_11 3 rfl ?_
  refine aw_put X dX0_start_12 (X.il hthis (by decide)) (sh_5 hthis _) fl_RX0_18 fw_0_2 (Nat.le_of_ble_eq_true rfl) (sp_5_2 hthis _ _) (fun M3 eM3 => ?_)
  have h := h M3 eM3
  refine aw_aload_n X dX0_start_15 0 rfl ?_
  refine aw_iload X dX0_start_16 4 rfl ?_
  refine aw_put X dX0_start_18 (X.il hthis (by decide)) (sh_5 hthis _) fl_RX0_21 fw_0_3 (Nat.le_of_ble_eq_true rfl) (sp_5_3 hthis _ _) (fun M4 eM4 => ?_)
  have h := h M4 eM4
  refine aw_aload_n X dX0_start_21 0 rfl ?_
  refine aw_iload X dX0_start_22 4 rfl ?_
  refine aw_put X dX0_start_24 (X.il hthis (by decide)) (sh_5 hthis _) fl_RX0_24 fw_0_4 (Nat.le_of_ble_eq_true rfl) (sp_5_4 hthis _ _) (fun M5 eM5 => ?_)
  have h := h M5 eM5
  refine aw_aload_n X dX0_start_27 0 rfl ?_
  refine aw_iconst (v := 0) X dX0_start_28 (by decide) ?_
  refine aw_put X dX0_start_29 (X.il hthis (by decide)) (sh_5 hthis _) fl_RX0_27 fw_0_5 (Nat.le_of_ble_eq_true rfl) (sp_5_5 hthis _ _) (fun M6 eM6 => ?_)
  have h := h M6 eM6
  refine aw_aload_n X dX0_start_32 0 rfl ?_
  refine aw_iconst (v := 0) X dX0_start_33 (by decide) ?_
  refine aw_put X dX0_start_34 (X.il hthis (by decide)) (sh_5 hthis _) fl_RX0_30 fw_0_6 (Nat.le_of_ble_eq_true rfl) (sp_5_6 hthis _ _) (fun M7 eM7 => ?_)
  have h := h M7 eM7
  refine aw_aload_n X dX0_start_37 0 rfl ?_
  refine aw_iconst (v := 0) X dX0_start_38 (by decide) ?_
  refine aw_put X dX0_start_39 (X.il hthis (by decide)) (sh_5 hthis _) fl_RX0_33 fw_0_7 (Nat.le_of_ble_eq_true rfl) (sp_5_7 hthis _ _) (fun M8 eM8 => ?_)
  have h := h M8 eM8
  refine aw_aload_n X dX0_start_42 0 rfl ?_
  refine aw_iconst (v := 0) X dX0_start_43 (by decide) ?_
  refine aw_put X dX0_start_44 (X.il hthis (by decide)) (sh_5 hthis _) fl_RX0_36 fw_0_8 (Nat.le_of_ble_eq_true rfl) (sp_5_8 hthis _ _) (fun M9 eM9 => ?_)
  have h := h M9 eM9
  refine aw_aload_n X dX0_start_47 0 rfl ?_
  refine aw_iconst (v := 0) X dX0_start_48 (by decide) ?_
  refine aw_put X dX0_start_49 (X.il hthis (by decide)) (sh_5 hthis _) fl_RX0_39 fw_0_9 (Nat.le_of_ble_eq_true rfl) (sp_5_9 hthis _ _) (fun M10 eM10 => ?_)
  have h := h M10 eM10
  refine aw_aload_n X dX0_start_52 0 rfl ?_
  refine aw_iconst (v := 0) X dX0_start_53 (by decide) ?_
  refine aw_put X dX0_start_54 (X.il hthis (by decide)) (sh_5 hthis _) fl_RX0_42 fw_0_10 (Nat.le_of_ble_eq_true rfl) (sp_5_10 hthis _ _) (fun M11 eM11 => ?_)
  have h := h M11 eM11
  refine aw_aload_n X dX0_start_57 0 rfl ?_
  refine aw_iconst (v := 0) X dX0_start_58 (by decide) ?_
  refine aw_put X dX0_start_59 (X.il hthis (by decide)) (sh_5 hthis _) fl_RX0_45 fw_0_11 (Nat.le_of_ble_eq_true rfl) (sp_5_11 hthis _ _) (fun M12 eM12 => ?_)
  have h := h M12 eM12
  exact aw_vret X dX0_start_62 h
def wp_X3_admit (n : Nat)  (M : Mm) (this : Nat) (p1 : Int32) (p2 : Int32) (p3 : Int32) (p4 : Int32) (K : Mm → Prop) : Prop := (tp this = 2) ∧ (((M this 4) < 8 → vp_in (M this 4) 8 ∧ (wp_X0_start n M (this + 3 + 1 + (M this 4).toNatClampNeg) p1 p2 p3 p4 (fun M2 => ∀ M4 : Mm, M4 = wr M2 this 4 ((M2 this 4) + 1) → K M4))) ∧ (¬ (M this 4) < 8 → K M))
set_option maxHeartbeats 4000000 in
set_option maxRecDepth 100000 in
theorem c_X3_admit {l : Launch} {E : En} {M : Mm} {this : Nat} {p1 : Int32} {p2 : Int32} {p3 : Int32} {p4 : Int32} {K : Mm → Prop}  (h : wp_X3_admit (eN E)  M this p1 p2 p3 p4 K) : Ctr l E yX3_admit cX3_admit 5 none 1 [.ref (eA E this), .int p1, .int p2, .int p3, .int p4] M (QV E K) := by
  refine Ctr.of (by decide +kernel) (Nat.le_of_ble_eq_true rfl) (fun g A hgl X => ?_)
  subst hgl
  have X : CX g cX3_admit RX3 none 1 E A 5 := X
  show AW g E A 5 _ 0 [(0, .ref (eA E this)), (1, .int p1), (2, .int p2), (3, .int p3), (4, .int p4)] [] M
  unfold wp_X3_admit at h
  obtain ⟨hthis, h⟩ := h
  refine aw_aload_n X dX3_admit_0 0 rfl ?_
  refine aw_get X dX3_admit_1 (X.il hthis (by decide)) (sh_2 hthis _) fl_RX3_31 rfl ?_
  refine aw_aload_n X dX3_admit_4 0 rfl ?_
  refine aw_get X dX3_admit_5 (X.il hthis (by decide)) (sh_2 hthis _) fl_RX3_27 rfl ?_
  refine aw_alen (t := 1) (v := 8) X dX3_admit_8 (X.il (ly_2_3 hthis) (by decide)) (sh_4 (ly_2_3 hthis) _) rfl rfl ?_
  refine aw_icmp_lt (tgt := 13) X dX3_admit_9 (by decide) (fun c => ?_) (fun c => ?_)
  · have h := h.1 c
    refine aw_aload_n X dX3_admit_13 0 rfl ?_
    refine aw_get X dX3_admit_14 (X.il hthis (by decide)) (sh_2 hthis _) fl_RX3_27 rfl ?_
    refine aw_aload_n X dX3_admit_17 0 rfl ?_
    refine aw_get X dX3_admit_18 (X.il hthis (by decide)) (sh_2 hthis _) fl_RX3_31 rfl ?_
    obtain ⟨hin1, h⟩ := h
    refine aw_aald (t := 1) X dX3_admit_21 (X.il (ly_2_3 hthis) (by decide)) (sh_4 (ly_2_3 hthis) _) rfl hin1 rfl ?_
    refine aw_iload_n X dX3_admit_22 1 rfl ?_
    refine aw_iload_n X dX3_admit_23 2 rfl ?_
    refine aw_iload_n X dX3_admit_24 3 rfl ?_
    refine aw_iload X dX3_admit_25 4 rfl ?_
    refine ca_v X (rn_vn X [.int p1, .int p2, .int p3, .int p4] [] (X.il (ly_4e (ly_2_3 hthis) hin1) (by decide)) (sh_5 (ly_4e (ly_2_3 hthis) hin1) _) rfl rfl kw411 kw1 (c_X0_start h) cal_yX0_start kw409 (Nat.le_of_ble_eq_true rfl) rfl rfl (Nat.le_of_ble_eq_true rfl) dX3_admit_27) (fun M2 h => ?_)
    refine aw_aload_n X dX3_admit_30 0 rfl ?_
    refine aw_dup X dX3_admit_31 rfl ?_
    refine aw_get X dX3_admit_32 (X.il hthis (by decide)) (sh_2 hthis _) fl_RX3_31 rfl ?_
    refine aw_iconst (v := 1) X dX3_admit_35 (by decide) ?_
    refine aw_iadd X dX3_admit_36 ?_
    refine aw_put X dX3_admit_37 (X.il hthis (by decide)) (sh_2 hthis _) fl_RX3_31 fw_3_4 (Nat.le_of_ble_eq_true rfl) (sp_2_4 hthis _ _) (fun M4 eM4 => ?_)
    have h := h M4 eM4
    exact aw_vret X dX3_admit_40 h
  · have h := h.2 c
    exact aw_vret X dX3_admit_12 h
def wp_X3_comerAt (n : Nat)  (M : Mm) (this : Nat) (p1 : Int32) (K : Mm → Option Nat → Prop) : Prop := (tp this = 2) ∧ (wp_X7_within n M p1 0 ((M this 4) - 1) (fun M1 r2 => (r2 = 0 → K M1 none) ∧ (¬ r2 = 0 → vp_in p1 8 ∧ (K M1 (some (this + 3 + 1 + p1.toNatClampNeg))))))
set_option maxHeartbeats 4000000 in
set_option maxRecDepth 100000 in
theorem c_X3_comerAt {l : Launch} {E : En} {M : Mm} {this : Nat} {p1 : Int32} {K : Mm → Option Nat → Prop}  (h : wp_X3_comerAt (eN E)  M this p1 K) : Ctr l E yX3_comerAt cX3_comerAt 2 (some (.object "ShyWell$Comer")) 1 [.ref (eA E this), .int p1] M (QQ E K) := by
  refine Ctr.of (by decide +kernel) (Nat.le_of_ble_eq_true rfl) (fun g A hgl X => ?_)
  subst hgl
  have X : CX g cX3_comerAt RX3 (some (.object "ShyWell$Comer")) 1 E A 2 := X
  show AW g E A 2 _ 0 [(0, .ref (eA E this)), (1, .int p1)] [] M
  unfold wp_X3_comerAt at h
  obtain ⟨hthis, h⟩ := h
  refine aw_iload_n X dX3_comerAt_0 1 rfl ?_
  refine aw_iconst (v := 0) X dX3_comerAt_1 (by decide) ?_
  refine aw_aload_n X dX3_comerAt_2 0 rfl ?_
  refine aw_get X dX3_comerAt_3 (X.il hthis (by decide)) (sh_2 hthis _) fl_RX3_31 rfl ?_
  refine aw_iconst (v := 1) X dX3_comerAt_6 (by decide) ?_
  refine aw_isub X dX3_comerAt_7 ?_
  refine ca_i X (rn_sn X [.int p1, .int 0, .int ((M this 4) - 1)] [] kw394 (c_X7_within h) cal_yX7_within kw421 (Nat.le_of_ble_eq_true rfl) rfl rfl (Nat.le_of_ble_eq_true rfl) dX3_comerAt_8) (fun M1 r2 h => ?_)
  refine aw_if_eq (tgt := 23) X dX3_comerAt_11 (by decide) (fun c => ?_) (fun c => ?_)
  · have h := h.1 c
    refine aw_null X dX3_comerAt_23 ?_
    exact aw_aret X none rfl dX3_comerAt_24 h
  · have h := h.2 c
    refine aw_aload_n X dX3_comerAt_14 0 rfl ?_
    refine aw_get X dX3_comerAt_15 (X.il hthis (by decide)) (sh_2 hthis _) fl_RX3_27 rfl ?_
    refine aw_iload_n X dX3_comerAt_18 1 rfl ?_
    obtain ⟨hin3, h⟩ := h
    refine aw_aald (t := 1) X dX3_comerAt_19 (X.il (ly_2_3 hthis) (by decide)) (sh_4 (ly_2_3 hthis) _) rfl hin3 rfl ?_
    refine aw_goto (tgt := 24) X dX3_comerAt_20 (by decide) ?_
    exact aw_aret X (some (this + 3 + 1 + p1.toNatClampNeg)) rfl dX3_comerAt_24 h
def wp_X0_worth (n : Nat)  (M : Mm) (this : Nat) (K : Mm → Int32 → Prop) : Prop := (tp this = 5) ∧ (((M this 0) = 1 → K M ((M this 1) + 3)) ∧ ((M this 0) = 2 → K M (60 - (M this 1))) ∧ ((M this 0) = 3 → K M (2 * ((M this 1) + 3))) ∧ ((M this 0) = 4 → K M ((60 - (M this 1)) - 5)) ∧ ((M this 0) = 5 → K M 30) ∧ (¬ (M this 0) = 1 → ¬ (M this 0) = 2 → ¬ (M this 0) = 3 → ¬ (M this 0) = 4 → ¬ (M this 0) = 5 → K M (M this 1)))
set_option maxHeartbeats 4000000 in
set_option maxRecDepth 100000 in
theorem c_X0_worth {l : Launch} {E : En} {M : Mm} {this : Nat} {K : Mm → Int32 → Prop}  (h : wp_X0_worth (eN E)  M this K) : Ctr l E yX0_worth cX0_worth 1 (some .int) 0 [.ref (eA E this)] M (QI E K) := by
  refine Ctr.of (by decide +kernel) (Nat.le_of_ble_eq_true rfl) (fun g A hgl X => ?_)
  subst hgl
  have X : CX g cX0_worth RX0 (some .int) 0 E A 1 := X
  show AW g E A 1 _ 0 [(0, .ref (eA E this))] [] M
  unfold wp_X0_worth at h
  obtain ⟨hthis, h⟩ := h
  refine aw_aload_n X dX0_worth_0 0 rfl ?_
  refine aw_get X dX0_worth_1 (X.il hthis (by decide)) (sh_5 hthis _) fl_RX0_9 rfl ?_
  by_cases c0 : (M this 0) = 1
  · have h := h.1 c0
    refine aw_tableIn (tgt := 40) X dX0_worth_4 1 c0 (by decide) (by decide) rfl (by decide) ?_
    refine aw_aload_n X dX0_worth_40 0 rfl ?_
    refine aw_get X dX0_worth_41 (X.il hthis (by decide)) (sh_5 hthis _) fl_RX0_15 rfl ?_
    refine aw_iconst (v := 3) X dX0_worth_44 (by decide) ?_
    refine aw_iadd X dX0_worth_45 ?_
    exact aw_iret X dX0_worth_46 h
  · by_cases c1 : (M this 0) = 2
    · have h := h.2.1 c1
      refine aw_tableIn (tgt := 56) X dX0_worth_4 2 c1 (by decide) (by decide) rfl (by decide) ?_
      refine aw_bipush (v := 60) X dX0_worth_56 (by decide) ?_
      refine aw_aload_n X dX0_worth_58 0 rfl ?_
      refine aw_get X dX0_worth_59 (X.il hthis (by decide)) (sh_5 hthis _) fl_RX0_15 rfl ?_
      refine aw_isub X dX0_worth_62 ?_
      exact aw_iret X dX0_worth_63 h
    · by_cases c2 : (M this 0) = 3
      · have h := h.2.2.1 c2
        refine aw_tableIn (tgt := 47) X dX0_worth_4 3 c2 (by decide) (by decide) rfl (by decide) ?_
        refine aw_iconst (v := 2) X dX0_worth_47 (by decide) ?_
        refine aw_aload_n X dX0_worth_48 0 rfl ?_
        refine aw_get X dX0_worth_49 (X.il hthis (by decide)) (sh_5 hthis _) fl_RX0_15 rfl ?_
        refine aw_iconst (v := 3) X dX0_worth_52 (by decide) ?_
        refine aw_iadd X dX0_worth_53 ?_
        refine aw_imul X dX0_worth_54 ?_
        exact aw_iret X dX0_worth_55 h
      · by_cases c3 : (M this 0) = 4
        · have h := h.2.2.2.1 c3
          refine aw_tableIn (tgt := 64) X dX0_worth_4 4 c3 (by decide) (by decide) rfl (by decide) ?_
          refine aw_bipush (v := 60) X dX0_worth_64 (by decide) ?_
          refine aw_aload_n X dX0_worth_66 0 rfl ?_
          refine aw_get X dX0_worth_67 (X.il hthis (by decide)) (sh_5 hthis _) fl_RX0_15 rfl ?_
          refine aw_isub X dX0_worth_70 ?_
          refine aw_iconst (v := 5) X dX0_worth_71 (by decide) ?_
          refine aw_isub X dX0_worth_72 ?_
          exact aw_iret X dX0_worth_73 h
        · by_cases c4 : (M this 0) = 5
          · have h := h.2.2.2.2.1 c4
            refine aw_tableIn (tgt := 74) X dX0_worth_4 5 c4 (by decide) (by decide) rfl (by decide) ?_
            refine aw_bipush (v := 30) X dX0_worth_74 (by decide) ?_
            exact aw_iret X dX0_worth_76 h
          · have h := h.2.2.2.2.2 c0 c1 c2 c3 c4
            refine aw_tableOut (tgt := 77) X dX0_worth_4 (by have n0 := lv_neT (a := 1) c0 rfl; have n1 := lv_neT (a := 2) c1 rfl; have n2 := lv_neT (a := 3) c2 rfl; have n3 := lv_neT (a := 4) c3 rfl; have n4 := lv_neT (a := 5) c4 rfl; omega) (by decide) ?_
            refine aw_aload_n X dX0_worth_77 0 rfl ?_
            refine aw_get X dX0_worth_78 (X.il hthis (by decide)) (sh_5 hthis _) fl_RX0_15 rfl ?_
            exact aw_iret X dX0_worth_81 h
def wl_X3_standing_4 (n : Nat) (this : Nat)  (K : Mm → Int32 → Prop) : Nat → Mm → Int32 → Int32 → Prop
  | 0, _, _, _ => False
  | k + 1, M, x1, x2 => ((M this 4) ≤ x2 → K M x1) ∧ (¬ (M this 4) ≤ x2 → vp_in x2 8 ∧ ((¬ (M (this + 3 + 1 + x2.toNatClampNeg) 5) = 2 → ∀ v2 : Int32, v2 = x2 + 1 → wl_X3_standing_4 n this K k M x1 v2) ∧ ((M (this + 3 + 1 + x2.toNatClampNeg) 5) = 2 → ∀ v3 : Int32, v3 = x1 + 1 → ∀ v4 : Int32, v4 = x2 + 1 → wl_X3_standing_4 n this K k M v3 v4)))
set_option maxHeartbeats 4000000 in
set_option maxRecDepth 100000 in
theorem lw_X3_standing_4 {g : Gm} {E : En} {A : Nat → Prop} {K : Mm → Int32 → Prop} (X : CX g cX3_standing RX3 (some .int) 0 E A 3) (this : Nat)  (hthis : tp this = 2) : ∀ (k : Nat) (M : Mm) (x1 : Int32) (x2 : Int32), wl_X3_standing_4 (eN E) this  K k M x1 x2 → AW g E A 3 (MQ (gB g) (QI E K A) (gA g) (gS g) (gk g) (gn g) A) 4 [(0, .ref (eA E this)), (1, .int x1), (2, .int x2)] [] M := by
  intro k
  induction k with
  | zero => intro M x1 x2 h; exact h.elim
  | succ k ih =>
    intro M x1 x2 h
    rw [wl_X3_standing_4] at h
    refine aw_iload_n X dX3_standing_4 2 rfl ?_
    refine aw_aload_n X dX3_standing_5 0 rfl ?_
    refine aw_get X dX3_standing_6 (X.il hthis (by decide)) (sh_2 hthis _) fl_RX3_31 rfl ?_
    refine aw_icmp_ge (tgt := 34) X dX3_standing_9 (by decide) (fun c => ?_) (fun c => ?_)
    · have h := h.1 c
      refine aw_iload_n X dX3_standing_34 1 rfl ?_
      exact aw_iret X dX3_standing_35 h
    · have h := h.2 c
      refine aw_aload_n X dX3_standing_12 0 rfl ?_
      refine aw_get X dX3_standing_13 (X.il hthis (by decide)) (sh_2 hthis _) fl_RX3_27 rfl ?_
      refine aw_iload_n X dX3_standing_16 2 rfl ?_
      obtain ⟨hin1, h⟩ := h
      refine aw_aald (t := 1) X dX3_standing_17 (X.il (ly_2_3 hthis) (by decide)) (sh_4 (ly_2_3 hthis) _) rfl hin1 rfl ?_
      refine aw_get X dX3_standing_18 (X.il (ly_4e (ly_2_3 hthis) hin1) (by decide)) (sh_5 (ly_4e (ly_2_3 hthis) hin1) _) fl_RX3_84 rfl ?_
      refine aw_iconst (v := 2) X dX3_standing_21 (by decide) ?_
      refine aw_icmp_ne (tgt := 28) X dX3_standing_22 (by decide) (fun c => ?_) (fun c => ?_)
      · have h := h.1 c
        obtain ⟨v2, ev2⟩ : ∃ y : Int32, y = x2 + 1 := ⟨_, rfl⟩
        have h := h v2 ev2
        refine aw_iinc (v := v2) (lv' := [(2, .int v2), (0, .ref (eA E this)), (1, .int x1)]) X dX3_standing_28 2 rfl (by rw [ev2]; rfl) (by decide) rfl ?_
        refine aw_goto (tgt := 4) X dX3_standing_31 (by decide) ?_
        exact aw_sub [1, 2, 0] rfl (ih _ _ _ h)
      · have h := h.2 c
        obtain ⟨v3, ev3⟩ : ∃ y : Int32, y = x1 + 1 := ⟨_, rfl⟩
        have h := h v3 ev3
        refine aw_iinc (v := v3) (lv' := [(1, .int v3), (0, .ref (eA E this)), (2, .int x2)]) X dX3_standing_25 1 rfl (by rw [ev3]; rfl) (by decide) rfl ?_
        obtain ⟨v4, ev4⟩ : ∃ y : Int32, y = x2 + 1 := ⟨_, rfl⟩
        have h := h v4 ev4
        refine aw_iinc (v := v4) (lv' := [(2, .int v4), (1, .int v3), (0, .ref (eA E this))]) X dX3_standing_28 2 rfl (by rw [ev4]; rfl) (by decide) rfl ?_
        refine aw_goto (tgt := 4) X dX3_standing_31 (by decide) ?_
        exact aw_sub [2, 1, 0] rfl (ih _ _ _ h)
def wp_X3_standing (n : Nat)  (M : Mm) (this : Nat) (K : Mm → Int32 → Prop) : Prop := (tp this = 2) ∧ (∃ kf : Nat, wl_X3_standing_4 n this K kf M 0 0)
set_option maxHeartbeats 4000000 in
set_option maxRecDepth 100000 in
theorem c_X3_standing {l : Launch} {E : En} {M : Mm} {this : Nat} {K : Mm → Int32 → Prop}  (h : wp_X3_standing (eN E)  M this K) : Ctr l E yX3_standing cX3_standing 3 (some .int) 0 [.ref (eA E this)] M (QI E K) := by
  refine Ctr.of (by decide +kernel) (Nat.le_of_ble_eq_true rfl) (fun g A hgl X => ?_)
  subst hgl
  have X : CX g cX3_standing RX3 (some .int) 0 E A 3 := X
  show AW g E A 3 _ 0 [(0, .ref (eA E this))] [] M
  unfold wp_X3_standing at h
  obtain ⟨hthis, h⟩ := h
  refine aw_iconst (v := 0) X dX3_standing_0 (by decide) ?_
  refine aw_istore_n (lv' := [(1, .int 0), (0, .ref (eA E this))]) X dX3_standing_1 (by decide) rfl ?_
  refine aw_iconst (v := 0) X dX3_standing_2 (by decide) ?_
  refine aw_istore_n (lv' := [(2, .int 0), (1, .int 0), (0, .ref (eA E this))]) X dX3_standing_3 (by decide) rfl ?_
  obtain ⟨kf, h⟩ := h
  exact aw_sub [2, 1, 0] rfl (lw_X3_standing_4 X this hthis  kf _ _ _ h)
def wb_X3_lawOf_19 (n : Nat) (this : Nat) (p1 : Int32)  (K : Mm → Option Nat → Prop) (M : Mm) (s0 : Int32) : Prop := (s0 < 0 → K M none) ∧ (¬ s0 < 0 → ((M this 2) ≤ s0 → K M none) ∧ (¬ (M this 2) ≤ s0 → vp_in s0 14 ∧ ((M (this + 1) s0.toNatClampNeg = 0 → K M none) ∧ (¬ M (this + 1) s0.toNatClampNeg = 0 → ∀ t1 : Nat, t1 = (M (this + 1) s0.toNatClampNeg).toNatClampNeg → (tp t1 = 20 ∧ t1 + 2 < n) ∧ (K M (some t1))))))
set_option maxHeartbeats 4000000 in
set_option maxRecDepth 100000 in
theorem lb_X3_lawOf_19 {g : Gm} {E : En} {A : Nat → Prop} {K : Mm → Option Nat → Prop} (X : CX g cX3_lawOf RX3 (some (.object "ShyWell$Text")) 0 E A 3) (this : Nat) (p1 : Int32)  (hthis : tp this = 2) (M : Mm) (s0 : Int32) (h : wb_X3_lawOf_19 (eN E) this p1  K M s0) : AW g E A 3 (MQ (gB g) (QQ E K A) (gA g) (gS g) (gk g) (gn g) A) 19 [(0, .ref (eA E this))] [.int s0] M := by
  unfold wb_X3_lawOf_19 at h
  refine aw_istore_n (lv' := [(2, .int s0), (0, .ref (eA E this))]) X dX3_lawOf_19 (by decide) rfl ?_
  refine aw_iload_n X dX3_lawOf_20 0 rfl ?_
  refine aw_if_lt (tgt := 41) X dX3_lawOf_21 (by decide) (fun c => ?_) (fun c => ?_)
  · have h := h.1 c
    refine aw_null X dX3_lawOf_41 ?_
    exact aw_aret X none rfl dX3_lawOf_42 h
  · have h := h.2 c
    refine aw_iload_n X dX3_lawOf_24 0 rfl ?_
    refine aw_aload_n X dX3_lawOf_25 1 rfl ?_
    refine aw_get X dX3_lawOf_26 (X.il hthis (by decide)) (sh_2 hthis _) fl_RX3_21 rfl ?_
    refine aw_icmp_ge (tgt := 41) X dX3_lawOf_29 (by decide) (fun c => ?_) (fun c => ?_)
    · have h := h.1 c
      refine aw_null X dX3_lawOf_41 ?_
      exact aw_aret X none rfl dX3_lawOf_42 h
    · have h := h.2 c
      refine aw_aload_n X dX3_lawOf_32 1 rfl ?_
      refine aw_get X dX3_lawOf_33 (X.il hthis (by decide)) (sh_2 hthis _) fl_RX3_11 rfl ?_
      refine aw_iload_n X dX3_lawOf_36 0 rfl ?_
      obtain ⟨hin, h⟩ := h
      by_cases c : M (this + 1) s0.toNatClampNeg = 0
      · have h := h.1 c
        refine aw_aald (t := 2) (v := .null) X dX3_lawOf_37 (X.il (ly_2_0 hthis) (by decide)) (sh_3 (ly_2_0 hthis) _) rfl hin (by show va_rf (lawR _ _) = _; unfold lawR; rw [if_pos c]; rfl) ?_
        refine aw_goto (tgt := 42) X dX3_lawOf_38 (by decide) ?_
        exact aw_aret X none rfl dX3_lawOf_42 h
      · obtain ⟨t1, et1⟩ : ∃ t : Nat, t = (M (this + 1) s0.toNatClampNeg).toNatClampNeg := ⟨_, rfl⟩
        obtain ⟨ht2, h⟩ := h.2 c t1 et1
        refine aw_aald (t := 2) (v := .ref (eA E t1)) X dX3_lawOf_37 (X.il (ly_2_0 hthis) (by decide)) (sh_3 (ly_2_0 hthis) _) rfl hin (by show va_rf (lawR _ _) = _; unfold lawR; rw [if_neg c, et1]; rfl) ?_
        refine aw_goto (tgt := 42) X dX3_lawOf_38 (by decide) ?_
        exact aw_aret X (some t1) rfl dX3_lawOf_42 h
def wb_X3_lawOf_18 (n : Nat) (this : Nat) (p1 : Int32)  (K : Mm → Option Nat → Prop) (M : Mm)  : Prop := wb_X3_lawOf_19 n this p1 K M (-1)
set_option maxHeartbeats 4000000 in
set_option maxRecDepth 100000 in
theorem lb_X3_lawOf_18 {g : Gm} {E : En} {A : Nat → Prop} {K : Mm → Option Nat → Prop} (X : CX g cX3_lawOf RX3 (some (.object "ShyWell$Text")) 0 E A 3) (this : Nat) (p1 : Int32)  (hthis : tp this = 2) (M : Mm)  (h : wb_X3_lawOf_18 (eN E) this p1  K M ) : AW g E A 3 (MQ (gB g) (QQ E K A) (gA g) (gS g) (gk g) (gn g) A) 18 [(0, .ref (eA E this))] [] M := by
  unfold wb_X3_lawOf_18 at h
  refine aw_iconst (v := (-1)) X dX3_lawOf_18 (by decide) ?_
  exact aw_sub [0] rfl (lb_X3_lawOf_19 X this p1 hthis  _ _ h)
def wp_X3_lawOf (n : Nat)  (M : Mm) (this : Nat) (p1 : Int32) (K : Mm → Option Nat → Prop) : Prop := (tp this = 2) ∧ ((p1 < 0 → wb_X3_lawOf_18 n this p1 K M ) ∧ (¬ p1 < 0 → (3 ≤ p1 → wb_X3_lawOf_18 n this p1 K M ) ∧ (¬ 3 ≤ p1 → vp_in p1 3 ∧ (wb_X3_lawOf_19 n this p1 K M (M (this + 2) p1.toNatClampNeg)))))
set_option maxHeartbeats 4000000 in
set_option maxRecDepth 100000 in
theorem c_X3_lawOf {l : Launch} {E : En} {M : Mm} {this : Nat} {p1 : Int32} {K : Mm → Option Nat → Prop}  (h : wp_X3_lawOf (eN E)  M this p1 K) : Ctr l E yX3_lawOf cX3_lawOf 3 (some (.object "ShyWell$Text")) 0 [.ref (eA E this), .int p1] M (QQ E K) := by
  refine Ctr.of (by decide +kernel) (Nat.le_of_ble_eq_true rfl) (fun g A hgl X => ?_)
  subst hgl
  have X : CX g cX3_lawOf RX3 (some (.object "ShyWell$Text")) 0 E A 3 := X
  show AW g E A 3 _ 0 [(0, .ref (eA E this)), (1, .int p1)] [] M
  unfold wp_X3_lawOf at h
  obtain ⟨hthis, h⟩ := h
  refine aw_iload_n X dX3_lawOf_0 1 rfl ?_
  refine aw_if_lt (tgt := 18) X dX3_lawOf_1 (by decide) (fun c => ?_) (fun c => ?_)
  · have h := h.1 c
    exact aw_sub [0] rfl (lb_X3_lawOf_18 X this p1 hthis  _ h)
  · have h := h.2 c
    refine aw_iload_n X dX3_lawOf_4 1 rfl ?_
    refine aw_iconst (v := 3) X dX3_lawOf_5 (by decide) ?_
    refine aw_icmp_ge (tgt := 18) X dX3_lawOf_6 (by decide) (fun c => ?_) (fun c => ?_)
    · have h := h.1 c
      exact aw_sub [0] rfl (lb_X3_lawOf_18 X this p1 hthis  _ h)
    · have h := h.2 c
      refine aw_aload_n X dX3_lawOf_9 0 rfl ?_
      refine aw_get X dX3_lawOf_10 (X.il hthis (by decide)) (sh_2 hthis _) fl_RX3_17 rfl ?_
      refine aw_iload_n X dX3_lawOf_13 1 rfl ?_
      obtain ⟨hin, h⟩ := h
      refine aw_iald X dX3_lawOf_14 (X.il (ly_2_1 hthis) (by decide)) (sh_ia 3 (ly_2_1 hthis) _) hin ?_
      refine aw_goto (tgt := 19) X dX3_lawOf_15 (by decide) ?_
      exact aw_sub [0] rfl (lb_X3_lawOf_19 X this p1 hthis  _ _ h)
def wp_X6_joined (n : Nat)  (M : Mm) (p0 : Int32) (p1 : Int32) (p2 : Int32) (K : Mm → Int32 → Prop) : Prop := (p0 = 38 → (p1 = 0 → K M 0) ∧ (¬ p1 = 0 → (p2 = 0 → K M 0) ∧ (¬ p2 = 0 → K M 1))) ∧ (p0 = 42 → K M (p1 * p2)) ∧ (p0 = 43 → K M (p1 + p2)) ∧ (p0 = 45 → K M (p1 - p2)) ∧ (p0 = 60 → (p2 ≤ p1 → K M 0) ∧ (¬ p2 ≤ p1 → K M 1)) ∧ (p0 = 61 → (¬ p1 = p2 → K M 0) ∧ (p1 = p2 → K M 1)) ∧ (p0 = 62 → (p1 ≤ p2 → K M 0) ∧ (¬ p1 ≤ p2 → K M 1)) ∧ (p0 = 124 → (¬ p1 = 0 → K M 1) ∧ (p1 = 0 → (p2 = 0 → K M 0) ∧ (¬ p2 = 0 → K M 1))) ∧ (¬ p0 = 38 → ¬ p0 = 42 → ¬ p0 = 43 → ¬ p0 = 45 → ¬ p0 = 60 → ¬ p0 = 61 → ¬ p0 = 62 → ¬ p0 = 124 → (¬ p2 = 0 → ¬ p2 = 0 ∧ (K M (p1 / p2))) ∧ (p2 = 0 → K M 0))
set_option maxHeartbeats 4000000 in
set_option maxRecDepth 100000 in
theorem c_X6_joined {l : Launch} {E : En} {M : Mm} {p0 : Int32} {p1 : Int32} {p2 : Int32} {K : Mm → Int32 → Prop}  (h : wp_X6_joined (eN E)  M p0 p1 p2 K) : Ctr l E yX6_joined cX6_joined 3 (some .int) 0 [.int p0, .int p1, .int p2] M (QI E K) := by
  refine Ctr.of (by decide +kernel) (Nat.le_of_ble_eq_true rfl) (fun g A hgl X => ?_)
  subst hgl
  have X : CX g cX6_joined RX6 (some .int) 0 E A 3 := X
  show AW g E A 3 _ 0 [(0, .int p0), (1, .int p1), (2, .int p2)] [] M
  unfold wp_X6_joined at h
  refine aw_iload_n X dX6_joined_0 0 rfl ?_
  by_cases c0 : p0 = 38
  · have h := h.1 c0
    refine aw_lookup (tgt := 90) X dX6_joined_1 (by decide) (by first | (rw [c0]; done) | (rw [c0]; rfl)) (by decide) ?_
    refine aw_iload_n X dX6_joined_90 1 rfl ?_
    refine aw_if_eq (tgt := 102) X dX6_joined_91 (by decide) (fun c => ?_) (fun c => ?_)
    · have h := h.1 c
      refine aw_iconst (v := 0) X dX6_joined_102 (by decide) ?_
      exact aw_iret X dX6_joined_103 h
    · have h := h.2 c
      refine aw_iload_n X dX6_joined_94 2 rfl ?_
      refine aw_if_eq (tgt := 102) X dX6_joined_95 (by decide) (fun c => ?_) (fun c => ?_)
      · have h := h.1 c
        refine aw_iconst (v := 0) X dX6_joined_102 (by decide) ?_
        exact aw_iret X dX6_joined_103 h
      · have h := h.2 c
        refine aw_iconst (v := 1) X dX6_joined_98 (by decide) ?_
        refine aw_goto (tgt := 103) X dX6_joined_99 (by decide) ?_
        exact aw_iret X dX6_joined_103 h
  · by_cases c1 : p0 = 42
    · have h := h.2.1 c1
      refine aw_lookup (tgt := 145) X dX6_joined_1 (by decide) (by first | (rw [c1]; done) | (rw [c1]; rfl)) (by decide) ?_
      refine aw_iload_n X dX6_joined_145 1 rfl ?_
      refine aw_iload_n X dX6_joined_146 2 rfl ?_
      refine aw_imul X dX6_joined_147 ?_
      exact aw_iret X dX6_joined_148 h
    · by_cases c2 : p0 = 43
      · have h := h.2.2.1 c2
        refine aw_lookup (tgt := 137) X dX6_joined_1 (by decide) (by first | (rw [c2]; done) | (rw [c2]; rfl)) (by decide) ?_
        refine aw_iload_n X dX6_joined_137 1 rfl ?_
        refine aw_iload_n X dX6_joined_138 2 rfl ?_
        refine aw_iadd X dX6_joined_139 ?_
        exact aw_iret X dX6_joined_140 h
      · by_cases c3 : p0 = 45
        · have h := h.2.2.2.1 c3
          refine aw_lookup (tgt := 141) X dX6_joined_1 (by decide) (by first | (rw [c3]; done) | (rw [c3]; rfl)) (by decide) ?_
          refine aw_iload_n X dX6_joined_141 1 rfl ?_
          refine aw_iload_n X dX6_joined_142 2 rfl ?_
          refine aw_isub X dX6_joined_143 ?_
          exact aw_iret X dX6_joined_144 h
        · by_cases c4 : p0 = 60
          · have h := h.2.2.2.2.1 c4
            refine aw_lookup (tgt := 104) X dX6_joined_1 (by decide) (by first | (rw [c4]; done) | (rw [c4]; rfl)) (by decide) ?_
            refine aw_iload_n X dX6_joined_104 1 rfl ?_
            refine aw_iload_n X dX6_joined_105 2 rfl ?_
            refine aw_icmp_ge (tgt := 113) X dX6_joined_106 (by decide) (fun c => ?_) (fun c => ?_)
            · have h := h.1 c
              refine aw_iconst (v := 0) X dX6_joined_113 (by decide) ?_
              exact aw_iret X dX6_joined_114 h
            · have h := h.2 c
              refine aw_iconst (v := 1) X dX6_joined_109 (by decide) ?_
              refine aw_goto (tgt := 114) X dX6_joined_110 (by decide) ?_
              exact aw_iret X dX6_joined_114 h
          · by_cases c5 : p0 = 61
            · have h := h.2.2.2.2.2.1 c5
              refine aw_lookup (tgt := 115) X dX6_joined_1 (by decide) (by first | (rw [c5]; done) | (rw [c5]; rfl)) (by decide) ?_
              refine aw_iload_n X dX6_joined_115 1 rfl ?_
              refine aw_iload_n X dX6_joined_116 2 rfl ?_
              refine aw_icmp_ne (tgt := 124) X dX6_joined_117 (by decide) (fun c => ?_) (fun c => ?_)
              · have h := h.1 c
                refine aw_iconst (v := 0) X dX6_joined_124 (by decide) ?_
                exact aw_iret X dX6_joined_125 h
              · have h := h.2 c
                refine aw_iconst (v := 1) X dX6_joined_120 (by decide) ?_
                refine aw_goto (tgt := 125) X dX6_joined_121 (by decide) ?_
                exact aw_iret X dX6_joined_125 h
            · by_cases c6 : p0 = 62
              · have h := h.2.2.2.2.2.2.1 c6
                refine aw_lookup (tgt := 126) X dX6_joined_1 (by decide) (by first | (rw [c6]; done) | (rw [c6]; rfl)) (by decide) ?_
                refine aw_iload_n X dX6_joined_126 1 rfl ?_
                refine aw_iload_n X dX6_joined_127 2 rfl ?_
                refine aw_icmp_le (tgt := 135) X dX6_joined_128 (by decide) (fun c => ?_) (fun c => ?_)
                · have h := h.1 c
                  refine aw_iconst (v := 0) X dX6_joined_135 (by decide) ?_
                  exact aw_iret X dX6_joined_136 h
                · have h := h.2 c
                  refine aw_iconst (v := 1) X dX6_joined_131 (by decide) ?_
                  refine aw_goto (tgt := 136) X dX6_joined_132 (by decide) ?_
                  exact aw_iret X dX6_joined_136 h
              · by_cases c7 : p0 = 124
                · have h := h.2.2.2.2.2.2.2.1 c7
                  refine aw_lookup (tgt := 76) X dX6_joined_1 (by decide) (by first | (rw [c7]; done) | (rw [c7]; rfl)) (by decide) ?_
                  refine aw_iload_n X dX6_joined_76 1 rfl ?_
                  refine aw_if_ne (tgt := 84) X dX6_joined_77 (by decide) (fun c => ?_) (fun c => ?_)
                  · have h := h.1 c
                    refine aw_iconst (v := 1) X dX6_joined_84 (by decide) ?_
                    refine aw_goto (tgt := 89) X dX6_joined_85 (by decide) ?_
                    exact aw_iret X dX6_joined_89 h
                  · have h := h.2 c
                    refine aw_iload_n X dX6_joined_80 2 rfl ?_
                    refine aw_if_eq (tgt := 88) X dX6_joined_81 (by decide) (fun c => ?_) (fun c => ?_)
                    · have h := h.1 c
                      refine aw_iconst (v := 0) X dX6_joined_88 (by decide) ?_
                      exact aw_iret X dX6_joined_89 h
                    · have h := h.2 c
                      refine aw_iconst (v := 1) X dX6_joined_84 (by decide) ?_
                      refine aw_goto (tgt := 89) X dX6_joined_85 (by decide) ?_
                      exact aw_iret X dX6_joined_89 h
                · have h := h.2.2.2.2.2.2.2.2 c0 c1 c2 c3 c4 c5 c6 c7
                  refine aw_lookup (off := 148) (tgt := 149) X dX6_joined_1 (by decide) (by show Op.lookupswitch.offset [(38, 89), (42, 144), (43, 136), (45, 140), (60, 103), (61, 114), (62, 125), (124, 75)] _ _ = _; rw [lv_osw (a := 38) c0 (by decide), lv_osw (a := 42) c1 (by decide), lv_osw (a := 43) c2 (by decide), lv_osw (a := 45) c3 (by decide), lv_osw (a := 60) c4 (by decide), lv_osw (a := 61) c5 (by decide), lv_osw (a := 62) c6 (by decide), lv_osw (a := 124) c7 (by decide)]; first | done | rfl) (by decide) ?_
                  refine aw_iload_n X dX6_joined_149 2 rfl ?_
                  refine aw_if_ne (tgt := 157) X dX6_joined_150 (by decide) (fun c => ?_) (fun c => ?_)
                  · have h := h.1 c
                    refine aw_iload_n X dX6_joined_157 1 rfl ?_
                    refine aw_iload_n X dX6_joined_158 2 rfl ?_
                    obtain ⟨hne, h⟩ := h
                    refine aw_idiv X dX6_joined_159 hne ?_
                    exact aw_iret X dX6_joined_160 h
                  · have h := h.2 c
                    refine aw_iconst (v := 0) X dX6_joined_153 (by decide) ?_
                    refine aw_goto (tgt := 160) X dX6_joined_154 (by decide) ?_
                    exact aw_iret X dX6_joined_160 h
def wl_X6_value_17 (n : Nat) (this : Nat) (p1 : Int32) (p2 : Int32) (p3 : Int32)  (K : Mm → Int32 → Prop) : Nat → Mm → Int32 → Nat → Int32 → Int32 → Prop
  | 0, _, _, _, _, _ => False
  | k + 1, M, x4, x5, x6, x7 => (tp x5 = 21 ∧ x5 < n) ∧ ((x6 ≤ x7 → (x4 ≤ 0 → K M 0) ∧ (¬ x4 ≤ 0 → vp_in 0 ((M (this + 2) LEN).toNatClampNeg) ∧ (K M (M (this + 2) 0)))) ∧ (¬ x6 ≤ x7 → vp_in x7 ((M x5 LEN).toNatClampNeg) ∧ (∀ v2 : Int32, v2 = M x5 x7.toNatClampNeg → (¬ v2 = (-33) → ((-3) ≤ v2 → ((Int32.ofNat ((M (this + 2) LEN).toNatClampNeg)) ≤ x4 → ∀ v3 : Int32, v3 = x7 + 1 → wl_X6_value_17 n this p1 p2 p3 K k M x4 x5 x6 v3) ∧ (¬ (Int32.ofNat ((M (this + 2) LEN).toNatClampNeg)) ≤ x4 → (v2 < 0 → (¬ v2 = (-1) → (¬ v2 = (-2) → vp_in x4 ((M (this + 2) LEN).toNatClampNeg) ∧ (∀ M4 : Mm, M4 = wr M (this + 2) x4.toNatClampNeg p3 → ∀ v5 : Int32, v5 = x4 + 1 → ∀ v6 : Int32, v6 = x7 + 1 → wl_X6_value_17 n this p1 p2 p3 K k M4 v5 x5 x6 v6)) ∧ (v2 = (-2) → vp_in x4 ((M (this + 2) LEN).toNatClampNeg) ∧ (∀ M7 : Mm, M7 = wr M (this + 2) x4.toNatClampNeg p2 → ∀ v8 : Int32, v8 = x4 + 1 → ∀ v9 : Int32, v9 = x7 + 1 → wl_X6_value_17 n this p1 p2 p3 K k M7 v8 x5 x6 v9))) ∧ (v2 = (-1) → vp_in x4 ((M (this + 2) LEN).toNatClampNeg) ∧ (∀ M10 : Mm, M10 = wr M (this + 2) x4.toNatClampNeg p1 → ∀ v11 : Int32, v11 = x4 + 1 → ∀ v12 : Int32, v12 = x7 + 1 → wl_X6_value_17 n this p1 p2 p3 K k M10 v11 x5 x6 v12))) ∧ (¬ v2 < 0 → vp_in x4 ((M (this + 2) LEN).toNatClampNeg) ∧ (∀ M13 : Mm, M13 = wr M (this + 2) x4.toNatClampNeg v2 → ∀ v14 : Int32, v14 = x4 + 1 → ∀ v15 : Int32, v15 = x7 + 1 → wl_X6_value_17 n this p1 p2 p3 K k M13 v14 x5 x6 v15)))) ∧ (¬ (-3) ≤ v2 → (x4 ≤ 1 → ∀ v16 : Int32, v16 = x7 + 1 → wl_X6_value_17 n this p1 p2 p3 K k M x4 x5 x6 v16) ∧ (¬ x4 ≤ 1 → ∀ v17 : Int32, v17 = x4 + (-1) → vp_in (v17 - 1) ((M (this + 2) LEN).toNatClampNeg) ∧ (vp_in v17 ((M (this + 2) LEN).toNatClampNeg) ∧ (wp_X6_joined n M (-v2) (M (this + 2) (v17 - 1).toNatClampNeg) (M (this + 2) v17.toNatClampNeg) (fun M18 r19 => vp_in (v17 - 1) ((M18 (this + 2) LEN).toNatClampNeg) ∧ (∀ M20 : Mm, M20 = wr M18 (this + 2) (v17 - 1).toNatClampNeg r19 → ∀ v21 : Int32, v21 = x7 + 1 → wl_X6_value_17 n this p1 p2 p3 K k M20 v17 x5 x6 v21))))))) ∧ (v2 = (-33) → (x4 ≤ 0 → ∀ v22 : Int32, v22 = x7 + 1 → wl_X6_value_17 n this p1 p2 p3 K k M x4 x5 x6 v22) ∧ (¬ x4 ≤ 0 → vp_in (x4 - 1) ((M (this + 2) LEN).toNatClampNeg) ∧ ((¬ (M (this + 2) (x4 - 1).toNatClampNeg) = 0 → vp_in (x4 - 1) ((M (this + 2) LEN).toNatClampNeg) ∧ (∀ M23 : Mm, M23 = wr M (this + 2) (x4 - 1).toNatClampNeg 0 → ∀ v24 : Int32, v24 = x7 + 1 → wl_X6_value_17 n this p1 p2 p3 K k M23 x4 x5 x6 v24)) ∧ ((M (this + 2) (x4 - 1).toNatClampNeg) = 0 → vp_in (x4 - 1) ((M (this + 2) LEN).toNatClampNeg) ∧ (∀ M25 : Mm, M25 = wr M (this + 2) (x4 - 1).toNatClampNeg 1 → ∀ v26 : Int32, v26 = x7 + 1 → wl_X6_value_17 n this p1 p2 p3 K k M25 x4 x5 x6 v26))))))))
set_option maxHeartbeats 4000000 in
set_option maxRecDepth 100000 in
theorem lw_X6_value_17 {g : Gm} {E : En} {A : Nat → Prop} {K : Mm → Int32 → Prop} (X : CX g cX6_value RX6 (some .int) 1 E A 9) (this : Nat) (p1 : Int32) (p2 : Int32) (p3 : Int32)  (hthis : tp this = 20 ∧ this + 2 < eN E) : ∀ (k : Nat) (M : Mm) (x4 : Int32) (x5 : Nat) (x6 : Int32) (x7 : Int32), wl_X6_value_17 (eN E) this p1 p2 p3  K k M x4 x5 x6 x7 → AW g E A 9 (MQ (gB g) (QI E K A) (gA g) (gS g) (gk g) (gn g) A) 17 [(0, .ref (eA E this)), (1, .int p1), (2, .int p2), (3, .int p3), (4, .int x4), (5, .ref (eA E x5)), (6, .int x6), (7, .int x7)] [] M := by
  intro k
  induction k with
  | zero => intro M x4 x5 x6 x7 h; exact h.elim
  | succ k ih =>
    intro M x4 x5 x6 x7 h
    rw [wl_X6_value_17] at h
    obtain ⟨hx5, h⟩ := h
    refine aw_iload X dX6_value_17 7 rfl ?_
    refine aw_iload X dX6_value_19 6 rfl ?_
    refine aw_icmp_ge (tgt := 180) X dX6_value_21 (by decide) (fun c => ?_) (fun c => ?_)
    · have h := h.1 c
      refine aw_iload X dX6_value_180 4 rfl ?_
      refine aw_if_le (tgt := 194) X dX6_value_182 (by decide) (fun c => ?_) (fun c => ?_)
      · have h := h.1 c
        refine aw_iconst (v := 0) X dX6_value_194 (by decide) ?_
        exact aw_iret X dX6_value_195 h
      · have h := h.2 c
        refine aw_aload_n X dX6_value_185 0 rfl ?_
        refine aw_get X dX6_value_186 (by have := hthis.2; omega) (sh_20 hthis.1 _) fl_RX6_26 rfl ?_
        refine aw_iconst (v := 0) X dX6_value_189 (by decide) ?_
        obtain ⟨hin, h⟩ := h
        refine aw_iald X dX6_value_190 (by have := hthis.2; omega) (sh_tx (Or.inr (ly_20_3 hthis.1)) _) hin ?_
        refine aw_goto (tgt := 195) X dX6_value_191 (by decide) ?_
        exact aw_iret X dX6_value_195 h
    · have h := h.2 c
      refine aw_aload X dX6_value_24 5 rfl ?_
      refine aw_iload X dX6_value_26 7 rfl ?_
      obtain ⟨hin, h⟩ := h
      refine aw_iald X dX6_value_28 hx5.2 (sh_tx (Or.inl hx5.1) _) hin ?_
      refine aw_top (fun v2 ev2 => ?_)
      have h := h v2 ev2
      refine aw_istore (lv' := [(8, .int v2), (0, .ref (eA E this)), (1, .int p1), (2, .int p2), (3, .int p3), (4, .int x4), (5, .ref (eA E x5)), (6, .int x6), (7, .int x7)]) X dX6_value_29 (by decide) rfl ?_
      refine aw_iload X dX6_value_31 0 rfl ?_
      refine aw_bipush (v := (-33)) X dX6_value_33 (by decide) ?_
      refine aw_icmp_ne (tgt := 72) X dX6_value_35 (by decide) (fun c => ?_) (fun c => ?_)
      · have h := h.1 c
        refine aw_iload X dX6_value_72 0 rfl ?_
        refine aw_bipush (v := (-3)) X dX6_value_74 (by decide) ?_
        refine aw_icmp_ge (tgt := 122) X dX6_value_76 (by decide) (fun c => ?_) (fun c => ?_)
        · have h := h.1 c
          refine aw_iload X dX6_value_122 5 rfl ?_
          refine aw_aload_n X dX6_value_124 1 rfl ?_
          refine aw_get X dX6_value_125 (by have := hthis.2; omega) (sh_20 hthis.1 _) fl_RX6_26 rfl ?_
          refine aw_alen (t := 0) (v := Int32.ofNat ((M (this + 2) LEN).toNatClampNeg)) X dX6_value_128 (by have := hthis.2; omega) (sh_tx (Or.inr (ly_20_3 hthis.1)) _) rfl rfl ?_
          refine aw_icmp_ge (tgt := 174) X dX6_value_129 (by decide) (fun c => ?_) (fun c => ?_)
          · have h := h.1 c
            obtain ⟨v3, ev3⟩ : ∃ y : Int32, y = x7 + 1 := ⟨_, rfl⟩
            have h := h v3 ev3
            refine aw_iinc (v := v3) (lv' := [(7, .int v3), (8, .int v2), (0, .ref (eA E this)), (1, .int p1), (2, .int p2), (3, .int p3), (4, .int x4), (5, .ref (eA E x5)), (6, .int x6)]) X dX6_value_174 8 rfl (by rw [ev3]; rfl) (by decide) rfl ?_
            refine aw_goto (tgt := 17) X dX6_value_177 (by decide) ?_
            exact aw_sub [2, 3, 4, 5, 6, 7, 8, 0] rfl (ih _ _ _ _ _ h)
          · have h := h.2 c
            refine aw_aload_n X dX6_value_132 1 rfl ?_
            refine aw_get X dX6_value_133 (by have := hthis.2; omega) (sh_20 hthis.1 _) fl_RX6_26 rfl ?_
            refine aw_iload X dX6_value_136 5 rfl ?_
            refine aw_iload X dX6_value_138 0 rfl ?_
            refine aw_if_lt (tgt := 148) X dX6_value_140 (by decide) (fun c => ?_) (fun c => ?_)
            · have h := h.1 c
              refine aw_iload X dX6_value_148 0 rfl ?_
              refine aw_iconst (v := (-1)) X dX6_value_150 (by decide) ?_
              refine aw_icmp_ne (tgt := 158) X dX6_value_151 (by decide) (fun c => ?_) (fun c => ?_)
              · have h := h.1 c
                refine aw_iload X dX6_value_158 0 rfl ?_
                refine aw_bipush (v := (-2)) X dX6_value_160 (by decide) ?_
                refine aw_icmp_ne (tgt := 169) X dX6_value_162 (by decide) (fun c => ?_) (fun c => ?_)
                · have h := h.1 c
                  refine aw_iload_n X dX6_value_169 4 rfl ?_
                  obtain ⟨hin, h⟩ := h
                  refine aw_iast X dX6_value_170 (by have := hthis.2; omega) (sh_tx (Or.inr (ly_20_3 hthis.1)) _) (sh_txw (Or.inr (ly_20_3 hthis.1)) _ _ hin) hin (fun M4 eM4 => ?_)
                  have h := h M4 eM4
                  obtain ⟨v5, ev5⟩ : ∃ y : Int32, y = x4 + 1 := ⟨_, rfl⟩
                  have h := h v5 ev5
                  refine aw_iinc (v := v5) (lv' := [(4, .int v5), (8, .int v2), (0, .ref (eA E this)), (1, .int p1), (2, .int p2), (3, .int p3), (5, .ref (eA E x5)), (6, .int x6), (7, .int x7)]) X dX6_value_171 5 rfl (by rw [ev5]; rfl) (by decide) rfl ?_
                  obtain ⟨v6, ev6⟩ : ∃ y : Int32, y = x7 + 1 := ⟨_, rfl⟩
                  have h := h v6 ev6
                  refine aw_iinc (v := v6) (lv' := [(7, .int v6), (4, .int v5), (8, .int v2), (0, .ref (eA E this)), (1, .int p1), (2, .int p2), (3, .int p3), (5, .ref (eA E x5)), (6, .int x6)]) X dX6_value_174 8 rfl (by rw [ev6]; rfl) (by decide) rfl ?_
                  refine aw_goto (tgt := 17) X dX6_value_177 (by decide) ?_
                  exact aw_sub [3, 4, 5, 6, 1, 7, 8, 0] rfl (ih _ _ _ _ _ h)
                · have h := h.2 c
                  refine aw_iload_n X dX6_value_165 3 rfl ?_
                  refine aw_goto (tgt := 170) X dX6_value_166 (by decide) ?_
                  obtain ⟨hin, h⟩ := h
                  refine aw_iast X dX6_value_170 (by have := hthis.2; omega) (sh_tx (Or.inr (ly_20_3 hthis.1)) _) (sh_txw (Or.inr (ly_20_3 hthis.1)) _ _ hin) hin (fun M7 eM7 => ?_)
                  have h := h M7 eM7
                  obtain ⟨v8, ev8⟩ : ∃ y : Int32, y = x4 + 1 := ⟨_, rfl⟩
                  have h := h v8 ev8
                  refine aw_iinc (v := v8) (lv' := [(4, .int v8), (8, .int v2), (0, .ref (eA E this)), (1, .int p1), (2, .int p2), (3, .int p3), (5, .ref (eA E x5)), (6, .int x6), (7, .int x7)]) X dX6_value_171 5 rfl (by rw [ev8]; rfl) (by decide) rfl ?_
                  obtain ⟨v9, ev9⟩ : ∃ y : Int32, y = x7 + 1 := ⟨_, rfl⟩
                  have h := h v9 ev9
                  refine aw_iinc (v := v9) (lv' := [(7, .int v9), (4, .int v8), (8, .int v2), (0, .ref (eA E this)), (1, .int p1), (2, .int p2), (3, .int p3), (5, .ref (eA E x5)), (6, .int x6)]) X dX6_value_174 8 rfl (by rw [ev9]; rfl) (by decide) rfl ?_
                  refine aw_goto (tgt := 17) X dX6_value_177 (by decide) ?_
                  exact aw_sub [3, 4, 5, 6, 1, 7, 8, 0] rfl (ih _ _ _ _ _ h)
              · have h := h.2 c
                refine aw_iload_n X dX6_value_154 2 rfl ?_
                refine aw_goto (tgt := 170) X dX6_value_155 (by decide) ?_
                obtain ⟨hin, h⟩ := h
                refine aw_iast X dX6_value_170 (by have := hthis.2; omega) (sh_tx (Or.inr (ly_20_3 hthis.1)) _) (sh_txw (Or.inr (ly_20_3 hthis.1)) _ _ hin) hin (fun M10 eM10 => ?_)
                have h := h M10 eM10
                obtain ⟨v11, ev11⟩ : ∃ y : Int32, y = x4 + 1 := ⟨_, rfl⟩
                have h := h v11 ev11
                refine aw_iinc (v := v11) (lv' := [(4, .int v11), (8, .int v2), (0, .ref (eA E this)), (1, .int p1), (2, .int p2), (3, .int p3), (5, .ref (eA E x5)), (6, .int x6), (7, .int x7)]) X dX6_value_171 5 rfl (by rw [ev11]; rfl) (by decide) rfl ?_
                obtain ⟨v12, ev12⟩ : ∃ y : Int32, y = x7 + 1 := ⟨_, rfl⟩
                have h := h v12 ev12
                refine aw_iinc (v := v12) (lv' := [(7, .int v12), (4, .int v11), (8, .int v2), (0, .ref (eA E this)), (1, .int p1), (2, .int p2), (3, .int p3), (5, .ref (eA E x5)), (6, .int x6)]) X dX6_value_174 8 rfl (by rw [ev12]; rfl) (by decide) rfl ?_
                refine aw_goto (tgt := 17) X dX6_value_177 (by decide) ?_
                exact aw_sub [3, 4, 5, 6, 1, 7, 8, 0] rfl (ih _ _ _ _ _ h)
            · have h := h.2 c
              refine aw_iload X dX6_value_143 0 rfl ?_
              refine aw_goto (tgt := 170) X dX6_value_145 (by decide) ?_
              obtain ⟨hin, h⟩ := h
              refine aw_iast X dX6_value_170 (by have := hthis.2; omega) (sh_tx (Or.inr (ly_20_3 hthis.1)) _) (sh_txw (Or.inr (ly_20_3 hthis.1)) _ _ hin) hin (fun M13 eM13 => ?_)
              have h := h M13 eM13
              obtain ⟨v14, ev14⟩ : ∃ y : Int32, y = x4 + 1 := ⟨_, rfl⟩
              have h := h v14 ev14
              refine aw_iinc (v := v14) (lv' := [(4, .int v14), (8, .int v2), (0, .ref (eA E this)), (1, .int p1), (2, .int p2), (3, .int p3), (5, .ref (eA E x5)), (6, .int x6), (7, .int x7)]) X dX6_value_171 5 rfl (by rw [ev14]; rfl) (by decide) rfl ?_
              obtain ⟨v15, ev15⟩ : ∃ y : Int32, y = x7 + 1 := ⟨_, rfl⟩
              have h := h v15 ev15
              refine aw_iinc (v := v15) (lv' := [(7, .int v15), (4, .int v14), (8, .int v2), (0, .ref (eA E this)), (1, .int p1), (2, .int p2), (3, .int p3), (5, .ref (eA E x5)), (6, .int x6)]) X dX6_value_174 8 rfl (by rw [ev15]; rfl) (by decide) rfl ?_
              refine aw_goto (tgt := 17) X dX6_value_177 (by decide) ?_
              exact aw_sub [3, 4, 5, 6, 1, 7, 8, 0] rfl (ih _ _ _ _ _ h)
        · have h := h.2 c
          refine aw_iload X dX6_value_79 5 rfl ?_
          refine aw_iconst (v := 1) X dX6_value_81 (by decide) ?_
          refine aw_icmp_le (tgt := 174) X dX6_value_82 (by decide) (fun c => ?_) (fun c => ?_)
          · have h := h.1 c
            obtain ⟨v16, ev16⟩ : ∃ y : Int32, y = x7 + 1 := ⟨_, rfl⟩
            have h := h v16 ev16
            refine aw_iinc (v := v16) (lv' := [(7, .int v16), (8, .int v2), (0, .ref (eA E this)), (1, .int p1), (2, .int p2), (3, .int p3), (4, .int x4), (5, .ref (eA E x5)), (6, .int x6)]) X dX6_value_174 8 rfl (by rw [ev16]; rfl) (by decide) rfl ?_
            refine aw_goto (tgt := 17) X dX6_value_177 (by decide) ?_
            exact aw_sub [2, 3, 4, 5, 6, 7, 8, 0] rfl (ih _ _ _ _ _ h)
          · have h := h.2 c
            obtain ⟨v17, ev17⟩ : ∃ y : Int32, y = x4 + (-1) := ⟨_, rfl⟩
            have h := h v17 ev17
            refine aw_iinc (v := v17) (lv' := [(4, .int v17), (8, .int v2), (0, .ref (eA E this)), (1, .int p1), (2, .int p2), (3, .int p3), (5, .ref (eA E x5)), (6, .int x6), (7, .int x7)]) X dX6_value_85 5 rfl (by rw [ev17]; rfl) (by decide) rfl ?_
            refine aw_aload_n X dX6_value_88 2 rfl ?_
            refine aw_get X dX6_value_89 (by have := hthis.2; omega) (sh_20 hthis.1 _) fl_RX6_26 rfl ?_
            refine aw_iload X dX6_value_92 0 rfl ?_
            refine aw_iconst (v := 1) X dX6_value_94 (by decide) ?_
            refine aw_isub X dX6_value_95 ?_
            refine aw_iload X dX6_value_96 1 rfl ?_
            refine aw_ineg X dX6_value_98 ?_
            refine aw_aload_n X dX6_value_99 2 rfl ?_
            refine aw_get X dX6_value_100 (by have := hthis.2; omega) (sh_20 hthis.1 _) fl_RX6_26 rfl ?_
            refine aw_iload X dX6_value_103 0 rfl ?_
            refine aw_iconst (v := 1) X dX6_value_105 (by decide) ?_
            refine aw_isub X dX6_value_106 ?_
            obtain ⟨hin, h⟩ := h
            refine aw_iald X dX6_value_107 (by have := hthis.2; omega) (sh_tx (Or.inr (ly_20_3 hthis.1)) _) hin ?_
            refine aw_aload_n X dX6_value_108 2 rfl ?_
            refine aw_get X dX6_value_109 (by have := hthis.2; omega) (sh_20 hthis.1 _) fl_RX6_26 rfl ?_
            refine aw_iload X dX6_value_112 0 rfl ?_
            obtain ⟨hin, h⟩ := h
            refine aw_iald X dX6_value_114 (by have := hthis.2; omega) (sh_tx (Or.inr (ly_20_3 hthis.1)) _) hin ?_
            refine ca_i X (rn_s X [.int (-v2), .int (M (this + 2) (v17 - 1).toNatClampNeg), .int (M (this + 2) v17.toNatClampNeg)] [.int (v17 - 1), .ref (eA E (this + 2))] kw448 (c_X6_joined h) cal_yX6_joined kw447 (Nat.le_of_ble_eq_true rfl) rfl rfl (Nat.le_of_ble_eq_true rfl) dX6_value_115) (fun M18 r19 h => ?_)
            obtain ⟨hin, h⟩ := h
            refine aw_iast X dX6_value_118 (by have := hthis.2; omega) (sh_tx (Or.inr (ly_20_3 hthis.1)) _) (sh_txw (Or.inr (ly_20_3 hthis.1)) _ _ hin) hin (fun M20 eM20 => ?_)
            have h := h M20 eM20
            refine aw_goto (tgt := 174) X dX6_value_119 (by decide) ?_
            obtain ⟨v21, ev21⟩ : ∃ y : Int32, y = x7 + 1 := ⟨_, rfl⟩
            have h := h v21 ev21
            refine aw_iinc (v := v21) (lv' := [(7, .int v21), (4, .int v17), (8, .int v2), (0, .ref (eA E this)), (1, .int p1), (2, .int p2), (3, .int p3), (5, .ref (eA E x5)), (6, .int x6)]) X dX6_value_174 8 rfl (by rw [ev21]; rfl) (by decide) rfl ?_
            refine aw_goto (tgt := 17) X dX6_value_177 (by decide) ?_
            exact aw_sub [3, 4, 5, 6, 1, 7, 8, 0] rfl (ih _ _ _ _ _ h)
      · have h := h.2 c
        refine aw_iload X dX6_value_38 5 rfl ?_
        refine aw_if_le (tgt := 174) X dX6_value_40 (by decide) (fun c => ?_) (fun c => ?_)
        · have h := h.1 c
          obtain ⟨v22, ev22⟩ : ∃ y : Int32, y = x7 + 1 := ⟨_, rfl⟩
          have h := h v22 ev22
          refine aw_iinc (v := v22) (lv' := [(7, .int v22), (8, .int v2), (0, .ref (eA E this)), (1, .int p1), (2, .int p2), (3, .int p3), (4, .int x4), (5, .ref (eA E x5)), (6, .int x6)]) X dX6_value_174 8 rfl (by rw [ev22]; rfl) (by decide) rfl ?_
          refine aw_goto (tgt := 17) X dX6_value_177 (by decide) ?_
          exact aw_sub [2, 3, 4, 5, 6, 7, 8, 0] rfl (ih _ _ _ _ _ h)
        · have h := h.2 c
          refine aw_aload_n X dX6_value_43 1 rfl ?_
          refine aw_get X dX6_value_44 (by have := hthis.2; omega) (sh_20 hthis.1 _) fl_RX6_26 rfl ?_
          refine aw_iload X dX6_value_47 5 rfl ?_
          refine aw_iconst (v := 1) X dX6_value_49 (by decide) ?_
          refine aw_isub X dX6_value_50 ?_
          refine aw_aload_n X dX6_value_51 1 rfl ?_
          refine aw_get X dX6_value_52 (by have := hthis.2; omega) (sh_20 hthis.1 _) fl_RX6_26 rfl ?_
          refine aw_iload X dX6_value_55 5 rfl ?_
          refine aw_iconst (v := 1) X dX6_value_57 (by decide) ?_
          refine aw_isub X dX6_value_58 ?_
          obtain ⟨hin, h⟩ := h
          refine aw_iald X dX6_value_59 (by have := hthis.2; omega) (sh_tx (Or.inr (ly_20_3 hthis.1)) _) hin ?_
          refine aw_if_ne (tgt := 67) X dX6_value_60 (by decide) (fun c => ?_) (fun c => ?_)
          · have h := h.1 c
            refine aw_iconst (v := 0) X dX6_value_67 (by decide) ?_
            obtain ⟨hin, h⟩ := h
            refine aw_iast X dX6_value_68 (by have := hthis.2; omega) (sh_tx (Or.inr (ly_20_3 hthis.1)) _) (sh_txw (Or.inr (ly_20_3 hthis.1)) _ _ hin) hin (fun M23 eM23 => ?_)
            have h := h M23 eM23
            refine aw_goto (tgt := 174) X dX6_value_69 (by decide) ?_
            obtain ⟨v24, ev24⟩ : ∃ y : Int32, y = x7 + 1 := ⟨_, rfl⟩
            have h := h v24 ev24
            refine aw_iinc (v := v24) (lv' := [(7, .int v24), (8, .int v2), (0, .ref (eA E this)), (1, .int p1), (2, .int p2), (3, .int p3), (4, .int x4), (5, .ref (eA E x5)), (6, .int x6)]) X dX6_value_174 8 rfl (by rw [ev24]; rfl) (by decide) rfl ?_
            refine aw_goto (tgt := 17) X dX6_value_177 (by decide) ?_
            exact aw_sub [2, 3, 4, 5, 6, 7, 8, 0] rfl (ih _ _ _ _ _ h)
          · have h := h.2 c
            refine aw_iconst (v := 1) X dX6_value_63 (by decide) ?_
            refine aw_goto (tgt := 68) X dX6_value_64 (by decide) ?_
            obtain ⟨hin, h⟩ := h
            refine aw_iast X dX6_value_68 (by have := hthis.2; omega) (sh_tx (Or.inr (ly_20_3 hthis.1)) _) (sh_txw (Or.inr (ly_20_3 hthis.1)) _ _ hin) hin (fun M25 eM25 => ?_)
            have h := h M25 eM25
            refine aw_goto (tgt := 174) X dX6_value_69 (by decide) ?_
            obtain ⟨v26, ev26⟩ : ∃ y : Int32, y = x7 + 1 := ⟨_, rfl⟩
            have h := h v26 ev26
            refine aw_iinc (v := v26) (lv' := [(7, .int v26), (8, .int v2), (0, .ref (eA E this)), (1, .int p1), (2, .int p2), (3, .int p3), (4, .int x4), (5, .ref (eA E x5)), (6, .int x6)]) X dX6_value_174 8 rfl (by rw [ev26]; rfl) (by decide) rfl ?_
            refine aw_goto (tgt := 17) X dX6_value_177 (by decide) ?_
            exact aw_sub [2, 3, 4, 5, 6, 7, 8, 0] rfl (ih _ _ _ _ _ h)
def wp_X6_value (n : Nat)  (M : Mm) (this : Nat) (p1 : Int32) (p2 : Int32) (p3 : Int32) (K : Mm → Int32 → Prop) : Prop := (tp this = 20 ∧ this + 2 < n) ∧ (∀ v1 : Int32, v1 = Int32.ofNat ((M (this + 1) LEN).toNatClampNeg) → ∃ kf : Nat, wl_X6_value_17 n this p1 p2 p3 K kf M 0 (this + 1) v1 0)
set_option maxHeartbeats 4000000 in
set_option maxRecDepth 100000 in
theorem c_X6_value {l : Launch} {E : En} {M : Mm} {this : Nat} {p1 : Int32} {p2 : Int32} {p3 : Int32} {K : Mm → Int32 → Prop}  (h : wp_X6_value (eN E)  M this p1 p2 p3 K) : Ctr l E yX6_value cX6_value 9 (some .int) 1 [.ref (eA E this), .int p1, .int p2, .int p3] M (QI E K) := by
  refine Ctr.of (by decide +kernel) (Nat.le_of_ble_eq_true rfl) (fun g A hgl X => ?_)
  subst hgl
  have X : CX g cX6_value RX6 (some .int) 1 E A 9 := X
  show AW g E A 9 _ 0 [(0, .ref (eA E this)), (1, .int p1), (2, .int p2), (3, .int p3)] [] M
  unfold wp_X6_value at h
  obtain ⟨hthis, h⟩ := h
  refine aw_iconst (v := 0) X dX6_value_0 (by decide) ?_
  refine aw_istore (lv' := [(4, .int 0), (0, .ref (eA E this)), (1, .int p1), (2, .int p2), (3, .int p3)]) X dX6_value_1 (by decide) rfl ?_
  refine aw_aload_n X dX6_value_3 1 rfl ?_
  refine aw_get X dX6_value_4 (by have := hthis.2; omega) (sh_20 hthis.1 _) fl_RX6_16 rfl ?_
  refine aw_astore (lv' := [(5, .ref (eA E (this + 1))), (4, .int 0), (0, .ref (eA E this)), (1, .int p1), (2, .int p2), (3, .int p3)]) X dX6_value_7 (by decide) rfl ?_
  refine aw_aload X dX6_value_9 0 rfl ?_
  refine aw_alen (t := 0) (v := Int32.ofNat ((M (this + 1) LEN).toNatClampNeg)) X dX6_value_11 (by have := hthis.2; omega) (sh_tx (Or.inl (ly_20_2 hthis.1)) _) rfl rfl ?_
  refine aw_top (fun v1 ev1 => ?_)
  have h := h v1 ev1
  refine aw_istore (lv' := [(6, .int v1), (5, .ref (eA E (this + 1))), (4, .int 0), (0, .ref (eA E this)), (1, .int p1), (2, .int p2), (3, .int p3)]) X dX6_value_12 (by decide) rfl ?_
  refine aw_iconst (v := 0) X dX6_value_14 (by decide) ?_
  refine aw_istore (lv' := [(7, .int 0), (6, .int v1), (5, .ref (eA E (this + 1))), (4, .int 0), (0, .ref (eA E this)), (1, .int p1), (2, .int p2), (3, .int p3)]) X dX6_value_15 (by decide) rfl ?_
  obtain ⟨kf, h⟩ := h
  exact aw_sub [4, 5, 6, 7, 3, 2, 1, 0] rfl (lw_X6_value_17 X this p1 p2 p3 hthis  kf _ _ _ _ _ h)
def wp_X3_leaveHolds (n : Nat)  (M : Mm) (this : Nat) (p1 : Nat) (K : Mm → Int32 → Prop) : Prop := (tp this = 2) ∧ ((tp p1 = 5) ∧ (wp_X3_lawOf n M this 0 (fun M1 r2 => (r2 = none → (¬ (jrem (M1 this 11) 60) = (M1 p1 1) → K M1 0) ∧ ((jrem (M1 this 11) 60) = (M1 p1 1) → K M1 1)) ∧ (∀ t3 : Nat, r2 = some t3 → (tp t3 = 20 ∧ t3 + 2 < n) ∧ (wp_X6_value n M1 t3 (jrem (M1 this 11) 1440) (M1 p1 8) (M1 p1 1) (fun M5 r6 => (r6 = 0 → K M5 0) ∧ (¬ r6 = 0 → K M5 1)))))))
set_option maxHeartbeats 4000000 in
set_option maxRecDepth 100000 in
theorem c_X3_leaveHolds {l : Launch} {E : En} {M : Mm} {this : Nat} {p1 : Nat} {K : Mm → Int32 → Prop}  (h : wp_X3_leaveHolds (eN E)  M this p1 K) : Ctr l E yX3_leaveHolds cX3_leaveHolds 3 (some .boolean) 2 [.ref (eA E this), .ref (eA E p1)] M (QI E K) := by
  refine Ctr.of (by decide +kernel) (Nat.le_of_ble_eq_true rfl) (fun g A hgl X => ?_)
  subst hgl
  have X : CX g cX3_leaveHolds RX3 (some .boolean) 2 E A 3 := X
  show AW g E A 3 _ 0 [(0, .ref (eA E this)), (1, .ref (eA E p1))] [] M
  unfold wp_X3_leaveHolds at h
  obtain ⟨hthis, h⟩ := h
  obtain ⟨hp1, h⟩ := h
  refine aw_aload_n X dX3_leaveHolds_0 0 rfl ?_
  refine aw_iconst (v := 0) X dX3_leaveHolds_1 (by decide) ?_
  refine ca_q X (rn_v X [.int 0] [] (X.il hthis (by decide)) (sh_2 hthis _) rfl rfl kw440 kw7 (c_X3_lawOf h) cal_yX3_lawOf kw438 (Nat.le_of_ble_eq_true rfl) rfl rfl (Nat.le_of_ble_eq_true rfl) dX3_leaveHolds_2) (fun M1 r2 h => ?_)
  rcases r2 with _ | t3
  · have h := h.1 rfl
    refine aw_astore_nN (lv' := [(2, .null), (0, .ref (eA E this)), (1, .ref (eA E p1))]) X dX3_leaveHolds_5 (by decide) rfl ?_
    refine aw_aload_nN X dX3_leaveHolds_6 0 rfl ?_
    refine aw_ifnonnullN X dX3_leaveHolds_7 ?_
    refine aw_aload_n X dX3_leaveHolds_10 1 rfl ?_
    refine aw_get X dX3_leaveHolds_11 (X.il hthis (by decide)) (sh_2 hthis _) fl_RX3_52 rfl ?_
    refine aw_bipush (v := 60) X dX3_leaveHolds_14 (by decide) ?_
    refine aw_irem X dX3_leaveHolds_16 (by decide) ?_
    refine aw_aload_n X dX3_leaveHolds_17 2 rfl ?_
    refine aw_get X dX3_leaveHolds_18 (X.il hp1 (by decide)) (sh_5 hp1 _) fl_RX3_100 rfl ?_
    refine aw_icmp_ne (tgt := 28) X dX3_leaveHolds_21 (by decide) (fun c => ?_) (fun c => ?_)
    · have h := h.1 c
      refine aw_iconst (v := 0) X dX3_leaveHolds_28 (by decide) ?_
      exact aw_zret X dX3_leaveHolds_29 (by decide) h
    · have h := h.2 c
      refine aw_iconst (v := 1) X dX3_leaveHolds_24 (by decide) ?_
      refine aw_goto (tgt := 29) X dX3_leaveHolds_25 (by decide) ?_
      exact aw_zret X dX3_leaveHolds_29 (by decide) h
  · obtain ⟨ht4, h⟩ := h.2 t3 rfl
    refine aw_astore_n (lv' := [(2, .ref (eA E t3)), (0, .ref (eA E this)), (1, .ref (eA E p1))]) X dX3_leaveHolds_5 (by decide) rfl ?_
    refine aw_aload_n X dX3_leaveHolds_6 0 rfl ?_
    refine aw_ifnonnull (tgt := 30) X dX3_leaveHolds_7 (by decide) ?_
    refine aw_aload_n X dX3_leaveHolds_30 0 rfl ?_
    refine aw_aload_n X dX3_leaveHolds_31 1 rfl ?_
    refine aw_get X dX3_leaveHolds_32 (X.il hthis (by decide)) (sh_2 hthis _) fl_RX3_52 rfl ?_
    refine aw_sipush (v := 1440) X dX3_leaveHolds_35 (by decide) ?_
    refine aw_irem X dX3_leaveHolds_38 (by decide) ?_
    refine aw_aload_n X dX3_leaveHolds_39 2 rfl ?_
    refine aw_get X dX3_leaveHolds_40 (X.il hp1 (by decide)) (sh_5 hp1 _) fl_RX3_103 rfl ?_
    refine aw_aload_n X dX3_leaveHolds_43 2 rfl ?_
    refine aw_get X dX3_leaveHolds_44 (X.il hp1 (by decide)) (sh_5 hp1 _) fl_RX3_100 rfl ?_
    refine ca_i X (rn_vn X [.int (jrem (M1 this 11) 1440), .int (M1 p1 8), .int (M1 p1 1)] [] (by have := ht4.2; omega) (sh_20 ht4.1 _) rfl rfl kw444 kw8 (c_X6_value h) cal_yX6_value kw442 (Nat.le_of_ble_eq_true rfl) rfl rfl (Nat.le_of_ble_eq_true rfl) dX3_leaveHolds_47) (fun M5 r6 h => ?_)
    refine aw_if_eq (tgt := 57) X dX3_leaveHolds_50 (by decide) (fun c => ?_) (fun c => ?_)
    · have h := h.1 c
      refine aw_iconst (v := 0) X dX3_leaveHolds_57 (by decide) ?_
      exact aw_zret X dX3_leaveHolds_58 (by decide) h
    · have h := h.2 c
      refine aw_iconst (v := 1) X dX3_leaveHolds_53 (by decide) ?_
      refine aw_goto (tgt := 58) X dX3_leaveHolds_54 (by decide) ?_
      exact aw_zret X dX3_leaveHolds_58 (by decide) h
def wb_X3_wouldLeave_102 (n : Nat) (this : Nat) (p1 : Nat)  (K : Mm → Int32 → Prop) (M : Mm)  : Prop := wp_X3_leaveHolds n M this p1 (fun M5 r6 => (r6 = 0 ∨ r6 = 1) ∧ K M5 r6)
set_option maxHeartbeats 4000000 in
set_option maxRecDepth 100000 in
theorem lb_X3_wouldLeave_102 {g : Gm} {E : En} {A : Nat → Prop} {K : Mm → Int32 → Prop} (X : CX g cX3_wouldLeave RX3 (some .boolean) 3 E A 2) (this : Nat) (p1 : Nat)  (hthis : tp this = 2) (hp1 : tp p1 = 5) (M : Mm)  (h : wb_X3_wouldLeave_102 (eN E) this p1  K M ) : AW g E A 2 (MQ (gB g) (QI E K A) (gA g) (gS g) (gk g) (gn g) A) 102 [(0, .ref (eA E this)), (1, .ref (eA E p1))] [] M := by
  unfold wb_X3_wouldLeave_102 at h
  refine aw_aload_n X dX3_wouldLeave_102 0 rfl ?_
  refine aw_aload_n X dX3_wouldLeave_103 1 rfl ?_
  refine ca_i X (rn_v X [.ref (eA E p1)] [] (X.il hthis (by decide)) (sh_2 hthis _) rfl rfl kw436 kw6 (c_X3_leaveHolds h) cal_yX3_leaveHolds kw434 (Nat.le_of_ble_eq_true rfl) rfl rfl (Nat.le_of_ble_eq_true rfl) dX3_wouldLeave_104) (fun M5 r6 h => ?_)
  exact aw_zret X dX3_wouldLeave_107 (nar_z h.1) h.2
def wp_X3_wouldLeave (n : Nat)  (M : Mm) (this : Nat) (p1 : Nat) (K : Mm → Int32 → Prop) : Prop := (tp this = 2) ∧ ((tp p1 = 5) ∧ (((M p1 0) = 1 → ((M p1 8) < (M p1 1) → K M 0) ∧ (¬ (M p1 8) < (M p1 1) → K M 1)) ∧ ((M p1 0) = 2 → wb_X3_wouldLeave_102 n this p1 K M ) ∧ ((M p1 0) = 3 → ((M p1 8) < (M p1 1) → K M 0) ∧ (¬ (M p1 8) < (M p1 1) → ((M this 7) ≤ 0 → K M 0) ∧ (¬ (M this 7) ≤ 0 → K M 1))) ∧ ((M p1 0) = 4 → wb_X3_wouldLeave_102 n this p1 K M ) ∧ ((M p1 0) = 5 → wp_X3_standing n M this (fun M1 r2 => (¬ r2 = 0 → K M1 0) ∧ (r2 = 0 → wp_X3_leaveHolds n M1 this p1 (fun M3 r4 => (r4 = 0 → K M3 0) ∧ (¬ r4 = 0 → K M3 1))))) ∧ (¬ (M p1 0) = 1 → ¬ (M p1 0) = 2 → ¬ (M p1 0) = 3 → ¬ (M p1 0) = 4 → ¬ (M p1 0) = 5 → wb_X3_wouldLeave_102 n this p1 K M )))
set_option maxHeartbeats 4000000 in
set_option maxRecDepth 100000 in
theorem c_X3_wouldLeave {l : Launch} {E : En} {M : Mm} {this : Nat} {p1 : Nat} {K : Mm → Int32 → Prop}  (h : wp_X3_wouldLeave (eN E)  M this p1 K) : Ctr l E yX3_wouldLeave cX3_wouldLeave 2 (some .boolean) 3 [.ref (eA E this), .ref (eA E p1)] M (QI E K) := by
  refine Ctr.of (by decide +kernel) (Nat.le_of_ble_eq_true rfl) (fun g A hgl X => ?_)
  subst hgl
  have X : CX g cX3_wouldLeave RX3 (some .boolean) 3 E A 2 := X
  show AW g E A 2 _ 0 [(0, .ref (eA E this)), (1, .ref (eA E p1))] [] M
  unfold wp_X3_wouldLeave at h
  obtain ⟨hthis, h⟩ := h
  obtain ⟨hp1, h⟩ := h
  refine aw_aload_n X dX3_wouldLeave_0 1 rfl ?_
  refine aw_get X dX3_wouldLeave_1 (X.il hp1 (by decide)) (sh_5 hp1 _) fl_RX3_110 rfl ?_
  by_cases c0 : (M p1 0) = 1
  · have h := h.1 c0
    refine aw_tableIn (tgt := 40) X dX3_wouldLeave_4 1 c0 (by decide) (by decide) rfl (by decide) ?_
    refine aw_aload_n X dX3_wouldLeave_40 1 rfl ?_
    refine aw_get X dX3_wouldLeave_41 (X.il hp1 (by decide)) (sh_5 hp1 _) fl_RX3_103 rfl ?_
    refine aw_aload_n X dX3_wouldLeave_44 1 rfl ?_
    refine aw_get X dX3_wouldLeave_45 (X.il hp1 (by decide)) (sh_5 hp1 _) fl_RX3_100 rfl ?_
    refine aw_icmp_lt (tgt := 55) X dX3_wouldLeave_48 (by decide) (fun c => ?_) (fun c => ?_)
    · have h := h.1 c
      refine aw_iconst (v := 0) X dX3_wouldLeave_55 (by decide) ?_
      exact aw_zret X dX3_wouldLeave_56 (by decide) h
    · have h := h.2 c
      refine aw_iconst (v := 1) X dX3_wouldLeave_51 (by decide) ?_
      refine aw_goto (tgt := 56) X dX3_wouldLeave_52 (by decide) ?_
      exact aw_zret X dX3_wouldLeave_56 (by decide) h
  · by_cases c1 : (M p1 0) = 2
    · have h := h.2.1 c1
      refine aw_tableIn (tgt := 102) X dX3_wouldLeave_4 2 c1 (by decide) (by decide) rfl (by decide) ?_
      exact aw_sub [0, 1] rfl (lb_X3_wouldLeave_102 X this p1 hthis hp1  _ h)
    · by_cases c2 : (M p1 0) = 3
      · have h := h.2.2.1 c2
        refine aw_tableIn (tgt := 57) X dX3_wouldLeave_4 3 c2 (by decide) (by decide) rfl (by decide) ?_
        refine aw_aload_n X dX3_wouldLeave_57 1 rfl ?_
        refine aw_get X dX3_wouldLeave_58 (X.il hp1 (by decide)) (sh_5 hp1 _) fl_RX3_103 rfl ?_
        refine aw_aload_n X dX3_wouldLeave_61 1 rfl ?_
        refine aw_get X dX3_wouldLeave_62 (X.il hp1 (by decide)) (sh_5 hp1 _) fl_RX3_100 rfl ?_
        refine aw_icmp_lt (tgt := 79) X dX3_wouldLeave_65 (by decide) (fun c => ?_) (fun c => ?_)
        · have h := h.1 c
          refine aw_iconst (v := 0) X dX3_wouldLeave_79 (by decide) ?_
          exact aw_zret X dX3_wouldLeave_80 (by decide) h
        · have h := h.2 c
          refine aw_aload_n X dX3_wouldLeave_68 0 rfl ?_
          refine aw_get X dX3_wouldLeave_69 (X.il hthis (by decide)) (sh_2 hthis _) fl_RX3_40 rfl ?_
          refine aw_if_le (tgt := 79) X dX3_wouldLeave_72 (by decide) (fun c => ?_) (fun c => ?_)
          · have h := h.1 c
            refine aw_iconst (v := 0) X dX3_wouldLeave_79 (by decide) ?_
            exact aw_zret X dX3_wouldLeave_80 (by decide) h
          · have h := h.2 c
            refine aw_iconst (v := 1) X dX3_wouldLeave_75 (by decide) ?_
            refine aw_goto (tgt := 80) X dX3_wouldLeave_76 (by decide) ?_
            exact aw_zret X dX3_wouldLeave_80 (by decide) h
      · by_cases c3 : (M p1 0) = 4
        · have h := h.2.2.2.1 c3
          refine aw_tableIn (tgt := 102) X dX3_wouldLeave_4 4 c3 (by decide) (by decide) rfl (by decide) ?_
          exact aw_sub [0, 1] rfl (lb_X3_wouldLeave_102 X this p1 hthis hp1  _ h)
        · by_cases c4 : (M p1 0) = 5
          · have h := h.2.2.2.2.1 c4
            refine aw_tableIn (tgt := 81) X dX3_wouldLeave_4 5 c4 (by decide) (by decide) rfl (by decide) ?_
            refine aw_aload_n X dX3_wouldLeave_81 0 rfl ?_
            refine ca_i X (rn_v X [] [] (X.il hthis (by decide)) (sh_2 hthis _) rfl rfl kw432 kw5 (c_X3_standing h) cal_yX3_standing kw430 (Nat.le_of_ble_eq_true rfl) rfl rfl (Nat.le_of_ble_eq_true rfl) dX3_wouldLeave_82) (fun M1 r2 h => ?_)
            refine aw_if_ne (tgt := 100) X dX3_wouldLeave_85 (by decide) (fun c => ?_) (fun c => ?_)
            · have h := h.1 c
              refine aw_iconst (v := 0) X dX3_wouldLeave_100 (by decide) ?_
              exact aw_zret X dX3_wouldLeave_101 (by decide) h
            · have h := h.2 c
              refine aw_aload_n X dX3_wouldLeave_88 0 rfl ?_
              refine aw_aload_n X dX3_wouldLeave_89 1 rfl ?_
              refine ca_i X (rn_v X [.ref (eA E p1)] [] (X.il hthis (by decide)) (sh_2 hthis _) rfl rfl kw436 kw6 (c_X3_leaveHolds h) cal_yX3_leaveHolds kw434 (Nat.le_of_ble_eq_true rfl) rfl rfl (Nat.le_of_ble_eq_true rfl) dX3_wouldLeave_90) (fun M3 r4 h => ?_)
              refine aw_if_eq (tgt := 100) X dX3_wouldLeave_93 (by decide) (fun c => ?_) (fun c => ?_)
              · have h := h.1 c
                refine aw_iconst (v := 0) X dX3_wouldLeave_100 (by decide) ?_
                exact aw_zret X dX3_wouldLeave_101 (by decide) h
              · have h := h.2 c
                refine aw_iconst (v := 1) X dX3_wouldLeave_96 (by decide) ?_
                refine aw_goto (tgt := 101) X dX3_wouldLeave_97 (by decide) ?_
                exact aw_zret X dX3_wouldLeave_101 (by decide) h
          · have h := h.2.2.2.2.2 c0 c1 c2 c3 c4
            refine aw_tableOut (tgt := 102) X dX3_wouldLeave_4 (by have n0 := lv_neT (a := 1) c0 rfl; have n1 := lv_neT (a := 2) c1 rfl; have n2 := lv_neT (a := 3) c2 rfl; have n3 := lv_neT (a := 4) c3 rfl; have n4 := lv_neT (a := 5) c4 rfl; omega) (by decide) ?_
            exact aw_sub [0, 1] rfl (lb_X3_wouldLeave_102 X this p1 hthis hp1  _ h)
def wp_X7_held (n : Nat)  (M : Mm) (p0 : Int32) (p1 : Int32) (p2 : Int32) (K : Mm → Int32 → Prop) : Prop := K M (jmax p1 (jmin p2 p0))
set_option maxHeartbeats 4000000 in
set_option maxRecDepth 100000 in
theorem c_X7_held {l : Launch} {E : En} {M : Mm} {p0 : Int32} {p1 : Int32} {p2 : Int32} {K : Mm → Int32 → Prop}  (h : wp_X7_held (eN E)  M p0 p1 p2 K) : Ctr l E yX7_held cX7_held 3 (some .int) 1 [.int p0, .int p1, .int p2] M (QI E K) := by
  refine Ctr.of (by decide +kernel) (Nat.le_of_ble_eq_true rfl) (fun g A hgl X => ?_)
  subst hgl
  have X : CX g cX7_held RX7 (some .int) 1 E A 3 := X
  show AW g E A 3 _ 0 [(0, .int p0), (1, .int p1), (2, .int p2)] [] M
  unfold wp_X7_held at h
  refine aw_iload_n X dX7_held_0 1 rfl ?_
  refine aw_iload_n X dX7_held_1 2 rfl ?_
  refine aw_iload_n X dX7_held_2 0 rfl ?_
  refine aw_mmin X dX7_held_3 kw457 kw458 kw103 kw459 (by decide) (Nat.le_of_ble_eq_true rfl) ?_
  refine aw_mmax X dX7_held_6 kw460 kw267 kw103 kw268 (by decide) (Nat.le_of_ble_eq_true rfl) ?_
  exact aw_iret X dX7_held_9 h
def wb_X3_staysOf_36 (n : Nat) (this : Nat) (p1 : Nat)  (K : Mm → Int32 → Prop) (M : Mm) (s0 : Int32) : Prop := ((M p1 0) = 2 → K M (s0 + (M p1 1))) ∧ ((M p1 0) = 4 → K M (2 * (s0 + (M p1 1)))) ∧ (¬ (M p1 0) = 2 → ¬ (M p1 0) = 4 → K M s0)
set_option maxHeartbeats 4000000 in
set_option maxRecDepth 100000 in
theorem lb_X3_staysOf_36 {g : Gm} {E : En} {A : Nat → Prop} {K : Mm → Int32 → Prop} (X : CX g cX3_staysOf RX3 (some .int) 2 E A 4) (this : Nat) (p1 : Nat)  (hthis : tp this = 2) (hp1 : tp p1 = 5) (M : Mm) (s0 : Int32) (h : wb_X3_staysOf_36 (eN E) this p1  K M s0) : AW g E A 4 (MQ (gB g) (QI E K A) (gA g) (gS g) (gk g) (gn g) A) 36 [(1, .ref (eA E p1))] [.int s0] M := by
  unfold wb_X3_staysOf_36 at h
  refine aw_istore_n (lv' := [(3, .int s0), (1, .ref (eA E p1))]) X dX3_staysOf_36 (by decide) rfl ?_
  refine aw_aload_n X dX3_staysOf_37 1 rfl ?_
  refine aw_get X dX3_staysOf_38 (X.il hp1 (by decide)) (sh_5 hp1 _) fl_RX3_110 rfl ?_
  by_cases c0 : (M p1 0) = 2
  · have h := h.1 c0
    refine aw_lookup (tgt := 68) X dX3_staysOf_41 (by decide) (by first | (rw [c0]; done) | (rw [c0]; rfl)) (by decide) ?_
    refine aw_iload_n X dX3_staysOf_68 0 rfl ?_
    refine aw_aload_n X dX3_staysOf_69 1 rfl ?_
    refine aw_get X dX3_staysOf_70 (X.il hp1 (by decide)) (sh_5 hp1 _) fl_RX3_100 rfl ?_
    refine aw_iadd X dX3_staysOf_73 ?_
    exact aw_iret X dX3_staysOf_74 h
  · by_cases c1 : (M p1 0) = 4
    · have h := h.2.1 c1
      refine aw_lookup (tgt := 75) X dX3_staysOf_41 (by decide) (by first | (rw [c1]; done) | (rw [c1]; rfl)) (by decide) ?_
      refine aw_iconst (v := 2) X dX3_staysOf_75 (by decide) ?_
      refine aw_iload_n X dX3_staysOf_76 0 rfl ?_
      refine aw_aload_n X dX3_staysOf_77 1 rfl ?_
      refine aw_get X dX3_staysOf_78 (X.il hp1 (by decide)) (sh_5 hp1 _) fl_RX3_100 rfl ?_
      refine aw_iadd X dX3_staysOf_81 ?_
      refine aw_imul X dX3_staysOf_82 ?_
      exact aw_iret X dX3_staysOf_83 h
    · have h := h.2.2 c0 c1
      refine aw_lookup (off := 43) (tgt := 84) X dX3_staysOf_41 (by decide) (by show Op.lookupswitch.offset [(2, 27), (4, 34)] _ _ = _; rw [lv_osw (a := 2) c0 (by decide), lv_osw (a := 4) c1 (by decide)]; first | done | rfl) (by decide) ?_
      refine aw_iload_n X dX3_staysOf_84 0 rfl ?_
      exact aw_iret X dX3_staysOf_85 h
def wp_X3_staysOf (n : Nat)  (M : Mm) (this : Nat) (p1 : Nat) (K : Mm → Int32 → Prop) : Prop := (tp this = 2) ∧ ((tp p1 = 5) ∧ (wp_X3_lawOf n M this 1 (fun M1 r2 => (r2 = none → wb_X3_staysOf_36 n this p1 K M1 0) ∧ (∀ t3 : Nat, r2 = some t3 → (tp t3 = 20 ∧ t3 + 2 < n) ∧ (wp_X3_standing n M1 this (fun M5 r6 => wp_X6_value n M5 t3 (M1 p1 1) (M1 this 7) r6 (fun M7 r8 => wp_X7_held n M7 r8 0 99 (fun M9 r10 => wb_X3_staysOf_36 n this p1 K M9 r10))))))))
set_option maxHeartbeats 4000000 in
set_option maxRecDepth 100000 in
theorem c_X3_staysOf {l : Launch} {E : En} {M : Mm} {this : Nat} {p1 : Nat} {K : Mm → Int32 → Prop}  (h : wp_X3_staysOf (eN E)  M this p1 K) : Ctr l E yX3_staysOf cX3_staysOf 4 (some .int) 2 [.ref (eA E this), .ref (eA E p1)] M (QI E K) := by
  refine Ctr.of (by decide +kernel) (Nat.le_of_ble_eq_true rfl) (fun g A hgl X => ?_)
  subst hgl
  have X : CX g cX3_staysOf RX3 (some .int) 2 E A 4 := X
  show AW g E A 4 _ 0 [(0, .ref (eA E this)), (1, .ref (eA E p1))] [] M
  unfold wp_X3_staysOf at h
  obtain ⟨hthis, h⟩ := h
  obtain ⟨hp1, h⟩ := h
  refine aw_aload_n X dX3_staysOf_0 0 rfl ?_
  refine aw_iconst (v := 1) X dX3_staysOf_1 (by decide) ?_
  refine ca_q X (rn_v X [.int 1] [] (X.il hthis (by decide)) (sh_2 hthis _) rfl rfl kw440 kw7 (c_X3_lawOf h) cal_yX3_lawOf kw438 (Nat.le_of_ble_eq_true rfl) rfl rfl (Nat.le_of_ble_eq_true rfl) dX3_staysOf_2) (fun M1 r2 h => ?_)
  rcases r2 with _ | t3
  · have h := h.1 rfl
    refine aw_astore_nN (lv' := [(2, .null), (0, .ref (eA E this)), (1, .ref (eA E p1))]) X dX3_staysOf_5 (by decide) rfl ?_
    refine aw_aload_nN X dX3_staysOf_6 0 rfl ?_
    refine aw_ifnonnullN X dX3_staysOf_7 ?_
    refine aw_iconst (v := 0) X dX3_staysOf_10 (by decide) ?_
    refine aw_goto (tgt := 36) X dX3_staysOf_11 (by decide) ?_
    exact aw_sub [2] rfl (lb_X3_staysOf_36 X this p1 hthis hp1  _ _ h)
  · obtain ⟨ht4, h⟩ := h.2 t3 rfl
    refine aw_astore_n (lv' := [(2, .ref (eA E t3)), (0, .ref (eA E this)), (1, .ref (eA E p1))]) X dX3_staysOf_5 (by decide) rfl ?_
    refine aw_aload_n X dX3_staysOf_6 0 rfl ?_
    refine aw_ifnonnull (tgt := 14) X dX3_staysOf_7 (by decide) ?_
    refine aw_aload_n X dX3_staysOf_14 0 rfl ?_
    refine aw_aload_n X dX3_staysOf_15 2 rfl ?_
    refine aw_get X dX3_staysOf_16 (X.il hp1 (by decide)) (sh_5 hp1 _) fl_RX3_100 rfl ?_
    refine aw_aload_n X dX3_staysOf_19 1 rfl ?_
    refine aw_get X dX3_staysOf_20 (X.il hthis (by decide)) (sh_2 hthis _) fl_RX3_40 rfl ?_
    refine aw_aload_n X dX3_staysOf_23 1 rfl ?_
    refine ca_i X (rn_v X [] [.int (M1 this 7), .int (M1 p1 1), .ref (eA E t3)] (X.il hthis (by decide)) (sh_2 hthis _) rfl rfl kw432 kw5 (c_X3_standing h) cal_yX3_standing kw430 (Nat.le_of_ble_eq_true rfl) rfl rfl (Nat.le_of_ble_eq_true rfl) dX3_staysOf_24) (fun M5 r6 h => ?_)
    refine ca_i X (rn_vn X [.int (M1 p1 1), .int (M1 this 7), .int r6] [] (by have := ht4.2; omega) (sh_20 ht4.1 _) rfl rfl kw444 kw8 (c_X6_value h) cal_yX6_value kw442 (Nat.le_of_ble_eq_true rfl) rfl rfl (Nat.le_of_ble_eq_true rfl) dX3_staysOf_27) (fun M7 r8 h => ?_)
    refine aw_iconst (v := 0) X dX3_staysOf_30 (by decide) ?_
    refine aw_bipush (v := 99) X dX3_staysOf_31 (by decide) ?_
    refine ca_i X (rn_sn X [.int r8, .int 0, .int 99] [] kw455 (c_X7_held h) cal_yX7_held kw454 (Nat.le_of_ble_eq_true rfl) rfl rfl (Nat.le_of_ble_eq_true rfl) dX3_staysOf_33) (fun M9 r10 h => ?_)
    exact aw_sub [2] rfl (lb_X3_staysOf_36 X this p1 hthis hp1  _ _ h)
def wp_X0_habit (n : Nat)  (M : Mm) (this : Nat) (p1 : Int32) (K : Mm → Int32 → Prop) : Prop := (tp this = 5) ∧ ((p1 = 1 → K M (M this 1)) ∧ (p1 = 2 → K M (M this 2)) ∧ (p1 = 3 → K M (M this 3)) ∧ (¬ p1 = 1 → ¬ p1 = 2 → ¬ p1 = 3 → K M (M this 4)))
set_option maxHeartbeats 4000000 in
set_option maxRecDepth 100000 in
theorem c_X0_habit {l : Launch} {E : En} {M : Mm} {this : Nat} {p1 : Int32} {K : Mm → Int32 → Prop}  (h : wp_X0_habit (eN E)  M this p1 K) : Ctr l E yX0_habit cX0_habit 2 (some .int) 0 [.ref (eA E this), .int p1] M (QI E K) := by
  refine Ctr.of (by decide +kernel) (Nat.le_of_ble_eq_true rfl) (fun g A hgl X => ?_)
  subst hgl
  have X : CX g cX0_habit RX0 (some .int) 0 E A 2 := X
  show AW g E A 2 _ 0 [(0, .ref (eA E this)), (1, .int p1)] [] M
  unfold wp_X0_habit at h
  obtain ⟨hthis, h⟩ := h
  refine aw_iload_n X dX0_habit_0 1 rfl ?_
  by_cases c0 : p1 = 1
  · have h := h.1 c0
    refine aw_tableIn (tgt := 28) X dX0_habit_1 1 c0 (by decide) (by decide) rfl (by decide) ?_
    refine aw_aload_n X dX0_habit_28 0 rfl ?_
    refine aw_get X dX0_habit_29 (X.il hthis (by decide)) (sh_5 hthis _) fl_RX0_15 rfl ?_
    exact aw_iret X dX0_habit_32 h
  · by_cases c1 : p1 = 2
    · have h := h.2.1 c1
      refine aw_tableIn (tgt := 33) X dX0_habit_1 2 c1 (by decide) (by decide) rfl (by decide) ?_
      refine aw_aload_n X dX0_habit_33 0 rfl ?_
      refine aw_get X dX0_habit_34 (X.il hthis (by decide)) (sh_5 hthis _) fl_RX0_18 rfl ?_
      exact aw_iret X dX0_habit_37 h
    · by_cases c2 : p1 = 3
      · have h := h.2.2.1 c2
        refine aw_tableIn (tgt := 38) X dX0_habit_1 3 c2 (by decide) (by decide) rfl (by decide) ?_
        refine aw_aload_n X dX0_habit_38 0 rfl ?_
        refine aw_get X dX0_habit_39 (X.il hthis (by decide)) (sh_5 hthis _) fl_RX0_21 rfl ?_
        exact aw_iret X dX0_habit_42 h
      · have h := h.2.2.2 c0 c1 c2
        refine aw_tableOut (tgt := 43) X dX0_habit_1 (by have n0 := lv_neT (a := 1) c0 rfl; have n1 := lv_neT (a := 2) c1 rfl; have n2 := lv_neT (a := 3) c2 rfl; omega) (by decide) ?_
        refine aw_aload_n X dX0_habit_43 0 rfl ?_
        refine aw_get X dX0_habit_44 (X.il hthis (by decide)) (sh_5 hthis _) fl_RX0_24 rfl ?_
        exact aw_iret X dX0_habit_47 h
def wl_X7_isUnder_4 (n : Nat) (p0 : Int32) (p1 : Int32)  (K : Mm → Int32 → Prop) : Nat → Mm → Int32 → Int32 → Prop
  | 0, _, _, _ => False
  | k + 1, M, x2, x3 => (6 ≤ x3 → K M 0) ∧ (¬ 6 ≤ x3 → wp_X7_isKind n M x2 (fun M1 r2 => (r2 = 0 → K M1 0) ∧ (¬ r2 = 0 → (¬ x2 = p1 → vp_in x2 6 ∧ (∀ v3 : Int32, v3 = ([-1, 0, 0, 1, 2, 0] : List Int32).getD x2.toNatClampNeg 0 → ∀ v4 : Int32, v4 = x3 + 1 → wl_X7_isUnder_4 n p0 p1 K k M1 v3 v4)) ∧ (x2 = p1 → K M1 1))))
set_option maxHeartbeats 4000000 in
set_option maxRecDepth 100000 in
theorem lw_X7_isUnder_4 {g : Gm} {E : En} {A : Nat → Prop} {K : Mm → Int32 → Prop} (X : CX g cX7_isUnder RX7 (some .boolean) 2 E A 4) (p0 : Int32) (p1 : Int32)   : ∀ (k : Nat) (M : Mm) (x2 : Int32) (x3 : Int32), wl_X7_isUnder_4 (eN E) p0 p1  K k M x2 x3 → AW g E A 4 (MQ (gB g) (QI E K A) (gA g) (gS g) (gk g) (gn g) A) 4 [(1, .int p1), (2, .int x2), (3, .int x3)] [] M := by
  intro k
  induction k with
  | zero => intro M x2 x3 h; exact h.elim
  | succ k ih =>
    intro M x2 x3 h
    rw [wl_X7_isUnder_4] at h
    refine aw_iload_n X dX7_isUnder_4 2 rfl ?_
    refine aw_gets X dX7_isUnder_5 X.sta.1.1.1 kw391 rfl ?_
    refine aw_tlen (v := 6) X dX7_isUnder_8 X.sta.1.1.2 (by decide) ?_
    refine aw_icmp_ge (tgt := 38) X dX7_isUnder_9 (by decide) (fun c => ?_) (fun c => ?_)
    · have h := h.1 c
      refine aw_iconst (v := 0) X dX7_isUnder_38 (by decide) ?_
      exact aw_zret X dX7_isUnder_39 (by decide) h
    · have h := h.2 c
      refine aw_iload_n X dX7_isUnder_12 1 rfl ?_
      refine ca_i X (rn_s X [.int x2] [] kw389 (c_X7_isKind h) cal_yX7_isKind kw388 (Nat.le_of_ble_eq_true rfl) rfl rfl (Nat.le_of_ble_eq_true rfl) dX7_isUnder_13) (fun M1 r2 h => ?_)
      refine aw_if_eq (tgt := 38) X dX7_isUnder_16 (by decide) (fun c => ?_) (fun c => ?_)
      · have h := h.1 c
        refine aw_iconst (v := 0) X dX7_isUnder_38 (by decide) ?_
        exact aw_zret X dX7_isUnder_39 (by decide) h
      · have h := h.2 c
        refine aw_iload_n X dX7_isUnder_19 1 rfl ?_
        refine aw_iload_n X dX7_isUnder_20 0 rfl ?_
        refine aw_icmp_ne (tgt := 26) X dX7_isUnder_21 (by decide) (fun c => ?_) (fun c => ?_)
        · have h := h.1 c
          refine aw_gets X dX7_isUnder_26 X.sta.1.1.1 kw391 rfl ?_
          refine aw_iload_n X dX7_isUnder_29 1 rfl ?_
          obtain ⟨hin, h⟩ := h
          refine aw_ti X dX7_isUnder_30 X.sta.1.1.2 hin ?_
          refine aw_top (fun v3 ev3 => ?_)
          have h := h v3 ev3
          refine aw_istore_n (lv' := [(2, .int v3), (1, .int p1), (3, .int x3)]) X dX7_isUnder_31 (by decide) rfl ?_
          obtain ⟨v4, ev4⟩ : ∃ y : Int32, y = x3 + 1 := ⟨_, rfl⟩
          have h := h v4 ev4
          refine aw_iinc (v := v4) (lv' := [(3, .int v4), (2, .int v3), (1, .int p1)]) X dX7_isUnder_32 2 rfl (by rw [ev4]; rfl) (by decide) rfl ?_
          refine aw_goto (tgt := 4) X dX7_isUnder_35 (by decide) ?_
          exact aw_sub [2, 1, 0] rfl (ih _ _ _ h)
        · have h := h.2 c
          refine aw_iconst (v := 1) X dX7_isUnder_24 (by decide) ?_
          exact aw_zret X dX7_isUnder_25 (by decide) h
def wp_X7_isUnder (n : Nat)  (M : Mm) (p0 : Int32) (p1 : Int32) (K : Mm → Int32 → Prop) : Prop := ∃ kf : Nat, wl_X7_isUnder_4 n p0 p1 K kf M p0 0
set_option maxHeartbeats 4000000 in
set_option maxRecDepth 100000 in
theorem c_X7_isUnder {l : Launch} {E : En} {M : Mm} {p0 : Int32} {p1 : Int32} {K : Mm → Int32 → Prop}  (h : wp_X7_isUnder (eN E)  M p0 p1 K) : Ctr l E yX7_isUnder cX7_isUnder 4 (some .boolean) 2 [.int p0, .int p1] M (QI E K) := by
  refine Ctr.of (by decide +kernel) (Nat.le_of_ble_eq_true rfl) (fun g A hgl X => ?_)
  subst hgl
  have X : CX g cX7_isUnder RX7 (some .boolean) 2 E A 4 := X
  show AW g E A 4 _ 0 [(0, .int p0), (1, .int p1)] [] M
  unfold wp_X7_isUnder at h
  refine aw_iload_n X dX7_isUnder_0 0 rfl ?_
  refine aw_istore_n (lv' := [(2, .int p0), (0, .int p0), (1, .int p1)]) X dX7_isUnder_1 (by decide) rfl ?_
  refine aw_iconst (v := 0) X dX7_isUnder_2 (by decide) ?_
  refine aw_istore_n (lv' := [(3, .int 0), (2, .int p0), (0, .int p0), (1, .int p1)]) X dX7_isUnder_3 (by decide) rfl ?_
  obtain ⟨kf, h⟩ := h
  exact aw_sub [3, 1, 0] rfl (lw_X7_isUnder_4 X p0 p1  kf _ _ _ h)
def wp_X0_changeHabit (n : Nat)  (M : Mm) (this : Nat) (p1 : Int32) (p2 : Int32) (K : Mm → Prop) : Prop := (tp this = 5) ∧ ((p1 = 1 → ∀ M1 : Mm, M1 = wr M this 1 p2 → K M1) ∧ (p1 = 2 → ∀ M2 : Mm, M2 = wr M this 2 p2 → K M2) ∧ (p1 = 3 → ∀ M3 : Mm, M3 = wr M this 3 p2 → K M3) ∧ (¬ p1 = 1 → ¬ p1 = 2 → ¬ p1 = 3 → ∀ M4 : Mm, M4 = wr M this 4 p2 → K M4))
set_option maxHeartbeats 4000000 in
set_option maxRecDepth 100000 in
theorem c_X0_changeHabit {l : Launch} {E : En} {M : Mm} {this : Nat} {p1 : Int32} {p2 : Int32} {K : Mm → Prop}  (h : wp_X0_changeHabit (eN E)  M this p1 p2 K) : Ctr l E yX0_changeHabit cX0_changeHabit 3 none 0 [.ref (eA E this), .int p1, .int p2] M (QV E K) := by
  refine Ctr.of (by decide +kernel) (Nat.le_of_ble_eq_true rfl) (fun g A hgl X => ?_)
  subst hgl
  have X : CX g cX0_changeHabit RX0 none 0 E A 3 := X
  show AW g E A 3 _ 0 [(0, .ref (eA E this)), (1, .int p1), (2, .int p2)] [] M
  unfold wp_X0_changeHabit at h
  obtain ⟨hthis, h⟩ := h
  refine aw_iload_n X dX0_changeHabit_0 1 rfl ?_
  by_cases c0 : p1 = 1
  · have h := h.1 c0
    refine aw_tableIn (tgt := 28) X dX0_changeHabit_1 1 c0 (by decide) (by decide) rfl (by decide) ?_
    refine aw_aload_n X dX0_changeHabit_28 0 rfl ?_
    refine aw_iload_n X dX0_changeHabit_29 2 rfl ?_
    refine aw_put X dX0_changeHabit_30 (X.il hthis (by decide)) (sh_5 hthis _) fl_RX0_15 fw_0_1 (Nat.le_of_ble_eq_true rfl) (sp_5_1 hthis _ _) (fun M1 eM1 => ?_)
    have h := h M1 eM1
    refine aw_goto (tgt := 57) X dX0_changeHabit_33 (by decide) ?_
    exact aw_vret X dX0_changeHabit_57 h
  · by_cases c1 : p1 = 2
    · have h := h.2.1 c1
      refine aw_tableIn (tgt := 36) X dX0_changeHabit_1 2 c1 (by decide) (by decide) rfl (by decide) ?_
      refine aw_aload_n X dX0_changeHabit_36 0 rfl ?_
      refine aw_iload_n X dX0_changeHabit_37 2 rfl ?_
      refine aw_put X dX0_changeHabit_38 (X.il hthis (by decide)) (sh_5 hthis _) fl_RX0_18 fw_0_2 (Nat.le_of_ble_eq_true rfl) (sp_5_2 hthis _ _) (fun M2 eM2 => ?_)
      have h := h M2 eM2
      refine aw_goto (tgt := 57) X dX0_changeHabit_41 (by decide) ?_
      exact aw_vret X dX0_changeHabit_57 h
    · by_cases c2 : p1 = 3
      · have h := h.2.2.1 c2
        refine aw_tableIn (tgt := 44) X dX0_changeHabit_1 3 c2 (by decide) (by decide) rfl (by decide) ?_
        refine aw_aload_n X dX0_changeHabit_44 0 rfl ?_
        refine aw_iload_n X dX0_changeHabit_45 2 rfl ?_
        refine aw_put X dX0_changeHabit_46 (X.il hthis (by decide)) (sh_5 hthis _) fl_RX0_21 fw_0_3 (Nat.le_of_ble_eq_true rfl) (sp_5_3 hthis _ _) (fun M3 eM3 => ?_)
        have h := h M3 eM3
        refine aw_goto (tgt := 57) X dX0_changeHabit_49 (by decide) ?_
        exact aw_vret X dX0_changeHabit_57 h
      · have h := h.2.2.2 c0 c1 c2
        refine aw_tableOut (tgt := 52) X dX0_changeHabit_1 (by have n0 := lv_neT (a := 1) c0 rfl; have n1 := lv_neT (a := 2) c1 rfl; have n2 := lv_neT (a := 3) c2 rfl; omega) (by decide) ?_
        refine aw_aload_n X dX0_changeHabit_52 0 rfl ?_
        refine aw_iload_n X dX0_changeHabit_53 2 rfl ?_
        refine aw_put X dX0_changeHabit_54 (X.il hthis (by decide)) (sh_5 hthis _) fl_RX0_24 fw_0_4 (Nat.le_of_ble_eq_true rfl) (sp_5_4 hthis _ _) (fun M4 eM4 => ?_)
        have h := h M4 eM4
        exact aw_vret X dX0_changeHabit_57 h
def wp_X3_change (n : Nat)  (M : Mm) (this : Nat) (p1 : Int32) (p2 : Int32) (K : Mm → Int32 → Prop) : Prop := (tp this = 2) ∧ ((p1 = 0 → ∀ v1 : Int32, v1 = M this 5 → ∀ M2 : Mm, M2 = wr M this 5 p2 → K M2 v1) ∧ (p1 = 1 → ∀ v3 : Int32, v3 = M this 6 → ∀ M4 : Mm, M4 = wr M this 6 p2 → K M4 v3) ∧ (p1 = 2 → ∀ v5 : Int32, v5 = M this 7 → ∀ M6 : Mm, M6 = wr M this 7 p2 → K M6 v5) ∧ (p1 = 3 → ∀ v7 : Int32, v7 = M this 8 → ∀ M8 : Mm, M8 = wr M this 8 p2 → K M8 v7) ∧ (¬ p1 = 0 → ¬ p1 = 1 → ¬ p1 = 2 → ¬ p1 = 3 → ∀ v9 : Int32, v9 = M this 9 → ∀ M10 : Mm, M10 = wr M this 9 p2 → K M10 v9))
set_option maxHeartbeats 4000000 in
set_option maxRecDepth 100000 in
theorem c_X3_change {l : Launch} {E : En} {M : Mm} {this : Nat} {p1 : Int32} {p2 : Int32} {K : Mm → Int32 → Prop}  (h : wp_X3_change (eN E)  M this p1 p2 K) : Ctr l E yX3_change cX3_change 4 (some .int) 0 [.ref (eA E this), .int p1, .int p2] M (QI E K) := by
  refine Ctr.of (by decide +kernel) (Nat.le_of_ble_eq_true rfl) (fun g A hgl X => ?_)
  subst hgl
  have X : CX g cX3_change RX3 (some .int) 0 E A 4 := X
  show AW g E A 4 _ 0 [(0, .ref (eA E this)), (1, .int p1), (2, .int p2)] [] M
  unfold wp_X3_change at h
  obtain ⟨hthis, h⟩ := h
  refine aw_iload_n X dX3_change_0 1 rfl ?_
  by_cases c0 : p1 = 0
  · have h := h.1 c0
    refine aw_tableIn (tgt := 32) X dX3_change_1 0 c0 (by decide) (by decide) rfl (by decide) ?_
    refine aw_aload_n X dX3_change_32 0 rfl ?_
    refine aw_get X dX3_change_33 (X.il hthis (by decide)) (sh_2 hthis _) fl_RX3_34 rfl ?_
    refine aw_top (fun v1 ev1 => ?_)
    have h := h v1 ev1
    refine aw_istore_n (lv' := [(3, .int v1), (0, .ref (eA E this)), (1, .int p1), (2, .int p2)]) X dX3_change_36 (by decide) rfl ?_
    refine aw_aload_n X dX3_change_37 1 rfl ?_
    refine aw_iload_n X dX3_change_38 3 rfl ?_
    refine aw_put X dX3_change_39 (X.il hthis (by decide)) (sh_2 hthis _) fl_RX3_34 fw_3_5 (Nat.le_of_ble_eq_true rfl) (sp_2_5 hthis _ _) (fun M2 eM2 => ?_)
    have h := h M2 eM2
    refine aw_goto (tgt := 94) X dX3_change_42 (by decide) ?_
    refine aw_iload_n X dX3_change_94 0 rfl ?_
    exact aw_iret X dX3_change_95 h
  · by_cases c1 : p1 = 1
    · have h := h.2.1 c1
      refine aw_tableIn (tgt := 45) X dX3_change_1 1 c1 (by decide) (by decide) rfl (by decide) ?_
      refine aw_aload_n X dX3_change_45 0 rfl ?_
      refine aw_get X dX3_change_46 (X.il hthis (by decide)) (sh_2 hthis _) fl_RX3_37 rfl ?_
      refine aw_top (fun v3 ev3 => ?_)
      have h := h v3 ev3
      refine aw_istore_n (lv' := [(3, .int v3), (0, .ref (eA E this)), (1, .int p1), (2, .int p2)]) X dX3_change_49 (by decide) rfl ?_
      refine aw_aload_n X dX3_change_50 1 rfl ?_
      refine aw_iload_n X dX3_change_51 3 rfl ?_
      refine aw_put X dX3_change_52 (X.il hthis (by decide)) (sh_2 hthis _) fl_RX3_37 fw_3_6 (Nat.le_of_ble_eq_true rfl) (sp_2_6 hthis _ _) (fun M4 eM4 => ?_)
      have h := h M4 eM4
      refine aw_goto (tgt := 94) X dX3_change_55 (by decide) ?_
      refine aw_iload_n X dX3_change_94 0 rfl ?_
      exact aw_iret X dX3_change_95 h
    · by_cases c2 : p1 = 2
      · have h := h.2.2.1 c2
        refine aw_tableIn (tgt := 58) X dX3_change_1 2 c2 (by decide) (by decide) rfl (by decide) ?_
        refine aw_aload_n X dX3_change_58 0 rfl ?_
        refine aw_get X dX3_change_59 (X.il hthis (by decide)) (sh_2 hthis _) fl_RX3_40 rfl ?_
        refine aw_top (fun v5 ev5 => ?_)
        have h := h v5 ev5
        refine aw_istore_n (lv' := [(3, .int v5), (0, .ref (eA E this)), (1, .int p1), (2, .int p2)]) X dX3_change_62 (by decide) rfl ?_
        refine aw_aload_n X dX3_change_63 1 rfl ?_
        refine aw_iload_n X dX3_change_64 3 rfl ?_
        refine aw_put X dX3_change_65 (X.il hthis (by decide)) (sh_2 hthis _) fl_RX3_40 fw_3_7 (Nat.le_of_ble_eq_true rfl) (sp_2_7 hthis _ _) (fun M6 eM6 => ?_)
        have h := h M6 eM6
        refine aw_goto (tgt := 94) X dX3_change_68 (by decide) ?_
        refine aw_iload_n X dX3_change_94 0 rfl ?_
        exact aw_iret X dX3_change_95 h
      · by_cases c3 : p1 = 3
        · have h := h.2.2.2.1 c3
          refine aw_tableIn (tgt := 71) X dX3_change_1 3 c3 (by decide) (by decide) rfl (by decide) ?_
          refine aw_aload_n X dX3_change_71 0 rfl ?_
          refine aw_get X dX3_change_72 (X.il hthis (by decide)) (sh_2 hthis _) fl_RX3_43 rfl ?_
          refine aw_top (fun v7 ev7 => ?_)
          have h := h v7 ev7
          refine aw_istore_n (lv' := [(3, .int v7), (0, .ref (eA E this)), (1, .int p1), (2, .int p2)]) X dX3_change_75 (by decide) rfl ?_
          refine aw_aload_n X dX3_change_76 1 rfl ?_
          refine aw_iload_n X dX3_change_77 3 rfl ?_
          refine aw_put X dX3_change_78 (X.il hthis (by decide)) (sh_2 hthis _) fl_RX3_43 fw_3_8 (Nat.le_of_ble_eq_true rfl) (sp_2_8 hthis _ _) (fun M8 eM8 => ?_)
          have h := h M8 eM8
          refine aw_goto (tgt := 94) X dX3_change_81 (by decide) ?_
          refine aw_iload_n X dX3_change_94 0 rfl ?_
          exact aw_iret X dX3_change_95 h
        · have h := h.2.2.2.2 c0 c1 c2 c3
          refine aw_tableOut (tgt := 84) X dX3_change_1 (by have n0 := lv_neT (a := 0) c0 rfl; have n1 := lv_neT (a := 1) c1 rfl; have n2 := lv_neT (a := 2) c2 rfl; have n3 := lv_neT (a := 3) c3 rfl; omega) (by decide) ?_
          refine aw_aload_n X dX3_change_84 0 rfl ?_
          refine aw_get X dX3_change_85 (X.il hthis (by decide)) (sh_2 hthis _) fl_RX3_46 rfl ?_
          refine aw_top (fun v9 ev9 => ?_)
          have h := h v9 ev9
          refine aw_istore_n (lv' := [(3, .int v9), (0, .ref (eA E this)), (1, .int p1), (2, .int p2)]) X dX3_change_88 (by decide) rfl ?_
          refine aw_aload_n X dX3_change_89 1 rfl ?_
          refine aw_iload_n X dX3_change_90 3 rfl ?_
          refine aw_put X dX3_change_91 (X.il hthis (by decide)) (sh_2 hthis _) fl_RX3_46 fw_3_9 (Nat.le_of_ble_eq_true rfl) (sp_2_9 hthis _ _) (fun M10 eM10 => ?_)
          have h := h M10 eM10
          refine aw_iload_n X dX3_change_94 0 rfl ?_
          exact aw_iret X dX3_change_95 h
def wp_X3_draw (n : Nat)  (M : Mm) (this : Nat) (K : Mm → Int32 → Prop) : Prop := (tp this = 2) ∧ (∀ M1 : Mm, M1 = wr M this 13 (((M this 13) * 1103515245) + 12345) → K M1 (jushr (M1 this 13) 8))
set_option maxHeartbeats 4000000 in
set_option maxRecDepth 100000 in
theorem c_X3_draw {l : Launch} {E : En} {M : Mm} {this : Nat} {K : Mm → Int32 → Prop}  (h : wp_X3_draw (eN E)  M this K) : Ctr l E yX3_draw cX3_draw 1 (some .int) 0 [.ref (eA E this)] M (QI E K) := by
  refine Ctr.of (by decide +kernel) (Nat.le_of_ble_eq_true rfl) (fun g A hgl X => ?_)
  subst hgl
  have X : CX g cX3_draw RX3 (some .int) 0 E A 1 := X
  show AW g E A 1 _ 0 [(0, .ref (eA E this))] [] M
  unfold wp_X3_draw at h
  obtain ⟨hthis, h⟩ := h
  refine aw_aload_n X dX3_draw_0 0 rfl ?_
  refine aw_aload_n X dX3_draw_1 0 rfl ?_
  refine aw_get X dX3_draw_2 (X.il hthis (by decide)) (sh_2 hthis _) fl_RX3_58 rfl ?_
  refine aw_ldc (v := 1103515245) X dX3_draw_5 kw505 ?_
  refine aw_imul X dX3_draw_7 ?_
  refine aw_sipush (v := 12345) X dX3_draw_8 (by decide) ?_
  refine aw_iadd X dX3_draw_11 ?_
  refine aw_put X dX3_draw_12 (X.il hthis (by decide)) (sh_2 hthis _) fl_RX3_58 fw_3_13 (Nat.le_of_ble_eq_true rfl) (sp_2_13 hthis _ _) (fun M1 eM1 => ?_)
  have h := h M1 eM1
  refine aw_aload_n X dX3_draw_15 0 rfl ?_
  refine aw_get X dX3_draw_16 (X.il hthis (by decide)) (sh_2 hthis _) fl_RX3_58 rfl ?_
  refine aw_bipush (v := 8) X dX3_draw_19 (by decide) ?_
  refine aw_iushr (v := jushr (M1 this 13) 8) X dX3_draw_21 rfl ?_
  exact aw_iret X dX3_draw_22 h
def wb_X3_letLeave_72 (n : Nat) (this : Nat) (Z2 : Mm → Int32 → Prop) (K : Mm → Prop) (M : Mm) (x1 : Int32) (x2 : Nat) : Prop := (tp x2 = 5) ∧ (∀ M10 : Mm, M10 = wr M x2 8 ((M x2 8) + 1) → ∀ v11 : Int32, v11 = x1 + 1 → Z2 M10 v11)
set_option maxHeartbeats 4000000 in
set_option maxRecDepth 100000 in
theorem lb_X3_letLeave_72 {g : Gm} {E : En} {A : Nat → Prop} {K : Mm → Prop} (X : CX g cX3_letLeave RX3 none 4 E A 3) (this : Nat)  (hthis : tp this = 2) {Z2 : Mm → Int32 → Prop} (hZ2 : ∀ (M : Mm) (x1 : Int32), Z2 M x1 → AW g E A 3 (MQ (gB g) (QV E K A) (gA g) (gS g) (gk g) (gn g) A) 2 [(0, .ref (eA E this)), (1, .int x1)] [] M) (M : Mm) (x1 : Int32) (x2 : Nat) (h : wb_X3_letLeave_72 (eN E) this Z2 K M x1 x2) : AW g E A 3 (MQ (gB g) (QV E K A) (gA g) (gS g) (gk g) (gn g) A) 72 [(0, .ref (eA E this)), (1, .int x1), (2, .ref (eA E x2))] [] M := by
  unfold wb_X3_letLeave_72 at h
  obtain ⟨hx2, h⟩ := h
  refine aw_aload_n X dX3_letLeave_72 2 rfl ?_
  refine aw_dup X dX3_letLeave_73 rfl ?_
  refine aw_get X dX3_letLeave_74 (X.il hx2 (by decide)) (sh_5 hx2 _) fl_RX3_103 rfl ?_
  refine aw_iconst (v := 1) X dX3_letLeave_77 (by decide) ?_
  refine aw_iadd X dX3_letLeave_78 ?_
  refine aw_put X dX3_letLeave_79 (X.il hx2 (by decide)) (sh_5 hx2 _) fl_RX3_103 fw_0_8 (Nat.le_of_ble_eq_true rfl) (sp_5_8 hx2 _ _) (fun M10 eM10 => ?_)
  have h := h M10 eM10
  obtain ⟨v11, ev11⟩ : ∃ y : Int32, y = x1 + 1 := ⟨_, rfl⟩
  have h := h v11 ev11
  refine aw_iinc (v := v11) (lv' := [(1, .int v11), (0, .ref (eA E this)), (2, .ref (eA E x2))]) X dX3_letLeave_82 1 rfl (by rw [ev11]; rfl) (by decide) rfl ?_
  refine aw_goto (tgt := 2) X dX3_letLeave_85 (by decide) ?_
  exact aw_sub [1, 0] rfl (hZ2 _ _ h)
def wl_X3_letLeave_2 (n : Nat) (this : Nat)  (K : Mm → Prop) : Nat → Mm → Int32 → Prop
  | 0, _, _ => False
  | k + 1, M, x1 => ((M this 4) ≤ x1 → K M) ∧ (¬ (M this 4) ≤ x1 → vp_in x1 8 ∧ (((M (this + 3 + 1 + x1.toNatClampNeg) 5) = 0 → ((M (this + 3 + 1 + x1.toNatClampNeg) 4) ≤ 0 → wb_X3_letLeave_72 n this (fun M x1 => wl_X3_letLeave_2 n this K k M x1) K M x1 (this + 3 + 1 + x1.toNatClampNeg)) ∧ (¬ (M (this + 3 + 1 + x1.toNatClampNeg) 4) ≤ 0 → wp_X3_wouldLeave n M this (this + 3 + 1 + x1.toNatClampNeg) (fun M2 r3 => (r3 = 0 → wb_X3_letLeave_72 n this (fun M x1 => wl_X3_letLeave_2 n this K k M x1) K M2 x1 (this + 3 + 1 + x1.toNatClampNeg)) ∧ (¬ r3 = 0 → wp_X3_draw n M2 this (fun M4 r5 => ((jrem r5 100) < (M4 this 9) → wb_X3_letLeave_72 n this (fun M x1 => wl_X3_letLeave_2 n this K k M x1) K M4 x1 (this + 3 + 1 + x1.toNatClampNeg)) ∧ (¬ (jrem r5 100) < (M4 this 9) → ∀ M6 : Mm, M6 = wr M4 (this + 3 + 1 + x1.toNatClampNeg) 5 1 → ∀ M7 : Mm, M7 = wr M6 (this + 3 + 1 + x1.toNatClampNeg) 6 (M6 (this + 3 + 1 + x1.toNatClampNeg) 2) → ∀ v8 : Int32, v8 = x1 + 1 → wl_X3_letLeave_2 n this K k M7 v8)))))) ∧ (¬ (M (this + 3 + 1 + x1.toNatClampNeg) 5) = 0 → ∀ v9 : Int32, v9 = x1 + 1 → wl_X3_letLeave_2 n this K k M v9)))
set_option maxHeartbeats 4000000 in
set_option maxRecDepth 100000 in
theorem lw_X3_letLeave_2 {g : Gm} {E : En} {A : Nat → Prop} {K : Mm → Prop} (X : CX g cX3_letLeave RX3 none 4 E A 3) (this : Nat)  (hthis : tp this = 2) : ∀ (k : Nat) (M : Mm) (x1 : Int32), wl_X3_letLeave_2 (eN E) this  K k M x1 → AW g E A 3 (MQ (gB g) (QV E K A) (gA g) (gS g) (gk g) (gn g) A) 2 [(0, .ref (eA E this)), (1, .int x1)] [] M := by
  intro k
  induction k with
  | zero => intro M x1 h; exact h.elim
  | succ k ih =>
    intro M x1 h
    rw [wl_X3_letLeave_2] at h
    refine aw_iload_n X dX3_letLeave_2 1 rfl ?_
    refine aw_aload_n X dX3_letLeave_3 0 rfl ?_
    refine aw_get X dX3_letLeave_4 (X.il hthis (by decide)) (sh_2 hthis _) fl_RX3_31 rfl ?_
    refine aw_icmp_ge (tgt := 88) X dX3_letLeave_7 (by decide) (fun c => ?_) (fun c => ?_)
    · have h := h.1 c
      exact aw_vret X dX3_letLeave_88 h
    · have h := h.2 c
      refine aw_aload_n X dX3_letLeave_10 0 rfl ?_
      refine aw_get X dX3_letLeave_11 (X.il hthis (by decide)) (sh_2 hthis _) fl_RX3_27 rfl ?_
      refine aw_iload_n X dX3_letLeave_14 1 rfl ?_
      obtain ⟨hin1, h⟩ := h
      refine aw_aald (t := 1) X dX3_letLeave_15 (X.il (ly_2_3 hthis) (by decide)) (sh_4 (ly_2_3 hthis) _) rfl hin1 rfl ?_
      refine aw_astore_n (lv' := [(2, .ref (eA E (this + 3 + 1 + x1.toNatClampNeg))), (0, .ref (eA E this)), (1, .int x1)]) X dX3_letLeave_16 (by decide) rfl ?_
      refine aw_aload_n X dX3_letLeave_17 0 rfl ?_
      refine aw_get X dX3_letLeave_18 (X.il (ly_4e (ly_2_3 hthis) hin1) (by decide)) (sh_5 (ly_4e (ly_2_3 hthis) hin1) _) fl_RX3_84 rfl ?_
      refine aw_if_eq (tgt := 27) X dX3_letLeave_21 (by decide) (fun c => ?_) (fun c => ?_)
      · have h := h.1 c
        refine aw_aload_n X dX3_letLeave_27 0 rfl ?_
        refine aw_get X dX3_letLeave_28 (X.il (ly_4e (ly_2_3 hthis) hin1) (by decide)) (sh_5 (ly_4e (ly_2_3 hthis) hin1) _) fl_RX3_148 rfl ?_
        refine aw_if_le (tgt := 72) X dX3_letLeave_31 (by decide) (fun c => ?_) (fun c => ?_)
        · have h := h.1 c
          exact aw_sub [1, 2, 0] rfl (lb_X3_letLeave_72 X this hthis ih _ _ _ h)
        · have h := h.2 c
          refine aw_aload_n X dX3_letLeave_34 1 rfl ?_
          refine aw_aload_n X dX3_letLeave_35 0 rfl ?_
          refine ca_i X (rn_v X [.ref (eA E (this + 3 + 1 + x1.toNatClampNeg))] [] (X.il hthis (by decide)) (sh_2 hthis _) rfl rfl kw428 kw4 (c_X3_wouldLeave h) cal_yX3_wouldLeave kw523 (Nat.le_of_ble_eq_true rfl) rfl rfl (Nat.le_of_ble_eq_true rfl) dX3_letLeave_36) (fun M2 r3 h => ?_)
          refine aw_if_eq (tgt := 72) X dX3_letLeave_39 (by decide) (fun c => ?_) (fun c => ?_)
          · have h := h.1 c
            exact aw_sub [1, 2, 0] rfl (lb_X3_letLeave_72 X this hthis ih _ _ _ h)
          · have h := h.2 c
            refine aw_aload_n X dX3_letLeave_42 1 rfl ?_
            refine ca_i X (rn_v X [] [] (X.il hthis (by decide)) (sh_2 hthis _) rfl rfl kw503 kw13 (c_X3_draw h) cal_yX3_draw kw524 (Nat.le_of_ble_eq_true rfl) rfl rfl (Nat.le_of_ble_eq_true rfl) dX3_letLeave_43) (fun M4 r5 h => ?_)
            refine aw_bipush (v := 100) X dX3_letLeave_46 (by decide) ?_
            refine aw_irem X dX3_letLeave_48 (by decide) ?_
            refine aw_aload_n X dX3_letLeave_49 1 rfl ?_
            refine aw_get X dX3_letLeave_50 (X.il hthis (by decide)) (sh_2 hthis _) fl_RX3_46 rfl ?_
            refine aw_icmp_lt (tgt := 72) X dX3_letLeave_53 (by decide) (fun c => ?_) (fun c => ?_)
            · have h := h.1 c
              exact aw_sub [1, 2, 0] rfl (lb_X3_letLeave_72 X this hthis ih _ _ _ h)
            · have h := h.2 c
              refine aw_aload_n X dX3_letLeave_56 0 rfl ?_
              refine aw_iconst (v := 1) X dX3_letLeave_57 (by decide) ?_
              refine aw_put X dX3_letLeave_58 (X.il (ly_4e (ly_2_3 hthis) hin1) (by decide)) (sh_5 (ly_4e (ly_2_3 hthis) hin1) _) fl_RX3_84 fw_0_5 (Nat.le_of_ble_eq_true rfl) (sp_5_5 (ly_4e (ly_2_3 hthis) hin1) _ _) (fun M6 eM6 => ?_)
              have h := h M6 eM6
              refine aw_aload_n X dX3_letLeave_61 0 rfl ?_
              refine aw_aload_n X dX3_letLeave_62 0 rfl ?_
              refine aw_get X dX3_letLeave_63 (X.il (ly_4e (ly_2_3 hthis) hin1) (by decide)) (sh_5 (ly_4e (ly_2_3 hthis) hin1) _) fl_RX3_157 rfl ?_
              refine aw_put X dX3_letLeave_66 (X.il (ly_4e (ly_2_3 hthis) hin1) (by decide)) (sh_5 (ly_4e (ly_2_3 hthis) hin1) _) fl_RX3_160 fw_0_6 (Nat.le_of_ble_eq_true rfl) (sp_5_6 (ly_4e (ly_2_3 hthis) hin1) _ _) (fun M7 eM7 => ?_)
              have h := h M7 eM7
              refine aw_goto (tgt := 82) X dX3_letLeave_69 (by decide) ?_
              obtain ⟨v8, ev8⟩ : ∃ y : Int32, y = x1 + 1 := ⟨_, rfl⟩
              have h := h v8 ev8
              refine aw_iinc (v := v8) (lv' := [(1, .int v8), (2, .ref (eA E (this + 3 + 1 + x1.toNatClampNeg))), (0, .ref (eA E this))]) X dX3_letLeave_82 2 rfl (by rw [ev8]; rfl) (by decide) rfl ?_
              refine aw_goto (tgt := 2) X dX3_letLeave_85 (by decide) ?_
              exact aw_sub [2, 0] rfl (ih _ _ h)
      · have h := h.2 c
        refine aw_goto (tgt := 82) X dX3_letLeave_24 (by decide) ?_
        obtain ⟨v9, ev9⟩ : ∃ y : Int32, y = x1 + 1 := ⟨_, rfl⟩
        have h := h v9 ev9
        refine aw_iinc (v := v9) (lv' := [(1, .int v9), (2, .ref (eA E (this + 3 + 1 + x1.toNatClampNeg))), (0, .ref (eA E this))]) X dX3_letLeave_82 2 rfl (by rw [ev9]; rfl) (by decide) rfl ?_
        refine aw_goto (tgt := 2) X dX3_letLeave_85 (by decide) ?_
        exact aw_sub [2, 0] rfl (ih _ _ h)
def wp_X3_letLeave (n : Nat)  (M : Mm) (this : Nat) (K : Mm → Prop) : Prop := (tp this = 2) ∧ (∃ kf : Nat, wl_X3_letLeave_2 n this K kf M 0)
set_option maxHeartbeats 4000000 in
set_option maxRecDepth 100000 in
theorem c_X3_letLeave {l : Launch} {E : En} {M : Mm} {this : Nat} {K : Mm → Prop}  (h : wp_X3_letLeave (eN E)  M this K) : Ctr l E yX3_letLeave cX3_letLeave 3 none 4 [.ref (eA E this)] M (QV E K) := by
  refine Ctr.of (by decide +kernel) (Nat.le_of_ble_eq_true rfl) (fun g A hgl X => ?_)
  subst hgl
  have X : CX g cX3_letLeave RX3 none 4 E A 3 := X
  show AW g E A 3 _ 0 [(0, .ref (eA E this))] [] M
  unfold wp_X3_letLeave at h
  obtain ⟨hthis, h⟩ := h
  refine aw_iconst (v := 0) X dX3_letLeave_0 (by decide) ?_
  refine aw_istore_n (lv' := [(1, .int 0), (0, .ref (eA E this))]) X dX3_letLeave_1 (by decide) rfl ?_
  obtain ⟨kf, h⟩ := h
  exact aw_sub [1, 0] rfl (lw_X3_letLeave_2 X this hthis  kf _ _ h)
def wp_X0_turnBack (n : Nat)  (M : Mm) (this : Nat) (K : Mm → Prop) : Prop := (tp this = 5) ∧ (∀ M1 : Mm, M1 = wr M this 5 3 → ∀ M2 : Mm, M2 = wr M1 this 6 (M1 this 2) → K M2)
set_option maxHeartbeats 4000000 in
set_option maxRecDepth 100000 in
theorem c_X0_turnBack {l : Launch} {E : En} {M : Mm} {this : Nat} {K : Mm → Prop}  (h : wp_X0_turnBack (eN E)  M this K) : Ctr l E yX0_turnBack cX0_turnBack 1 none 0 [.ref (eA E this)] M (QV E K) := by
  refine Ctr.of (by decide +kernel) (Nat.le_of_ble_eq_true rfl) (fun g A hgl X => ?_)
  subst hgl
  have X : CX g cX0_turnBack RX0 none 0 E A 1 := X
  show AW g E A 1 _ 0 [(0, .ref (eA E this))] [] M
  unfold wp_X0_turnBack at h
  obtain ⟨hthis, h⟩ := h
  refine aw_aload_n X dX0_turnBack_0 0 rfl ?_
  refine aw_iconst (v := 3) X dX0_turnBack_1 (by decide) ?_
  refine aw_put X dX0_turnBack_2 (X.il hthis (by decide)) (sh_5 hthis _) fl_RX0_27 fw_0_5 (Nat.le_of_ble_eq_true rfl) (sp_5_5 hthis _ _) (fun M1 eM1 => ?_)
  have h := h M1 eM1
  refine aw_aload_n X dX0_turnBack_5 0 rfl ?_
  refine aw_aload_n X dX0_turnBack_6 0 rfl ?_
  refine aw_get X dX0_turnBack_7 (X.il hthis (by decide)) (sh_5 hthis _) fl_RX0_18 rfl ?_
  refine aw_put X dX0_turnBack_10 (X.il hthis (by decide)) (sh_5 hthis _) fl_RX0_30 fw_0_6 (Nat.le_of_ble_eq_true rfl) (sp_5_6 hthis _ _) (fun M2 eM2 => ?_)
  have h := h M2 eM2
  exact aw_vret X dX0_turnBack_13 h
def wb_X3_arrive_80 (n : Nat) (this : Nat) (p1 : Nat)  (K : Mm → Prop) (M : Mm)  : Prop := wp_X3_staysOf n M this p1 (fun M10 r11 => (r11 ≤ 0 → ∀ M12 : Mm, M12 = wr M10 p1 10 ((M10 p1 10) + 1) → wp_X0_turnBack n M12 p1 (fun M13 => K M13)) ∧ (¬ r11 ≤ 0 → ∀ M15 : Mm, M15 = wr M10 p1 5 2 → ∀ M16 : Mm, M16 = wr M15 p1 7 0 → K M16))
set_option maxHeartbeats 4000000 in
set_option maxRecDepth 100000 in
theorem lb_X3_arrive_80 {g : Gm} {E : En} {A : Nat → Prop} {K : Mm → Prop} (X : CX g cX3_arrive RX3 none 3 E A 3) (this : Nat) (p1 : Nat)  (hthis : tp this = 2) (hp1 : tp p1 = 5) (M : Mm)  (h : wb_X3_arrive_80 (eN E) this p1  K M ) : AW g E A 3 (MQ (gB g) (QV E K A) (gA g) (gS g) (gk g) (gn g) A) 80 [(0, .ref (eA E this)), (1, .ref (eA E p1))] [] M := by
  unfold wb_X3_arrive_80 at h
  refine aw_aload_n X dX3_arrive_80 0 rfl ?_
  refine aw_aload_n X dX3_arrive_81 1 rfl ?_
  refine ca_i X (rn_v X [.ref (eA E p1)] [] (X.il hthis (by decide)) (sh_2 hthis _) rfl rfl kw452 kw9 (c_X3_staysOf h) cal_yX3_staysOf kw538 (Nat.le_of_ble_eq_true rfl) rfl rfl (Nat.le_of_ble_eq_true rfl) dX3_arrive_82) (fun M10 r11 h => ?_)
  refine aw_if_le (tgt := 101) X dX3_arrive_85 (by decide) (fun c => ?_) (fun c => ?_)
  · have h := h.1 c
    refine aw_aload_n X dX3_arrive_101 1 rfl ?_
    refine aw_dup X dX3_arrive_102 rfl ?_
    refine aw_get X dX3_arrive_103 (X.il hp1 (by decide)) (sh_5 hp1 _) fl_RX3_90 rfl ?_
    refine aw_iconst (v := 1) X dX3_arrive_106 (by decide) ?_
    refine aw_iadd X dX3_arrive_107 ?_
    refine aw_put X dX3_arrive_108 (X.il hp1 (by decide)) (sh_5 hp1 _) fl_RX3_90 fw_0_10 (Nat.le_of_ble_eq_true rfl) (sp_5_10 hp1 _ _) (fun M12 eM12 => ?_)
    have h := h M12 eM12
    refine aw_aload_n X dX3_arrive_111 1 rfl ?_
    refine ca_v X (rn_vn X [] [] (X.il hp1 (by decide)) (sh_5 hp1 _) rfl rfl kw536 kw18 (c_X0_turnBack h) cal_yX0_turnBack kw534 (Nat.le_of_ble_eq_true rfl) rfl rfl (Nat.le_of_ble_eq_true rfl) dX3_arrive_112) (fun M13 h => ?_)
    exact aw_vret X dX3_arrive_115 h
  · have h := h.2 c
    refine aw_aload_n X dX3_arrive_88 1 rfl ?_
    refine aw_iconst (v := 2) X dX3_arrive_89 (by decide) ?_
    refine aw_put X dX3_arrive_90 (X.il hp1 (by decide)) (sh_5 hp1 _) fl_RX3_84 fw_0_5 (Nat.le_of_ble_eq_true rfl) (sp_5_5 hp1 _ _) (fun M15 eM15 => ?_)
    have h := h M15 eM15
    refine aw_aload_n X dX3_arrive_93 1 rfl ?_
    refine aw_iconst (v := 0) X dX3_arrive_94 (by decide) ?_
    refine aw_put X dX3_arrive_95 (X.il hp1 (by decide)) (sh_5 hp1 _) fl_RX3_179 fw_0_7 (Nat.le_of_ble_eq_true rfl) (sp_5_7 hp1 _ _) (fun M16 eM16 => ?_)
    have h := h M16 eM16
    refine aw_goto (tgt := 115) X dX3_arrive_98 (by decide) ?_
    exact aw_vret X dX3_arrive_115 h
def wp_X3_arrive (n : Nat)  (M : Mm) (this : Nat) (p1 : Nat) (K : Mm → Prop) : Prop := (tp this = 2) ∧ ((tp p1 = 5) ∧ (∀ M1 : Mm, M1 = wr M p1 11 ((M p1 11) + 1) → ((M1 this 7) ≤ 0 → wb_X3_arrive_80 n this p1 K M1 ) ∧ (¬ (M1 this 7) ≤ 0 → wp_X3_standing n M1 this (fun M2 r3 => (¬ r3 = 0 → wb_X3_arrive_80 n this p1 K M2 ) ∧ (r3 = 0 → ∀ v4 : Int32, v4 = jmin (M2 this 8) (jmin (M2 p1 4) (M2 this 7)) → ∀ M5 : Mm, M5 = wr M2 this 7 ((M2 this 7) - v4) → ∀ M6 : Mm, M6 = wr M5 p1 4 ((M5 p1 4) - v4) → ∀ M7 : Mm, M7 = wr M6 p1 9 ((M6 p1 9) + v4) → wp_X0_turnBack n M7 p1 (fun M8 => K M8))))))
set_option maxHeartbeats 4000000 in
set_option maxRecDepth 100000 in
theorem c_X3_arrive {l : Launch} {E : En} {M : Mm} {this : Nat} {p1 : Nat} {K : Mm → Prop}  (h : wp_X3_arrive (eN E)  M this p1 K) : Ctr l E yX3_arrive cX3_arrive 3 none 3 [.ref (eA E this), .ref (eA E p1)] M (QV E K) := by
  refine Ctr.of (by decide +kernel) (Nat.le_of_ble_eq_true rfl) (fun g A hgl X => ?_)
  subst hgl
  have X : CX g cX3_arrive RX3 none 3 E A 3 := X
  show AW g E A 3 _ 0 [(0, .ref (eA E this)), (1, .ref (eA E p1))] [] M
  unfold wp_X3_arrive at h
  obtain ⟨hthis, h⟩ := h
  obtain ⟨hp1, h⟩ := h
  refine aw_aload_n X dX3_arrive_0 1 rfl ?_
  refine aw_dup X dX3_arrive_1 rfl ?_
  refine aw_get X dX3_arrive_2 (X.il hp1 (by decide)) (sh_5 hp1 _) fl_RX3_93 rfl ?_
  refine aw_iconst (v := 1) X dX3_arrive_5 (by decide) ?_
  refine aw_iadd X dX3_arrive_6 ?_
  refine aw_put X dX3_arrive_7 (X.il hp1 (by decide)) (sh_5 hp1 _) fl_RX3_93 fw_0_11 (Nat.le_of_ble_eq_true rfl) (sp_5_11 hp1 _ _) (fun M1 eM1 => ?_)
  have h := h M1 eM1
  refine aw_aload_n X dX3_arrive_10 0 rfl ?_
  refine aw_get X dX3_arrive_11 (X.il hthis (by decide)) (sh_2 hthis _) fl_RX3_40 rfl ?_
  refine aw_if_le (tgt := 80) X dX3_arrive_14 (by decide) (fun c => ?_) (fun c => ?_)
  · have h := h.1 c
    exact aw_sub [0, 1] rfl (lb_X3_arrive_80 X this p1 hthis hp1  _ h)
  · have h := h.2 c
    refine aw_aload_n X dX3_arrive_17 0 rfl ?_
    refine ca_i X (rn_v X [] [] (X.il hthis (by decide)) (sh_2 hthis _) rfl rfl kw432 kw5 (c_X3_standing h) cal_yX3_standing kw430 (Nat.le_of_ble_eq_true rfl) rfl rfl (Nat.le_of_ble_eq_true rfl) dX3_arrive_18) (fun M2 r3 h => ?_)
    refine aw_if_ne (tgt := 80) X dX3_arrive_21 (by decide) (fun c => ?_) (fun c => ?_)
    · have h := h.1 c
      exact aw_sub [0, 1] rfl (lb_X3_arrive_80 X this p1 hthis hp1  _ h)
    · have h := h.2 c
      refine aw_aload_n X dX3_arrive_24 0 rfl ?_
      refine aw_get X dX3_arrive_25 (X.il hthis (by decide)) (sh_2 hthis _) fl_RX3_43 rfl ?_
      refine aw_aload_n X dX3_arrive_28 1 rfl ?_
      refine aw_get X dX3_arrive_29 (X.il hp1 (by decide)) (sh_5 hp1 _) fl_RX3_148 rfl ?_
      refine aw_aload_n X dX3_arrive_32 0 rfl ?_
      refine aw_get X dX3_arrive_33 (X.il hthis (by decide)) (sh_2 hthis _) fl_RX3_40 rfl ?_
      refine aw_mmin X dX3_arrive_36 kw533 kw458 kw103 kw459 (by decide) (Nat.le_of_ble_eq_true rfl) ?_
      refine aw_mmin X dX3_arrive_39 kw533 kw458 kw103 kw459 (by decide) (Nat.le_of_ble_eq_true rfl) ?_
      refine aw_top (fun v4 ev4 => ?_)
      have h := h v4 ev4
      refine aw_istore_n (lv' := [(2, .int v4), (0, .ref (eA E this)), (1, .ref (eA E p1))]) X dX3_arrive_42 (by decide) rfl ?_
      refine aw_aload_n X dX3_arrive_43 1 rfl ?_
      refine aw_dup X dX3_arrive_44 rfl ?_
      refine aw_get X dX3_arrive_45 (X.il hthis (by decide)) (sh_2 hthis _) fl_RX3_40 rfl ?_
      refine aw_iload_n X dX3_arrive_48 0 rfl ?_
      refine aw_isub X dX3_arrive_49 ?_
      refine aw_put X dX3_arrive_50 (X.il hthis (by decide)) (sh_2 hthis _) fl_RX3_40 fw_3_7 (Nat.le_of_ble_eq_true rfl) (sp_2_7 hthis _ _) (fun M5 eM5 => ?_)
      have h := h M5 eM5
      refine aw_aload_n X dX3_arrive_53 2 rfl ?_
      refine aw_dup X dX3_arrive_54 rfl ?_
      refine aw_get X dX3_arrive_55 (X.il hp1 (by decide)) (sh_5 hp1 _) fl_RX3_148 rfl ?_
      refine aw_iload_n X dX3_arrive_58 0 rfl ?_
      refine aw_isub X dX3_arrive_59 ?_
      refine aw_put X dX3_arrive_60 (X.il hp1 (by decide)) (sh_5 hp1 _) fl_RX3_148 fw_0_4 (Nat.le_of_ble_eq_true rfl) (sp_5_4 hp1 _ _) (fun M6 eM6 => ?_)
      have h := h M6 eM6
      refine aw_aload_n X dX3_arrive_63 2 rfl ?_
      refine aw_dup X dX3_arrive_64 rfl ?_
      refine aw_get X dX3_arrive_65 (X.il hp1 (by decide)) (sh_5 hp1 _) fl_RX3_87 rfl ?_
      refine aw_iload_n X dX3_arrive_68 0 rfl ?_
      refine aw_iadd X dX3_arrive_69 ?_
      refine aw_put X dX3_arrive_70 (X.il hp1 (by decide)) (sh_5 hp1 _) fl_RX3_87 fw_0_9 (Nat.le_of_ble_eq_true rfl) (sp_5_9 hp1 _ _) (fun M7 eM7 => ?_)
      have h := h M7 eM7
      refine aw_aload_n X dX3_arrive_73 2 rfl ?_
      refine ca_v X (rn_vn X [] [] (X.il hp1 (by decide)) (sh_5 hp1 _) rfl rfl kw536 kw18 (c_X0_turnBack h) cal_yX0_turnBack kw534 (Nat.le_of_ble_eq_true rfl) rfl rfl (Nat.le_of_ble_eq_true rfl) dX3_arrive_74) (fun M8 h => ?_)
      refine aw_goto (tgt := 115) X dX3_arrive_77 (by decide) ?_
      exact aw_vret X dX3_arrive_115 h
def wl_X3_letCome_4 (n : Nat) (this : Nat)  (K : Mm → Int32 → Prop) : Nat → Mm → Int32 → Int32 → Prop
  | 0, _, _, _ => False
  | k + 1, M, x1, x2 => ((M this 4) ≤ x2 → (x1 = 0 ∨ x1 = 1) ∧ K M x1) ∧ (¬ (M this 4) ≤ x2 → vp_in x2 8 ∧ (((M (this + 3 + 1 + x2.toNatClampNeg) 5) = 1 → ∀ M2 : Mm, M2 = wr M (this + 3 + 1 + x2.toNatClampNeg) 6 ((M (this + 3 + 1 + x2.toNatClampNeg) 6) - 1) → (¬ (M2 (this + 3 + 1 + x2.toNatClampNeg) 6) = 0 → ∀ v3 : Int32, v3 = x2 + 1 → wl_X3_letCome_4 n this K k M2 x1 v3) ∧ ((M2 (this + 3 + 1 + x2.toNatClampNeg) 6) = 0 → wp_X3_arrive n M2 this (this + 3 + 1 + x2.toNatClampNeg) (fun M4 => ∀ v6 : Int32, v6 = x2 + 1 → wl_X3_letCome_4 n this K k M4 1 v6))) ∧ (¬ (M (this + 3 + 1 + x2.toNatClampNeg) 5) = 1 → ∀ v7 : Int32, v7 = x2 + 1 → wl_X3_letCome_4 n this K k M x1 v7)))
set_option maxHeartbeats 4000000 in
set_option maxRecDepth 100000 in
theorem lw_X3_letCome_4 {g : Gm} {E : En} {A : Nat → Prop} {K : Mm → Int32 → Prop} (X : CX g cX3_letCome RX3 (some .boolean) 4 E A 4) (this : Nat)  (hthis : tp this = 2) : ∀ (k : Nat) (M : Mm) (x1 : Int32) (x2 : Int32), wl_X3_letCome_4 (eN E) this  K k M x1 x2 → AW g E A 4 (MQ (gB g) (QI E K A) (gA g) (gS g) (gk g) (gn g) A) 4 [(0, .ref (eA E this)), (1, .int x1), (2, .int x2)] [] M := by
  intro k
  induction k with
  | zero => intro M x1 x2 h; exact h.elim
  | succ k ih =>
    intro M x1 x2 h
    rw [wl_X3_letCome_4] at h
    refine aw_iload_n X dX3_letCome_4 2 rfl ?_
    refine aw_aload_n X dX3_letCome_5 0 rfl ?_
    refine aw_get X dX3_letCome_6 (X.il hthis (by decide)) (sh_2 hthis _) fl_RX3_31 rfl ?_
    refine aw_icmp_ge (tgt := 60) X dX3_letCome_9 (by decide) (fun c => ?_) (fun c => ?_)
    · have h := h.1 c
      refine aw_iload_n X dX3_letCome_60 1 rfl ?_
      exact aw_zret X dX3_letCome_61 (nar_z h.1) h.2
    · have h := h.2 c
      refine aw_aload_n X dX3_letCome_12 0 rfl ?_
      refine aw_get X dX3_letCome_13 (X.il hthis (by decide)) (sh_2 hthis _) fl_RX3_27 rfl ?_
      refine aw_iload_n X dX3_letCome_16 2 rfl ?_
      obtain ⟨hin1, h⟩ := h
      refine aw_aald (t := 1) X dX3_letCome_17 (X.il (ly_2_3 hthis) (by decide)) (sh_4 (ly_2_3 hthis) _) rfl hin1 rfl ?_
      refine aw_astore_n (lv' := [(3, .ref (eA E (this + 3 + 1 + x2.toNatClampNeg))), (0, .ref (eA E this)), (1, .int x1), (2, .int x2)]) X dX3_letCome_18 (by decide) rfl ?_
      refine aw_aload_n X dX3_letCome_19 0 rfl ?_
      refine aw_get X dX3_letCome_20 (X.il (ly_4e (ly_2_3 hthis) hin1) (by decide)) (sh_5 (ly_4e (ly_2_3 hthis) hin1) _) fl_RX3_84 rfl ?_
      refine aw_iconst (v := 1) X dX3_letCome_23 (by decide) ?_
      refine aw_icmp_eq (tgt := 30) X dX3_letCome_24 (by decide) (fun c => ?_) (fun c => ?_)
      · have h := h.1 c
        refine aw_aload_n X dX3_letCome_30 0 rfl ?_
        refine aw_dup X dX3_letCome_31 rfl ?_
        refine aw_get X dX3_letCome_32 (X.il (ly_4e (ly_2_3 hthis) hin1) (by decide)) (sh_5 (ly_4e (ly_2_3 hthis) hin1) _) fl_RX3_160 rfl ?_
        refine aw_iconst (v := 1) X dX3_letCome_35 (by decide) ?_
        refine aw_isub X dX3_letCome_36 ?_
        refine aw_put X dX3_letCome_37 (X.il (ly_4e (ly_2_3 hthis) hin1) (by decide)) (sh_5 (ly_4e (ly_2_3 hthis) hin1) _) fl_RX3_160 fw_0_6 (Nat.le_of_ble_eq_true rfl) (sp_5_6 (ly_4e (ly_2_3 hthis) hin1) _ _) (fun M2 eM2 => ?_)
        have h := h M2 eM2
        refine aw_aload_n X dX3_letCome_40 0 rfl ?_
        refine aw_get X dX3_letCome_41 (X.il (ly_4e (ly_2_3 hthis) hin1) (by decide)) (sh_5 (ly_4e (ly_2_3 hthis) hin1) _) fl_RX3_160 rfl ?_
        refine aw_if_ne (tgt := 54) X dX3_letCome_44 (by decide) (fun c => ?_) (fun c => ?_)
        · have h := h.1 c
          obtain ⟨v3, ev3⟩ : ∃ y : Int32, y = x2 + 1 := ⟨_, rfl⟩
          have h := h v3 ev3
          refine aw_iinc (v := v3) (lv' := [(2, .int v3), (3, .ref (eA E (this + 3 + 1 + x2.toNatClampNeg))), (0, .ref (eA E this)), (1, .int x1)]) X dX3_letCome_54 3 rfl (by rw [ev3]; rfl) (by decide) rfl ?_
          refine aw_goto (tgt := 4) X dX3_letCome_57 (by decide) ?_
          exact aw_sub [2, 3, 0] rfl (ih _ _ _ h)
        · have h := h.2 c
          refine aw_iconst (v := 1) X dX3_letCome_47 (by decide) ?_
          refine aw_istore_n (lv' := [(1, .int 1), (3, .ref (eA E (this + 3 + 1 + x2.toNatClampNeg))), (0, .ref (eA E this)), (2, .int x2)]) X dX3_letCome_48 (by decide) rfl ?_
          refine aw_aload_n X dX3_letCome_49 2 rfl ?_
          refine aw_aload_n X dX3_letCome_50 1 rfl ?_
          refine ca_v X (rn_v X [.ref (eA E (this + 3 + 1 + x2.toNatClampNeg))] [] (X.il hthis (by decide)) (sh_2 hthis _) rfl rfl kw531 kw17 (c_X3_arrive h) cal_yX3_arrive kw529 (Nat.le_of_ble_eq_true rfl) rfl rfl (Nat.le_of_ble_eq_true rfl) dX3_letCome_51) (fun M4 h => ?_)
          obtain ⟨v6, ev6⟩ : ∃ y : Int32, y = x2 + 1 := ⟨_, rfl⟩
          have h := h v6 ev6
          refine aw_iinc (v := v6) (lv' := [(2, .int v6), (1, .int 1), (3, .ref (eA E (this + 3 + 1 + x2.toNatClampNeg))), (0, .ref (eA E this))]) X dX3_letCome_54 3 rfl (by rw [ev6]; rfl) (by decide) rfl ?_
          refine aw_goto (tgt := 4) X dX3_letCome_57 (by decide) ?_
          exact aw_sub [3, 1, 0] rfl (ih _ _ _ h)
      · have h := h.2 c
        refine aw_goto (tgt := 54) X dX3_letCome_27 (by decide) ?_
        obtain ⟨v7, ev7⟩ : ∃ y : Int32, y = x2 + 1 := ⟨_, rfl⟩
        have h := h v7 ev7
        refine aw_iinc (v := v7) (lv' := [(2, .int v7), (3, .ref (eA E (this + 3 + 1 + x2.toNatClampNeg))), (0, .ref (eA E this)), (1, .int x1)]) X dX3_letCome_54 3 rfl (by rw [ev7]; rfl) (by decide) rfl ?_
        refine aw_goto (tgt := 4) X dX3_letCome_57 (by decide) ?_
        exact aw_sub [2, 3, 0] rfl (ih _ _ _ h)
def wp_X3_letCome (n : Nat)  (M : Mm) (this : Nat) (K : Mm → Int32 → Prop) : Prop := (tp this = 2) ∧ (∃ kf : Nat, wl_X3_letCome_4 n this K kf M 0 0)
set_option maxHeartbeats 4000000 in
set_option maxRecDepth 100000 in
theorem c_X3_letCome {l : Launch} {E : En} {M : Mm} {this : Nat} {K : Mm → Int32 → Prop}  (h : wp_X3_letCome (eN E)  M this K) : Ctr l E yX3_letCome cX3_letCome 4 (some .boolean) 4 [.ref (eA E this)] M (QI E K) := by
  refine Ctr.of (by decide +kernel) (Nat.le_of_ble_eq_true rfl) (fun g A hgl X => ?_)
  subst hgl
  have X : CX g cX3_letCome RX3 (some .boolean) 4 E A 4 := X
  show AW g E A 4 _ 0 [(0, .ref (eA E this))] [] M
  unfold wp_X3_letCome at h
  obtain ⟨hthis, h⟩ := h
  refine aw_iconst (v := 0) X dX3_letCome_0 (by decide) ?_
  refine aw_istore_n (lv' := [(1, .int 0), (0, .ref (eA E this))]) X dX3_letCome_1 (by decide) rfl ?_
  refine aw_iconst (v := 0) X dX3_letCome_2 (by decide) ?_
  refine aw_istore_n (lv' := [(2, .int 0), (1, .int 0), (0, .ref (eA E this))]) X dX3_letCome_3 (by decide) rfl ?_
  obtain ⟨kf, h⟩ := h
  exact aw_sub [2, 1, 0] rfl (lw_X3_letCome_4 X this hthis  kf _ _ _ h)
def wl_X3_letWait_2 (n : Nat) (this : Nat)  (K : Mm → Prop) : Nat → Mm → Int32 → Prop
  | 0, _, _ => False
  | k + 1, M, x1 => ((M this 4) ≤ x1 → K M) ∧ (¬ (M this 4) ≤ x1 → vp_in x1 8 ∧ (((M (this + 3 + 1 + x1.toNatClampNeg) 12) = 2 → ∀ M2 : Mm, M2 = wr M (this + 3 + 1 + x1.toNatClampNeg) 7 ((M (this + 3 + 1 + x1.toNatClampNeg) 7) + 1) → ∀ M3 : Mm, M3 = wr M2 this 12 ((M2 this 12) + 1) → wp_X3_staysOf n M3 this (this + 3 + 1 + x1.toNatClampNeg) (fun M4 r5 => ((M3 (this + 3 + 1 + x1.toNatClampNeg) 7) < r5 → ∀ v6 : Int32, v6 = x1 + 1 → wl_X3_letWait_2 n this K k M4 v6) ∧ (¬ (M3 (this + 3 + 1 + x1.toNatClampNeg) 7) < r5 → ∀ M7 : Mm, M7 = wr M4 (this + 3 + 1 + x1.toNatClampNeg) 10 ((M4 (this + 3 + 1 + x1.toNatClampNeg) 10) + 1) → wp_X0_turnBack n M7 (this + 3 + 1 + x1.toNatClampNeg) (fun M8 => ∀ v10 : Int32, v10 = x1 + 1 → wl_X3_letWait_2 n this K k M8 v10)))) ∧ (¬ (M (this + 3 + 1 + x1.toNatClampNeg) 12) = 2 → ∀ v11 : Int32, v11 = x1 + 1 → wl_X3_letWait_2 n this K k M v11)))
set_option maxHeartbeats 4000000 in
set_option maxRecDepth 100000 in
theorem lw_X3_letWait_2 {g : Gm} {E : En} {A : Nat → Prop} {K : Mm → Prop} (X : CX g cX3_letWait RX3 none 3 E A 3) (this : Nat)  (hthis : tp this = 2) : ∀ (k : Nat) (M : Mm) (x1 : Int32), wl_X3_letWait_2 (eN E) this  K k M x1 → AW g E A 3 (MQ (gB g) (QV E K A) (gA g) (gS g) (gk g) (gn g) A) 2 [(0, .ref (eA E this)), (1, .int x1)] [] M := by
  intro k
  induction k with
  | zero => intro M x1 h; exact h.elim
  | succ k ih =>
    intro M x1 h
    rw [wl_X3_letWait_2] at h
    refine aw_iload_n X dX3_letWait_2 1 rfl ?_
    refine aw_aload_n X dX3_letWait_3 0 rfl ?_
    refine aw_get X dX3_letWait_4 (X.il hthis (by decide)) (sh_2 hthis _) fl_RX3_31 rfl ?_
    refine aw_icmp_ge (tgt := 80) X dX3_letWait_7 (by decide) (fun c => ?_) (fun c => ?_)
    · have h := h.1 c
      exact aw_vret X dX3_letWait_80 h
    · have h := h.2 c
      refine aw_aload_n X dX3_letWait_10 0 rfl ?_
      refine aw_get X dX3_letWait_11 (X.il hthis (by decide)) (sh_2 hthis _) fl_RX3_27 rfl ?_
      refine aw_iload_n X dX3_letWait_14 1 rfl ?_
      obtain ⟨hin1, h⟩ := h
      refine aw_aald (t := 1) X dX3_letWait_15 (X.il (ly_2_3 hthis) (by decide)) (sh_4 (ly_2_3 hthis) _) rfl hin1 rfl ?_
      refine aw_astore_n (lv' := [(2, .ref (eA E (this + 3 + 1 + x1.toNatClampNeg))), (0, .ref (eA E this)), (1, .int x1)]) X dX3_letWait_16 (by decide) rfl ?_
      refine aw_aload_n X dX3_letWait_17 0 rfl ?_
      refine aw_get X dX3_letWait_18 (X.il (ly_4e (ly_2_3 hthis) hin1) (by decide)) (sh_5 (ly_4e (ly_2_3 hthis) hin1) _) fl_RX3_125 rfl ?_
      refine aw_iconst (v := 2) X dX3_letWait_21 (by decide) ?_
      refine aw_icmp_eq (tgt := 28) X dX3_letWait_22 (by decide) (fun c => ?_) (fun c => ?_)
      · have h := h.1 c
        refine aw_aload_n X dX3_letWait_28 0 rfl ?_
        refine aw_dup X dX3_letWait_29 rfl ?_
        refine aw_get X dX3_letWait_30 (X.il (ly_4e (ly_2_3 hthis) hin1) (by decide)) (sh_5 (ly_4e (ly_2_3 hthis) hin1) _) fl_RX3_179 rfl ?_
        refine aw_iconst (v := 1) X dX3_letWait_33 (by decide) ?_
        refine aw_iadd X dX3_letWait_34 ?_
        refine aw_put X dX3_letWait_35 (X.il (ly_4e (ly_2_3 hthis) hin1) (by decide)) (sh_5 (ly_4e (ly_2_3 hthis) hin1) _) fl_RX3_179 fw_0_7 (Nat.le_of_ble_eq_true rfl) (sp_5_7 (ly_4e (ly_2_3 hthis) hin1) _ _) (fun M2 eM2 => ?_)
        have h := h M2 eM2
        refine aw_aload_n X dX3_letWait_38 1 rfl ?_
        refine aw_dup X dX3_letWait_39 rfl ?_
        refine aw_get X dX3_letWait_40 (X.il hthis (by decide)) (sh_2 hthis _) fl_RX3_55 rfl ?_
        refine aw_iconst (v := 1) X dX3_letWait_43 (by decide) ?_
        refine aw_iadd X dX3_letWait_44 ?_
        refine aw_put X dX3_letWait_45 (X.il hthis (by decide)) (sh_2 hthis _) fl_RX3_55 fw_3_12 (Nat.le_of_ble_eq_true rfl) (sp_2_12 hthis _ _) (fun M3 eM3 => ?_)
        have h := h M3 eM3
        refine aw_aload_n X dX3_letWait_48 0 rfl ?_
        refine aw_get X dX3_letWait_49 (X.il (ly_4e (ly_2_3 hthis) hin1) (by decide)) (sh_5 (ly_4e (ly_2_3 hthis) hin1) _) fl_RX3_179 rfl ?_
        refine aw_aload_n X dX3_letWait_52 1 rfl ?_
        refine aw_aload_n X dX3_letWait_53 0 rfl ?_
        refine ca_i X (rn_v X [.ref (eA E (this + 3 + 1 + x1.toNatClampNeg))] [.int (M3 (this + 3 + 1 + x1.toNatClampNeg) 7)] (X.il hthis (by decide)) (sh_2 hthis _) rfl rfl kw452 kw9 (c_X3_staysOf h) cal_yX3_staysOf kw538 (Nat.le_of_ble_eq_true rfl) rfl rfl (Nat.le_of_ble_eq_true rfl) dX3_letWait_54) (fun M4 r5 h => ?_)
        refine aw_icmp_lt (tgt := 74) X dX3_letWait_57 (by decide) (fun c => ?_) (fun c => ?_)
        · have h := h.1 c
          obtain ⟨v6, ev6⟩ : ∃ y : Int32, y = x1 + 1 := ⟨_, rfl⟩
          have h := h v6 ev6
          refine aw_iinc (v := v6) (lv' := [(1, .int v6), (2, .ref (eA E (this + 3 + 1 + x1.toNatClampNeg))), (0, .ref (eA E this))]) X dX3_letWait_74 2 rfl (by rw [ev6]; rfl) (by decide) rfl ?_
          refine aw_goto (tgt := 2) X dX3_letWait_77 (by decide) ?_
          exact aw_sub [2, 0] rfl (ih _ _ h)
        · have h := h.2 c
          refine aw_aload_n X dX3_letWait_60 0 rfl ?_
          refine aw_dup X dX3_letWait_61 rfl ?_
          refine aw_get X dX3_letWait_62 (X.il (ly_4e (ly_2_3 hthis) hin1) (by decide)) (sh_5 (ly_4e (ly_2_3 hthis) hin1) _) fl_RX3_90 rfl ?_
          refine aw_iconst (v := 1) X dX3_letWait_65 (by decide) ?_
          refine aw_iadd X dX3_letWait_66 ?_
          refine aw_put X dX3_letWait_67 (X.il (ly_4e (ly_2_3 hthis) hin1) (by decide)) (sh_5 (ly_4e (ly_2_3 hthis) hin1) _) fl_RX3_90 fw_0_10 (Nat.le_of_ble_eq_true rfl) (sp_5_10 (ly_4e (ly_2_3 hthis) hin1) _ _) (fun M7 eM7 => ?_)
          have h := h M7 eM7
          refine aw_aload_n X dX3_letWait_70 0 rfl ?_
          refine ca_v X (rn_vn X [] [] (X.il (ly_4e (ly_2_3 hthis) hin1) (by decide)) (sh_5 (ly_4e (ly_2_3 hthis) hin1) _) rfl rfl kw536 kw18 (c_X0_turnBack h) cal_yX0_turnBack kw534 (Nat.le_of_ble_eq_true rfl) rfl rfl (Nat.le_of_ble_eq_true rfl) dX3_letWait_71) (fun M8 h => ?_)
          obtain ⟨v10, ev10⟩ : ∃ y : Int32, y = x1 + 1 := ⟨_, rfl⟩
          have h := h v10 ev10
          refine aw_iinc (v := v10) (lv' := [(1, .int v10), (2, .ref (eA E (this + 3 + 1 + x1.toNatClampNeg))), (0, .ref (eA E this))]) X dX3_letWait_74 2 rfl (by rw [ev10]; rfl) (by decide) rfl ?_
          refine aw_goto (tgt := 2) X dX3_letWait_77 (by decide) ?_
          exact aw_sub [2, 0] rfl (ih _ _ h)
      · have h := h.2 c
        refine aw_goto (tgt := 74) X dX3_letWait_25 (by decide) ?_
        obtain ⟨v11, ev11⟩ : ∃ y : Int32, y = x1 + 1 := ⟨_, rfl⟩
        have h := h v11 ev11
        refine aw_iinc (v := v11) (lv' := [(1, .int v11), (2, .ref (eA E (this + 3 + 1 + x1.toNatClampNeg))), (0, .ref (eA E this))]) X dX3_letWait_74 2 rfl (by rw [ev11]; rfl) (by decide) rfl ?_
        refine aw_goto (tgt := 2) X dX3_letWait_77 (by decide) ?_
        exact aw_sub [2, 0] rfl (ih _ _ h)
def wp_X3_letWait (n : Nat)  (M : Mm) (this : Nat) (K : Mm → Prop) : Prop := (tp this = 2) ∧ (∃ kf : Nat, wl_X3_letWait_2 n this K kf M 0)
set_option maxHeartbeats 4000000 in
set_option maxRecDepth 100000 in
theorem c_X3_letWait {l : Launch} {E : En} {M : Mm} {this : Nat} {K : Mm → Prop}  (h : wp_X3_letWait (eN E)  M this K) : Ctr l E yX3_letWait cX3_letWait 3 none 3 [.ref (eA E this)] M (QV E K) := by
  refine Ctr.of (by decide +kernel) (Nat.le_of_ble_eq_true rfl) (fun g A hgl X => ?_)
  subst hgl
  have X : CX g cX3_letWait RX3 none 3 E A 3 := X
  show AW g E A 3 _ 0 [(0, .ref (eA E this))] [] M
  unfold wp_X3_letWait at h
  obtain ⟨hthis, h⟩ := h
  refine aw_iconst (v := 0) X dX3_letWait_0 (by decide) ?_
  refine aw_istore_n (lv' := [(1, .int 0), (0, .ref (eA E this))]) X dX3_letWait_1 (by decide) rfl ?_
  obtain ⟨kf, h⟩ := h
  exact aw_sub [1, 0] rfl (lw_X3_letWait_2 X this hthis  kf _ _ h)
def wl_X3_letReachHome_2 (n : Nat) (this : Nat)  (K : Mm → Prop) : Nat → Mm → Int32 → Prop
  | 0, _, _ => False
  | k + 1, M, x1 => ((M this 4) ≤ x1 → K M) ∧ (¬ (M this 4) ≤ x1 → vp_in x1 8 ∧ (((M (this + 3 + 1 + x1.toNatClampNeg) 12) = 3 → ∀ M2 : Mm, M2 = wr M (this + 3 + 1 + x1.toNatClampNeg) 6 ((M (this + 3 + 1 + x1.toNatClampNeg) 6) - 1) → (¬ (M2 (this + 3 + 1 + x1.toNatClampNeg) 6) = 0 → ∀ v3 : Int32, v3 = x1 + 1 → wl_X3_letReachHome_2 n this K k M2 v3) ∧ ((M2 (this + 3 + 1 + x1.toNatClampNeg) 6) = 0 → ∀ M4 : Mm, M4 = wr M2 (this + 3 + 1 + x1.toNatClampNeg) 5 0 → ∀ M5 : Mm, M5 = wr M4 (this + 3 + 1 + x1.toNatClampNeg) 8 0 → ∀ v6 : Int32, v6 = x1 + 1 → wl_X3_letReachHome_2 n this K k M5 v6)) ∧ (¬ (M (this + 3 + 1 + x1.toNatClampNeg) 12) = 3 → ∀ v7 : Int32, v7 = x1 + 1 → wl_X3_letReachHome_2 n this K k M v7)))
set_option maxHeartbeats 4000000 in
set_option maxRecDepth 100000 in
theorem lw_X3_letReachHome_2 {g : Gm} {E : En} {A : Nat → Prop} {K : Mm → Prop} (X : CX g cX3_letReachHome RX3 none 0 E A 3) (this : Nat)  (hthis : tp this = 2) : ∀ (k : Nat) (M : Mm) (x1 : Int32), wl_X3_letReachHome_2 (eN E) this  K k M x1 → AW g E A 3 (MQ (gB g) (QV E K A) (gA g) (gS g) (gk g) (gn g) A) 2 [(0, .ref (eA E this)), (1, .int x1)] [] M := by
  intro k
  induction k with
  | zero => intro M x1 h; exact h.elim
  | succ k ih =>
    intro M x1 h
    rw [wl_X3_letReachHome_2] at h
    refine aw_iload_n X dX3_letReachHome_2 1 rfl ?_
    refine aw_aload_n X dX3_letReachHome_3 0 rfl ?_
    refine aw_get X dX3_letReachHome_4 (X.il hthis (by decide)) (sh_2 hthis _) fl_RX3_31 rfl ?_
    refine aw_icmp_ge (tgt := 61) X dX3_letReachHome_7 (by decide) (fun c => ?_) (fun c => ?_)
    · have h := h.1 c
      exact aw_vret X dX3_letReachHome_61 h
    · have h := h.2 c
      refine aw_aload_n X dX3_letReachHome_10 0 rfl ?_
      refine aw_get X dX3_letReachHome_11 (X.il hthis (by decide)) (sh_2 hthis _) fl_RX3_27 rfl ?_
      refine aw_iload_n X dX3_letReachHome_14 1 rfl ?_
      obtain ⟨hin1, h⟩ := h
      refine aw_aald (t := 1) X dX3_letReachHome_15 (X.il (ly_2_3 hthis) (by decide)) (sh_4 (ly_2_3 hthis) _) rfl hin1 rfl ?_
      refine aw_astore_n (lv' := [(2, .ref (eA E (this + 3 + 1 + x1.toNatClampNeg))), (0, .ref (eA E this)), (1, .int x1)]) X dX3_letReachHome_16 (by decide) rfl ?_
      refine aw_aload_n X dX3_letReachHome_17 0 rfl ?_
      refine aw_get X dX3_letReachHome_18 (X.il (ly_4e (ly_2_3 hthis) hin1) (by decide)) (sh_5 (ly_4e (ly_2_3 hthis) hin1) _) fl_RX3_125 rfl ?_
      refine aw_iconst (v := 3) X dX3_letReachHome_21 (by decide) ?_
      refine aw_icmp_eq (tgt := 28) X dX3_letReachHome_22 (by decide) (fun c => ?_) (fun c => ?_)
      · have h := h.1 c
        refine aw_aload_n X dX3_letReachHome_28 0 rfl ?_
        refine aw_dup X dX3_letReachHome_29 rfl ?_
        refine aw_get X dX3_letReachHome_30 (X.il (ly_4e (ly_2_3 hthis) hin1) (by decide)) (sh_5 (ly_4e (ly_2_3 hthis) hin1) _) fl_RX3_160 rfl ?_
        refine aw_iconst (v := 1) X dX3_letReachHome_33 (by decide) ?_
        refine aw_isub X dX3_letReachHome_34 ?_
        refine aw_put X dX3_letReachHome_35 (X.il (ly_4e (ly_2_3 hthis) hin1) (by decide)) (sh_5 (ly_4e (ly_2_3 hthis) hin1) _) fl_RX3_160 fw_0_6 (Nat.le_of_ble_eq_true rfl) (sp_5_6 (ly_4e (ly_2_3 hthis) hin1) _ _) (fun M2 eM2 => ?_)
        have h := h M2 eM2
        refine aw_aload_n X dX3_letReachHome_38 0 rfl ?_
        refine aw_get X dX3_letReachHome_39 (X.il (ly_4e (ly_2_3 hthis) hin1) (by decide)) (sh_5 (ly_4e (ly_2_3 hthis) hin1) _) fl_RX3_160 rfl ?_
        refine aw_if_ne (tgt := 55) X dX3_letReachHome_42 (by decide) (fun c => ?_) (fun c => ?_)
        · have h := h.1 c
          obtain ⟨v3, ev3⟩ : ∃ y : Int32, y = x1 + 1 := ⟨_, rfl⟩
          have h := h v3 ev3
          refine aw_iinc (v := v3) (lv' := [(1, .int v3), (2, .ref (eA E (this + 3 + 1 + x1.toNatClampNeg))), (0, .ref (eA E this))]) X dX3_letReachHome_55 2 rfl (by rw [ev3]; rfl) (by decide) rfl ?_
          refine aw_goto (tgt := 2) X dX3_letReachHome_58 (by decide) ?_
          exact aw_sub [2, 0] rfl (ih _ _ h)
        · have h := h.2 c
          refine aw_aload_n X dX3_letReachHome_45 0 rfl ?_
          refine aw_iconst (v := 0) X dX3_letReachHome_46 (by decide) ?_
          refine aw_put X dX3_letReachHome_47 (X.il (ly_4e (ly_2_3 hthis) hin1) (by decide)) (sh_5 (ly_4e (ly_2_3 hthis) hin1) _) fl_RX3_84 fw_0_5 (Nat.le_of_ble_eq_true rfl) (sp_5_5 (ly_4e (ly_2_3 hthis) hin1) _ _) (fun M4 eM4 => ?_)
          have h := h M4 eM4
          refine aw_aload_n X dX3_letReachHome_50 0 rfl ?_
          refine aw_iconst (v := 0) X dX3_letReachHome_51 (by decide) ?_
          refine aw_put X dX3_letReachHome_52 (X.il (ly_4e (ly_2_3 hthis) hin1) (by decide)) (sh_5 (ly_4e (ly_2_3 hthis) hin1) _) fl_RX3_103 fw_0_8 (Nat.le_of_ble_eq_true rfl) (sp_5_8 (ly_4e (ly_2_3 hthis) hin1) _ _) (fun M5 eM5 => ?_)
          have h := h M5 eM5
          obtain ⟨v6, ev6⟩ : ∃ y : Int32, y = x1 + 1 := ⟨_, rfl⟩
          have h := h v6 ev6
          refine aw_iinc (v := v6) (lv' := [(1, .int v6), (2, .ref (eA E (this + 3 + 1 + x1.toNatClampNeg))), (0, .ref (eA E this))]) X dX3_letReachHome_55 2 rfl (by rw [ev6]; rfl) (by decide) rfl ?_
          refine aw_goto (tgt := 2) X dX3_letReachHome_58 (by decide) ?_
          exact aw_sub [2, 0] rfl (ih _ _ h)
      · have h := h.2 c
        refine aw_goto (tgt := 55) X dX3_letReachHome_25 (by decide) ?_
        obtain ⟨v7, ev7⟩ : ∃ y : Int32, y = x1 + 1 := ⟨_, rfl⟩
        have h := h v7 ev7
        refine aw_iinc (v := v7) (lv' := [(1, .int v7), (2, .ref (eA E (this + 3 + 1 + x1.toNatClampNeg))), (0, .ref (eA E this))]) X dX3_letReachHome_55 2 rfl (by rw [ev7]; rfl) (by decide) rfl ?_
        refine aw_goto (tgt := 2) X dX3_letReachHome_58 (by decide) ?_
        exact aw_sub [2, 0] rfl (ih _ _ h)
def wp_X3_letReachHome (n : Nat)  (M : Mm) (this : Nat) (K : Mm → Prop) : Prop := (tp this = 2) ∧ (∃ kf : Nat, wl_X3_letReachHome_2 n this K kf M 0)
set_option maxHeartbeats 4000000 in
set_option maxRecDepth 100000 in
theorem c_X3_letReachHome {l : Launch} {E : En} {M : Mm} {this : Nat} {K : Mm → Prop}  (h : wp_X3_letReachHome (eN E)  M this K) : Ctr l E yX3_letReachHome cX3_letReachHome 3 none 0 [.ref (eA E this)] M (QV E K) := by
  refine Ctr.of (by decide +kernel) (Nat.le_of_ble_eq_true rfl) (fun g A hgl X => ?_)
  subst hgl
  have X : CX g cX3_letReachHome RX3 none 0 E A 3 := X
  show AW g E A 3 _ 0 [(0, .ref (eA E this))] [] M
  unfold wp_X3_letReachHome at h
  obtain ⟨hthis, h⟩ := h
  refine aw_iconst (v := 0) X dX3_letReachHome_0 (by decide) ?_
  refine aw_istore_n (lv' := [(1, .int 0), (0, .ref (eA E this))]) X dX3_letReachHome_1 (by decide) rfl ?_
  obtain ⟨kf, h⟩ := h
  exact aw_sub [1, 0] rfl (lw_X3_letReachHome_2 X this hthis  kf _ _ h)
def wp_X3_fill (n : Nat)  (M : Mm) (this : Nat) (p1 : Int32) (K : Mm → Prop) : Prop := (tp this = 2) ∧ ((¬ p1 = 0 → ∀ M1 : Mm, M1 = wr M this 10 ((M this 10) + 1) → ((M1 this 10) < (M1 this 5) → K M1) ∧ (¬ (M1 this 10) < (M1 this 5) → ∀ M2 : Mm, M2 = wr M1 this 10 0 → ((M2 this 6) ≤ (M2 this 7) → K M2) ∧ (¬ (M2 this 6) ≤ (M2 this 7) → ∀ M3 : Mm, M3 = wr M2 this 7 ((M2 this 7) + 1) → K M3))) ∧ (p1 = 0 → ∀ M4 : Mm, M4 = wr M this 10 0 → K M4))
set_option maxHeartbeats 4000000 in
set_option maxRecDepth 100000 in
theorem c_X3_fill {l : Launch} {E : En} {M : Mm} {this : Nat} {p1 : Int32} {K : Mm → Prop}  (h : wp_X3_fill (eN E)  M this p1 K) : Ctr l E yX3_fill cX3_fill 2 none 0 [.ref (eA E this), .int p1] M (QV E K) := by
  refine Ctr.of (by decide +kernel) (Nat.le_of_ble_eq_true rfl) (fun g A hgl X => ?_)
  subst hgl
  have X : CX g cX3_fill RX3 none 0 E A 2 := X
  show AW g E A 2 _ 0 [(0, .ref (eA E this)), (1, .int p1)] [] M
  unfold wp_X3_fill at h
  obtain ⟨hthis, h⟩ := h
  refine aw_iload_n X dX3_fill_0 1 rfl ?_
  refine aw_if_ne (tgt := 10) X dX3_fill_1 (by decide) (fun c => ?_) (fun c => ?_)
  · have h := h.1 c
    refine aw_aload_n X dX3_fill_10 0 rfl ?_
    refine aw_dup X dX3_fill_11 rfl ?_
    refine aw_get X dX3_fill_12 (X.il hthis (by decide)) (sh_2 hthis _) fl_RX3_49 rfl ?_
    refine aw_iconst (v := 1) X dX3_fill_15 (by decide) ?_
    refine aw_iadd X dX3_fill_16 ?_
    refine aw_put X dX3_fill_17 (X.il hthis (by decide)) (sh_2 hthis _) fl_RX3_49 fw_3_10 (Nat.le_of_ble_eq_true rfl) (sp_2_10 hthis _ _) (fun M1 eM1 => ?_)
    have h := h M1 eM1
    refine aw_aload_n X dX3_fill_20 0 rfl ?_
    refine aw_get X dX3_fill_21 (X.il hthis (by decide)) (sh_2 hthis _) fl_RX3_49 rfl ?_
    refine aw_aload_n X dX3_fill_24 0 rfl ?_
    refine aw_get X dX3_fill_25 (X.il hthis (by decide)) (sh_2 hthis _) fl_RX3_34 rfl ?_
    refine aw_icmp_lt (tgt := 57) X dX3_fill_28 (by decide) (fun c => ?_) (fun c => ?_)
    · have h := h.1 c
      exact aw_vret X dX3_fill_57 h
    · have h := h.2 c
      refine aw_aload_n X dX3_fill_31 0 rfl ?_
      refine aw_iconst (v := 0) X dX3_fill_32 (by decide) ?_
      refine aw_put X dX3_fill_33 (X.il hthis (by decide)) (sh_2 hthis _) fl_RX3_49 fw_3_10 (Nat.le_of_ble_eq_true rfl) (sp_2_10 hthis _ _) (fun M2 eM2 => ?_)
      have h := h M2 eM2
      refine aw_aload_n X dX3_fill_36 0 rfl ?_
      refine aw_get X dX3_fill_37 (X.il hthis (by decide)) (sh_2 hthis _) fl_RX3_40 rfl ?_
      refine aw_aload_n X dX3_fill_40 0 rfl ?_
      refine aw_get X dX3_fill_41 (X.il hthis (by decide)) (sh_2 hthis _) fl_RX3_37 rfl ?_
      refine aw_icmp_ge (tgt := 57) X dX3_fill_44 (by decide) (fun c => ?_) (fun c => ?_)
      · have h := h.1 c
        exact aw_vret X dX3_fill_57 h
      · have h := h.2 c
        refine aw_aload_n X dX3_fill_47 0 rfl ?_
        refine aw_dup X dX3_fill_48 rfl ?_
        refine aw_get X dX3_fill_49 (X.il hthis (by decide)) (sh_2 hthis _) fl_RX3_40 rfl ?_
        refine aw_iconst (v := 1) X dX3_fill_52 (by decide) ?_
        refine aw_iadd X dX3_fill_53 ?_
        refine aw_put X dX3_fill_54 (X.il hthis (by decide)) (sh_2 hthis _) fl_RX3_40 fw_3_7 (Nat.le_of_ble_eq_true rfl) (sp_2_7 hthis _ _) (fun M3 eM3 => ?_)
        have h := h M3 eM3
        exact aw_vret X dX3_fill_57 h
  · have h := h.2 c
    refine aw_aload_n X dX3_fill_4 0 rfl ?_
    refine aw_iconst (v := 0) X dX3_fill_5 (by decide) ?_
    refine aw_put X dX3_fill_6 (X.il hthis (by decide)) (sh_2 hthis _) fl_RX3_49 fw_3_10 (Nat.le_of_ble_eq_true rfl) (sp_2_10 hthis _ _) (fun M4 eM4 => ?_)
    have h := h M4 eM4
    exact aw_vret X dX3_fill_9 h
def wl_X3_endMinute_24 (n : Nat) (this : Nat)  (K : Mm → Prop) : Nat → Mm → Int32 → Prop
  | 0, _, _ => False
  | k + 1, M, x1 => ((M this 4) ≤ x1 → K M) ∧ (¬ (M this 4) ≤ x1 → vp_in x1 8 ∧ (vp_in x1 8 ∧ (∀ M4 : Mm, M4 = wr M (this + 3 + 1 + x1.toNatClampNeg) 4 (M (this + 3 + 1 + x1.toNatClampNeg) 3) → ∀ v5 : Int32, v5 = x1 + 1 → wl_X3_endMinute_24 n this K k M4 v5)))
set_option maxHeartbeats 4000000 in
set_option maxRecDepth 100000 in
theorem lw_X3_endMinute_24 {g : Gm} {E : En} {A : Nat → Prop} {K : Mm → Prop} (X : CX g cX3_endMinute RX3 none 0 E A 2) (this : Nat)  (hthis : tp this = 2) : ∀ (k : Nat) (M : Mm) (x1 : Int32), wl_X3_endMinute_24 (eN E) this  K k M x1 → AW g E A 2 (MQ (gB g) (QV E K A) (gA g) (gS g) (gk g) (gn g) A) 24 [(0, .ref (eA E this)), (1, .int x1)] [] M := by
  intro k
  induction k with
  | zero => intro M x1 h; exact h.elim
  | succ k ih =>
    intro M x1 h
    rw [wl_X3_endMinute_24] at h
    refine aw_iload_n X dX3_endMinute_24 1 rfl ?_
    refine aw_aload_n X dX3_endMinute_25 0 rfl ?_
    refine aw_get X dX3_endMinute_26 (X.il hthis (by decide)) (sh_2 hthis _) fl_RX3_31 rfl ?_
    refine aw_icmp_ge (tgt := 56) X dX3_endMinute_29 (by decide) (fun c => ?_) (fun c => ?_)
    · have h := h.1 c
      exact aw_vret X dX3_endMinute_56 h
    · have h := h.2 c
      refine aw_aload_n X dX3_endMinute_32 0 rfl ?_
      refine aw_get X dX3_endMinute_33 (X.il hthis (by decide)) (sh_2 hthis _) fl_RX3_27 rfl ?_
      refine aw_iload_n X dX3_endMinute_36 1 rfl ?_
      obtain ⟨hin2, h⟩ := h
      refine aw_aald (t := 1) X dX3_endMinute_37 (X.il (ly_2_3 hthis) (by decide)) (sh_4 (ly_2_3 hthis) _) rfl hin2 rfl ?_
      refine aw_aload_n X dX3_endMinute_38 0 rfl ?_
      refine aw_get X dX3_endMinute_39 (X.il hthis (by decide)) (sh_2 hthis _) fl_RX3_27 rfl ?_
      refine aw_iload_n X dX3_endMinute_42 1 rfl ?_
      obtain ⟨hin3, h⟩ := h
      refine aw_aald (t := 1) X dX3_endMinute_43 (X.il (ly_2_3 hthis) (by decide)) (sh_4 (ly_2_3 hthis) _) rfl hin3 rfl ?_
      refine aw_get X dX3_endMinute_44 (X.il (ly_4e (ly_2_3 hthis) hin3) (by decide)) (sh_5 (ly_4e (ly_2_3 hthis) hin3) _) fl_RX3_182 rfl ?_
      refine aw_put X dX3_endMinute_47 (X.il (ly_4e (ly_2_3 hthis) hin2) (by decide)) (sh_5 (ly_4e (ly_2_3 hthis) hin2) _) fl_RX3_148 fw_0_4 (Nat.le_of_ble_eq_true rfl) (sp_5_4 (ly_4e (ly_2_3 hthis) hin2) _ _) (fun M4 eM4 => ?_)
      have h := h M4 eM4
      obtain ⟨v5, ev5⟩ : ∃ y : Int32, y = x1 + 1 := ⟨_, rfl⟩
      have h := h v5 ev5
      refine aw_iinc (v := v5) (lv' := [(1, .int v5), (0, .ref (eA E this))]) X dX3_endMinute_50 1 rfl (by rw [ev5]; rfl) (by decide) rfl ?_
      refine aw_goto (tgt := 24) X dX3_endMinute_53 (by decide) ?_
      exact aw_sub [1, 0] rfl (ih _ _ h)
def wp_X3_endMinute (n : Nat)  (M : Mm) (this : Nat) (K : Mm → Prop) : Prop := (tp this = 2) ∧ (∀ M1 : Mm, M1 = wr M this 11 ((M this 11) + 1) → ((jrem (M1 this 11) 1440) = 0 → ∃ kf : Nat, wl_X3_endMinute_24 n this K kf M1 0) ∧ (¬ (jrem (M1 this 11) 1440) = 0 → K M1))
set_option maxHeartbeats 4000000 in
set_option maxRecDepth 100000 in
theorem c_X3_endMinute {l : Launch} {E : En} {M : Mm} {this : Nat} {K : Mm → Prop}  (h : wp_X3_endMinute (eN E)  M this K) : Ctr l E yX3_endMinute cX3_endMinute 2 none 0 [.ref (eA E this)] M (QV E K) := by
  refine Ctr.of (by decide +kernel) (Nat.le_of_ble_eq_true rfl) (fun g A hgl X => ?_)
  subst hgl
  have X : CX g cX3_endMinute RX3 none 0 E A 2 := X
  show AW g E A 2 _ 0 [(0, .ref (eA E this))] [] M
  unfold wp_X3_endMinute at h
  obtain ⟨hthis, h⟩ := h
  refine aw_aload_n X dX3_endMinute_0 0 rfl ?_
  refine aw_dup X dX3_endMinute_1 rfl ?_
  refine aw_get X dX3_endMinute_2 (X.il hthis (by decide)) (sh_2 hthis _) fl_RX3_52 rfl ?_
  refine aw_iconst (v := 1) X dX3_endMinute_5 (by decide) ?_
  refine aw_iadd X dX3_endMinute_6 ?_
  refine aw_put X dX3_endMinute_7 (X.il hthis (by decide)) (sh_2 hthis _) fl_RX3_52 fw_3_11 (Nat.le_of_ble_eq_true rfl) (sp_2_11 hthis _ _) (fun M1 eM1 => ?_)
  have h := h M1 eM1
  refine aw_aload_n X dX3_endMinute_10 0 rfl ?_
  refine aw_get X dX3_endMinute_11 (X.il hthis (by decide)) (sh_2 hthis _) fl_RX3_52 rfl ?_
  refine aw_sipush (v := 1440) X dX3_endMinute_14 (by decide) ?_
  refine aw_irem X dX3_endMinute_17 (by decide) ?_
  refine aw_if_eq (tgt := 22) X dX3_endMinute_18 (by decide) (fun c => ?_) (fun c => ?_)
  · have h := h.1 c
    refine aw_iconst (v := 0) X dX3_endMinute_22 (by decide) ?_
    refine aw_istore_n (lv' := [(1, .int 0), (0, .ref (eA E this))]) X dX3_endMinute_23 (by decide) rfl ?_
    obtain ⟨kf, h⟩ := h
    exact aw_sub [1, 0] rfl (lw_X3_endMinute_24 X this hthis  kf _ _ h)
  · have h := h.2 c
    exact aw_vret X dX3_endMinute_21 h
def wb_X3_advance_112 (n : Nat) (this : Nat) (p1 : Int32) (Z4 : Mm → Int32 → Int32 → Prop) (K : Mm → Int32 → Prop) (M : Mm) (x2 : Int32) (x3 : Int32) (s0 : Int32) : Prop := wp_X3_fill n M this s0 (fun M16 => wp_X3_endMinute n M16 this (fun M18 => ∀ v20 : Int32, v20 = x3 + 1 → Z4 M18 x2 v20))
set_option maxHeartbeats 4000000 in
set_option maxRecDepth 100000 in
theorem lb_X3_advance_112 {g : Gm} {E : En} {A : Nat → Prop} {K : Mm → Int32 → Prop} (X : CX g cX3_advance RX3 (some .int) 5 E A 6) (this : Nat) (p1 : Int32)  (hthis : tp this = 2) {Z4 : Mm → Int32 → Int32 → Prop} (hZ4 : ∀ (M : Mm) (x2 : Int32) (x3 : Int32), Z4 M x2 x3 → AW g E A 6 (MQ (gB g) (QI E K A) (gA g) (gS g) (gk g) (gn g) A) 4 [(0, .ref (eA E this)), (1, .int p1), (2, .int x2), (3, .int x3)] [] M) (M : Mm) (x2 : Int32) (x3 : Int32) (s0 : Int32) (h : wb_X3_advance_112 (eN E) this p1 Z4 K M x2 x3 s0) : AW g E A 6 (MQ (gB g) (QI E K A) (gA g) (gS g) (gk g) (gn g) A) 112 [(0, .ref (eA E this)), (1, .int p1), (2, .int x2), (3, .int x3)] [.int s0, .ref (eA E this)] M := by
  unfold wb_X3_advance_112 at h
  refine ca_v X (rn_v X [.int s0] [] (X.il hthis (by decide)) (sh_2 hthis _) rfl rfl kw549 kw21 (c_X3_fill h) cal_yX3_fill kw547 (Nat.le_of_ble_eq_true rfl) rfl rfl (Nat.le_of_ble_eq_true rfl) dX3_advance_112) (fun M16 h => ?_)
  refine aw_aload_n X dX3_advance_115 0 rfl ?_
  refine ca_v X (rn_v X [] [] (X.il hthis (by decide)) (sh_2 hthis _) rfl rfl kw553 kw22 (c_X3_endMinute h) cal_yX3_endMinute kw551 (Nat.le_of_ble_eq_true rfl) rfl rfl (Nat.le_of_ble_eq_true rfl) dX3_advance_116) (fun M18 h => ?_)
  obtain ⟨v20, ev20⟩ : ∃ y : Int32, y = x3 + 1 := ⟨_, rfl⟩
  have h := h v20 ev20
  refine aw_iinc (v := v20) (lv' := [(3, .int v20), (0, .ref (eA E this)), (1, .int p1), (2, .int x2)]) X dX3_advance_119 3 rfl (by rw [ev20]; rfl) (by decide) rfl ?_
  refine aw_goto (tgt := 4) X dX3_advance_122 (by decide) ?_
  exact aw_sub [1, 2, 3, 0] rfl (hZ4 _ _ _ h)
def wb_X3_advance_111 (n : Nat) (this : Nat) (p1 : Int32) (Z4 : Mm → Int32 → Int32 → Prop) (K : Mm → Int32 → Prop) (M : Mm) (x2 : Int32) (x3 : Int32) : Prop := wb_X3_advance_112 n this p1 Z4 K M x2 x3 0
set_option maxHeartbeats 4000000 in
set_option maxRecDepth 100000 in
theorem lb_X3_advance_111 {g : Gm} {E : En} {A : Nat → Prop} {K : Mm → Int32 → Prop} (X : CX g cX3_advance RX3 (some .int) 5 E A 6) (this : Nat) (p1 : Int32)  (hthis : tp this = 2) {Z4 : Mm → Int32 → Int32 → Prop} (hZ4 : ∀ (M : Mm) (x2 : Int32) (x3 : Int32), Z4 M x2 x3 → AW g E A 6 (MQ (gB g) (QI E K A) (gA g) (gS g) (gk g) (gn g) A) 4 [(0, .ref (eA E this)), (1, .int p1), (2, .int x2), (3, .int x3)] [] M) (M : Mm) (x2 : Int32) (x3 : Int32) (h : wb_X3_advance_111 (eN E) this p1 Z4 K M x2 x3) : AW g E A 6 (MQ (gB g) (QI E K A) (gA g) (gS g) (gk g) (gn g) A) 111 [(0, .ref (eA E this)), (1, .int p1), (2, .int x2), (3, .int x3)] [.ref (eA E this)] M := by
  unfold wb_X3_advance_111 at h
  refine aw_iconst (v := 0) X dX3_advance_111 (by decide) ?_
  exact aw_sub [0, 1, 2, 3] rfl (lb_X3_advance_112 X this p1 hthis hZ4 _ _ _ _ h)
def wb_X3_advance_96 (n : Nat) (this : Nat) (p1 : Int32) (Z4 : Mm → Int32 → Int32 → Prop) (K : Mm → Int32 → Prop) (M : Mm) (x2 : Int32) (x3 : Int32) (x4 : Int32) (x5 : Int32) : Prop := (¬ x5 = 0 → wb_X3_advance_111 n this p1 Z4 K M x2 x3) ∧ (x5 = 0 → (¬ x4 = 0 → wb_X3_advance_111 n this p1 Z4 K M x2 x3) ∧ (x4 = 0 → wb_X3_advance_112 n this p1 Z4 K M x2 x3 1))
set_option maxHeartbeats 4000000 in
set_option maxRecDepth 100000 in
theorem lb_X3_advance_96 {g : Gm} {E : En} {A : Nat → Prop} {K : Mm → Int32 → Prop} (X : CX g cX3_advance RX3 (some .int) 5 E A 6) (this : Nat) (p1 : Int32)  (hthis : tp this = 2) {Z4 : Mm → Int32 → Int32 → Prop} (hZ4 : ∀ (M : Mm) (x2 : Int32) (x3 : Int32), Z4 M x2 x3 → AW g E A 6 (MQ (gB g) (QI E K A) (gA g) (gS g) (gk g) (gn g) A) 4 [(0, .ref (eA E this)), (1, .int p1), (2, .int x2), (3, .int x3)] [] M) (M : Mm) (x2 : Int32) (x3 : Int32) (x4 : Int32) (x5 : Int32) (h : wb_X3_advance_96 (eN E) this p1 Z4 K M x2 x3 x4 x5) : AW g E A 6 (MQ (gB g) (QI E K A) (gA g) (gS g) (gk g) (gn g) A) 96 [(0, .ref (eA E this)), (1, .int p1), (2, .int x2), (3, .int x3), (4, .int x4), (5, .int x5)] [] M := by
  unfold wb_X3_advance_96 at h
  refine aw_aload_n X dX3_advance_96 0 rfl ?_
  refine aw_iload X dX3_advance_97 5 rfl ?_
  refine aw_if_ne (tgt := 111) X dX3_advance_99 (by decide) (fun c => ?_) (fun c => ?_)
  · have h := h.1 c
    exact aw_sub [0, 1, 2, 3] rfl (lb_X3_advance_111 X this p1 hthis hZ4 _ _ _ h)
  · have h := h.2 c
    refine aw_iload X dX3_advance_102 4 rfl ?_
    refine aw_if_ne (tgt := 111) X dX3_advance_104 (by decide) (fun c => ?_) (fun c => ?_)
    · have h := h.1 c
      exact aw_sub [0, 1, 2, 3] rfl (lb_X3_advance_111 X this p1 hthis hZ4 _ _ _ h)
    · have h := h.2 c
      refine aw_iconst (v := 1) X dX3_advance_107 (by decide) ?_
      refine aw_goto (tgt := 112) X dX3_advance_108 (by decide) ?_
      exact aw_sub [0, 1, 2, 3] rfl (lb_X3_advance_112 X this p1 hthis hZ4 _ _ _ _ h)
def wb_X3_advance_86 (n : Nat) (this : Nat) (p1 : Int32) (Z4 : Mm → Int32 → Int32 → Prop) (K : Mm → Int32 → Prop) (M : Mm) (x2 : Int32) (x3 : Int32) (x4 : Int32) (s0 : Int32) : Prop := (s0 = 0 → wb_X3_advance_96 n this p1 Z4 K M x2 x3 x4 s0) ∧ (¬ s0 = 0 → ∀ v15 : Int32, v15 = x2 + 1 → wb_X3_advance_96 n this p1 Z4 K M v15 x3 x4 s0)
set_option maxHeartbeats 4000000 in
set_option maxRecDepth 100000 in
theorem lb_X3_advance_86 {g : Gm} {E : En} {A : Nat → Prop} {K : Mm → Int32 → Prop} (X : CX g cX3_advance RX3 (some .int) 5 E A 6) (this : Nat) (p1 : Int32)  (hthis : tp this = 2) {Z4 : Mm → Int32 → Int32 → Prop} (hZ4 : ∀ (M : Mm) (x2 : Int32) (x3 : Int32), Z4 M x2 x3 → AW g E A 6 (MQ (gB g) (QI E K A) (gA g) (gS g) (gk g) (gn g) A) 4 [(0, .ref (eA E this)), (1, .int p1), (2, .int x2), (3, .int x3)] [] M) (M : Mm) (x2 : Int32) (x3 : Int32) (x4 : Int32) (s0 : Int32) (h : wb_X3_advance_86 (eN E) this p1 Z4 K M x2 x3 x4 s0) : AW g E A 6 (MQ (gB g) (QI E K A) (gA g) (gS g) (gk g) (gn g) A) 86 [(0, .ref (eA E this)), (1, .int p1), (2, .int x2), (3, .int x3), (4, .int x4)] [.int s0] M := by
  unfold wb_X3_advance_86 at h
  refine aw_istore (lv' := [(5, .int s0), (0, .ref (eA E this)), (1, .int p1), (2, .int x2), (3, .int x3), (4, .int x4)]) X dX3_advance_86 (by decide) rfl ?_
  refine aw_iload X dX3_advance_88 0 rfl ?_
  refine aw_if_eq (tgt := 96) X dX3_advance_90 (by decide) (fun c => ?_) (fun c => ?_)
  · have h := h.1 c
    exact aw_sub [1, 2, 3, 4, 5, 0] rfl (lb_X3_advance_96 X this p1 hthis hZ4 _ _ _ _ _ h)
  · have h := h.2 c
    obtain ⟨v15, ev15⟩ : ∃ y : Int32, y = x2 + 1 := ⟨_, rfl⟩
    have h := h v15 ev15
    refine aw_iinc (v := v15) (lv' := [(2, .int v15), (5, .int s0), (0, .ref (eA E this)), (1, .int p1), (3, .int x3), (4, .int x4)]) X dX3_advance_93 3 rfl (by rw [ev15]; rfl) (by decide) rfl ?_
    exact aw_sub [2, 3, 0, 4, 5, 1] rfl (lb_X3_advance_96 X this p1 hthis hZ4 _ _ _ _ _ h)
def wl_X3_advance_21 (n : Nat) (this : Nat) (p1 : Int32) (Z4 : Mm → Int32 → Int32 → Prop) (K : Mm → Int32 → Prop) : Nat → Mm → Int32 → Int32 → Int32 → Prop
  | 0, _, _, _, _ => False
  | k + 1, M, x2, x3, x4 => ((M this 4) ≤ x4 → wp_X3_letLeave n M this (fun M1 => wp_X3_letCome n M1 this (fun M3 r4 => wp_X3_letWait n M3 this (fun M5 => wp_X3_letReachHome n M5 this (fun M7 => wp_X3_standing n M7 this (fun M9 r10 => (r10 ≤ 0 → wb_X3_advance_86 n this p1 Z4 K M9 x2 x3 r4 0) ∧ (¬ r10 ≤ 0 → wb_X3_advance_86 n this p1 Z4 K M9 x2 x3 r4 1))))))) ∧ (¬ (M this 4) ≤ x4 → vp_in x4 8 ∧ (vp_in x4 8 ∧ (∀ M13 : Mm, M13 = wr M (this + 3 + 1 + x4.toNatClampNeg) 12 (M (this + 3 + 1 + x4.toNatClampNeg) 5) → ∀ v14 : Int32, v14 = x4 + 1 → wl_X3_advance_21 n this p1 Z4 K k M13 x2 x3 v14)))
set_option maxHeartbeats 4000000 in
set_option maxRecDepth 100000 in
theorem lw_X3_advance_21 {g : Gm} {E : En} {A : Nat → Prop} {K : Mm → Int32 → Prop} (X : CX g cX3_advance RX3 (some .int) 5 E A 6) (this : Nat) (p1 : Int32)  (hthis : tp this = 2) {Z4 : Mm → Int32 → Int32 → Prop} (hZ4 : ∀ (M : Mm) (x2 : Int32) (x3 : Int32), Z4 M x2 x3 → AW g E A 6 (MQ (gB g) (QI E K A) (gA g) (gS g) (gk g) (gn g) A) 4 [(0, .ref (eA E this)), (1, .int p1), (2, .int x2), (3, .int x3)] [] M) : ∀ (k : Nat) (M : Mm) (x2 : Int32) (x3 : Int32) (x4 : Int32), wl_X3_advance_21 (eN E) this p1 Z4 K k M x2 x3 x4 → AW g E A 6 (MQ (gB g) (QI E K A) (gA g) (gS g) (gk g) (gn g) A) 21 [(0, .ref (eA E this)), (1, .int p1), (2, .int x2), (3, .int x3), (4, .int x4)] [] M := by
  intro k
  induction k with
  | zero => intro M x2 x3 x4 h; exact h.elim
  | succ k ih =>
    intro M x2 x3 x4 h
    rw [wl_X3_advance_21] at h
    refine aw_iload X dX3_advance_21 4 rfl ?_
    refine aw_aload_n X dX3_advance_23 0 rfl ?_
    refine aw_get X dX3_advance_24 (X.il hthis (by decide)) (sh_2 hthis _) fl_RX3_31 rfl ?_
    refine aw_icmp_ge (tgt := 56) X dX3_advance_27 (by decide) (fun c => ?_) (fun c => ?_)
    · have h := h.1 c
      refine aw_aload_n X dX3_advance_56 0 rfl ?_
      refine ca_v X (rn_v X [] [] (X.il hthis (by decide)) (sh_2 hthis _) rfl rfl kw521 kw15 (c_X3_letLeave h) cal_yX3_letLeave kw519 (Nat.le_of_ble_eq_true rfl) rfl rfl (Nat.le_of_ble_eq_true rfl) dX3_advance_57) (fun M1 h => ?_)
      refine aw_aload_n X dX3_advance_60 0 rfl ?_
      refine ca_i X (rn_v X [] [] (X.il hthis (by decide)) (sh_2 hthis _) rfl rfl kw527 kw16 (c_X3_letCome h) cal_yX3_letCome kw525 (Nat.le_of_ble_eq_true rfl) rfl rfl (Nat.le_of_ble_eq_true rfl) dX3_advance_61) (fun M3 r4 h => ?_)
      refine aw_istore (lv' := [(4, .int r4), (0, .ref (eA E this)), (1, .int p1), (2, .int x2), (3, .int x3)]) X dX3_advance_64 (by decide) rfl ?_
      refine aw_aload_n X dX3_advance_66 1 rfl ?_
      refine ca_v X (rn_v X [] [] (X.il hthis (by decide)) (sh_2 hthis _) rfl rfl kw541 kw19 (c_X3_letWait h) cal_yX3_letWait kw539 (Nat.le_of_ble_eq_true rfl) rfl rfl (Nat.le_of_ble_eq_true rfl) dX3_advance_67) (fun M5 h => ?_)
      refine aw_aload_n X dX3_advance_70 1 rfl ?_
      refine ca_v X (rn_v X [] [] (X.il hthis (by decide)) (sh_2 hthis _) rfl rfl kw545 kw20 (c_X3_letReachHome h) cal_yX3_letReachHome kw543 (Nat.le_of_ble_eq_true rfl) rfl rfl (Nat.le_of_ble_eq_true rfl) dX3_advance_71) (fun M7 h => ?_)
      refine aw_aload_n X dX3_advance_74 1 rfl ?_
      refine ca_i X (rn_v X [] [] (X.il hthis (by decide)) (sh_2 hthis _) rfl rfl kw432 kw5 (c_X3_standing h) cal_yX3_standing kw430 (Nat.le_of_ble_eq_true rfl) rfl rfl (Nat.le_of_ble_eq_true rfl) dX3_advance_75) (fun M9 r10 h => ?_)
      refine aw_if_le (tgt := 85) X dX3_advance_78 (by decide) (fun c => ?_) (fun c => ?_)
      · have h := h.1 c
        refine aw_iconst (v := 0) X dX3_advance_85 (by decide) ?_
        exact aw_sub [1, 2, 3, 4, 0] rfl (lb_X3_advance_86 X this p1 hthis hZ4 _ _ _ _ _ h)
      · have h := h.2 c
        refine aw_iconst (v := 1) X dX3_advance_81 (by decide) ?_
        refine aw_goto (tgt := 86) X dX3_advance_82 (by decide) ?_
        exact aw_sub [1, 2, 3, 4, 0] rfl (lb_X3_advance_86 X this p1 hthis hZ4 _ _ _ _ _ h)
    · have h := h.2 c
      refine aw_aload_n X dX3_advance_30 0 rfl ?_
      refine aw_get X dX3_advance_31 (X.il hthis (by decide)) (sh_2 hthis _) fl_RX3_27 rfl ?_
      refine aw_iload X dX3_advance_34 4 rfl ?_
      obtain ⟨hin11, h⟩ := h
      refine aw_aald (t := 1) X dX3_advance_36 (X.il (ly_2_3 hthis) (by decide)) (sh_4 (ly_2_3 hthis) _) rfl hin11 rfl ?_
      refine aw_aload_n X dX3_advance_37 0 rfl ?_
      refine aw_get X dX3_advance_38 (X.il hthis (by decide)) (sh_2 hthis _) fl_RX3_27 rfl ?_
      refine aw_iload X dX3_advance_41 4 rfl ?_
      obtain ⟨hin12, h⟩ := h
      refine aw_aald (t := 1) X dX3_advance_43 (X.il (ly_2_3 hthis) (by decide)) (sh_4 (ly_2_3 hthis) _) rfl hin12 rfl ?_
      refine aw_get X dX3_advance_44 (X.il (ly_4e (ly_2_3 hthis) hin12) (by decide)) (sh_5 (ly_4e (ly_2_3 hthis) hin12) _) fl_RX3_84 rfl ?_
      refine aw_put X dX3_advance_47 (X.il (ly_4e (ly_2_3 hthis) hin11) (by decide)) (sh_5 (ly_4e (ly_2_3 hthis) hin11) _) fl_RX3_125 fw_0_12 (Nat.le_of_ble_eq_true rfl) (sp_5_12 (ly_4e (ly_2_3 hthis) hin11) _ _) (fun M13 eM13 => ?_)
      have h := h M13 eM13
      obtain ⟨v14, ev14⟩ : ∃ y : Int32, y = x4 + 1 := ⟨_, rfl⟩
      have h := h v14 ev14
      refine aw_iinc (v := v14) (lv' := [(4, .int v14), (0, .ref (eA E this)), (1, .int p1), (2, .int x2), (3, .int x3)]) X dX3_advance_50 4 rfl (by rw [ev14]; rfl) (by decide) rfl ?_
      refine aw_goto (tgt := 21) X dX3_advance_53 (by decide) ?_
      exact aw_sub [1, 2, 3, 4, 0] rfl (ih _ _ _ _ h)
def wl_X3_advance_4 (n : Nat) (this : Nat) (p1 : Int32)  (K : Mm → Int32 → Prop) : Nat → Mm → Int32 → Int32 → Prop
  | 0, _, _, _ => False
  | k + 1, M, x2, x3 => (p1 ≤ x3 → K M x2) ∧ (¬ p1 ≤ x3 → (99999 ≤ (M this 11) → K M x2) ∧ (¬ 99999 ≤ (M this 11) → ∃ kf : Nat, wl_X3_advance_21 n this p1 (fun M x2 x3 => wl_X3_advance_4 n this p1 K k M x2 x3) K kf M x2 x3 0))
set_option maxHeartbeats 4000000 in
set_option maxRecDepth 100000 in
theorem lw_X3_advance_4 {g : Gm} {E : En} {A : Nat → Prop} {K : Mm → Int32 → Prop} (X : CX g cX3_advance RX3 (some .int) 5 E A 6) (this : Nat) (p1 : Int32)  (hthis : tp this = 2) : ∀ (k : Nat) (M : Mm) (x2 : Int32) (x3 : Int32), wl_X3_advance_4 (eN E) this p1  K k M x2 x3 → AW g E A 6 (MQ (gB g) (QI E K A) (gA g) (gS g) (gk g) (gn g) A) 4 [(0, .ref (eA E this)), (1, .int p1), (2, .int x2), (3, .int x3)] [] M := by
  intro k
  induction k with
  | zero => intro M x2 x3 h; exact h.elim
  | succ k ih =>
    intro M x2 x3 h
    rw [wl_X3_advance_4] at h
    refine aw_iload_n X dX3_advance_4 3 rfl ?_
    refine aw_iload_n X dX3_advance_5 1 rfl ?_
    refine aw_icmp_ge (tgt := 125) X dX3_advance_6 (by decide) (fun c => ?_) (fun c => ?_)
    · have h := h.1 c
      refine aw_iload_n X dX3_advance_125 2 rfl ?_
      exact aw_iret X dX3_advance_126 h
    · have h := h.2 c
      refine aw_aload_n X dX3_advance_9 0 rfl ?_
      refine aw_get X dX3_advance_10 (X.il hthis (by decide)) (sh_2 hthis _) fl_RX3_52 rfl ?_
      refine aw_ldc (v := 99999) X dX3_advance_13 kw518 ?_
      refine aw_icmp_ge (tgt := 125) X dX3_advance_15 (by decide) (fun c => ?_) (fun c => ?_)
      · have h := h.1 c
        refine aw_iload_n X dX3_advance_125 2 rfl ?_
        exact aw_iret X dX3_advance_126 h
      · have h := h.2 c
        refine aw_iconst (v := 0) X dX3_advance_18 (by decide) ?_
        refine aw_istore (lv' := [(4, .int 0), (0, .ref (eA E this)), (1, .int p1), (2, .int x2), (3, .int x3)]) X dX3_advance_19 (by decide) rfl ?_
        obtain ⟨kf, h⟩ := h
        exact aw_sub [1, 2, 3, 4, 0] rfl (lw_X3_advance_21 X this p1 hthis ih kf _ _ _ _ h)
def wp_X3_advance (n : Nat)  (M : Mm) (this : Nat) (p1 : Int32) (K : Mm → Int32 → Prop) : Prop := (tp this = 2) ∧ (∃ kf : Nat, wl_X3_advance_4 n this p1 K kf M 0 0)
set_option maxHeartbeats 4000000 in
set_option maxRecDepth 100000 in
theorem c_X3_advance {l : Launch} {E : En} {M : Mm} {this : Nat} {p1 : Int32} {K : Mm → Int32 → Prop}  (h : wp_X3_advance (eN E)  M this p1 K) : Ctr l E yX3_advance cX3_advance 6 (some .int) 5 [.ref (eA E this), .int p1] M (QI E K) := by
  refine Ctr.of (by decide +kernel) (Nat.le_of_ble_eq_true rfl) (fun g A hgl X => ?_)
  subst hgl
  have X : CX g cX3_advance RX3 (some .int) 5 E A 6 := X
  show AW g E A 6 _ 0 [(0, .ref (eA E this)), (1, .int p1)] [] M
  unfold wp_X3_advance at h
  obtain ⟨hthis, h⟩ := h
  refine aw_iconst (v := 0) X dX3_advance_0 (by decide) ?_
  refine aw_istore_n (lv' := [(2, .int 0), (0, .ref (eA E this)), (1, .int p1)]) X dX3_advance_1 (by decide) rfl ?_
  refine aw_iconst (v := 0) X dX3_advance_2 (by decide) ?_
  refine aw_istore_n (lv' := [(3, .int 0), (2, .int 0), (0, .ref (eA E this)), (1, .int p1)]) X dX3_advance_3 (by decide) rfl ?_
  obtain ⟨kf, h⟩ := h
  exact aw_sub [2, 3, 1, 0] rfl (lw_X3_advance_4 X this p1 hthis  kf _ _ _ h)
def wl_X3_gotOfAll_4 (n : Nat) (this : Nat)  (K : Mm → Int32 → Prop) : Nat → Mm → Int32 → Int32 → Prop
  | 0, _, _, _ => False
  | k + 1, M, x1, x2 => ((M this 4) ≤ x2 → K M x1) ∧ (¬ (M this 4) ≤ x2 → vp_in x2 8 ∧ (∀ v2 : Int32, v2 = x1 + (M (this + 3 + 1 + x2.toNatClampNeg) 9) → ∀ v3 : Int32, v3 = x2 + 1 → wl_X3_gotOfAll_4 n this K k M v2 v3))
set_option maxHeartbeats 4000000 in
set_option maxRecDepth 100000 in
theorem lw_X3_gotOfAll_4 {g : Gm} {E : En} {A : Nat → Prop} {K : Mm → Int32 → Prop} (X : CX g cX3_gotOfAll RX3 (some .int) 0 E A 3) (this : Nat)  (hthis : tp this = 2) : ∀ (k : Nat) (M : Mm) (x1 : Int32) (x2 : Int32), wl_X3_gotOfAll_4 (eN E) this  K k M x1 x2 → AW g E A 3 (MQ (gB g) (QI E K A) (gA g) (gS g) (gk g) (gn g) A) 4 [(0, .ref (eA E this)), (1, .int x1), (2, .int x2)] [] M := by
  intro k
  induction k with
  | zero => intro M x1 x2 h; exact h.elim
  | succ k ih =>
    intro M x1 x2 h
    rw [wl_X3_gotOfAll_4] at h
    refine aw_iload_n X dX3_gotOfAll_4 2 rfl ?_
    refine aw_aload_n X dX3_gotOfAll_5 0 rfl ?_
    refine aw_get X dX3_gotOfAll_6 (X.il hthis (by decide)) (sh_2 hthis _) fl_RX3_31 rfl ?_
    refine aw_icmp_ge (tgt := 30) X dX3_gotOfAll_9 (by decide) (fun c => ?_) (fun c => ?_)
    · have h := h.1 c
      refine aw_iload_n X dX3_gotOfAll_30 1 rfl ?_
      exact aw_iret X dX3_gotOfAll_31 h
    · have h := h.2 c
      refine aw_iload_n X dX3_gotOfAll_12 1 rfl ?_
      refine aw_aload_n X dX3_gotOfAll_13 0 rfl ?_
      refine aw_get X dX3_gotOfAll_14 (X.il hthis (by decide)) (sh_2 hthis _) fl_RX3_27 rfl ?_
      refine aw_iload_n X dX3_gotOfAll_17 2 rfl ?_
      obtain ⟨hin1, h⟩ := h
      refine aw_aald (t := 1) X dX3_gotOfAll_18 (X.il (ly_2_3 hthis) (by decide)) (sh_4 (ly_2_3 hthis) _) rfl hin1 rfl ?_
      refine aw_get X dX3_gotOfAll_19 (X.il (ly_4e (ly_2_3 hthis) hin1) (by decide)) (sh_5 (ly_4e (ly_2_3 hthis) hin1) _) fl_RX3_87 rfl ?_
      refine aw_iadd X dX3_gotOfAll_22 ?_
      refine aw_top (fun v2 ev2 => ?_)
      have h := h v2 ev2
      refine aw_istore_n (lv' := [(1, .int v2), (0, .ref (eA E this)), (2, .int x2)]) X dX3_gotOfAll_23 (by decide) rfl ?_
      obtain ⟨v3, ev3⟩ : ∃ y : Int32, y = x2 + 1 := ⟨_, rfl⟩
      have h := h v3 ev3
      refine aw_iinc (v := v3) (lv' := [(2, .int v3), (1, .int v2), (0, .ref (eA E this))]) X dX3_gotOfAll_24 2 rfl (by rw [ev3]; rfl) (by decide) rfl ?_
      refine aw_goto (tgt := 4) X dX3_gotOfAll_27 (by decide) ?_
      exact aw_sub [2, 1, 0] rfl (ih _ _ _ h)
def wp_X3_gotOfAll (n : Nat)  (M : Mm) (this : Nat) (K : Mm → Int32 → Prop) : Prop := (tp this = 2) ∧ (∃ kf : Nat, wl_X3_gotOfAll_4 n this K kf M 0 0)
set_option maxHeartbeats 4000000 in
set_option maxRecDepth 100000 in
theorem c_X3_gotOfAll {l : Launch} {E : En} {M : Mm} {this : Nat} {K : Mm → Int32 → Prop}  (h : wp_X3_gotOfAll (eN E)  M this K) : Ctr l E yX3_gotOfAll cX3_gotOfAll 3 (some .int) 0 [.ref (eA E this)] M (QI E K) := by
  refine Ctr.of (by decide +kernel) (Nat.le_of_ble_eq_true rfl) (fun g A hgl X => ?_)
  subst hgl
  have X : CX g cX3_gotOfAll RX3 (some .int) 0 E A 3 := X
  show AW g E A 3 _ 0 [(0, .ref (eA E this))] [] M
  unfold wp_X3_gotOfAll at h
  obtain ⟨hthis, h⟩ := h
  refine aw_iconst (v := 0) X dX3_gotOfAll_0 (by decide) ?_
  refine aw_istore_n (lv' := [(1, .int 0), (0, .ref (eA E this))]) X dX3_gotOfAll_1 (by decide) rfl ?_
  refine aw_iconst (v := 0) X dX3_gotOfAll_2 (by decide) ?_
  refine aw_istore_n (lv' := [(2, .int 0), (1, .int 0), (0, .ref (eA E this))]) X dX3_gotOfAll_3 (by decide) rfl ?_
  obtain ⟨kf, h⟩ := h
  exact aw_sub [2, 1, 0] rfl (lw_X3_gotOfAll_4 X this hthis  kf _ _ _ h)
def wp_X0_become (n : Nat)  (M : Mm) (this : Nat) (p1 : Nat) (K : Mm → Prop) : Prop := (tp this = 5) ∧ ((tp p1 = 5) ∧ (∀ M1 : Mm, M1 = wr M this 0 (M p1 0) → ∀ M2 : Mm, M2 = wr M1 this 1 (M1 p1 1) → ∀ M3 : Mm, M3 = wr M2 this 2 (M2 p1 2) → ∀ M4 : Mm, M4 = wr M3 this 3 (M3 p1 3) → ∀ M5 : Mm, M5 = wr M4 this 4 (M4 p1 4) → ∀ M6 : Mm, M6 = wr M5 this 5 (M5 p1 5) → ∀ M7 : Mm, M7 = wr M6 this 6 (M6 p1 6) → ∀ M8 : Mm, M8 = wr M7 this 7 (M7 p1 7) → ∀ M9 : Mm, M9 = wr M8 this 8 (M8 p1 8) → ∀ M10 : Mm, M10 = wr M9 this 9 (M9 p1 9) → ∀ M11 : Mm, M11 = wr M10 this 10 (M10 p1 10) → ∀ M12 : Mm, M12 = wr M11 this 11 (M11 p1 11) → K M12))
set_option maxHeartbeats 4000000 in
set_option maxRecDepth 100000 in
theorem c_X0_become {l : Launch} {E : En} {M : Mm} {this : Nat} {p1 : Nat} {K : Mm → Prop}  (h : wp_X0_become (eN E)  M this p1 K) : Ctr l E yX0_become cX0_become 2 none 0 [.ref (eA E this), .ref (eA E p1)] M (QV E K) := by
  refine Ctr.of (by decide +kernel) (Nat.le_of_ble_eq_true rfl) (fun g A hgl X => ?_)
  subst hgl
  have X : CX g cX0_become RX0 none 0 E A 2 := X
  show AW g E A 2 _ 0 [(0, .ref (eA E this)), (1, .ref (eA E p1))] [] M
  unfold wp_X0_become at h
  obtain ⟨hthis, h⟩ := h
  obtain ⟨hp1, h⟩ := h
  refine aw_aload_n X dX0_become_0 0 rfl ?_
  refine aw_aload_n X dX0_become_1 1 rfl ?_
  refine aw_get X dX0_become_2 (X.il hp1 (by decide)) (sh_5 hp1 _) fl_RX0_9 rfl ?_
  refine aw_put X dX0_become_5 (X.il hthis (by decide)) (sh_5 hthis _) fl_RX0_9 fw_0_0 (Nat.le_of_ble_eq_true rfl) (sp_5_0 hthis _ _) (fun M1 eM1 => ?_)
  have h := h M1 eM1
  refine aw_aload_n X dX0_become_8 0 rfl ?_
  refine aw_aload_n X dX0_become_9 1 rfl ?_
  refine aw_get X dX0_become_10 (X.il hp1 (by decide)) (sh_5 hp1 _) fl_RX0_15 rfl ?_
  refine aw_put X dX0_become_13 (X.il hthis (by decide)) (sh_5 hthis _) fl_RX0_15 fw_0_1 (Nat.le_of_ble_eq_true rfl) (sp_5_1 hthis _ _) (fun M2 eM2 => ?_)
  have h := h M2 eM2
  refine aw_aload_n X dX0_become_16 0 rfl ?_
  refine aw_aload_n X dX0_become_17 1 rfl ?_
  refine aw_get X dX0_become_18 (X.il hp1 (by decide)) (sh_5 hp1 _) fl_RX0_18 rfl ?_
  refine aw_put X dX0_become_21 (X.il hthis (by decide)) (sh_5 hthis _) fl_RX0_18 fw_0_2 (Nat.le_of_ble_eq_true rfl) (sp_5_2 hthis _ _) (fun M3 eM3 => ?_)
  have h := h M3 eM3
  refine aw_aload_n X dX0_become_24 0 rfl ?_
  refine aw_aload_n X dX0_become_25 1 rfl ?_
  refine aw_get X dX0_become_26 (X.il hp1 (by decide)) (sh_5 hp1 _) fl_RX0_21 rfl ?_
  refine aw_put X dX0_become_29 (X.il hthis (by decide)) (sh_5 hthis _) fl_RX0_21 fw_0_3 (Nat.le_of_ble_eq_true rfl) (sp_5_3 hthis _ _) (fun M4 eM4 => ?_)
  have h := h M4 eM4
  refine aw_aload_n X dX0_become_32 0 rfl ?_
  refine aw_aload_n X dX0_become_33 1 rfl ?_
  refine aw_get X dX0_become_34 (X.il hp1 (by decide)) (sh_5 hp1 _) fl_RX0_24 rfl ?_
  refine aw_put X dX0_become_37 (X.il hthis (by decide)) (sh_5 hthis _) fl_RX0_24 fw_0_4 (Nat.le_of_ble_eq_true rfl) (sp_5_4 hthis _ _) (fun M5 eM5 => ?_)
  have h := h M5 eM5
  refine aw_aload_n X dX0_become_40 0 rfl ?_
  refine aw_aload_n X dX0_become_41 1 rfl ?_
  refine aw_get X dX0_become_42 (X.il hp1 (by decide)) (sh_5 hp1 _) fl_RX0_27 rfl ?_
  refine aw_put X dX0_become_45 (X.il hthis (by decide)) (sh_5 hthis _) fl_RX0_27 fw_0_5 (Nat.le_of_ble_eq_true rfl) (sp_5_5 hthis _ _) (fun M6 eM6 => ?_)
  have h := h M6 eM6
  refine aw_aload_n X dX0_become_48 0 rfl ?_
  refine aw_aload_n X dX0_become_49 1 rfl ?_
  refine aw_get X dX0_become_50 (X.il hp1 (by decide)) (sh_5 hp1 _) fl_RX0_30 rfl ?_
  refine aw_put X dX0_become_53 (X.il hthis (by decide)) (sh_5 hthis _) fl_RX0_30 fw_0_6 (Nat.le_of_ble_eq_true rfl) (sp_5_6 hthis _ _) (fun M7 eM7 => ?_)
  have h := h M7 eM7
  refine aw_aload_n X dX0_become_56 0 rfl ?_
  refine aw_aload_n X dX0_become_57 1 rfl ?_
  refine aw_get X dX0_become_58 (X.il hp1 (by decide)) (sh_5 hp1 _) fl_RX0_33 rfl ?_
  refine aw_put X dX0_become_61 (X.il hthis (by decide)) (sh_5 hthis _) fl_RX0_33 fw_0_7 (Nat.le_of_ble_eq_true rfl) (sp_5_7 hthis _ _) (fun M8 eM8 => ?_)
  have h := h M8 eM8
  refine aw_aload_n X dX0_become_64 0 rfl ?_
  refine aw_aload_n X dX0_become_65 1 rfl ?_
  refine aw_get X dX0_become_66 (X.il hp1 (by decide)) (sh_5 hp1 _) fl_RX0_36 rfl ?_
  refine aw_put X dX0_become_69 (X.il hthis (by decide)) (sh_5 hthis _) fl_RX0_36 fw_0_8 (Nat.le_of_ble_eq_true rfl) (sp_5_8 hthis _ _) (fun M9 eM9 => ?_)
  have h := h M9 eM9
  refine aw_aload_n X dX0_become_72 0 rfl ?_
  refine aw_aload_n X dX0_become_73 1 rfl ?_
  refine aw_get X dX0_become_74 (X.il hp1 (by decide)) (sh_5 hp1 _) fl_RX0_39 rfl ?_
  refine aw_put X dX0_become_77 (X.il hthis (by decide)) (sh_5 hthis _) fl_RX0_39 fw_0_9 (Nat.le_of_ble_eq_true rfl) (sp_5_9 hthis _ _) (fun M10 eM10 => ?_)
  have h := h M10 eM10
  refine aw_aload_n X dX0_become_80 0 rfl ?_
  refine aw_aload_n X dX0_become_81 1 rfl ?_
  refine aw_get X dX0_become_82 (X.il hp1 (by decide)) (sh_5 hp1 _) fl_RX0_42 rfl ?_
  refine aw_put X dX0_become_85 (X.il hthis (by decide)) (sh_5 hthis _) fl_RX0_42 fw_0_10 (Nat.le_of_ble_eq_true rfl) (sp_5_10 hthis _ _) (fun M11 eM11 => ?_)
  have h := h M11 eM11
  refine aw_aload_n X dX0_become_88 0 rfl ?_
  refine aw_aload_n X dX0_become_89 1 rfl ?_
  refine aw_get X dX0_become_90 (X.il hp1 (by decide)) (sh_5 hp1 _) fl_RX0_45 rfl ?_
  refine aw_put X dX0_become_93 (X.il hthis (by decide)) (sh_5 hthis _) fl_RX0_45 fw_0_11 (Nat.le_of_ble_eq_true rfl) (sp_5_11 hthis _ _) (fun M12 eM12 => ?_)
  have h := h M12 eM12
  exact aw_vret X dX0_become_96 h
def wl_X3_become_60 (n : Nat) (this : Nat) (p1 : Nat)  (K : Mm → Prop) : Nat → Mm → Int32 → Prop
  | 0, _, _ => False
  | k + 1, M, x2 => ((M this 4) ≤ x2 → ∀ M8 : Mm, M8 = wr M this 5 (M p1 5) → ∀ M9 : Mm, M9 = wr M8 this 6 (M8 p1 6) → ∀ M10 : Mm, M10 = wr M9 this 7 (M9 p1 7) → ∀ M11 : Mm, M11 = wr M10 this 8 (M10 p1 8) → ∀ M12 : Mm, M12 = wr M11 this 9 (M11 p1 9) → ∀ M13 : Mm, M13 = wr M12 this 10 (M12 p1 10) → ∀ M14 : Mm, M14 = wr M13 this 11 (M13 p1 11) → ∀ M15 : Mm, M15 = wr M14 this 12 (M14 p1 12) → ∀ M16 : Mm, M16 = wr M15 this 13 (M15 p1 13) → K M16) ∧ (¬ (M this 4) ≤ x2 → vp_in x2 8 ∧ (vp_in x2 8 ∧ (wp_X0_become n M (this + 3 + 1 + x2.toNatClampNeg) (p1 + 3 + 1 + x2.toNatClampNeg) (fun M19 => ∀ v21 : Int32, v21 = x2 + 1 → wl_X3_become_60 n this p1 K k M19 v21))))
set_option maxHeartbeats 4000000 in
set_option maxRecDepth 100000 in
theorem lw_X3_become_60 {g : Gm} {E : En} {A : Nat → Prop} {K : Mm → Prop} (X : CX g cX3_become RX3 none 1 E A 3) (this : Nat) (p1 : Nat)  (hthis : tp this = 2) (hp1 : tp p1 = 2) : ∀ (k : Nat) (M : Mm) (x2 : Int32), wl_X3_become_60 (eN E) this p1  K k M x2 → AW g E A 3 (MQ (gB g) (QV E K A) (gA g) (gS g) (gk g) (gn g) A) 60 [(0, .ref (eA E this)), (1, .ref (eA E p1)), (2, .int x2)] [] M := by
  intro k
  induction k with
  | zero => intro M x2 h; exact h.elim
  | succ k ih =>
    intro M x2 h
    rw [wl_X3_become_60] at h
    refine aw_iload_n X dX3_become_60 2 rfl ?_
    refine aw_aload_n X dX3_become_61 0 rfl ?_
    refine aw_get X dX3_become_62 (X.il hthis (by decide)) (sh_2 hthis _) fl_RX3_31 rfl ?_
    refine aw_icmp_ge (tgt := 89) X dX3_become_65 (by decide) (fun c => ?_) (fun c => ?_)
    · have h := h.1 c
      refine aw_aload_n X dX3_become_89 0 rfl ?_
      refine aw_aload_n X dX3_become_90 1 rfl ?_
      refine aw_get X dX3_become_91 (X.il hp1 (by decide)) (sh_2 hp1 _) fl_RX3_34 rfl ?_
      refine aw_put X dX3_become_94 (X.il hthis (by decide)) (sh_2 hthis _) fl_RX3_34 fw_3_5 (Nat.le_of_ble_eq_true rfl) (sp_2_5 hthis _ _) (fun M8 eM8 => ?_)
      have h := h M8 eM8
      refine aw_aload_n X dX3_become_97 0 rfl ?_
      refine aw_aload_n X dX3_become_98 1 rfl ?_
      refine aw_get X dX3_become_99 (X.il hp1 (by decide)) (sh_2 hp1 _) fl_RX3_37 rfl ?_
      refine aw_put X dX3_become_102 (X.il hthis (by decide)) (sh_2 hthis _) fl_RX3_37 fw_3_6 (Nat.le_of_ble_eq_true rfl) (sp_2_6 hthis _ _) (fun M9 eM9 => ?_)
      have h := h M9 eM9
      refine aw_aload_n X dX3_become_105 0 rfl ?_
      refine aw_aload_n X dX3_become_106 1 rfl ?_
      refine aw_get X dX3_become_107 (X.il hp1 (by decide)) (sh_2 hp1 _) fl_RX3_40 rfl ?_
      refine aw_put X dX3_become_110 (X.il hthis (by decide)) (sh_2 hthis _) fl_RX3_40 fw_3_7 (Nat.le_of_ble_eq_true rfl) (sp_2_7 hthis _ _) (fun M10 eM10 => ?_)
      have h := h M10 eM10
      refine aw_aload_n X dX3_become_113 0 rfl ?_
      refine aw_aload_n X dX3_become_114 1 rfl ?_
      refine aw_get X dX3_become_115 (X.il hp1 (by decide)) (sh_2 hp1 _) fl_RX3_43 rfl ?_
      refine aw_put X dX3_become_118 (X.il hthis (by decide)) (sh_2 hthis _) fl_RX3_43 fw_3_8 (Nat.le_of_ble_eq_true rfl) (sp_2_8 hthis _ _) (fun M11 eM11 => ?_)
      have h := h M11 eM11
      refine aw_aload_n X dX3_become_121 0 rfl ?_
      refine aw_aload_n X dX3_become_122 1 rfl ?_
      refine aw_get X dX3_become_123 (X.il hp1 (by decide)) (sh_2 hp1 _) fl_RX3_46 rfl ?_
      refine aw_put X dX3_become_126 (X.il hthis (by decide)) (sh_2 hthis _) fl_RX3_46 fw_3_9 (Nat.le_of_ble_eq_true rfl) (sp_2_9 hthis _ _) (fun M12 eM12 => ?_)
      have h := h M12 eM12
      refine aw_aload_n X dX3_become_129 0 rfl ?_
      refine aw_aload_n X dX3_become_130 1 rfl ?_
      refine aw_get X dX3_become_131 (X.il hp1 (by decide)) (sh_2 hp1 _) fl_RX3_49 rfl ?_
      refine aw_put X dX3_become_134 (X.il hthis (by decide)) (sh_2 hthis _) fl_RX3_49 fw_3_10 (Nat.le_of_ble_eq_true rfl) (sp_2_10 hthis _ _) (fun M13 eM13 => ?_)
      have h := h M13 eM13
      refine aw_aload_n X dX3_become_137 0 rfl ?_
      refine aw_aload_n X dX3_become_138 1 rfl ?_
      refine aw_get X dX3_become_139 (X.il hp1 (by decide)) (sh_2 hp1 _) fl_RX3_52 rfl ?_
      refine aw_put X dX3_become_142 (X.il hthis (by decide)) (sh_2 hthis _) fl_RX3_52 fw_3_11 (Nat.le_of_ble_eq_true rfl) (sp_2_11 hthis _ _) (fun M14 eM14 => ?_)
      have h := h M14 eM14
      refine aw_aload_n X dX3_become_145 0 rfl ?_
      refine aw_aload_n X dX3_become_146 1 rfl ?_
      refine aw_get X dX3_become_147 (X.il hp1 (by decide)) (sh_2 hp1 _) fl_RX3_55 rfl ?_
      refine aw_put X dX3_become_150 (X.il hthis (by decide)) (sh_2 hthis _) fl_RX3_55 fw_3_12 (Nat.le_of_ble_eq_true rfl) (sp_2_12 hthis _ _) (fun M15 eM15 => ?_)
      have h := h M15 eM15
      refine aw_aload_n X dX3_become_153 0 rfl ?_
      refine aw_aload_n X dX3_become_154 1 rfl ?_
      refine aw_get X dX3_become_155 (X.il hp1 (by decide)) (sh_2 hp1 _) fl_RX3_58 rfl ?_
      refine aw_put X dX3_become_158 (X.il hthis (by decide)) (sh_2 hthis _) fl_RX3_58 fw_3_13 (Nat.le_of_ble_eq_true rfl) (sp_2_13 hthis _ _) (fun M16 eM16 => ?_)
      have h := h M16 eM16
      exact aw_vret X dX3_become_161 h
    · have h := h.2 c
      refine aw_aload_n X dX3_become_68 0 rfl ?_
      refine aw_get X dX3_become_69 (X.il hthis (by decide)) (sh_2 hthis _) fl_RX3_27 rfl ?_
      refine aw_iload_n X dX3_become_72 2 rfl ?_
      obtain ⟨hin17, h⟩ := h
      refine aw_aald (t := 1) X dX3_become_73 (X.il (ly_2_3 hthis) (by decide)) (sh_4 (ly_2_3 hthis) _) rfl hin17 rfl ?_
      refine aw_aload_n X dX3_become_74 1 rfl ?_
      refine aw_get X dX3_become_75 (X.il hp1 (by decide)) (sh_2 hp1 _) fl_RX3_27 rfl ?_
      refine aw_iload_n X dX3_become_78 2 rfl ?_
      obtain ⟨hin18, h⟩ := h
      refine aw_aald (t := 1) X dX3_become_79 (X.il (ly_2_3 hp1) (by decide)) (sh_4 (ly_2_3 hp1) _) rfl hin18 rfl ?_
      refine ca_v X (rn_vn X [.ref (eA E (p1 + 3 + 1 + x2.toNatClampNeg))] [] (X.il (ly_4e (ly_2_3 hthis) hin17) (by decide)) (sh_5 (ly_4e (ly_2_3 hthis) hin17) _) rfl rfl kw572 kw25 (c_X0_become h) cal_yX0_become kw570 (Nat.le_of_ble_eq_true rfl) rfl rfl (Nat.le_of_ble_eq_true rfl) dX3_become_80) (fun M19 h => ?_)
      obtain ⟨v21, ev21⟩ : ∃ y : Int32, y = x2 + 1 := ⟨_, rfl⟩
      have h := h v21 ev21
      refine aw_iinc (v := v21) (lv' := [(2, .int v21), (0, .ref (eA E this)), (1, .ref (eA E p1))]) X dX3_become_83 2 rfl (by rw [ev21]; rfl) (by decide) rfl ?_
      refine aw_goto (tgt := 60) X dX3_become_86 (by decide) ?_
      exact aw_sub [1, 2, 0] rfl (ih _ _ h)
def wl_X3_become_24 (n : Nat) (this : Nat) (p1 : Nat)  (K : Mm → Prop) : Nat → Mm → Int32 → Prop
  | 0, _, _ => False
  | k + 1, M, x2 => ((M this 2) ≤ x2 → ∀ M3 : Mm, M3 = wr M this 4 (M p1 4) → ∃ kf : Nat, wl_X3_become_60 n this p1 K kf M3 0) ∧ (¬ (M this 2) ≤ x2 → vp_in x2 14 ∧ ((M (p1 + 1) x2.toNatClampNeg = 0 → False) ∧ (¬ M (p1 + 1) x2.toNatClampNeg = 0 → ∀ t4 : Nat, t4 = (M (p1 + 1) x2.toNatClampNeg).toNatClampNeg → (tp t4 = 20 ∧ t4 + 2 < n) ∧ (vp_in x2 14 ∧ (∀ M6 : Mm, M6 = wr M (this + 1) x2.toNatClampNeg (nI t4) → ∀ v7 : Int32, v7 = x2 + 1 → wl_X3_become_24 n this p1 K k M6 v7)))))
set_option maxHeartbeats 4000000 in
set_option maxRecDepth 100000 in
theorem lw_X3_become_24 {g : Gm} {E : En} {A : Nat → Prop} {K : Mm → Prop} (X : CX g cX3_become RX3 none 1 E A 3) (this : Nat) (p1 : Nat)  (hthis : tp this = 2) (hp1 : tp p1 = 2) : ∀ (k : Nat) (M : Mm) (x2 : Int32), wl_X3_become_24 (eN E) this p1  K k M x2 → AW g E A 3 (MQ (gB g) (QV E K A) (gA g) (gS g) (gk g) (gn g) A) 24 [(0, .ref (eA E this)), (1, .ref (eA E p1)), (2, .int x2)] [] M := by
  intro k
  induction k with
  | zero => intro M x2 h; exact h.elim
  | succ k ih =>
    intro M x2 h
    rw [wl_X3_become_24] at h
    refine aw_iload_n X dX3_become_24 2 rfl ?_
    refine aw_aload_n X dX3_become_25 0 rfl ?_
    refine aw_get X dX3_become_26 (X.il hthis (by decide)) (sh_2 hthis _) fl_RX3_21 rfl ?_
    refine aw_icmp_ge (tgt := 50) X dX3_become_29 (by decide) (fun c => ?_) (fun c => ?_)
    · have h := h.1 c
      refine aw_aload_n X dX3_become_50 0 rfl ?_
      refine aw_aload_n X dX3_become_51 1 rfl ?_
      refine aw_get X dX3_become_52 (X.il hp1 (by decide)) (sh_2 hp1 _) fl_RX3_31 rfl ?_
      refine aw_put X dX3_become_55 (X.il hthis (by decide)) (sh_2 hthis _) fl_RX3_31 fw_3_4 (Nat.le_of_ble_eq_true rfl) (sp_2_4 hthis _ _) (fun M3 eM3 => ?_)
      have h := h M3 eM3
      refine aw_iconst (v := 0) X dX3_become_58 (by decide) ?_
      refine aw_istore_n (lv' := [(2, .int 0), (0, .ref (eA E this)), (1, .ref (eA E p1))]) X dX3_become_59 (by decide) rfl ?_
      obtain ⟨kf, h⟩ := h
      exact aw_sub [1, 2, 0] rfl (lw_X3_become_60 X this p1 hthis hp1  kf _ _ h)
    · have h := h.2 c
      refine aw_aload_n X dX3_become_32 0 rfl ?_
      refine aw_get X dX3_become_33 (X.il hthis (by decide)) (sh_2 hthis _) fl_RX3_11 rfl ?_
      refine aw_iload_n X dX3_become_36 2 rfl ?_
      refine aw_aload_n X dX3_become_37 1 rfl ?_
      refine aw_get X dX3_become_38 (X.il hp1 (by decide)) (sh_2 hp1 _) fl_RX3_11 rfl ?_
      refine aw_iload_n X dX3_become_41 2 rfl ?_
      obtain ⟨hin, h⟩ := h
      by_cases c : M (p1 + 1) x2.toNatClampNeg = 0
      · have h := h.1 c
        refine aw_aald (t := 2) (v := .null) X dX3_become_42 (X.il (ly_2_0 hp1) (by decide)) (sh_3 (ly_2_0 hp1) _) rfl hin (by show va_rf (lawR _ _) = _; unfold lawR; rw [if_pos c]; rfl) ?_
        exact h.elim
      · obtain ⟨t4, et4⟩ : ∃ t : Nat, t = (M (p1 + 1) x2.toNatClampNeg).toNatClampNeg := ⟨_, rfl⟩
        obtain ⟨ht5, h⟩ := h.2 c t4 et4
        refine aw_aald (t := 2) (v := .ref (eA E t4)) X dX3_become_42 (X.il (ly_2_0 hp1) (by decide)) (sh_3 (ly_2_0 hp1) _) rfl hin (by show va_rf (lawR _ _) = _; unfold lawR; rw [if_neg c, et4]; rfl) ?_
        obtain ⟨hin, h⟩ := h
        refine aw_aast X dX3_become_43 (ly_2_0 hthis) ht5.1 (by have := ht5.2; omega) hin (fun M6 eM6 => ?_)
        have h := h M6 eM6
        obtain ⟨v7, ev7⟩ : ∃ y : Int32, y = x2 + 1 := ⟨_, rfl⟩
        have h := h v7 ev7
        refine aw_iinc (v := v7) (lv' := [(2, .int v7), (0, .ref (eA E this)), (1, .ref (eA E p1))]) X dX3_become_44 2 rfl (by rw [ev7]; rfl) (by decide) rfl ?_
        refine aw_goto (tgt := 24) X dX3_become_47 (by decide) ?_
        exact aw_sub [1, 2, 0] rfl (ih _ _ h)
def wp_X3_become (n : Nat)  (M : Mm) (this : Nat) (p1 : Nat) (K : Mm → Prop) : Prop := (tp this = 2) ∧ ((tp p1 = 2) ∧ ((¬ (0 : Int32) < 0 ∧ ¬ (0 : Int32) < 0 ∧ ¬ (3 : Int32) < 0 ∧ (0 : Int32).toNatClampNeg + (3 : Int32).toNatClampNeg ≤ 3 ∧ (0 : Int32).toNatClampNeg + (3 : Int32).toNatClampNeg ≤ 3) ∧ (∀ M1 : Mm, M1 = va_up M (this + 2) (va_cpy (M (p1 + 2)) (M (this + 2)) (0 : Int32).toNatClampNeg (0 : Int32).toNatClampNeg (3 : Int32).toNatClampNeg) → ∀ M2 : Mm, M2 = wr M1 this 2 (M1 p1 2) → ∃ kf : Nat, wl_X3_become_24 n this p1 K kf M2 0)))
set_option maxHeartbeats 4000000 in
set_option maxRecDepth 100000 in
theorem c_X3_become {l : Launch} {E : En} {M : Mm} {this : Nat} {p1 : Nat} {K : Mm → Prop}  (h : wp_X3_become (eN E)  M this p1 K) : Ctr l E yX3_become cX3_become 3 none 1 [.ref (eA E this), .ref (eA E p1)] M (QV E K) := by
  refine Ctr.of (by decide +kernel) (Nat.le_of_ble_eq_true rfl) (fun g A hgl X => ?_)
  subst hgl
  have X : CX g cX3_become RX3 none 1 E A 3 := X
  show AW g E A 3 _ 0 [(0, .ref (eA E this)), (1, .ref (eA E p1))] [] M
  unfold wp_X3_become at h
  obtain ⟨hthis, h⟩ := h
  obtain ⟨hp1, h⟩ := h
  refine aw_aload_n X dX3_become_0 1 rfl ?_
  refine aw_get X dX3_become_1 (X.il hp1 (by decide)) (sh_2 hp1 _) fl_RX3_17 rfl ?_
  refine aw_iconst (v := 0) X dX3_become_4 (by decide) ?_
  refine aw_aload_n X dX3_become_5 0 rfl ?_
  refine aw_get X dX3_become_6 (X.il hthis (by decide)) (sh_2 hthis _) fl_RX3_17 rfl ?_
  refine aw_iconst (v := 0) X dX3_become_9 (by decide) ?_
  refine aw_iconst (v := 3) X dX3_become_10 (by decide) ?_
  obtain ⟨hcp, h⟩ := h
  refine aw_copy X dX3_become_11 kw567 kw569 kw568 kw108 (X.il (ly_2_1 hp1) (by decide)) (sh_ia 3 (ly_2_1 hp1) _) (X.il (ly_2_1 hthis) (by decide)) (sh_ia 3 (ly_2_1 hthis)) hcp.1 hcp.2.1 hcp.2.2.1 hcp.2.2.2.1 hcp.2.2.2.2 (by decide) (Nat.le_of_ble_eq_true rfl) (fun M1 eM1 => ?_)
  have h := h M1 eM1
  refine aw_aload_n X dX3_become_14 0 rfl ?_
  refine aw_aload_n X dX3_become_15 1 rfl ?_
  refine aw_get X dX3_become_16 (X.il hp1 (by decide)) (sh_2 hp1 _) fl_RX3_21 rfl ?_
  refine aw_put X dX3_become_19 (X.il hthis (by decide)) (sh_2 hthis _) fl_RX3_21 fw_3_2 (Nat.le_of_ble_eq_true rfl) (sp_2_2 hthis _ _) (fun M2 eM2 => ?_)
  have h := h M2 eM2
  refine aw_iconst (v := 0) X dX3_become_22 (by decide) ?_
  refine aw_istore_n (lv' := [(2, .int 0), (0, .ref (eA E this)), (1, .ref (eA E p1))]) X dX3_become_23 (by decide) rfl ?_
  obtain ⟨kf, h⟩ := h
  exact aw_sub [1, 2, 0] rfl (lw_X3_become_24 X this p1 hthis hp1  kf _ _ h)
def wl_X3_emptyOfAll_4 (n : Nat) (this : Nat)  (K : Mm → Int32 → Prop) : Nat → Mm → Int32 → Int32 → Prop
  | 0, _, _, _ => False
  | k + 1, M, x1, x2 => ((M this 4) ≤ x2 → K M x1) ∧ (¬ (M this 4) ≤ x2 → vp_in x2 8 ∧ (∀ v2 : Int32, v2 = x1 + (M (this + 3 + 1 + x2.toNatClampNeg) 10) → ∀ v3 : Int32, v3 = x2 + 1 → wl_X3_emptyOfAll_4 n this K k M v2 v3))
set_option maxHeartbeats 4000000 in
set_option maxRecDepth 100000 in
theorem lw_X3_emptyOfAll_4 {g : Gm} {E : En} {A : Nat → Prop} {K : Mm → Int32 → Prop} (X : CX g cX3_emptyOfAll RX3 (some .int) 0 E A 3) (this : Nat)  (hthis : tp this = 2) : ∀ (k : Nat) (M : Mm) (x1 : Int32) (x2 : Int32), wl_X3_emptyOfAll_4 (eN E) this  K k M x1 x2 → AW g E A 3 (MQ (gB g) (QI E K A) (gA g) (gS g) (gk g) (gn g) A) 4 [(0, .ref (eA E this)), (1, .int x1), (2, .int x2)] [] M := by
  intro k
  induction k with
  | zero => intro M x1 x2 h; exact h.elim
  | succ k ih =>
    intro M x1 x2 h
    rw [wl_X3_emptyOfAll_4] at h
    refine aw_iload_n X dX3_emptyOfAll_4 2 rfl ?_
    refine aw_aload_n X dX3_emptyOfAll_5 0 rfl ?_
    refine aw_get X dX3_emptyOfAll_6 (X.il hthis (by decide)) (sh_2 hthis _) fl_RX3_31 rfl ?_
    refine aw_icmp_ge (tgt := 30) X dX3_emptyOfAll_9 (by decide) (fun c => ?_) (fun c => ?_)
    · have h := h.1 c
      refine aw_iload_n X dX3_emptyOfAll_30 1 rfl ?_
      exact aw_iret X dX3_emptyOfAll_31 h
    · have h := h.2 c
      refine aw_iload_n X dX3_emptyOfAll_12 1 rfl ?_
      refine aw_aload_n X dX3_emptyOfAll_13 0 rfl ?_
      refine aw_get X dX3_emptyOfAll_14 (X.il hthis (by decide)) (sh_2 hthis _) fl_RX3_27 rfl ?_
      refine aw_iload_n X dX3_emptyOfAll_17 2 rfl ?_
      obtain ⟨hin1, h⟩ := h
      refine aw_aald (t := 1) X dX3_emptyOfAll_18 (X.il (ly_2_3 hthis) (by decide)) (sh_4 (ly_2_3 hthis) _) rfl hin1 rfl ?_
      refine aw_get X dX3_emptyOfAll_19 (X.il (ly_4e (ly_2_3 hthis) hin1) (by decide)) (sh_5 (ly_4e (ly_2_3 hthis) hin1) _) fl_RX3_90 rfl ?_
      refine aw_iadd X dX3_emptyOfAll_22 ?_
      refine aw_top (fun v2 ev2 => ?_)
      have h := h v2 ev2
      refine aw_istore_n (lv' := [(1, .int v2), (0, .ref (eA E this)), (2, .int x2)]) X dX3_emptyOfAll_23 (by decide) rfl ?_
      obtain ⟨v3, ev3⟩ : ∃ y : Int32, y = x2 + 1 := ⟨_, rfl⟩
      have h := h v3 ev3
      refine aw_iinc (v := v3) (lv' := [(2, .int v3), (1, .int v2), (0, .ref (eA E this))]) X dX3_emptyOfAll_24 2 rfl (by rw [ev3]; rfl) (by decide) rfl ?_
      refine aw_goto (tgt := 4) X dX3_emptyOfAll_27 (by decide) ?_
      exact aw_sub [2, 1, 0] rfl (ih _ _ _ h)
def wp_X3_emptyOfAll (n : Nat)  (M : Mm) (this : Nat) (K : Mm → Int32 → Prop) : Prop := (tp this = 2) ∧ (∃ kf : Nat, wl_X3_emptyOfAll_4 n this K kf M 0 0)
set_option maxHeartbeats 4000000 in
set_option maxRecDepth 100000 in
theorem c_X3_emptyOfAll {l : Launch} {E : En} {M : Mm} {this : Nat} {K : Mm → Int32 → Prop}  (h : wp_X3_emptyOfAll (eN E)  M this K) : Ctr l E yX3_emptyOfAll cX3_emptyOfAll 3 (some .int) 0 [.ref (eA E this)] M (QI E K) := by
  refine Ctr.of (by decide +kernel) (Nat.le_of_ble_eq_true rfl) (fun g A hgl X => ?_)
  subst hgl
  have X : CX g cX3_emptyOfAll RX3 (some .int) 0 E A 3 := X
  show AW g E A 3 _ 0 [(0, .ref (eA E this))] [] M
  unfold wp_X3_emptyOfAll at h
  obtain ⟨hthis, h⟩ := h
  refine aw_iconst (v := 0) X dX3_emptyOfAll_0 (by decide) ?_
  refine aw_istore_n (lv' := [(1, .int 0), (0, .ref (eA E this))]) X dX3_emptyOfAll_1 (by decide) rfl ?_
  refine aw_iconst (v := 0) X dX3_emptyOfAll_2 (by decide) ?_
  refine aw_istore_n (lv' := [(2, .int 0), (1, .int 0), (0, .ref (eA E this))]) X dX3_emptyOfAll_3 (by decide) rfl ?_
  obtain ⟨kf, h⟩ := h
  exact aw_sub [2, 1, 0] rfl (lw_X3_emptyOfAll_4 X this hthis  kf _ _ _ h)
def wl_X3_keepOthersHome_2 (n : Nat) (this : Nat) (p1 : Int32)  (K : Mm → Prop) : Nat → Mm → Int32 → Prop
  | 0, _, _ => False
  | k + 1, M, x2 => ((M this 4) ≤ x2 → K M) ∧ (¬ (M this 4) ≤ x2 → (¬ x2 = p1 → vp_in x2 8 ∧ (∀ M2 : Mm, M2 = wr M (this + 3 + 1 + x2.toNatClampNeg) 5 0 → vp_in x2 8 ∧ (∀ M4 : Mm, M4 = wr M2 (this + 3 + 1 + x2.toNatClampNeg) 4 0 → vp_in x2 8 ∧ (∀ M6 : Mm, M6 = wr M4 (this + 3 + 1 + x2.toNatClampNeg) 3 0 → ∀ v7 : Int32, v7 = x2 + 1 → wl_X3_keepOthersHome_2 n this p1 K k M6 v7)))) ∧ (x2 = p1 → ∀ v8 : Int32, v8 = x2 + 1 → wl_X3_keepOthersHome_2 n this p1 K k M v8))
set_option maxHeartbeats 4000000 in
set_option maxRecDepth 100000 in
theorem lw_X3_keepOthersHome_2 {g : Gm} {E : En} {A : Nat → Prop} {K : Mm → Prop} (X : CX g cX3_keepOthersHome RX3 none 0 E A 3) (this : Nat) (p1 : Int32)  (hthis : tp this = 2) : ∀ (k : Nat) (M : Mm) (x2 : Int32), wl_X3_keepOthersHome_2 (eN E) this p1  K k M x2 → AW g E A 3 (MQ (gB g) (QV E K A) (gA g) (gS g) (gk g) (gn g) A) 2 [(0, .ref (eA E this)), (1, .int p1), (2, .int x2)] [] M := by
  intro k
  induction k with
  | zero => intro M x2 h; exact h.elim
  | succ k ih =>
    intro M x2 h
    rw [wl_X3_keepOthersHome_2] at h
    refine aw_iload_n X dX3_keepOthersHome_2 2 rfl ?_
    refine aw_aload_n X dX3_keepOthersHome_3 0 rfl ?_
    refine aw_get X dX3_keepOthersHome_4 (X.il hthis (by decide)) (sh_2 hthis _) fl_RX3_31 rfl ?_
    refine aw_icmp_ge (tgt := 54) X dX3_keepOthersHome_7 (by decide) (fun c => ?_) (fun c => ?_)
    · have h := h.1 c
      exact aw_vret X dX3_keepOthersHome_54 h
    · have h := h.2 c
      refine aw_iload_n X dX3_keepOthersHome_10 2 rfl ?_
      refine aw_iload_n X dX3_keepOthersHome_11 1 rfl ?_
      refine aw_icmp_ne (tgt := 18) X dX3_keepOthersHome_12 (by decide) (fun c => ?_) (fun c => ?_)
      · have h := h.1 c
        refine aw_aload_n X dX3_keepOthersHome_18 0 rfl ?_
        refine aw_get X dX3_keepOthersHome_19 (X.il hthis (by decide)) (sh_2 hthis _) fl_RX3_27 rfl ?_
        refine aw_iload_n X dX3_keepOthersHome_22 2 rfl ?_
        obtain ⟨hin1, h⟩ := h
        refine aw_aald (t := 1) X dX3_keepOthersHome_23 (X.il (ly_2_3 hthis) (by decide)) (sh_4 (ly_2_3 hthis) _) rfl hin1 rfl ?_
        refine aw_iconst (v := 0) X dX3_keepOthersHome_24 (by decide) ?_
        refine aw_put X dX3_keepOthersHome_25 (X.il (ly_4e (ly_2_3 hthis) hin1) (by decide)) (sh_5 (ly_4e (ly_2_3 hthis) hin1) _) fl_RX3_84 fw_0_5 (Nat.le_of_ble_eq_true rfl) (sp_5_5 (ly_4e (ly_2_3 hthis) hin1) _ _) (fun M2 eM2 => ?_)
        have h := h M2 eM2
        refine aw_aload_n X dX3_keepOthersHome_28 0 rfl ?_
        refine aw_get X dX3_keepOthersHome_29 (X.il hthis (by decide)) (sh_2 hthis _) fl_RX3_27 rfl ?_
        refine aw_iload_n X dX3_keepOthersHome_32 2 rfl ?_
        obtain ⟨hin3, h⟩ := h
        refine aw_aald (t := 1) X dX3_keepOthersHome_33 (X.il (ly_2_3 hthis) (by decide)) (sh_4 (ly_2_3 hthis) _) rfl hin3 rfl ?_
        refine aw_iconst (v := 0) X dX3_keepOthersHome_34 (by decide) ?_
        refine aw_put X dX3_keepOthersHome_35 (X.il (ly_4e (ly_2_3 hthis) hin3) (by decide)) (sh_5 (ly_4e (ly_2_3 hthis) hin3) _) fl_RX3_148 fw_0_4 (Nat.le_of_ble_eq_true rfl) (sp_5_4 (ly_4e (ly_2_3 hthis) hin3) _ _) (fun M4 eM4 => ?_)
        have h := h M4 eM4
        refine aw_aload_n X dX3_keepOthersHome_38 0 rfl ?_
        refine aw_get X dX3_keepOthersHome_39 (X.il hthis (by decide)) (sh_2 hthis _) fl_RX3_27 rfl ?_
        refine aw_iload_n X dX3_keepOthersHome_42 2 rfl ?_
        obtain ⟨hin5, h⟩ := h
        refine aw_aald (t := 1) X dX3_keepOthersHome_43 (X.il (ly_2_3 hthis) (by decide)) (sh_4 (ly_2_3 hthis) _) rfl hin5 rfl ?_
        refine aw_iconst (v := 0) X dX3_keepOthersHome_44 (by decide) ?_
        refine aw_put X dX3_keepOthersHome_45 (X.il (ly_4e (ly_2_3 hthis) hin5) (by decide)) (sh_5 (ly_4e (ly_2_3 hthis) hin5) _) fl_RX3_182 fw_0_3 (Nat.le_of_ble_eq_true rfl) (sp_5_3 (ly_4e (ly_2_3 hthis) hin5) _ _) (fun M6 eM6 => ?_)
        have h := h M6 eM6
        obtain ⟨v7, ev7⟩ : ∃ y : Int32, y = x2 + 1 := ⟨_, rfl⟩
        have h := h v7 ev7
        refine aw_iinc (v := v7) (lv' := [(2, .int v7), (0, .ref (eA E this)), (1, .int p1)]) X dX3_keepOthersHome_48 2 rfl (by rw [ev7]; rfl) (by decide) rfl ?_
        refine aw_goto (tgt := 2) X dX3_keepOthersHome_51 (by decide) ?_
        exact aw_sub [1, 2, 0] rfl (ih _ _ h)
      · have h := h.2 c
        refine aw_goto (tgt := 48) X dX3_keepOthersHome_15 (by decide) ?_
        obtain ⟨v8, ev8⟩ : ∃ y : Int32, y = x2 + 1 := ⟨_, rfl⟩
        have h := h v8 ev8
        refine aw_iinc (v := v8) (lv' := [(2, .int v8), (0, .ref (eA E this)), (1, .int p1)]) X dX3_keepOthersHome_48 2 rfl (by rw [ev8]; rfl) (by decide) rfl ?_
        refine aw_goto (tgt := 2) X dX3_keepOthersHome_51 (by decide) ?_
        exact aw_sub [1, 2, 0] rfl (ih _ _ h)
def wp_X3_keepOthersHome (n : Nat)  (M : Mm) (this : Nat) (p1 : Int32) (K : Mm → Prop) : Prop := (tp this = 2) ∧ (∃ kf : Nat, wl_X3_keepOthersHome_2 n this p1 K kf M 0)
set_option maxHeartbeats 4000000 in
set_option maxRecDepth 100000 in
theorem c_X3_keepOthersHome {l : Launch} {E : En} {M : Mm} {this : Nat} {p1 : Int32} {K : Mm → Prop}  (h : wp_X3_keepOthersHome (eN E)  M this p1 K) : Ctr l E yX3_keepOthersHome cX3_keepOthersHome 3 none 0 [.ref (eA E this), .int p1] M (QV E K) := by
  refine Ctr.of (by decide +kernel) (Nat.le_of_ble_eq_true rfl) (fun g A hgl X => ?_)
  subst hgl
  have X : CX g cX3_keepOthersHome RX3 none 0 E A 3 := X
  show AW g E A 3 _ 0 [(0, .ref (eA E this)), (1, .int p1)] [] M
  unfold wp_X3_keepOthersHome at h
  obtain ⟨hthis, h⟩ := h
  refine aw_iconst (v := 0) X dX3_keepOthersHome_0 (by decide) ?_
  refine aw_istore_n (lv' := [(2, .int 0), (0, .ref (eA E this)), (1, .int p1)]) X dX3_keepOthersHome_1 (by decide) rfl ?_
  obtain ⟨kf, h⟩ := h
  exact aw_sub [1, 2, 0] rfl (lw_X3_keepOthersHome_2 X this p1 hthis  kf _ _ h)
def wl_X3_visitsOfAll_4 (n : Nat) (this : Nat)  (K : Mm → Int32 → Prop) : Nat → Mm → Int32 → Int32 → Prop
  | 0, _, _, _ => False
  | k + 1, M, x1, x2 => ((M this 4) ≤ x2 → K M x1) ∧ (¬ (M this 4) ≤ x2 → vp_in x2 8 ∧ (∀ v2 : Int32, v2 = x1 + (M (this + 3 + 1 + x2.toNatClampNeg) 11) → ∀ v3 : Int32, v3 = x2 + 1 → wl_X3_visitsOfAll_4 n this K k M v2 v3))
set_option maxHeartbeats 4000000 in
set_option maxRecDepth 100000 in
theorem lw_X3_visitsOfAll_4 {g : Gm} {E : En} {A : Nat → Prop} {K : Mm → Int32 → Prop} (X : CX g cX3_visitsOfAll RX3 (some .int) 0 E A 3) (this : Nat)  (hthis : tp this = 2) : ∀ (k : Nat) (M : Mm) (x1 : Int32) (x2 : Int32), wl_X3_visitsOfAll_4 (eN E) this  K k M x1 x2 → AW g E A 3 (MQ (gB g) (QI E K A) (gA g) (gS g) (gk g) (gn g) A) 4 [(0, .ref (eA E this)), (1, .int x1), (2, .int x2)] [] M := by
  intro k
  induction k with
  | zero => intro M x1 x2 h; exact h.elim
  | succ k ih =>
    intro M x1 x2 h
    rw [wl_X3_visitsOfAll_4] at h
    refine aw_iload_n X dX3_visitsOfAll_4 2 rfl ?_
    refine aw_aload_n X dX3_visitsOfAll_5 0 rfl ?_
    refine aw_get X dX3_visitsOfAll_6 (X.il hthis (by decide)) (sh_2 hthis _) fl_RX3_31 rfl ?_
    refine aw_icmp_ge (tgt := 30) X dX3_visitsOfAll_9 (by decide) (fun c => ?_) (fun c => ?_)
    · have h := h.1 c
      refine aw_iload_n X dX3_visitsOfAll_30 1 rfl ?_
      exact aw_iret X dX3_visitsOfAll_31 h
    · have h := h.2 c
      refine aw_iload_n X dX3_visitsOfAll_12 1 rfl ?_
      refine aw_aload_n X dX3_visitsOfAll_13 0 rfl ?_
      refine aw_get X dX3_visitsOfAll_14 (X.il hthis (by decide)) (sh_2 hthis _) fl_RX3_27 rfl ?_
      refine aw_iload_n X dX3_visitsOfAll_17 2 rfl ?_
      obtain ⟨hin1, h⟩ := h
      refine aw_aald (t := 1) X dX3_visitsOfAll_18 (X.il (ly_2_3 hthis) (by decide)) (sh_4 (ly_2_3 hthis) _) rfl hin1 rfl ?_
      refine aw_get X dX3_visitsOfAll_19 (X.il (ly_4e (ly_2_3 hthis) hin1) (by decide)) (sh_5 (ly_4e (ly_2_3 hthis) hin1) _) fl_RX3_93 rfl ?_
      refine aw_iadd X dX3_visitsOfAll_22 ?_
      refine aw_top (fun v2 ev2 => ?_)
      have h := h v2 ev2
      refine aw_istore_n (lv' := [(1, .int v2), (0, .ref (eA E this)), (2, .int x2)]) X dX3_visitsOfAll_23 (by decide) rfl ?_
      obtain ⟨v3, ev3⟩ : ∃ y : Int32, y = x2 + 1 := ⟨_, rfl⟩
      have h := h v3 ev3
      refine aw_iinc (v := v3) (lv' := [(2, .int v3), (1, .int v2), (0, .ref (eA E this))]) X dX3_visitsOfAll_24 2 rfl (by rw [ev3]; rfl) (by decide) rfl ?_
      refine aw_goto (tgt := 4) X dX3_visitsOfAll_27 (by decide) ?_
      exact aw_sub [2, 1, 0] rfl (ih _ _ _ h)
def wp_X3_visitsOfAll (n : Nat)  (M : Mm) (this : Nat) (K : Mm → Int32 → Prop) : Prop := (tp this = 2) ∧ (∃ kf : Nat, wl_X3_visitsOfAll_4 n this K kf M 0 0)
set_option maxHeartbeats 4000000 in
set_option maxRecDepth 100000 in
theorem c_X3_visitsOfAll {l : Launch} {E : En} {M : Mm} {this : Nat} {K : Mm → Int32 → Prop}  (h : wp_X3_visitsOfAll (eN E)  M this K) : Ctr l E yX3_visitsOfAll cX3_visitsOfAll 3 (some .int) 0 [.ref (eA E this)] M (QI E K) := by
  refine Ctr.of (by decide +kernel) (Nat.le_of_ble_eq_true rfl) (fun g A hgl X => ?_)
  subst hgl
  have X : CX g cX3_visitsOfAll RX3 (some .int) 0 E A 3 := X
  show AW g E A 3 _ 0 [(0, .ref (eA E this))] [] M
  unfold wp_X3_visitsOfAll at h
  obtain ⟨hthis, h⟩ := h
  refine aw_iconst (v := 0) X dX3_visitsOfAll_0 (by decide) ?_
  refine aw_istore_n (lv' := [(1, .int 0), (0, .ref (eA E this))]) X dX3_visitsOfAll_1 (by decide) rfl ?_
  refine aw_iconst (v := 0) X dX3_visitsOfAll_2 (by decide) ?_
  refine aw_istore_n (lv' := [(2, .int 0), (1, .int 0), (0, .ref (eA E this))]) X dX3_visitsOfAll_3 (by decide) rfl ?_
  obtain ⟨kf, h⟩ := h
  exact aw_sub [2, 1, 0] rfl (lw_X3_visitsOfAll_4 X this hthis  kf _ _ _ h)
def wl_X7_greatestShared_9 (n : Nat) (p0 : Int64) (p2 : Int64)  (K : Mm → Int64 → Prop) : Nat → Mm → Int64 → Int64 → Int32 → Prop
  | 0, _, _, _, _ => False
  | k + 1, M, x4, x6, x8 => (128 ≤ x8 → K M x4) ∧ (¬ 128 ≤ x8 → ((lg_cmp x6 0) = 0 → K M x4) ∧ (¬ (lg_cmp x6 0) = 0 → ¬ x6 = 0 ∧ (∀ v1 : Int64, v1 = x4 - x4 / x6 * x6 → ∀ v2 : Int32, v2 = x8 + 1 → wl_X7_greatestShared_9 n p0 p2 K k M x6 v1 v2)))
set_option maxHeartbeats 4000000 in
set_option maxRecDepth 100000 in
theorem lw_X7_greatestShared_9 {g : Gm} {E : En} {A : Nat → Prop} {K : Mm → Int64 → Prop} (X : CX g cX7_greatestShared RX7 (some .long) 0 E A 11) (p0 : Int64) (p2 : Int64)   : ∀ (k : Nat) (M : Mm) (x4 : Int64) (x6 : Int64) (x8 : Int32), wl_X7_greatestShared_9 (eN E) p0 p2  K k M x4 x6 x8 → AW g E A 11 (MQ (gB g) (QL E K A) (gA g) (gS g) (gk g) (gn g) A) 9 [(4, .long x4), (6, .long x6), (8, .int x8)] [] M := by
  intro k
  induction k with
  | zero => intro M x4 x6 x8 h; exact h.elim
  | succ k ih =>
    intro M x4 x6 x8 h
    rw [wl_X7_greatestShared_9] at h
    refine aw_iload X dX7_greatestShared_9 2 rfl ?_
    refine aw_sipush (v := 128) X dX7_greatestShared_11 (by decide) ?_
    refine aw_icmp_ge (tgt := 45) X dX7_greatestShared_14 (by decide) (fun c => ?_) (fun c => ?_)
    · have h := h.1 c
      refine aw_lload X dX7_greatestShared_45 0 rfl ?_
      exact aw_lret X dX7_greatestShared_47 h
    · have h := h.2 c
      refine aw_lload X dX7_greatestShared_17 1 rfl ?_
      refine aw_lconst (v := 0) X dX7_greatestShared_19 (by decide) ?_
      refine aw_lcmp X dX7_greatestShared_20 ?_
      refine aw_if_eq (tgt := 45) X dX7_greatestShared_21 (by decide) (fun c => ?_) (fun c => ?_)
      · have h := h.1 c
        refine aw_lload X dX7_greatestShared_45 0 rfl ?_
        exact aw_lret X dX7_greatestShared_47 h
      · have h := h.2 c
        refine aw_lload X dX7_greatestShared_24 0 rfl ?_
        refine aw_lload X dX7_greatestShared_26 1 rfl ?_
        obtain ⟨hne, h⟩ := h
        refine aw_lrem X dX7_greatestShared_28 hne ?_
        refine aw_topl (fun v1 ev1 => ?_)
        have h := h v1 ev1
        refine aw_lstore (lv' := [(9, .long v1), (4, .long x4), (6, .long x6), (8, .int x8)]) X dX7_greatestShared_29 (by decide) rfl ?_
        refine aw_lload X dX7_greatestShared_31 2 rfl ?_
        refine aw_lstore (lv' := [(4, .long x6), (9, .long v1), (6, .long x6), (8, .int x8)]) X dX7_greatestShared_33 (by decide) rfl ?_
        refine aw_lload X dX7_greatestShared_35 1 rfl ?_
        refine aw_lstore (lv' := [(6, .long v1), (4, .long x6), (9, .long v1), (8, .int x8)]) X dX7_greatestShared_37 (by decide) rfl ?_
        obtain ⟨v2, ev2⟩ : ∃ y : Int32, y = x8 + 1 := ⟨_, rfl⟩
        have h := h v2 ev2
        refine aw_iinc (v := v2) (lv' := [(8, .int v2), (6, .long v1), (4, .long x6), (9, .long v1)]) X dX7_greatestShared_39 3 rfl (by rw [ev2]; rfl) (by decide) rfl ?_
        refine aw_goto (tgt := 9) X dX7_greatestShared_42 (by decide) ?_
        exact aw_sub [2, 1, 0] rfl (ih _ _ _ _ h)
def wp_X7_greatestShared (n : Nat)  (M : Mm) (p0 : Int64) (p2 : Int64) (K : Mm → Int64 → Prop) : Prop := ∃ kf : Nat, wl_X7_greatestShared_9 n p0 p2 K kf M p0 p2 0
set_option maxHeartbeats 4000000 in
set_option maxRecDepth 100000 in
theorem c_X7_greatestShared {l : Launch} {E : En} {M : Mm} {p0 : Int64} {p2 : Int64} {K : Mm → Int64 → Prop}  (h : wp_X7_greatestShared (eN E)  M p0 p2 K) : Ctr l E yX7_greatestShared cX7_greatestShared 11 (some .long) 0 [.long p0, .long p2] M (QL E K) := by
  refine Ctr.of (by decide +kernel) (Nat.le_of_ble_eq_true rfl) (fun g A hgl X => ?_)
  subst hgl
  have X : CX g cX7_greatestShared RX7 (some .long) 0 E A 11 := X
  show AW g E A 11 _ 0 [(0, .long p0), (2, .long p2)] [] M
  unfold wp_X7_greatestShared at h
  refine aw_lload_n X dX7_greatestShared_0 0 rfl ?_
  refine aw_lstore (lv' := [(4, .long p0), (0, .long p0), (2, .long p2)]) X dX7_greatestShared_1 (by decide) rfl ?_
  refine aw_lload_n X dX7_greatestShared_3 2 rfl ?_
  refine aw_lstore (lv' := [(6, .long p2), (4, .long p0), (0, .long p0), (2, .long p2)]) X dX7_greatestShared_4 (by decide) rfl ?_
  refine aw_iconst (v := 0) X dX7_greatestShared_6 (by decide) ?_
  refine aw_istore (lv' := [(8, .int 0), (6, .long p2), (4, .long p0), (0, .long p0), (2, .long p2)]) X dX7_greatestShared_7 (by decide) rfl ?_
  obtain ⟨kf, h⟩ := h
  exact aw_sub [2, 1, 0] rfl (lw_X7_greatestShared_9 X p0 p2  kf _ _ _ _ h)
def wp_X0_faredWorse (n : Nat)  (M : Mm) (this : Nat) (p1 : Nat) (K : Mm → Int32 → Prop) : Prop := (tp this = 5) ∧ ((tp p1 = 5) ∧ (((M this 10) = (M p1 10) → ((M p1 9) ≤ (M this 9) → K M 0) ∧ (¬ (M p1 9) ≤ (M this 9) → K M 1)) ∧ (¬ (M this 10) = (M p1 10) → ((M this 10) ≤ (M p1 10) → K M 0) ∧ (¬ (M this 10) ≤ (M p1 10) → K M 1))))
set_option maxHeartbeats 4000000 in
set_option maxRecDepth 100000 in
theorem c_X0_faredWorse {l : Launch} {E : En} {M : Mm} {this : Nat} {p1 : Nat} {K : Mm → Int32 → Prop}  (h : wp_X0_faredWorse (eN E)  M this p1 K) : Ctr l E yX0_faredWorse cX0_faredWorse 2 (some .boolean) 0 [.ref (eA E this), .ref (eA E p1)] M (QI E K) := by
  refine Ctr.of (by decide +kernel) (Nat.le_of_ble_eq_true rfl) (fun g A hgl X => ?_)
  subst hgl
  have X : CX g cX0_faredWorse RX0 (some .boolean) 0 E A 2 := X
  show AW g E A 2 _ 0 [(0, .ref (eA E this)), (1, .ref (eA E p1))] [] M
  unfold wp_X0_faredWorse at h
  obtain ⟨hthis, h⟩ := h
  obtain ⟨hp1, h⟩ := h
  refine aw_aload_n X dX0_faredWorse_0 0 rfl ?_
  refine aw_get X dX0_faredWorse_1 (X.il hthis (by decide)) (sh_5 hthis _) fl_RX0_42 rfl ?_
  refine aw_aload_n X dX0_faredWorse_4 1 rfl ?_
  refine aw_get X dX0_faredWorse_5 (X.il hp1 (by decide)) (sh_5 hp1 _) fl_RX0_42 rfl ?_
  refine aw_icmp_eq (tgt := 30) X dX0_faredWorse_8 (by decide) (fun c => ?_) (fun c => ?_)
  · have h := h.1 c
    refine aw_aload_n X dX0_faredWorse_30 0 rfl ?_
    refine aw_get X dX0_faredWorse_31 (X.il hthis (by decide)) (sh_5 hthis _) fl_RX0_39 rfl ?_
    refine aw_aload_n X dX0_faredWorse_34 1 rfl ?_
    refine aw_get X dX0_faredWorse_35 (X.il hp1 (by decide)) (sh_5 hp1 _) fl_RX0_39 rfl ?_
    refine aw_icmp_ge (tgt := 45) X dX0_faredWorse_38 (by decide) (fun c => ?_) (fun c => ?_)
    · have h := h.1 c
      refine aw_iconst (v := 0) X dX0_faredWorse_45 (by decide) ?_
      exact aw_zret X dX0_faredWorse_46 (by decide) h
    · have h := h.2 c
      refine aw_iconst (v := 1) X dX0_faredWorse_41 (by decide) ?_
      refine aw_goto (tgt := 46) X dX0_faredWorse_42 (by decide) ?_
      exact aw_zret X dX0_faredWorse_46 (by decide) h
  · have h := h.2 c
    refine aw_aload_n X dX0_faredWorse_11 0 rfl ?_
    refine aw_get X dX0_faredWorse_12 (X.il hthis (by decide)) (sh_5 hthis _) fl_RX0_42 rfl ?_
    refine aw_aload_n X dX0_faredWorse_15 1 rfl ?_
    refine aw_get X dX0_faredWorse_16 (X.il hp1 (by decide)) (sh_5 hp1 _) fl_RX0_42 rfl ?_
    refine aw_icmp_le (tgt := 26) X dX0_faredWorse_19 (by decide) (fun c => ?_) (fun c => ?_)
    · have h := h.1 c
      refine aw_iconst (v := 0) X dX0_faredWorse_26 (by decide) ?_
      refine aw_goto (tgt := 46) X dX0_faredWorse_27 (by decide) ?_
      exact aw_zret X dX0_faredWorse_46 (by decide) h
    · have h := h.2 c
      refine aw_iconst (v := 1) X dX0_faredWorse_22 (by decide) ?_
      refine aw_goto (tgt := 46) X dX0_faredWorse_23 (by decide) ?_
      exact aw_zret X dX0_faredWorse_46 (by decide) h
def wp_X2_add (n : Nat)  (M : Mm) (this : Nat) (p1 : Int32) (K : Mm → Prop) : Prop := (tp this = 7) ∧ (((Int32.ofNat (tp (this + 1) - 1000)) ≤ (M this 1) → K M) ∧ (¬ (Int32.ofNat (tp (this + 1) - 1000)) ≤ (M this 1) → vp_in (M this 1) (tp (this + 1) - 1000) ∧ (∀ M1 : Mm, M1 = wr M (this + 1) (M this 1).toNatClampNeg p1 → ∀ M2 : Mm, M2 = wr M1 this 1 ((M1 this 1) + 1) → K M2)))
set_option maxHeartbeats 4000000 in
set_option maxRecDepth 100000 in
theorem c_X2_add {l : Launch} {E : En} {M : Mm} {this : Nat} {p1 : Int32} {K : Mm → Prop}  (h : wp_X2_add (eN E)  M this p1 K) : Ctr l E yX2_add cX2_add 2 none 0 [.ref (eA E this), .int p1] M (QV E K) := by
  refine Ctr.of (by decide +kernel) (Nat.le_of_ble_eq_true rfl) (fun g A hgl X => ?_)
  subst hgl
  have X : CX g cX2_add RX2 none 0 E A 2 := X
  show AW g E A 2 _ 0 [(0, .ref (eA E this)), (1, .int p1)] [] M
  unfold wp_X2_add at h
  obtain ⟨hthis, h⟩ := h
  refine aw_aload_n X dX2_add_0 0 rfl ?_
  refine aw_get X dX2_add_1 (X.il hthis (by decide)) (sh_7 hthis _) fl_RX2_7 rfl ?_
  refine aw_aload_n X dX2_add_4 0 rfl ?_
  refine aw_get X dX2_add_5 (X.il hthis (by decide)) (sh_7 hthis _) fl_RX2_19 rfl ?_
  refine aw_alen (t := 0) (v := Int32.ofNat (tp (this + 1) - 1000)) X dX2_add_8 (X.lt (ly_7lt hthis)) (sh_ia _ (ly_7 hthis) _) rfl rfl ?_
  refine aw_icmp_ge (tgt := 32) X dX2_add_9 (by decide) (fun c => ?_) (fun c => ?_)
  · have h := h.1 c
    exact aw_vret X dX2_add_32 h
  · have h := h.2 c
    refine aw_aload_n X dX2_add_12 0 rfl ?_
    refine aw_get X dX2_add_13 (X.il hthis (by decide)) (sh_7 hthis _) fl_RX2_19 rfl ?_
    refine aw_aload_n X dX2_add_16 0 rfl ?_
    refine aw_get X dX2_add_17 (X.il hthis (by decide)) (sh_7 hthis _) fl_RX2_7 rfl ?_
    refine aw_iload_n X dX2_add_20 1 rfl ?_
    obtain ⟨hin, h⟩ := h
    refine aw_iast X dX2_add_21 (X.lt (ly_7lt hthis)) (sh_ia _ (ly_7 hthis) _) (sh_ia _ (ly_7 hthis) _) hin (fun M1 eM1 => ?_)
    have h := h M1 eM1
    refine aw_aload_n X dX2_add_22 0 rfl ?_
    refine aw_dup X dX2_add_23 rfl ?_
    refine aw_get X dX2_add_24 (X.il hthis (by decide)) (sh_7 hthis _) fl_RX2_7 rfl ?_
    refine aw_iconst (v := 1) X dX2_add_27 (by decide) ?_
    refine aw_iadd X dX2_add_28 ?_
    refine aw_put X dX2_add_29 (X.il hthis (by decide)) (sh_7 hthis _) fl_RX2_7 fw_2_1 (Nat.le_of_ble_eq_true rfl) (sp_7_1 hthis _ _) (fun M2 eM2 => ?_)
    have h := h M2 eM2
    exact aw_vret X dX2_add_32 h
def wp_X2_at (n : Nat)  (M : Mm) (this : Nat) (p1 : Int32) (K : Mm → Int32 → Prop) : Prop := (tp this = 7) ∧ ((p1 < 0 → K M (-1)) ∧ (¬ p1 < 0 → ((M this 1) ≤ p1 → K M (-1)) ∧ (¬ (M this 1) ≤ p1 → ((Int32.ofNat (tp (this + 1) - 1000)) ≤ p1 → K M (-1)) ∧ (¬ (Int32.ofNat (tp (this + 1) - 1000)) ≤ p1 → vp_in p1 (tp (this + 1) - 1000) ∧ (K M (M (this + 1) p1.toNatClampNeg))))))
set_option maxHeartbeats 4000000 in
set_option maxRecDepth 100000 in
theorem c_X2_at {l : Launch} {E : En} {M : Mm} {this : Nat} {p1 : Int32} {K : Mm → Int32 → Prop}  (h : wp_X2_at (eN E)  M this p1 K) : Ctr l E yX2_at cX2_at 2 (some .int) 0 [.ref (eA E this), .int p1] M (QI E K) := by
  refine Ctr.of (by decide +kernel) (Nat.le_of_ble_eq_true rfl) (fun g A hgl X => ?_)
  subst hgl
  have X : CX g cX2_at RX2 (some .int) 0 E A 2 := X
  show AW g E A 2 _ 0 [(0, .ref (eA E this)), (1, .int p1)] [] M
  unfold wp_X2_at at h
  obtain ⟨hthis, h⟩ := h
  refine aw_iload_n X dX2_at_0 1 rfl ?_
  refine aw_if_lt (tgt := 30) X dX2_at_1 (by decide) (fun c => ?_) (fun c => ?_)
  · have h := h.1 c
    refine aw_iconst (v := (-1)) X dX2_at_30 (by decide) ?_
    exact aw_iret X dX2_at_31 h
  · have h := h.2 c
    refine aw_iload_n X dX2_at_4 1 rfl ?_
    refine aw_aload_n X dX2_at_5 0 rfl ?_
    refine aw_get X dX2_at_6 (X.il hthis (by decide)) (sh_7 hthis _) fl_RX2_7 rfl ?_
    refine aw_icmp_ge (tgt := 30) X dX2_at_9 (by decide) (fun c => ?_) (fun c => ?_)
    · have h := h.1 c
      refine aw_iconst (v := (-1)) X dX2_at_30 (by decide) ?_
      exact aw_iret X dX2_at_31 h
    · have h := h.2 c
      refine aw_iload_n X dX2_at_12 1 rfl ?_
      refine aw_aload_n X dX2_at_13 0 rfl ?_
      refine aw_get X dX2_at_14 (X.il hthis (by decide)) (sh_7 hthis _) fl_RX2_19 rfl ?_
      refine aw_alen (t := 0) (v := Int32.ofNat (tp (this + 1) - 1000)) X dX2_at_17 (X.lt (ly_7lt hthis)) (sh_ia _ (ly_7 hthis) _) rfl rfl ?_
      refine aw_icmp_ge (tgt := 30) X dX2_at_18 (by decide) (fun c => ?_) (fun c => ?_)
      · have h := h.1 c
        refine aw_iconst (v := (-1)) X dX2_at_30 (by decide) ?_
        exact aw_iret X dX2_at_31 h
      · have h := h.2 c
        refine aw_aload_n X dX2_at_21 0 rfl ?_
        refine aw_get X dX2_at_22 (X.il hthis (by decide)) (sh_7 hthis _) fl_RX2_19 rfl ?_
        refine aw_iload_n X dX2_at_25 1 rfl ?_
        obtain ⟨hin, h⟩ := h
        refine aw_iald X dX2_at_26 (X.lt (ly_7lt hthis)) (sh_ia _ (ly_7 hthis) _) hin ?_
        refine aw_goto (tgt := 31) X dX2_at_27 (by decide) ?_
        exact aw_iret X dX2_at_31 h
def wp_X3_addLaw (n : Nat)  (M : Mm) (this : Nat) (p1 : Nat) (K : Mm → Prop) : Prop := (tp this = 2) ∧ ((tp p1 = 20 ∧ p1 + 2 < n) ∧ ((14 ≤ (M this 2) → K M) ∧ (¬ 14 ≤ (M this 2) → wp_X7_within n M (M p1 0) 0 2 (fun M1 r2 => (¬ r2 = 0 → vp_in (M1 this 2) 14 ∧ (∀ M3 : Mm, M3 = wr M1 (this + 1) (M1 this 2).toNatClampNeg (nI p1) → vp_in (M3 p1 0) 3 ∧ (∀ M4 : Mm, M4 = wr M3 (this + 2) (M3 p1 0).toNatClampNeg (M3 this 2) → ∀ M5 : Mm, M5 = wr M4 this 2 ((M4 this 2) + 1) → K M5))) ∧ (r2 = 0 → K M1)))))
set_option maxHeartbeats 4000000 in
set_option maxRecDepth 100000 in
theorem c_X3_addLaw {l : Launch} {E : En} {M : Mm} {this : Nat} {p1 : Nat} {K : Mm → Prop}  (h : wp_X3_addLaw (eN E)  M this p1 K) : Ctr l E yX3_addLaw cX3_addLaw 2 none 1 [.ref (eA E this), .ref (eA E p1)] M (QV E K) := by
  refine Ctr.of (by decide +kernel) (Nat.le_of_ble_eq_true rfl) (fun g A hgl X => ?_)
  subst hgl
  have X : CX g cX3_addLaw RX3 none 1 E A 2 := X
  show AW g E A 2 _ 0 [(0, .ref (eA E this)), (1, .ref (eA E p1))] [] M
  unfold wp_X3_addLaw at h
  obtain ⟨hthis, h⟩ := h
  obtain ⟨hp1, h⟩ := h
  refine aw_aload_n X dX3_addLaw_0 0 rfl ?_
  refine aw_get X dX3_addLaw_1 (X.il hthis (by decide)) (sh_2 hthis _) fl_RX3_21 rfl ?_
  refine aw_aload_n X dX3_addLaw_4 0 rfl ?_
  refine aw_get X dX3_addLaw_5 (X.il hthis (by decide)) (sh_2 hthis _) fl_RX3_11 rfl ?_
  refine aw_alen (t := 2) (v := 14) X dX3_addLaw_8 (X.il (ly_2_0 hthis) (by decide)) (sh_3 (ly_2_0 hthis) _) rfl rfl ?_
  refine aw_icmp_ge (tgt := 24) X dX3_addLaw_9 (by decide) (fun c => ?_) (fun c => ?_)
  · have h := h.1 c
    exact aw_vret X dX3_addLaw_24 h
  · have h := h.2 c
    refine aw_aload_n X dX3_addLaw_12 1 rfl ?_
    refine aw_get X dX3_addLaw_13 (by have := hp1.2; omega) (sh_20 hp1.1 _) fl_RX3_81 rfl ?_
    refine aw_iconst (v := 0) X dX3_addLaw_16 (by decide) ?_
    refine aw_iconst (v := 2) X dX3_addLaw_17 (by decide) ?_
    refine ca_i X (rn_sn X [.int (M p1 0), .int 0, .int 2] [] kw394 (c_X7_within h) cal_yX7_within kw421 (Nat.le_of_ble_eq_true rfl) rfl rfl (Nat.le_of_ble_eq_true rfl) dX3_addLaw_18) (fun M1 r2 h => ?_)
    refine aw_if_ne (tgt := 25) X dX3_addLaw_21 (by decide) (fun c => ?_) (fun c => ?_)
    · have h := h.1 c
      refine aw_aload_n X dX3_addLaw_25 0 rfl ?_
      refine aw_get X dX3_addLaw_26 (X.il hthis (by decide)) (sh_2 hthis _) fl_RX3_11 rfl ?_
      refine aw_aload_n X dX3_addLaw_29 0 rfl ?_
      refine aw_get X dX3_addLaw_30 (X.il hthis (by decide)) (sh_2 hthis _) fl_RX3_21 rfl ?_
      refine aw_aload_n X dX3_addLaw_33 1 rfl ?_
      obtain ⟨hin, h⟩ := h
      refine aw_aast X dX3_addLaw_34 (ly_2_0 hthis) hp1.1 (by have := hp1.2; omega) hin (fun M3 eM3 => ?_)
      have h := h M3 eM3
      refine aw_aload_n X dX3_addLaw_35 0 rfl ?_
      refine aw_get X dX3_addLaw_36 (X.il hthis (by decide)) (sh_2 hthis _) fl_RX3_17 rfl ?_
      refine aw_aload_n X dX3_addLaw_39 1 rfl ?_
      refine aw_get X dX3_addLaw_40 (by have := hp1.2; omega) (sh_20 hp1.1 _) fl_RX3_81 rfl ?_
      refine aw_aload_n X dX3_addLaw_43 0 rfl ?_
      refine aw_get X dX3_addLaw_44 (X.il hthis (by decide)) (sh_2 hthis _) fl_RX3_21 rfl ?_
      obtain ⟨hin, h⟩ := h
      refine aw_iast X dX3_addLaw_47 (X.il (ly_2_1 hthis) (by decide)) (sh_ia 3 (ly_2_1 hthis) _) (sh_ia 3 (ly_2_1 hthis) _) hin (fun M4 eM4 => ?_)
      have h := h M4 eM4
      refine aw_aload_n X dX3_addLaw_48 0 rfl ?_
      refine aw_dup X dX3_addLaw_49 rfl ?_
      refine aw_get X dX3_addLaw_50 (X.il hthis (by decide)) (sh_2 hthis _) fl_RX3_21 rfl ?_
      refine aw_iconst (v := 1) X dX3_addLaw_53 (by decide) ?_
      refine aw_iadd X dX3_addLaw_54 ?_
      refine aw_put X dX3_addLaw_55 (X.il hthis (by decide)) (sh_2 hthis _) fl_RX3_21 fw_3_2 (Nat.le_of_ble_eq_true rfl) (sp_2_2 hthis _ _) (fun M5 eM5 => ?_)
      have h := h M5 eM5
      exact aw_vret X dX3_addLaw_58 h
    · have h := h.2 c
      exact aw_vret X dX3_addLaw_24 h
def wp_X3_lawAt (n : Nat)  (M : Mm) (this : Nat) (p1 : Int32) (K : Mm → Option Nat → Prop) : Prop := (tp this = 2) ∧ (wp_X7_within n M p1 0 ((M this 2) - 1) (fun M1 r2 => (r2 = 0 → K M1 none) ∧ (¬ r2 = 0 → vp_in p1 14 ∧ ((M1 (this + 1) p1.toNatClampNeg = 0 → K M1 none) ∧ (¬ M1 (this + 1) p1.toNatClampNeg = 0 → ∀ t3 : Nat, t3 = (M1 (this + 1) p1.toNatClampNeg).toNatClampNeg → (tp t3 = 20 ∧ t3 + 2 < n) ∧ (K M1 (some t3)))))))
set_option maxHeartbeats 4000000 in
set_option maxRecDepth 100000 in
theorem c_X3_lawAt {l : Launch} {E : En} {M : Mm} {this : Nat} {p1 : Int32} {K : Mm → Option Nat → Prop}  (h : wp_X3_lawAt (eN E)  M this p1 K) : Ctr l E yX3_lawAt cX3_lawAt 2 (some (.object "ShyWell$Text")) 1 [.ref (eA E this), .int p1] M (QQ E K) := by
  refine Ctr.of (by decide +kernel) (Nat.le_of_ble_eq_true rfl) (fun g A hgl X => ?_)
  subst hgl
  have X : CX g cX3_lawAt RX3 (some (.object "ShyWell$Text")) 1 E A 2 := X
  show AW g E A 2 _ 0 [(0, .ref (eA E this)), (1, .int p1)] [] M
  unfold wp_X3_lawAt at h
  obtain ⟨hthis, h⟩ := h
  refine aw_iload_n X dX3_lawAt_0 1 rfl ?_
  refine aw_iconst (v := 0) X dX3_lawAt_1 (by decide) ?_
  refine aw_aload_n X dX3_lawAt_2 0 rfl ?_
  refine aw_get X dX3_lawAt_3 (X.il hthis (by decide)) (sh_2 hthis _) fl_RX3_21 rfl ?_
  refine aw_iconst (v := 1) X dX3_lawAt_6 (by decide) ?_
  refine aw_isub X dX3_lawAt_7 ?_
  refine ca_i X (rn_sn X [.int p1, .int 0, .int ((M this 2) - 1)] [] kw394 (c_X7_within h) cal_yX7_within kw421 (Nat.le_of_ble_eq_true rfl) rfl rfl (Nat.le_of_ble_eq_true rfl) dX3_lawAt_8) (fun M1 r2 h => ?_)
  refine aw_if_eq (tgt := 23) X dX3_lawAt_11 (by decide) (fun c => ?_) (fun c => ?_)
  · have h := h.1 c
    refine aw_null X dX3_lawAt_23 ?_
    exact aw_aret X none rfl dX3_lawAt_24 h
  · have h := h.2 c
    refine aw_aload_n X dX3_lawAt_14 0 rfl ?_
    refine aw_get X dX3_lawAt_15 (X.il hthis (by decide)) (sh_2 hthis _) fl_RX3_11 rfl ?_
    refine aw_iload_n X dX3_lawAt_18 1 rfl ?_
    obtain ⟨hin, h⟩ := h
    by_cases c : M1 (this + 1) p1.toNatClampNeg = 0
    · have h := h.1 c
      refine aw_aald (t := 2) (v := .null) X dX3_lawAt_19 (X.il (ly_2_0 hthis) (by decide)) (sh_3 (ly_2_0 hthis) _) rfl hin (by show va_rf (lawR _ _) = _; unfold lawR; rw [if_pos c]; rfl) ?_
      refine aw_goto (tgt := 24) X dX3_lawAt_20 (by decide) ?_
      exact aw_aret X none rfl dX3_lawAt_24 h
    · obtain ⟨t3, et3⟩ : ∃ t : Nat, t = (M1 (this + 1) p1.toNatClampNeg).toNatClampNeg := ⟨_, rfl⟩
      obtain ⟨ht4, h⟩ := h.2 c t3 et3
      refine aw_aald (t := 2) (v := .ref (eA E t3)) X dX3_lawAt_19 (X.il (ly_2_0 hthis) (by decide)) (sh_3 (ly_2_0 hthis) _) rfl hin (by show va_rf (lawR _ _) = _; unfold lawR; rw [if_neg c, et3]; rfl) ?_
      refine aw_goto (tgt := 24) X dX3_lawAt_20 (by decide) ?_
      exact aw_aret X (some t3) rfl dX3_lawAt_24 h
def wl_J7_fill_53178_5 (n : Nat) (p0 : Nat) (p1 : Int32)  (K : Mm → Prop) : Nat → Mm → Int32 → Int32 → Prop
  | 0, _, _, _ => False
  | k + 1, M, x2, x3 => (x3 ≤ x2 → K M) ∧ (¬ x3 ≤ x2 → vp_in x2 24 ∧ (∀ M1 : Mm, M1 = wr M p0 x2.toNatClampNeg p1 → ∀ v2 : Int32, v2 = x2 + 1 → wl_J7_fill_53178_5 n p0 p1 K k M1 v2 x3))
set_option maxHeartbeats 4000000 in
set_option maxRecDepth 100000 in
theorem lw_J7_fill_53178_5 {g : Gm} {E : En} {A : Nat → Prop} {K : Mm → Prop} (X : CX g cJ7_fill_53178 RJ7 none 0 E A 4) (p0 : Nat) (p1 : Int32)  (hp0 : tp p0 = 1024) : ∀ (k : Nat) (M : Mm) (x2 : Int32) (x3 : Int32), wl_J7_fill_53178_5 (eN E) p0 p1  K k M x2 x3 → AW g E A 4 (MQ (gB g) (QV E K A) (gA g) (gS g) (gk g) (gn g) A) 5 [(0, .ref (eA E p0)), (1, .int p1), (2, .int x2), (3, .int x3)] [] M := by
  intro k
  induction k with
  | zero => intro M x2 x3 h; exact h.elim
  | succ k ih =>
    intro M x2 x3 h
    rw [wl_J7_fill_53178_5] at h
    refine aw_iload_n X dJ7_fill_53178_5 2 rfl ?_
    refine aw_iload_n X dJ7_fill_53178_6 3 rfl ?_
    refine aw_icmp_ge (tgt := 20) X dJ7_fill_53178_7 (by decide) (fun c => ?_) (fun c => ?_)
    · have h := h.1 c
      exact aw_vret X dJ7_fill_53178_20 h
    · have h := h.2 c
      refine aw_aload_n X dJ7_fill_53178_10 0 rfl ?_
      refine aw_iload_n X dJ7_fill_53178_11 2 rfl ?_
      refine aw_iload_n X dJ7_fill_53178_12 1 rfl ?_
      obtain ⟨hin, h⟩ := h
      refine aw_iast X dJ7_fill_53178_13 (X.il hp0 (by decide)) (sh_ia 24 hp0 _) (sh_ia 24 hp0 _) hin (fun M1 eM1 => ?_)
      have h := h M1 eM1
      obtain ⟨v2, ev2⟩ : ∃ y : Int32, y = x2 + 1 := ⟨_, rfl⟩
      have h := h v2 ev2
      refine aw_iinc (v := v2) (lv' := [(2, .int v2), (0, .ref (eA E p0)), (1, .int p1), (3, .int x3)]) X dJ7_fill_53178_14 2 rfl (by rw [ev2]; rfl) (by decide) rfl ?_
      refine aw_goto (tgt := 5) X dJ7_fill_53178_17 (by decide) ?_
      exact aw_sub [1, 2, 0, 3] rfl (ih _ _ _ h)
def wp_J7_fill_53178 (n : Nat)  (M : Mm) (p0 : Nat) (p1 : Int32) (K : Mm → Prop) : Prop := (tp p0 = 1024) ∧ (∃ kf : Nat, wl_J7_fill_53178_5 n p0 p1 K kf M 0 24)
set_option maxHeartbeats 4000000 in
set_option maxRecDepth 100000 in
theorem c_J7_fill_53178 {l : Launch} {E : En} {M : Mm} {p0 : Nat} {p1 : Int32} {K : Mm → Prop}  (h : wp_J7_fill_53178 (eN E)  M p0 p1 K) : Ctr l E yJ7_fill_53178 cJ7_fill_53178 4 none 0 [.ref (eA E p0), .int p1] M (QV E K) := by
  refine Ctr.of (by decide +kernel) (Nat.le_of_ble_eq_true rfl) (fun g A hgl X => ?_)
  subst hgl
  have X : CX g cJ7_fill_53178 RJ7 none 0 E A 4 := X
  show AW g E A 4 _ 0 [(0, .ref (eA E p0)), (1, .int p1)] [] M
  unfold wp_J7_fill_53178 at h
  obtain ⟨hp0, h⟩ := h
  refine aw_iconst (v := 0) X dJ7_fill_53178_0 (by decide) ?_
  refine aw_istore_n (lv' := [(2, .int 0), (0, .ref (eA E p0)), (1, .int p1)]) X dJ7_fill_53178_1 (by decide) rfl ?_
  refine aw_aload_n X dJ7_fill_53178_2 1 rfl ?_
  refine aw_alen (t := 0) (v := 24) X dJ7_fill_53178_3 (X.il hp0 (by decide)) (sh_ia 24 hp0 _) rfl rfl ?_
  refine aw_istore_n (lv' := [(3, .int 24), (2, .int 0), (0, .ref (eA E p0)), (1, .int p1)]) X dJ7_fill_53178_4 (by decide) rfl ?_
  obtain ⟨kf, h⟩ := h
  exact aw_sub [2, 3, 1, 0] rfl (lw_J7_fill_53178_5 X p0 p1 hp0  kf _ _ _ h)
def wp_X4_start (n : Nat)  (M : Mm) (this : Nat) (p1 : Int32) (p2 : Int32) (K : Mm → Prop) : Prop := (tp this = 9) ∧ (∀ M1 : Mm, M1 = wr M this 1 p1 → wp_X7_held n M1 p2 0 24 (fun M2 r3 => ∀ M4 : Mm, M4 = wr M2 this 2 r3 → wp_J7_fill_53178 n M4 (this + 1) 0 (fun M5 => K M5)))
set_option maxHeartbeats 4000000 in
set_option maxRecDepth 100000 in
theorem c_X4_start {l : Launch} {E : En} {M : Mm} {this : Nat} {p1 : Int32} {p2 : Int32} {K : Mm → Prop}  (h : wp_X4_start (eN E)  M this p1 p2 K) : Ctr l E yX4_start cX4_start 3 none 2 [.ref (eA E this), .int p1, .int p2] M (QV E K) := by
  refine Ctr.of (by decide +kernel) (Nat.le_of_ble_eq_true rfl) (fun g A hgl X => ?_)
  subst hgl
  have X : CX g cX4_start RX4 none 2 E A 3 := X
  show AW g E A 3 _ 0 [(0, .ref (eA E this)), (1, .int p1), (2, .int p2)] [] M
  unfold wp_X4_start at h
  obtain ⟨hthis, h⟩ := h
  refine aw_aload_n X dX4_start_0 0 rfl ?_
  refine aw_iload_n X dX4_start_1 1 rfl ?_
  refine aw_put X dX4_start_2 (X.il hthis (by decide)) (sh_9 hthis _) fl_RX4_15 fw_4_1 (Nat.le_of_ble_eq_true rfl) (sp_9_1 hthis _ _) (fun M1 eM1 => ?_)
  have h := h M1 eM1
  refine aw_aload_n X dX4_start_5 0 rfl ?_
  refine aw_iload_n X dX4_start_6 2 rfl ?_
  refine aw_iconst (v := 0) X dX4_start_7 (by decide) ?_
  refine aw_aload_n X dX4_start_8 0 rfl ?_
  refine aw_get X dX4_start_9 (X.il hthis (by decide)) (sh_9 hthis _) fl_RX4_9 rfl ?_
  refine aw_alen (t := 0) (v := 24) X dX4_start_12 (X.il (ly_9_0 hthis) (by decide)) (sh_ia 24 (ly_9_0 hthis) _) rfl rfl ?_
  refine ca_i X (rn_sn X [.int p2, .int 0, .int 24] [.ref (eA E this)] kw455 (c_X7_held h) cal_yX7_held kw872 (Nat.le_of_ble_eq_true rfl) rfl rfl (Nat.le_of_ble_eq_true rfl) dX4_start_13) (fun M2 r3 h => ?_)
  refine aw_put X dX4_start_16 (X.il hthis (by decide)) (sh_9 hthis _) fl_RX4_19 fw_4_2 (Nat.le_of_ble_eq_true rfl) (sp_9_2 hthis _ _) (fun M4 eM4 => ?_)
  have h := h M4 eM4
  refine aw_aload_n X dX4_start_19 0 rfl ?_
  refine aw_get X dX4_start_20 (X.il hthis (by decide)) (sh_9 hthis _) fl_RX4_9 rfl ?_
  refine aw_iconst (v := 0) X dX4_start_23 (by decide) ?_
  refine ca_v X (rn_s X [.ref (eA E (this + 1)), .int 0] [] kw874 (c_J7_fill_53178 h) cal_yJ7_fill_53178 kw873 (Nat.le_of_ble_eq_true rfl) rfl rfl (Nat.le_of_ble_eq_true rfl) dX4_start_24) (fun M5 h => ?_)
  exact aw_vret X dX4_start_27 h
def wl_X3_differences_11 (n : Nat) (this : Nat) (p1 : Nat) (p2 : Int32)  (K : Mm → Int32 → Prop) : Nat → Mm → Int32 → Int32 → Prop
  | 0, _, _, _ => False
  | k + 1, M, x3, x4 => ((M p1 2) ≤ x4 → K M x3) ∧ (¬ (M p1 2) ≤ x4 → (24 ≤ x4 → K M x3) ∧ (¬ 24 ≤ x4 → vp_in x4 24 ∧ ((¬ (M (p1 + 1) x4.toNatClampNeg) = (-1000000005) → ¬ p2 = 0 ∧ (∀ v1 : Int32, v1 = jmin (M this 6) ((M this 7) + (((M this 10) + (10 * x4)) / p2)) → vp_in x4 24 ∧ (∀ v2 : Int32, v2 = x3 + (jabs ((jmax (M this 7) v1) - (M (p1 + 1) x4.toNatClampNeg))) → ∀ v3 : Int32, v3 = x4 + 1 → wl_X3_differences_11 n this p1 p2 K k M v2 v3))) ∧ ((M (p1 + 1) x4.toNatClampNeg) = (-1000000005) → ∀ v4 : Int32, v4 = x4 + 1 → wl_X3_differences_11 n this p1 p2 K k M x3 v4))))
set_option maxHeartbeats 4000000 in
set_option maxRecDepth 100000 in
theorem lw_X3_differences_11 {g : Gm} {E : En} {A : Nat → Prop} {K : Mm → Int32 → Prop} (X : CX g cX3_differences RX3 (some .int) 1 E A 6) (this : Nat) (p1 : Nat) (p2 : Int32)  (hthis : tp this = 2) (hp1 : tp p1 = 9) : ∀ (k : Nat) (M : Mm) (x3 : Int32) (x4 : Int32), wl_X3_differences_11 (eN E) this p1 p2  K k M x3 x4 → AW g E A 6 (MQ (gB g) (QI E K A) (gA g) (gS g) (gk g) (gn g) A) 11 [(0, .ref (eA E this)), (1, .ref (eA E p1)), (2, .int p2), (3, .int x3), (4, .int x4)] [] M := by
  intro k
  induction k with
  | zero => intro M x3 x4 h; exact h.elim
  | succ k ih =>
    intro M x3 x4 h
    rw [wl_X3_differences_11] at h
    refine aw_iload X dX3_differences_11 4 rfl ?_
    refine aw_aload_n X dX3_differences_13 1 rfl ?_
    refine aw_get X dX3_differences_14 (X.il hp1 (by decide)) (sh_9 hp1 _) fl_RX3_185 rfl ?_
    refine aw_icmp_ge (tgt := 100) X dX3_differences_17 (by decide) (fun c => ?_) (fun c => ?_)
    · have h := h.1 c
      refine aw_iload_n X dX3_differences_100 3 rfl ?_
      exact aw_iret X dX3_differences_101 h
    · have h := h.2 c
      refine aw_iload X dX3_differences_20 4 rfl ?_
      refine aw_aload_n X dX3_differences_22 1 rfl ?_
      refine aw_get X dX3_differences_23 (X.il hp1 (by decide)) (sh_9 hp1 _) fl_RX3_188 rfl ?_
      refine aw_alen (t := 0) (v := 24) X dX3_differences_26 (X.il (ly_9_0 hp1) (by decide)) (sh_ia 24 (ly_9_0 hp1) _) rfl rfl ?_
      refine aw_icmp_ge (tgt := 100) X dX3_differences_27 (by decide) (fun c => ?_) (fun c => ?_)
      · have h := h.1 c
        refine aw_iload_n X dX3_differences_100 3 rfl ?_
        exact aw_iret X dX3_differences_101 h
      · have h := h.2 c
        refine aw_aload_n X dX3_differences_30 1 rfl ?_
        refine aw_get X dX3_differences_31 (X.il hp1 (by decide)) (sh_9 hp1 _) fl_RX3_188 rfl ?_
        refine aw_iload X dX3_differences_34 4 rfl ?_
        obtain ⟨hin, h⟩ := h
        refine aw_iald X dX3_differences_36 (X.il (ly_9_0 hp1) (by decide)) (sh_ia 24 (ly_9_0 hp1) _) hin ?_
        refine aw_ldc (v := (-1000000005)) X dX3_differences_37 kw898 ?_
        refine aw_icmp_ne (tgt := 45) X dX3_differences_39 (by decide) (fun c => ?_) (fun c => ?_)
        · have h := h.1 c
          refine aw_aload_n X dX3_differences_45 0 rfl ?_
          refine aw_get X dX3_differences_46 (X.il hthis (by decide)) (sh_2 hthis _) fl_RX3_37 rfl ?_
          refine aw_aload_n X dX3_differences_49 0 rfl ?_
          refine aw_get X dX3_differences_50 (X.il hthis (by decide)) (sh_2 hthis _) fl_RX3_40 rfl ?_
          refine aw_aload_n X dX3_differences_53 0 rfl ?_
          refine aw_get X dX3_differences_54 (X.il hthis (by decide)) (sh_2 hthis _) fl_RX3_49 rfl ?_
          refine aw_bipush (v := 10) X dX3_differences_57 (by decide) ?_
          refine aw_iload X dX3_differences_59 4 rfl ?_
          refine aw_imul X dX3_differences_61 ?_
          refine aw_iadd X dX3_differences_62 ?_
          refine aw_iload_n X dX3_differences_63 2 rfl ?_
          obtain ⟨hne, h⟩ := h
          refine aw_idiv X dX3_differences_64 hne ?_
          refine aw_iadd X dX3_differences_65 ?_
          refine aw_mmin X dX3_differences_66 kw533 kw458 kw103 kw459 (by decide) (Nat.le_of_ble_eq_true rfl) ?_
          refine aw_top (fun v1 ev1 => ?_)
          have h := h v1 ev1
          refine aw_istore (lv' := [(5, .int v1), (0, .ref (eA E this)), (1, .ref (eA E p1)), (2, .int p2), (3, .int x3), (4, .int x4)]) X dX3_differences_69 (by decide) rfl ?_
          refine aw_iload_n X dX3_differences_71 4 rfl ?_
          refine aw_aload_n X dX3_differences_72 1 rfl ?_
          refine aw_get X dX3_differences_73 (X.il hthis (by decide)) (sh_2 hthis _) fl_RX3_40 rfl ?_
          refine aw_iload X dX3_differences_76 0 rfl ?_
          refine aw_mmax X dX3_differences_78 kw899 kw267 kw103 kw268 (by decide) (Nat.le_of_ble_eq_true rfl) ?_
          refine aw_aload_n X dX3_differences_81 2 rfl ?_
          refine aw_get X dX3_differences_82 (X.il hp1 (by decide)) (sh_9 hp1 _) fl_RX3_188 rfl ?_
          refine aw_iload X dX3_differences_85 5 rfl ?_
          obtain ⟨hin, h⟩ := h
          refine aw_iald X dX3_differences_87 (X.il (ly_9_0 hp1) (by decide)) (sh_ia 24 (ly_9_0 hp1) _) hin ?_
          refine aw_isub X dX3_differences_88 ?_
          refine aw_mabs X dX3_differences_89 kw900 kw901 kw103 kw902 (by decide) (Nat.le_of_ble_eq_true rfl) ?_
          refine aw_iadd X dX3_differences_92 ?_
          refine aw_top (fun v2 ev2 => ?_)
          have h := h v2 ev2
          refine aw_istore_n (lv' := [(3, .int v2), (5, .int v1), (0, .ref (eA E this)), (1, .ref (eA E p1)), (2, .int p2), (4, .int x4)]) X dX3_differences_93 (by decide) rfl ?_
          obtain ⟨v3, ev3⟩ : ∃ y : Int32, y = x4 + 1 := ⟨_, rfl⟩
          have h := h v3 ev3
          refine aw_iinc (v := v3) (lv' := [(4, .int v3), (3, .int v2), (5, .int v1), (0, .ref (eA E this)), (1, .ref (eA E p1)), (2, .int p2)]) X dX3_differences_94 5 rfl (by rw [ev3]; rfl) (by decide) rfl ?_
          refine aw_goto (tgt := 11) X dX3_differences_97 (by decide) ?_
          exact aw_sub [3, 4, 5, 1, 0] rfl (ih _ _ _ h)
        · have h := h.2 c
          refine aw_goto (tgt := 94) X dX3_differences_42 (by decide) ?_
          obtain ⟨v4, ev4⟩ : ∃ y : Int32, y = x4 + 1 := ⟨_, rfl⟩
          have h := h v4 ev4
          refine aw_iinc (v := v4) (lv' := [(4, .int v4), (0, .ref (eA E this)), (1, .ref (eA E p1)), (2, .int p2), (3, .int x3)]) X dX3_differences_94 4 rfl (by rw [ev4]; rfl) (by decide) rfl ?_
          refine aw_goto (tgt := 11) X dX3_differences_97 (by decide) ?_
          exact aw_sub [1, 2, 3, 4, 0] rfl (ih _ _ _ h)
def wp_X3_differences (n : Nat)  (M : Mm) (this : Nat) (p1 : Nat) (p2 : Int32) (K : Mm → Int32 → Prop) : Prop := (tp this = 2) ∧ ((tp p1 = 9) ∧ ((0 < p2 → ∃ kf : Nat, wl_X3_differences_11 n this p1 p2 K kf M 0 0) ∧ (¬ 0 < p2 → K M 0)))
set_option maxHeartbeats 4000000 in
set_option maxRecDepth 100000 in
theorem c_X3_differences {l : Launch} {E : En} {M : Mm} {this : Nat} {p1 : Nat} {p2 : Int32} {K : Mm → Int32 → Prop}  (h : wp_X3_differences (eN E)  M this p1 p2 K) : Ctr l E yX3_differences cX3_differences 6 (some .int) 1 [.ref (eA E this), .ref (eA E p1), .int p2] M (QI E K) := by
  refine Ctr.of (by decide +kernel) (Nat.le_of_ble_eq_true rfl) (fun g A hgl X => ?_)
  subst hgl
  have X : CX g cX3_differences RX3 (some .int) 1 E A 6 := X
  show AW g E A 6 _ 0 [(0, .ref (eA E this)), (1, .ref (eA E p1)), (2, .int p2)] [] M
  unfold wp_X3_differences at h
  obtain ⟨hthis, h⟩ := h
  obtain ⟨hp1, h⟩ := h
  refine aw_iload_n X dX3_differences_0 2 rfl ?_
  refine aw_if_gt (tgt := 6) X dX3_differences_1 (by decide) (fun c => ?_) (fun c => ?_)
  · have h := h.1 c
    refine aw_iconst (v := 0) X dX3_differences_6 (by decide) ?_
    refine aw_istore_n (lv' := [(3, .int 0), (0, .ref (eA E this)), (1, .ref (eA E p1)), (2, .int p2)]) X dX3_differences_7 (by decide) rfl ?_
    refine aw_iconst (v := 0) X dX3_differences_8 (by decide) ?_
    refine aw_istore (lv' := [(4, .int 0), (3, .int 0), (0, .ref (eA E this)), (1, .ref (eA E p1)), (2, .int p2)]) X dX3_differences_9 (by decide) rfl ?_
    obtain ⟨kf, h⟩ := h
    exact aw_sub [2, 3, 4, 1, 0] rfl (lw_X3_differences_11 X this p1 p2 hthis hp1  kf _ _ _ h)
  · have h := h.2 c
    refine aw_iconst (v := 0) X dX3_differences_4 (by decide) ?_
    exact aw_iret X dX3_differences_5 h
def wp_X4_hasPlaces (n : Nat)  (M : Mm) (this : Nat) (p1 : Int32) (p2 : Int32) (K : Mm → Int32 → Prop) : Prop := (tp this = 9) ∧ ((p1 < 0 → K M 0) ∧ (¬ p1 < 0 → (p2 < 0 → K M 0) ∧ (¬ p2 < 0 → ((M this 2) < p2 → K M 0) ∧ (¬ (M this 2) < p2 → (((M this 2) - p2) < p1 → K M 0) ∧ (¬ ((M this 2) - p2) < p1 → K M 1)))))
set_option maxHeartbeats 4000000 in
set_option maxRecDepth 100000 in
theorem c_X4_hasPlaces {l : Launch} {E : En} {M : Mm} {this : Nat} {p1 : Int32} {p2 : Int32} {K : Mm → Int32 → Prop}  (h : wp_X4_hasPlaces (eN E)  M this p1 p2 K) : Ctr l E yX4_hasPlaces cX4_hasPlaces 3 (some .boolean) 0 [.ref (eA E this), .int p1, .int p2] M (QI E K) := by
  refine Ctr.of (by decide +kernel) (Nat.le_of_ble_eq_true rfl) (fun g A hgl X => ?_)
  subst hgl
  have X : CX g cX4_hasPlaces RX4 (some .boolean) 0 E A 3 := X
  show AW g E A 3 _ 0 [(0, .ref (eA E this)), (1, .int p1), (2, .int p2)] [] M
  unfold wp_X4_hasPlaces at h
  obtain ⟨hthis, h⟩ := h
  refine aw_iload_n X dX4_hasPlaces_0 1 rfl ?_
  refine aw_if_lt (tgt := 30) X dX4_hasPlaces_1 (by decide) (fun c => ?_) (fun c => ?_)
  · have h := h.1 c
    refine aw_iconst (v := 0) X dX4_hasPlaces_30 (by decide) ?_
    exact aw_zret X dX4_hasPlaces_31 (by decide) h
  · have h := h.2 c
    refine aw_iload_n X dX4_hasPlaces_4 2 rfl ?_
    refine aw_if_lt (tgt := 30) X dX4_hasPlaces_5 (by decide) (fun c => ?_) (fun c => ?_)
    · have h := h.1 c
      refine aw_iconst (v := 0) X dX4_hasPlaces_30 (by decide) ?_
      exact aw_zret X dX4_hasPlaces_31 (by decide) h
    · have h := h.2 c
      refine aw_iload_n X dX4_hasPlaces_8 2 rfl ?_
      refine aw_aload_n X dX4_hasPlaces_9 0 rfl ?_
      refine aw_get X dX4_hasPlaces_10 (X.il hthis (by decide)) (sh_9 hthis _) fl_RX4_19 rfl ?_
      refine aw_icmp_gt (tgt := 30) X dX4_hasPlaces_13 (by decide) (fun c => ?_) (fun c => ?_)
      · have h := h.1 c
        refine aw_iconst (v := 0) X dX4_hasPlaces_30 (by decide) ?_
        exact aw_zret X dX4_hasPlaces_31 (by decide) h
      · have h := h.2 c
        refine aw_iload_n X dX4_hasPlaces_16 1 rfl ?_
        refine aw_aload_n X dX4_hasPlaces_17 0 rfl ?_
        refine aw_get X dX4_hasPlaces_18 (X.il hthis (by decide)) (sh_9 hthis _) fl_RX4_19 rfl ?_
        refine aw_iload_n X dX4_hasPlaces_21 2 rfl ?_
        refine aw_isub X dX4_hasPlaces_22 ?_
        refine aw_icmp_gt (tgt := 30) X dX4_hasPlaces_23 (by decide) (fun c => ?_) (fun c => ?_)
        · have h := h.1 c
          refine aw_iconst (v := 0) X dX4_hasPlaces_30 (by decide) ?_
          exact aw_zret X dX4_hasPlaces_31 (by decide) h
        · have h := h.2 c
          refine aw_iconst (v := 1) X dX4_hasPlaces_26 (by decide) ?_
          refine aw_goto (tgt := 31) X dX4_hasPlaces_27 (by decide) ?_
          exact aw_zret X dX4_hasPlaces_31 (by decide) h
def wp_X4_become (n : Nat)  (M : Mm) (this : Nat) (p1 : Nat) (K : Mm → Prop) : Prop := (tp this = 9) ∧ ((tp p1 = 9) ∧ (∀ M1 : Mm, M1 = wr M this 1 (M p1 1) → ∀ M2 : Mm, M2 = wr M1 this 2 (M1 p1 2) → (¬ (0 : Int32) < 0 ∧ ¬ (0 : Int32) < 0 ∧ ¬ (24 : Int32) < 0 ∧ (0 : Int32).toNatClampNeg + (24 : Int32).toNatClampNeg ≤ 24 ∧ (0 : Int32).toNatClampNeg + (24 : Int32).toNatClampNeg ≤ 24) ∧ (∀ M3 : Mm, M3 = va_up M2 (this + 1) (va_cpy (M2 (p1 + 1)) (M2 (this + 1)) (0 : Int32).toNatClampNeg (0 : Int32).toNatClampNeg (24 : Int32).toNatClampNeg) → K M3)))
set_option maxHeartbeats 4000000 in
set_option maxRecDepth 100000 in
theorem c_X4_become {l : Launch} {E : En} {M : Mm} {this : Nat} {p1 : Nat} {K : Mm → Prop}  (h : wp_X4_become (eN E)  M this p1 K) : Ctr l E yX4_become cX4_become 2 none 1 [.ref (eA E this), .ref (eA E p1)] M (QV E K) := by
  refine Ctr.of (by decide +kernel) (Nat.le_of_ble_eq_true rfl) (fun g A hgl X => ?_)
  subst hgl
  have X : CX g cX4_become RX4 none 1 E A 2 := X
  show AW g E A 2 _ 0 [(0, .ref (eA E this)), (1, .ref (eA E p1))] [] M
  unfold wp_X4_become at h
  obtain ⟨hthis, h⟩ := h
  obtain ⟨hp1, h⟩ := h
  refine aw_aload_n X dX4_become_0 0 rfl ?_
  refine aw_aload_n X dX4_become_1 1 rfl ?_
  refine aw_get X dX4_become_2 (X.il hp1 (by decide)) (sh_9 hp1 _) fl_RX4_15 rfl ?_
  refine aw_put X dX4_become_5 (X.il hthis (by decide)) (sh_9 hthis _) fl_RX4_15 fw_4_1 (Nat.le_of_ble_eq_true rfl) (sp_9_1 hthis _ _) (fun M1 eM1 => ?_)
  have h := h M1 eM1
  refine aw_aload_n X dX4_become_8 0 rfl ?_
  refine aw_aload_n X dX4_become_9 1 rfl ?_
  refine aw_get X dX4_become_10 (X.il hp1 (by decide)) (sh_9 hp1 _) fl_RX4_19 rfl ?_
  refine aw_put X dX4_become_13 (X.il hthis (by decide)) (sh_9 hthis _) fl_RX4_19 fw_4_2 (Nat.le_of_ble_eq_true rfl) (sp_9_2 hthis _ _) (fun M2 eM2 => ?_)
  have h := h M2 eM2
  refine aw_aload_n X dX4_become_16 1 rfl ?_
  refine aw_get X dX4_become_17 (X.il hp1 (by decide)) (sh_9 hp1 _) fl_RX4_9 rfl ?_
  refine aw_iconst (v := 0) X dX4_become_20 (by decide) ?_
  refine aw_aload_n X dX4_become_21 0 rfl ?_
  refine aw_get X dX4_become_22 (X.il hthis (by decide)) (sh_9 hthis _) fl_RX4_9 rfl ?_
  refine aw_iconst (v := 0) X dX4_become_25 (by decide) ?_
  refine aw_bipush (v := 24) X dX4_become_26 (by decide) ?_
  obtain ⟨hcp, h⟩ := h
  refine aw_copy X dX4_become_28 kw925 kw569 kw568 kw108 (X.il (ly_9_0 hp1) (by decide)) (sh_ia 24 (ly_9_0 hp1) _) (X.il (ly_9_0 hthis) (by decide)) (sh_ia 24 (ly_9_0 hthis)) hcp.1 hcp.2.1 hcp.2.2.1 hcp.2.2.2.1 hcp.2.2.2.2 (by decide) (Nat.le_of_ble_eq_true rfl) (fun M3 eM3 => ?_)
  have h := h M3 eM3
  exact aw_vret X dX4_become_31 h
