def wp_X7_comer (n : Nat)  (M : Mm) (p1 : Int32) (p2 : Int32) (p3 : Int32) (p4 : Int32) (K : Mm → Int32 → Prop) : Prop := wp_X7_isKind n M p1 (fun M1 r2 => (r2 = 0 → K M1 (-1000000001)) ∧ (¬ r2 = 0 → wp_X7_fitsHabit n M1 1 p2 (fun M3 r4 => (r4 = 0 → K M3 (-1000000001)) ∧ (¬ r4 = 0 → wp_X7_fitsHabit n M3 2 p3 (fun M5 r6 => (r6 = 0 → K M5 (-1000000001)) ∧ (¬ r6 = 0 → wp_X7_fitsHabit n M5 3 p4 (fun M7 r8 => (¬ r8 = 0 → ((M7 1 4) < 8 → wp_X3_admit n M7 1 p1 p2 p3 p4 (fun M9 => K M9 ((M9 1 4) - 1))) ∧ (¬ (M7 1 4) < 8 → K M7 (-1000000003))) ∧ (r8 = 0 → K M7 (-1000000001)))))))))
set_option maxHeartbeats 4000000 in
set_option maxRecDepth 100000 in
theorem c_X7_comer {l : Launch} {E : En} {M : Mm} {p1 : Int32} {p2 : Int32} {p3 : Int32} {p4 : Int32} {K : Mm → Int32 → Prop}  (h : wp_X7_comer (eN E)  M p1 p2 p3 p4 K) : Ctr l E yX7_comer cX7_comer 5 (some .int) 2 [.ref (eA E 0), .int p1, .int p2, .int p3, .int p4] M (QI E K) := by
  refine Ctr.of (by decide +kernel) (Nat.le_of_ble_eq_true rfl) (fun g A hgl X => ?_)
  subst hgl
  have X : CX g cX7_comer RX7 (some .int) 2 E A 5 := X
  show AW g E A 5 _ 0 [(0, .ref (eA E 0)), (1, .int p1), (2, .int p2), (3, .int p3), (4, .int p4)] [] M
  unfold wp_X7_comer at h
  refine aw_iload_n X dX7_comer_0 1 rfl ?_
  refine ca_i X (rn_s X [.int p1] [] kw389 (c_X7_isKind h) cal_yX7_isKind kw388 (Nat.le_of_ble_eq_true rfl) rfl rfl (Nat.le_of_ble_eq_true rfl) dX7_comer_1) (fun M1 r2 h => ?_)
  refine aw_if_eq (tgt := 32) X dX7_comer_4 (by decide) (fun c => ?_) (fun c => ?_)
  · have h := h.1 c
    refine aw_ldc (v := (-1000000001)) X dX7_comer_32 kw403 ?_
    exact aw_iret X dX7_comer_34 h
  · have h := h.2 c
    refine aw_iconst (v := 1) X dX7_comer_7 (by decide) ?_
    refine aw_iload_n X dX7_comer_8 2 rfl ?_
    refine ca_i X (rn_s X [.int 1, .int p2] [] kw397 (c_X7_fitsHabit h) cal_yX7_fitsHabit kw396 (Nat.le_of_ble_eq_true rfl) rfl rfl (Nat.le_of_ble_eq_true rfl) dX7_comer_9) (fun M3 r4 h => ?_)
    refine aw_if_eq (tgt := 32) X dX7_comer_12 (by decide) (fun c => ?_) (fun c => ?_)
    · have h := h.1 c
      refine aw_ldc (v := (-1000000001)) X dX7_comer_32 kw403 ?_
      exact aw_iret X dX7_comer_34 h
    · have h := h.2 c
      refine aw_iconst (v := 2) X dX7_comer_15 (by decide) ?_
      refine aw_iload_n X dX7_comer_16 3 rfl ?_
      refine ca_i X (rn_s X [.int 2, .int p3] [] kw397 (c_X7_fitsHabit h) cal_yX7_fitsHabit kw396 (Nat.le_of_ble_eq_true rfl) rfl rfl (Nat.le_of_ble_eq_true rfl) dX7_comer_17) (fun M5 r6 h => ?_)
      refine aw_if_eq (tgt := 32) X dX7_comer_20 (by decide) (fun c => ?_) (fun c => ?_)
      · have h := h.1 c
        refine aw_ldc (v := (-1000000001)) X dX7_comer_32 kw403 ?_
        exact aw_iret X dX7_comer_34 h
      · have h := h.2 c
        refine aw_iconst (v := 3) X dX7_comer_23 (by decide) ?_
        refine aw_iload X dX7_comer_24 4 rfl ?_
        refine ca_i X (rn_s X [.int 3, .int p4] [] kw397 (c_X7_fitsHabit h) cal_yX7_fitsHabit kw396 (Nat.le_of_ble_eq_true rfl) rfl rfl (Nat.le_of_ble_eq_true rfl) dX7_comer_26) (fun M7 r8 h => ?_)
        refine aw_if_ne (tgt := 35) X dX7_comer_29 (by decide) (fun c => ?_) (fun c => ?_)
        · have h := h.1 c
          refine aw_aload_n X dX7_comer_35 0 rfl ?_
          refine aw_get X dX7_comer_36 (X.lt (by decide)) (sh_1 (rfl : tp 0 = 1) _) fl_RX7_10 rfl ?_
          refine aw_get X dX7_comer_39 (X.lt (by decide)) (sh_2 (rfl : tp 1 = 2) _) fl_RX7_69 rfl ?_
          refine aw_bipush (v := 8) X dX7_comer_42 (by decide) ?_
          refine aw_icmp_lt (tgt := 50) X dX7_comer_44 (by decide) (fun c => ?_) (fun c => ?_)
          · have h := h.1 c
            refine aw_aload_n X dX7_comer_50 0 rfl ?_
            refine aw_get X dX7_comer_51 (X.lt (by decide)) (sh_1 (rfl : tp 0 = 1) _) fl_RX7_10 rfl ?_
            refine aw_iload_n X dX7_comer_54 1 rfl ?_
            refine aw_iload_n X dX7_comer_55 2 rfl ?_
            refine aw_iload_n X dX7_comer_56 3 rfl ?_
            refine aw_iload X dX7_comer_57 4 rfl ?_
            refine ca_v X (rn_vn X [.int p1, .int p2, .int p3, .int p4] [] (X.lt (by decide)) (sh_2 (rfl : tp 1 = 2) _) rfl rfl kw407 kw0 (c_X3_admit h) cal_yX3_admit kw405 (Nat.le_of_ble_eq_true rfl) rfl rfl (Nat.le_of_ble_eq_true rfl) dX7_comer_59) (fun M9 h => ?_)
            refine aw_aload_n X dX7_comer_62 0 rfl ?_
            refine aw_get X dX7_comer_63 (X.lt (by decide)) (sh_1 (rfl : tp 0 = 1) _) fl_RX7_10 rfl ?_
            refine aw_get X dX7_comer_66 (X.lt (by decide)) (sh_2 (rfl : tp 1 = 2) _) fl_RX7_69 rfl ?_
            refine aw_iconst (v := 1) X dX7_comer_69 (by decide) ?_
            refine aw_isub X dX7_comer_70 ?_
            exact aw_iret X dX7_comer_71 h
          · have h := h.2 c
            refine aw_ldc (v := (-1000000003)) X dX7_comer_47 kw404 ?_
            exact aw_iret X dX7_comer_49 h
        · have h := h.2 c
          refine aw_ldc (v := (-1000000001)) X dX7_comer_32 kw403 ?_
          exact aw_iret X dX7_comer_34 h
def wb_X7_told_171 (n : Nat) (p1 : Int32) (p2 : Int32)  (K : Mm → Int32 → Prop) (M : Mm) (x3 : Nat) : Prop := (tp x3 = 5) ∧ (wp_X0_habit n M x3 p2 (fun M13 r14 => K M13 r14))
set_option maxHeartbeats 4000000 in
set_option maxRecDepth 100000 in
theorem lb_X7_told_171 {g : Gm} {E : En} {A : Nat → Prop} {K : Mm → Int32 → Prop} (X : CX g cX7_told RX7 (some .int) 4 E A 4) (p1 : Int32) (p2 : Int32)   (M : Mm) (x3 : Nat) (h : wb_X7_told_171 (eN E) p1 p2  K M x3) : AW g E A 4 (MQ (gB g) (QI E K A) (gA g) (gS g) (gk g) (gn g) A) 171 [(2, .int p2), (3, .ref (eA E x3))] [] M := by
  unfold wb_X7_told_171 at h
  obtain ⟨hx3, h⟩ := h
  refine aw_aload_n X dX7_told_171 1 rfl ?_
  refine aw_iload_n X dX7_told_172 0 rfl ?_
  refine ca_i X (rn_vn X [.int p2] [] (X.il hx3 (by decide)) (sh_5 hx3 _) rfl rfl kw463 kw10 (c_X0_habit h) cal_yX0_habit kw461 (Nat.le_of_ble_eq_true rfl) rfl rfl (Nat.le_of_ble_eq_true rfl) dX7_told_173) (fun M13 r14 h => ?_)
  exact aw_iret X dX7_told_176 h
def wp_X7_told (n : Nat)  (M : Mm) (p1 : Int32) (p2 : Int32) (K : Mm → Int32 → Prop) : Prop := wp_X3_comerAt n M 1 p1 (fun M1 r2 => (r2 = none → K M1 (-1000000001)) ∧ (∀ t3 : Nat, r2 = some t3 → tp t3 = 5 ∧ (wp_X7_within n M1 p2 0 14 (fun M5 r6 => (¬ r6 = 0 → (p2 = 0 → K M5 (M5 t3 0)) ∧ (p2 = 1 → wb_X7_told_171 n p1 p2 K M5 t3) ∧ (p2 = 2 → wb_X7_told_171 n p1 p2 K M5 t3) ∧ (p2 = 3 → wb_X7_told_171 n p1 p2 K M5 t3) ∧ (p2 = 4 → wb_X7_told_171 n p1 p2 K M5 t3) ∧ (p2 = 5 → K M5 (M5 t3 5)) ∧ (p2 = 6 → K M5 (M5 t3 6)) ∧ (p2 = 7 → K M5 (M5 t3 7)) ∧ (p2 = 8 → K M5 (M5 t3 8)) ∧ (p2 = 9 → K M5 (M5 t3 9)) ∧ (p2 = 10 → K M5 (M5 t3 10)) ∧ (p2 = 11 → K M5 (M5 t3 11)) ∧ (p2 = 12 → wp_X0_worth n M5 t3 (fun M7 r8 => K M7 r8)) ∧ (p2 = 13 → wp_X3_wouldLeave n M5 1 t3 (fun M9 r10 => (r10 = 0 → K M9 0) ∧ (¬ r10 = 0 → K M9 1))) ∧ (p2 = 14 → wp_X3_staysOf n M5 1 t3 (fun M11 r12 => K M11 r12)) ∧ (¬ p2 = 0 → ¬ p2 = 1 → ¬ p2 = 2 → ¬ p2 = 3 → ¬ p2 = 4 → ¬ p2 = 5 → ¬ p2 = 6 → ¬ p2 = 7 → ¬ p2 = 8 → ¬ p2 = 9 → ¬ p2 = 10 → ¬ p2 = 11 → ¬ p2 = 12 → ¬ p2 = 13 → ¬ p2 = 14 → wb_X7_told_171 n p1 p2 K M5 t3)) ∧ (r6 = 0 → K M5 (-1000000001))))))
set_option maxHeartbeats 4000000 in
set_option maxRecDepth 100000 in
theorem c_X7_told {l : Launch} {E : En} {M : Mm} {p1 : Int32} {p2 : Int32} {K : Mm → Int32 → Prop}  (h : wp_X7_told (eN E)  M p1 p2 K) : Ctr l E yX7_told cX7_told 4 (some .int) 4 [.ref (eA E 0), .int p1, .int p2] M (QI E K) := by
  refine Ctr.of (by decide +kernel) (Nat.le_of_ble_eq_true rfl) (fun g A hgl X => ?_)
  subst hgl
  have X : CX g cX7_told RX7 (some .int) 4 E A 4 := X
  show AW g E A 4 _ 0 [(0, .ref (eA E 0)), (1, .int p1), (2, .int p2)] [] M
  unfold wp_X7_told at h
  refine aw_aload_n X dX7_told_0 0 rfl ?_
  refine aw_get X dX7_told_1 (X.lt (by decide)) (sh_1 (rfl : tp 0 = 1) _) fl_RX7_10 rfl ?_
  refine aw_iload_n X dX7_told_4 1 rfl ?_
  refine ca_q X (rn_vn X [.int p1] [] (X.lt (by decide)) (sh_2 (rfl : tp 1 = 2) _) rfl rfl kw419 kw2 (c_X3_comerAt h) cal_yX3_comerAt kw417 (Nat.le_of_ble_eq_true rfl) rfl rfl (Nat.le_of_ble_eq_true rfl) dX7_told_5) (fun M1 r2 h => ?_)
  rcases r2 with _ | t3
  · have h := h.1 rfl
    refine aw_astore_nN (lv' := [(3, .null), (0, .ref (eA E 0)), (1, .int p1), (2, .int p2)]) X dX7_told_8 (by decide) rfl ?_
    refine aw_aload_nN X dX7_told_9 0 rfl ?_
    refine aw_ifnullN (tgt := 23) X dX7_told_10 (by decide) ?_
    refine aw_ldc (v := (-1000000001)) X dX7_told_23 kw403 ?_
    exact aw_iret X dX7_told_25 h
  · obtain ⟨ht4, h⟩ := h.2 t3 rfl
    refine aw_astore_n (lv' := [(3, .ref (eA E t3)), (0, .ref (eA E 0)), (1, .int p1), (2, .int p2)]) X dX7_told_8 (by decide) rfl ?_
    refine aw_aload_n X dX7_told_9 0 rfl ?_
    refine aw_ifnull X dX7_told_10 ?_
    refine aw_iload_n X dX7_told_13 3 rfl ?_
    refine aw_iconst (v := 0) X dX7_told_14 (by decide) ?_
    refine aw_bipush (v := 14) X dX7_told_15 (by decide) ?_
    refine ca_i X (rn_s X [.int p2, .int 0, .int 14] [] kw394 (c_X7_within h) cal_yX7_within kw393 (Nat.le_of_ble_eq_true rfl) rfl rfl (Nat.le_of_ble_eq_true rfl) dX7_told_17) (fun M5 r6 h => ?_)
    refine aw_if_ne (tgt := 26) X dX7_told_20 (by decide) (fun c => ?_) (fun c => ?_)
    · have h := h.1 c
      refine aw_iload_n X dX7_told_26 3 rfl ?_
      by_cases c0 : p2 = 0
      · have h := h.1 c0
        refine aw_tableIn (tgt := 100) X dX7_told_27 0 c0 (by decide) (by decide) rfl (by decide) ?_
        refine aw_aload_n X dX7_told_100 0 rfl ?_
        refine aw_get X dX7_told_101 (X.il ht4 (by decide)) (sh_5 ht4 _) fl_RX7_86 rfl ?_
        exact aw_iret X dX7_told_104 h
      · by_cases c1 : p2 = 1
        · have h := h.2.1 c1
          refine aw_tableIn (tgt := 171) X dX7_told_27 1 c1 (by decide) (by decide) rfl (by decide) ?_
          exact aw_sub [3, 0] rfl (lb_X7_told_171 X p1 p2  _ _ h)
        · by_cases c2 : p2 = 2
          · have h := h.2.2.1 c2
            refine aw_tableIn (tgt := 171) X dX7_told_27 2 c2 (by decide) (by decide) rfl (by decide) ?_
            exact aw_sub [3, 0] rfl (lb_X7_told_171 X p1 p2  _ _ h)
          · by_cases c3 : p2 = 3
            · have h := h.2.2.2.1 c3
              refine aw_tableIn (tgt := 171) X dX7_told_27 3 c3 (by decide) (by decide) rfl (by decide) ?_
              exact aw_sub [3, 0] rfl (lb_X7_told_171 X p1 p2  _ _ h)
            · by_cases c4 : p2 = 4
              · have h := h.2.2.2.2.1 c4
                refine aw_tableIn (tgt := 171) X dX7_told_27 4 c4 (by decide) (by decide) rfl (by decide) ?_
                exact aw_sub [3, 0] rfl (lb_X7_told_171 X p1 p2  _ _ h)
              · by_cases c5 : p2 = 5
                · have h := h.2.2.2.2.2.1 c5
                  refine aw_tableIn (tgt := 105) X dX7_told_27 5 c5 (by decide) (by decide) rfl (by decide) ?_
                  refine aw_aload_n X dX7_told_105 0 rfl ?_
                  refine aw_get X dX7_told_106 (X.il ht4 (by decide)) (sh_5 ht4 _) fl_RX7_91 rfl ?_
                  exact aw_iret X dX7_told_109 h
                · by_cases c6 : p2 = 6
                  · have h := h.2.2.2.2.2.2.1 c6
                    refine aw_tableIn (tgt := 110) X dX7_told_27 6 c6 (by decide) (by decide) rfl (by decide) ?_
                    refine aw_aload_n X dX7_told_110 0 rfl ?_
                    refine aw_get X dX7_told_111 (X.il ht4 (by decide)) (sh_5 ht4 _) fl_RX7_94 rfl ?_
                    exact aw_iret X dX7_told_114 h
                  · by_cases c7 : p2 = 7
                    · have h := h.2.2.2.2.2.2.2.1 c7
                      refine aw_tableIn (tgt := 115) X dX7_told_27 7 c7 (by decide) (by decide) rfl (by decide) ?_
                      refine aw_aload_n X dX7_told_115 0 rfl ?_
                      refine aw_get X dX7_told_116 (X.il ht4 (by decide)) (sh_5 ht4 _) fl_RX7_97 rfl ?_
                      exact aw_iret X dX7_told_119 h
                    · by_cases c8 : p2 = 8
                      · have h := h.2.2.2.2.2.2.2.2.1 c8
                        refine aw_tableIn (tgt := 120) X dX7_told_27 8 c8 (by decide) (by decide) rfl (by decide) ?_
                        refine aw_aload_n X dX7_told_120 0 rfl ?_
                        refine aw_get X dX7_told_121 (X.il ht4 (by decide)) (sh_5 ht4 _) fl_RX7_100 rfl ?_
                        exact aw_iret X dX7_told_124 h
                      · by_cases c9 : p2 = 9
                        · have h := h.2.2.2.2.2.2.2.2.2.1 c9
                          refine aw_tableIn (tgt := 125) X dX7_told_27 9 c9 (by decide) (by decide) rfl (by decide) ?_
                          refine aw_aload_n X dX7_told_125 0 rfl ?_
                          refine aw_get X dX7_told_126 (X.il ht4 (by decide)) (sh_5 ht4 _) fl_RX7_103 rfl ?_
                          exact aw_iret X dX7_told_129 h
                        · by_cases c10 : p2 = 10
                          · have h := h.2.2.2.2.2.2.2.2.2.2.1 c10
                            refine aw_tableIn (tgt := 130) X dX7_told_27 10 c10 (by decide) (by decide) rfl (by decide) ?_
                            refine aw_aload_n X dX7_told_130 0 rfl ?_
                            refine aw_get X dX7_told_131 (X.il ht4 (by decide)) (sh_5 ht4 _) fl_RX7_106 rfl ?_
                            exact aw_iret X dX7_told_134 h
                          · by_cases c11 : p2 = 11
                            · have h := h.2.2.2.2.2.2.2.2.2.2.2.1 c11
                              refine aw_tableIn (tgt := 135) X dX7_told_27 11 c11 (by decide) (by decide) rfl (by decide) ?_
                              refine aw_aload_n X dX7_told_135 0 rfl ?_
                              refine aw_get X dX7_told_136 (X.il ht4 (by decide)) (sh_5 ht4 _) fl_RX7_109 rfl ?_
                              exact aw_iret X dX7_told_139 h
                            · by_cases c12 : p2 = 12
                              · have h := h.2.2.2.2.2.2.2.2.2.2.2.2.1 c12
                                refine aw_tableIn (tgt := 140) X dX7_told_27 12 c12 (by decide) (by decide) rfl (by decide) ?_
                                refine aw_aload_n X dX7_told_140 0 rfl ?_
                                refine ca_i X (rn_vn X [] [] (X.il ht4 (by decide)) (sh_5 ht4 _) rfl rfl kw424 kw3 (c_X0_worth h) cal_yX0_worth kw422 (Nat.le_of_ble_eq_true rfl) rfl rfl (Nat.le_of_ble_eq_true rfl) dX7_told_141) (fun M7 r8 h => ?_)
                                exact aw_iret X dX7_told_144 h
                              · by_cases c13 : p2 = 13
                                · have h := h.2.2.2.2.2.2.2.2.2.2.2.2.2.1 c13
                                  refine aw_tableIn (tgt := 145) X dX7_told_27 13 c13 (by decide) (by decide) rfl (by decide) ?_
                                  refine aw_aload_n X dX7_told_145 1 rfl ?_
                                  refine aw_get X dX7_told_146 (X.lt (by decide)) (sh_1 (rfl : tp 0 = 1) _) fl_RX7_10 rfl ?_
                                  refine aw_aload_n X dX7_told_149 0 rfl ?_
                                  refine ca_i X (rn_vn X [.ref (eA E t3)] [] (X.lt (by decide)) (sh_2 (rfl : tp 1 = 2) _) rfl rfl kw428 kw4 (c_X3_wouldLeave h) cal_yX3_wouldLeave kw426 (Nat.le_of_ble_eq_true rfl) rfl rfl (Nat.le_of_ble_eq_true rfl) dX7_told_150) (fun M9 r10 h => ?_)
                                  refine aw_if_eq (tgt := 160) X dX7_told_153 (by decide) (fun c => ?_) (fun c => ?_)
                                  · have h := h.1 c
                                    refine aw_iconst (v := 0) X dX7_told_160 (by decide) ?_
                                    exact aw_iret X dX7_told_161 h
                                  · have h := h.2 c
                                    refine aw_iconst (v := 1) X dX7_told_156 (by decide) ?_
                                    refine aw_goto (tgt := 161) X dX7_told_157 (by decide) ?_
                                    exact aw_iret X dX7_told_161 h
                                · by_cases c14 : p2 = 14
                                  · have h := h.2.2.2.2.2.2.2.2.2.2.2.2.2.2.1 c14
                                    refine aw_tableIn (tgt := 162) X dX7_told_27 14 c14 (by decide) (by decide) rfl (by decide) ?_
                                    refine aw_aload_n X dX7_told_162 1 rfl ?_
                                    refine aw_get X dX7_told_163 (X.lt (by decide)) (sh_1 (rfl : tp 0 = 1) _) fl_RX7_10 rfl ?_
                                    refine aw_aload_n X dX7_told_166 0 rfl ?_
                                    refine ca_i X (rn_vn X [.ref (eA E t3)] [] (X.lt (by decide)) (sh_2 (rfl : tp 1 = 2) _) rfl rfl kw452 kw9 (c_X3_staysOf h) cal_yX3_staysOf kw450 (Nat.le_of_ble_eq_true rfl) rfl rfl (Nat.le_of_ble_eq_true rfl) dX7_told_167) (fun M11 r12 h => ?_)
                                    exact aw_iret X dX7_told_170 h
                                  · have h := h.2.2.2.2.2.2.2.2.2.2.2.2.2.2.2 c0 c1 c2 c3 c4 c5 c6 c7 c8 c9 c10 c11 c12 c13 c14
                                    refine aw_tableOut (tgt := 171) X dX7_told_27 (by have n0 := lv_neT (a := 0) c0 rfl; have n1 := lv_neT (a := 1) c1 rfl; have n2 := lv_neT (a := 2) c2 rfl; have n3 := lv_neT (a := 3) c3 rfl; have n4 := lv_neT (a := 4) c4 rfl; have n5 := lv_neT (a := 5) c5 rfl; have n6 := lv_neT (a := 6) c6 rfl; have n7 := lv_neT (a := 7) c7 rfl; have n8 := lv_neT (a := 8) c8 rfl; have n9 := lv_neT (a := 9) c9 rfl; have n10 := lv_neT (a := 10) c10 rfl; have n11 := lv_neT (a := 11) c11 rfl; have n12 := lv_neT (a := 12) c12 rfl; have n13 := lv_neT (a := 13) c13 rfl; have n14 := lv_neT (a := 14) c14 rfl; omega) (by decide) ?_
                                    exact aw_sub [3, 0] rfl (lb_X7_told_171 X p1 p2  _ _ h)
    · have h := h.2 c
      refine aw_ldc (v := (-1000000001)) X dX7_told_23 kw403 ?_
      exact aw_iret X dX7_told_25 h
def wp_X7_as (n : Nat)  (M : Mm) (p1 : Int32) (p2 : Int32) (K : Mm → Int32 → Prop) : Prop := wp_X3_comerAt n M 1 p1 (fun M1 r2 => (r2 = none → K M1 (-1000000001)) ∧ (∀ t3 : Nat, r2 = some t3 → tp t3 = 5 ∧ (wp_X7_isKind n M1 p2 (fun M5 r6 => (¬ r6 = 0 → wp_X7_isUnder n M5 (M5 t3 0) p2 (fun M7 r8 => (r8 = 0 → K M7 (-1000000012)) ∧ (¬ r8 = 0 → K M7 (M7 t3 1)))) ∧ (r6 = 0 → K M5 (-1000000001))))))
set_option maxHeartbeats 4000000 in
set_option maxRecDepth 100000 in
theorem c_X7_as {l : Launch} {E : En} {M : Mm} {p1 : Int32} {p2 : Int32} {K : Mm → Int32 → Prop}  (h : wp_X7_as (eN E)  M p1 p2 K) : Ctr l E yX7_as cX7_as 4 (some .int) 3 [.ref (eA E 0), .int p1, .int p2] M (QI E K) := by
  refine Ctr.of (by decide +kernel) (Nat.le_of_ble_eq_true rfl) (fun g A hgl X => ?_)
  subst hgl
  have X : CX g cX7_as RX7 (some .int) 3 E A 4 := X
  show AW g E A 4 _ 0 [(0, .ref (eA E 0)), (1, .int p1), (2, .int p2)] [] M
  unfold wp_X7_as at h
  refine aw_aload_n X dX7_as_0 0 rfl ?_
  refine aw_get X dX7_as_1 (X.lt (by decide)) (sh_1 (rfl : tp 0 = 1) _) fl_RX7_10 rfl ?_
  refine aw_iload_n X dX7_as_4 1 rfl ?_
  refine ca_q X (rn_vn X [.int p1] [] (X.lt (by decide)) (sh_2 (rfl : tp 1 = 2) _) rfl rfl kw419 kw2 (c_X3_comerAt h) cal_yX3_comerAt kw417 (Nat.le_of_ble_eq_true rfl) rfl rfl (Nat.le_of_ble_eq_true rfl) dX7_as_5) (fun M1 r2 h => ?_)
  rcases r2 with _ | t3
  · have h := h.1 rfl
    refine aw_astore_nN (lv' := [(3, .null), (0, .ref (eA E 0)), (1, .int p1), (2, .int p2)]) X dX7_as_8 (by decide) rfl ?_
    refine aw_aload_nN X dX7_as_9 0 rfl ?_
    refine aw_ifnullN (tgt := 20) X dX7_as_10 (by decide) ?_
    refine aw_ldc (v := (-1000000001)) X dX7_as_20 kw403 ?_
    exact aw_iret X dX7_as_22 h
  · obtain ⟨ht4, h⟩ := h.2 t3 rfl
    refine aw_astore_n (lv' := [(3, .ref (eA E t3)), (0, .ref (eA E 0)), (1, .int p1), (2, .int p2)]) X dX7_as_8 (by decide) rfl ?_
    refine aw_aload_n X dX7_as_9 0 rfl ?_
    refine aw_ifnull X dX7_as_10 ?_
    refine aw_iload_n X dX7_as_13 3 rfl ?_
    refine ca_i X (rn_s X [.int p2] [] kw389 (c_X7_isKind h) cal_yX7_isKind kw388 (Nat.le_of_ble_eq_true rfl) rfl rfl (Nat.le_of_ble_eq_true rfl) dX7_as_14) (fun M5 r6 h => ?_)
    refine aw_if_ne (tgt := 23) X dX7_as_17 (by decide) (fun c => ?_) (fun c => ?_)
    · have h := h.1 c
      refine aw_aload_n X dX7_as_23 0 rfl ?_
      refine aw_get X dX7_as_24 (X.il ht4 (by decide)) (sh_5 ht4 _) fl_RX7_86 rfl ?_
      refine aw_iload_n X dX7_as_27 3 rfl ?_
      refine ca_i X (rn_s X [.int (M5 t3 0), .int p2] [] kw470 (c_X7_isUnder h) cal_yX7_isUnder kw469 (Nat.le_of_ble_eq_true rfl) rfl rfl (Nat.le_of_ble_eq_true rfl) dX7_as_28) (fun M7 r8 h => ?_)
      refine aw_if_eq (tgt := 41) X dX7_as_31 (by decide) (fun c => ?_) (fun c => ?_)
      · have h := h.1 c
        refine aw_ldc (v := (-1000000012)) X dX7_as_41 kw472 ?_
        exact aw_iret X dX7_as_43 h
      · have h := h.2 c
        refine aw_aload_n X dX7_as_34 0 rfl ?_
        refine aw_get X dX7_as_35 (X.il ht4 (by decide)) (sh_5 ht4 _) fl_RX7_131 rfl ?_
        refine aw_goto (tgt := 43) X dX7_as_38 (by decide) ?_
        exact aw_iret X dX7_as_43 h
    · have h := h.2 c
      refine aw_ldc (v := (-1000000001)) X dX7_as_20 kw403 ?_
      exact aw_iret X dX7_as_22 h
def wp_X7_turns (n : Nat)  (M : Mm) (p1 : Int32) (p2 : Int32) (K : Mm → Int32 → Prop) : Prop := wp_X3_comerAt n M 1 p1 (fun M1 r2 => (r2 = none → K M1 (-1000000001)) ∧ (∀ t3 : Nat, r2 = some t3 → tp t3 = 5 ∧ (wp_X7_isKind n M1 p2 (fun M5 r6 => (¬ r6 = 0 → ∀ v7 : Int32, v7 = M5 t3 0 → ∀ M8 : Mm, M8 = wr M5 t3 0 p2 → K M8 v7) ∧ (r6 = 0 → K M5 (-1000000001))))))
set_option maxHeartbeats 4000000 in
set_option maxRecDepth 100000 in
theorem c_X7_turns {l : Launch} {E : En} {M : Mm} {p1 : Int32} {p2 : Int32} {K : Mm → Int32 → Prop}  (h : wp_X7_turns (eN E)  M p1 p2 K) : Ctr l E yX7_turns cX7_turns 5 (some .int) 2 [.ref (eA E 0), .int p1, .int p2] M (QI E K) := by
  refine Ctr.of (by decide +kernel) (Nat.le_of_ble_eq_true rfl) (fun g A hgl X => ?_)
  subst hgl
  have X : CX g cX7_turns RX7 (some .int) 2 E A 5 := X
  show AW g E A 5 _ 0 [(0, .ref (eA E 0)), (1, .int p1), (2, .int p2)] [] M
  unfold wp_X7_turns at h
  refine aw_aload_n X dX7_turns_0 0 rfl ?_
  refine aw_get X dX7_turns_1 (X.lt (by decide)) (sh_1 (rfl : tp 0 = 1) _) fl_RX7_10 rfl ?_
  refine aw_iload_n X dX7_turns_4 1 rfl ?_
  refine ca_q X (rn_vn X [.int p1] [] (X.lt (by decide)) (sh_2 (rfl : tp 1 = 2) _) rfl rfl kw419 kw2 (c_X3_comerAt h) cal_yX3_comerAt kw417 (Nat.le_of_ble_eq_true rfl) rfl rfl (Nat.le_of_ble_eq_true rfl) dX7_turns_5) (fun M1 r2 h => ?_)
  rcases r2 with _ | t3
  · have h := h.1 rfl
    refine aw_astore_nN (lv' := [(3, .null), (0, .ref (eA E 0)), (1, .int p1), (2, .int p2)]) X dX7_turns_8 (by decide) rfl ?_
    refine aw_aload_nN X dX7_turns_9 0 rfl ?_
    refine aw_ifnullN (tgt := 20) X dX7_turns_10 (by decide) ?_
    refine aw_ldc (v := (-1000000001)) X dX7_turns_20 kw403 ?_
    exact aw_iret X dX7_turns_22 h
  · obtain ⟨ht4, h⟩ := h.2 t3 rfl
    refine aw_astore_n (lv' := [(3, .ref (eA E t3)), (0, .ref (eA E 0)), (1, .int p1), (2, .int p2)]) X dX7_turns_8 (by decide) rfl ?_
    refine aw_aload_n X dX7_turns_9 0 rfl ?_
    refine aw_ifnull X dX7_turns_10 ?_
    refine aw_iload_n X dX7_turns_13 3 rfl ?_
    refine ca_i X (rn_s X [.int p2] [] kw389 (c_X7_isKind h) cal_yX7_isKind kw388 (Nat.le_of_ble_eq_true rfl) rfl rfl (Nat.le_of_ble_eq_true rfl) dX7_turns_14) (fun M5 r6 h => ?_)
    refine aw_if_ne (tgt := 23) X dX7_turns_17 (by decide) (fun c => ?_) (fun c => ?_)
    · have h := h.1 c
      refine aw_aload_n X dX7_turns_23 0 rfl ?_
      refine aw_get X dX7_turns_24 (X.il ht4 (by decide)) (sh_5 ht4 _) fl_RX7_86 rfl ?_
      refine aw_top (fun v7 ev7 => ?_)
      have h := h v7 ev7
      refine aw_istore (lv' := [(4, .int v7), (3, .ref (eA E t3)), (0, .ref (eA E 0)), (1, .int p1), (2, .int p2)]) X dX7_turns_27 (by decide) rfl ?_
      refine aw_aload_n X dX7_turns_29 1 rfl ?_
      refine aw_iload_n X dX7_turns_30 4 rfl ?_
      refine aw_put X dX7_turns_31 (X.il ht4 (by decide)) (sh_5 ht4 _) fl_RX7_86 fw_0_0 (Nat.le_of_ble_eq_true rfl) (sp_5_0 ht4 _ _) (fun M8 eM8 => ?_)
      have h := h M8 eM8
      refine aw_iload X dX7_turns_34 0 rfl ?_
      exact aw_iret X dX7_turns_36 h
    · have h := h.2 c
      refine aw_ldc (v := (-1000000001)) X dX7_turns_20 kw403 ?_
      exact aw_iret X dX7_turns_22 h
def wp_X7_set (n : Nat)  (M : Mm) (p1 : Int32) (p2 : Int32) (p3 : Int32) (K : Mm → Int32 → Prop) : Prop := wp_X3_comerAt n M 1 p1 (fun M1 r2 => (r2 = none → K M1 (-1000000001)) ∧ (∀ t3 : Nat, r2 = some t3 → tp t3 = 5 ∧ (wp_X7_within n M1 p2 1 4 (fun M5 r6 => (r6 = 0 → K M5 (-1000000001)) ∧ (¬ r6 = 0 → wp_X7_fitsHabit n M5 p2 p3 (fun M7 r8 => (¬ r8 = 0 → wp_X0_habit n M7 t3 p2 (fun M9 r10 => wp_X0_changeHabit n M9 t3 p2 p3 (fun M11 => K M11 r10))) ∧ (r8 = 0 → K M7 (-1000000001))))))))
set_option maxHeartbeats 4000000 in
set_option maxRecDepth 100000 in
theorem c_X7_set {l : Launch} {E : En} {M : Mm} {p1 : Int32} {p2 : Int32} {p3 : Int32} {K : Mm → Int32 → Prop}  (h : wp_X7_set (eN E)  M p1 p2 p3 K) : Ctr l E yX7_set cX7_set 6 (some .int) 2 [.ref (eA E 0), .int p1, .int p2, .int p3] M (QI E K) := by
  refine Ctr.of (by decide +kernel) (Nat.le_of_ble_eq_true rfl) (fun g A hgl X => ?_)
  subst hgl
  have X : CX g cX7_set RX7 (some .int) 2 E A 6 := X
  show AW g E A 6 _ 0 [(0, .ref (eA E 0)), (1, .int p1), (2, .int p2), (3, .int p3)] [] M
  unfold wp_X7_set at h
  refine aw_aload_n X dX7_set_0 0 rfl ?_
  refine aw_get X dX7_set_1 (X.lt (by decide)) (sh_1 (rfl : tp 0 = 1) _) fl_RX7_10 rfl ?_
  refine aw_iload_n X dX7_set_4 1 rfl ?_
  refine ca_q X (rn_vn X [.int p1] [] (X.lt (by decide)) (sh_2 (rfl : tp 1 = 2) _) rfl rfl kw419 kw2 (c_X3_comerAt h) cal_yX3_comerAt kw417 (Nat.le_of_ble_eq_true rfl) rfl rfl (Nat.le_of_ble_eq_true rfl) dX7_set_5) (fun M1 r2 h => ?_)
  rcases r2 with _ | t3
  · have h := h.1 rfl
    refine aw_astoreN (lv' := [(4, .null), (0, .ref (eA E 0)), (1, .int p1), (2, .int p2), (3, .int p3)]) X dX7_set_8 (by decide) rfl ?_
    refine aw_aloadN X dX7_set_10 0 rfl ?_
    refine aw_ifnullN (tgt := 32) X dX7_set_12 (by decide) ?_
    refine aw_ldc (v := (-1000000001)) X dX7_set_32 kw403 ?_
    exact aw_iret X dX7_set_34 h
  · obtain ⟨ht4, h⟩ := h.2 t3 rfl
    refine aw_astore (lv' := [(4, .ref (eA E t3)), (0, .ref (eA E 0)), (1, .int p1), (2, .int p2), (3, .int p3)]) X dX7_set_8 (by decide) rfl ?_
    refine aw_aload X dX7_set_10 0 rfl ?_
    refine aw_ifnull X dX7_set_12 ?_
    refine aw_iload_n X dX7_set_15 3 rfl ?_
    refine aw_iconst (v := 1) X dX7_set_16 (by decide) ?_
    refine aw_iconst (v := 4) X dX7_set_17 (by decide) ?_
    refine ca_i X (rn_s X [.int p2, .int 1, .int 4] [] kw394 (c_X7_within h) cal_yX7_within kw393 (Nat.le_of_ble_eq_true rfl) rfl rfl (Nat.le_of_ble_eq_true rfl) dX7_set_18) (fun M5 r6 h => ?_)
    refine aw_if_eq (tgt := 32) X dX7_set_21 (by decide) (fun c => ?_) (fun c => ?_)
    · have h := h.1 c
      refine aw_ldc (v := (-1000000001)) X dX7_set_32 kw403 ?_
      exact aw_iret X dX7_set_34 h
    · have h := h.2 c
      refine aw_iload_n X dX7_set_24 3 rfl ?_
      refine aw_iload_n X dX7_set_25 4 rfl ?_
      refine ca_i X (rn_s X [.int p2, .int p3] [] kw397 (c_X7_fitsHabit h) cal_yX7_fitsHabit kw396 (Nat.le_of_ble_eq_true rfl) rfl rfl (Nat.le_of_ble_eq_true rfl) dX7_set_26) (fun M7 r8 h => ?_)
      refine aw_if_ne (tgt := 35) X dX7_set_29 (by decide) (fun c => ?_) (fun c => ?_)
      · have h := h.1 c
        refine aw_aload X dX7_set_35 0 rfl ?_
        refine aw_iload_n X dX7_set_37 3 rfl ?_
        refine ca_i X (rn_vn X [.int p2] [] (X.il ht4 (by decide)) (sh_5 ht4 _) rfl rfl kw463 kw10 (c_X0_habit h) cal_yX0_habit kw461 (Nat.le_of_ble_eq_true rfl) rfl rfl (Nat.le_of_ble_eq_true rfl) dX7_set_38) (fun M9 r10 h => ?_)
        refine aw_istore (lv' := [(5, .int r10), (4, .ref (eA E t3)), (0, .ref (eA E 0)), (1, .int p1), (2, .int p2), (3, .int p3)]) X dX7_set_41 (by decide) rfl ?_
        refine aw_aload X dX7_set_43 1 rfl ?_
        refine aw_iload_n X dX7_set_45 4 rfl ?_
        refine aw_iload_n X dX7_set_46 5 rfl ?_
        refine ca_v X (rn_vn X [.int p2, .int p3] [] (X.il ht4 (by decide)) (sh_5 ht4 _) rfl rfl kw483 kw11 (c_X0_changeHabit h) cal_yX0_changeHabit kw481 (Nat.le_of_ble_eq_true rfl) rfl rfl (Nat.le_of_ble_eq_true rfl) dX7_set_47) (fun M11 h => ?_)
        refine aw_iload X dX7_set_50 0 rfl ?_
        exact aw_iret X dX7_set_52 h
      · have h := h.2 c
        refine aw_ldc (v := (-1000000001)) X dX7_set_32 kw403 ?_
        exact aw_iret X dX7_set_34 h
def wp_X7_well (n : Nat)  (M : Mm) (p1 : Int32) (p2 : Int32) (K : Mm → Int32 → Prop) : Prop := wp_X7_within n M p1 0 (5 - 1) (fun M1 r2 => (r2 = 0 → K M1 (-1000000001)) ∧ (¬ r2 = 0 → vp_in p1 5 ∧ (vp_in p1 5 ∧ (wp_X7_within n M1 p2 (([1, 0, 0, 1, 0] : List Int32).getD p1.toNatClampNeg 0) (([60, 99, 99, 9, 100] : List Int32).getD p1.toNatClampNeg 0) (fun M3 r4 => (¬ r4 = 0 → wp_X3_change n M3 1 p1 p2 (fun M5 r6 => K M5 r6)) ∧ (r4 = 0 → K M3 (-1000000001)))))))
set_option maxHeartbeats 4000000 in
set_option maxRecDepth 100000 in
theorem c_X7_well {l : Launch} {E : En} {M : Mm} {p1 : Int32} {p2 : Int32} {K : Mm → Int32 → Prop}  (h : wp_X7_well (eN E)  M p1 p2 K) : Ctr l E yX7_well cX7_well 3 (some .int) 1 [.ref (eA E 0), .int p1, .int p2] M (QI E K) := by
  refine Ctr.of (by decide +kernel) (Nat.le_of_ble_eq_true rfl) (fun g A hgl X => ?_)
  subst hgl
  have X : CX g cX7_well RX7 (some .int) 1 E A 3 := X
  show AW g E A 3 _ 0 [(0, .ref (eA E 0)), (1, .int p1), (2, .int p2)] [] M
  unfold wp_X7_well at h
  refine aw_iload_n X dX7_well_0 1 rfl ?_
  refine aw_iconst (v := 0) X dX7_well_1 (by decide) ?_
  refine aw_gets X dX7_well_2 X.sta.1.2.2.2.1.1 kw489 rfl ?_
  refine aw_tlen (v := 5) X dX7_well_5 X.sta.1.2.2.2.1.2 (by decide) ?_
  refine aw_iconst (v := 1) X dX7_well_6 (by decide) ?_
  refine aw_isub X dX7_well_7 ?_
  refine ca_i X (rn_s X [.int p1, .int 0, .int (5 - 1)] [] kw394 (c_X7_within h) cal_yX7_within kw393 (Nat.le_of_ble_eq_true rfl) rfl rfl (Nat.le_of_ble_eq_true rfl) dX7_well_8) (fun M1 r2 h => ?_)
  refine aw_if_eq (tgt := 31) X dX7_well_11 (by decide) (fun c => ?_) (fun c => ?_)
  · have h := h.1 c
    refine aw_ldc (v := (-1000000001)) X dX7_well_31 kw403 ?_
    exact aw_iret X dX7_well_33 h
  · have h := h.2 c
    refine aw_iload_n X dX7_well_14 2 rfl ?_
    refine aw_gets X dX7_well_15 X.sta.1.2.2.2.1.1 kw489 rfl ?_
    refine aw_iload_n X dX7_well_18 1 rfl ?_
    obtain ⟨hin, h⟩ := h
    refine aw_ti X dX7_well_19 X.sta.1.2.2.2.1.2 hin ?_
    refine aw_gets X dX7_well_20 X.sta.1.2.2.2.2.1 kw491 rfl ?_
    refine aw_iload_n X dX7_well_23 1 rfl ?_
    obtain ⟨hin, h⟩ := h
    refine aw_ti X dX7_well_24 X.sta.1.2.2.2.2.2 hin ?_
    refine ca_i X (rn_s X [.int p2, .int (([1, 0, 0, 1, 0] : List Int32).getD p1.toNatClampNeg 0), .int (([60, 99, 99, 9, 100] : List Int32).getD p1.toNatClampNeg 0)] [] kw394 (c_X7_within h) cal_yX7_within kw393 (Nat.le_of_ble_eq_true rfl) rfl rfl (Nat.le_of_ble_eq_true rfl) dX7_well_25) (fun M3 r4 h => ?_)
    refine aw_if_ne (tgt := 34) X dX7_well_28 (by decide) (fun c => ?_) (fun c => ?_)
    · have h := h.1 c
      refine aw_aload_n X dX7_well_34 0 rfl ?_
      refine aw_get X dX7_well_35 (X.lt (by decide)) (sh_1 (rfl : tp 0 = 1) _) fl_RX7_10 rfl ?_
      refine aw_iload_n X dX7_well_38 1 rfl ?_
      refine aw_iload_n X dX7_well_39 2 rfl ?_
      refine ca_i X (rn_vn X [.int p1, .int p2] [] (X.lt (by decide)) (sh_2 (rfl : tp 1 = 2) _) rfl rfl kw495 kw12 (c_X3_change h) cal_yX3_change kw493 (Nat.le_of_ble_eq_true rfl) rfl rfl (Nat.le_of_ble_eq_true rfl) dX7_well_40) (fun M5 r6 h => ?_)
      exact aw_iret X dX7_well_43 h
    · have h := h.2 c
      refine aw_ldc (v := (-1000000001)) X dX7_well_31 kw403 ?_
      exact aw_iret X dX7_well_33 h
def wl_X7_deal_30 (n : Nat) (p1 : Int32)  (K : Mm → Int32 → Prop) : Nat → Mm → Int32 → Int32 → Prop
  | 0, _, _, _ => False
  | k + 1, M, x2, x3 => (x2 ≤ x3 → K M x2) ∧ (¬ x2 ≤ x3 → wp_X3_draw n M 1 (fun M4 r5 => ∀ v6 : Int32, v6 = jrem r5 6 → wp_X3_draw n M4 1 (fun M7 r8 => ∀ v9 : Int32, v9 = jrem r8 60 → wp_X3_draw n M7 1 (fun M10 r11 => ∀ v12 : Int32, v12 = 1 + (jrem r11 30) → wp_X3_draw n M10 1 (fun M13 r14 => ∀ v15 : Int32, v15 = jrem r14 10 → wp_X3_admit n M13 1 v6 v9 v12 v15 (fun M16 => ∀ v18 : Int32, v18 = x3 + 1 → wl_X7_deal_30 n p1 K k M16 x2 v18))))))
set_option maxHeartbeats 4000000 in
set_option maxRecDepth 100000 in
theorem lw_X7_deal_30 {g : Gm} {E : En} {A : Nat → Prop} {K : Mm → Int32 → Prop} (X : CX g cX7_deal RX7 (some .int) 2 E A 8) (p1 : Int32)   : ∀ (k : Nat) (M : Mm) (x2 : Int32) (x3 : Int32), wl_X7_deal_30 (eN E) p1  K k M x2 x3 → AW g E A 8 (MQ (gB g) (QI E K A) (gA g) (gS g) (gk g) (gn g) A) 30 [(0, .ref (eA E 0)), (2, .int x2), (3, .int x3)] [] M := by
  intro k
  induction k with
  | zero => intro M x2 x3 h; exact h.elim
  | succ k ih =>
    intro M x2 x3 h
    rw [wl_X7_deal_30] at h
    refine aw_iload_n X dX7_deal_30 2 rfl ?_
    refine aw_iload_n X dX7_deal_31 1 rfl ?_
    refine aw_icmp_ge (tgt := 108) X dX7_deal_32 (by decide) (fun c => ?_) (fun c => ?_)
    · have h := h.1 c
      refine aw_iload_n X dX7_deal_108 1 rfl ?_
      exact aw_iret X dX7_deal_109 h
    · have h := h.2 c
      refine aw_aload_n X dX7_deal_35 0 rfl ?_
      refine aw_get X dX7_deal_36 (X.lt (by decide)) (sh_1 (rfl : tp 0 = 1) _) fl_RX7_10 rfl ?_
      refine ca_i X (rn_vn X [] [] (X.lt (by decide)) (sh_2 (rfl : tp 1 = 2) _) rfl rfl kw503 kw13 (c_X3_draw h) cal_yX3_draw kw501 (Nat.le_of_ble_eq_true rfl) rfl rfl (Nat.le_of_ble_eq_true rfl) dX7_deal_39) (fun M4 r5 h => ?_)
      refine aw_gets X dX7_deal_42 X.sta.1.1.1 kw391 rfl ?_
      refine aw_tlen (v := 6) X dX7_deal_45 X.sta.1.1.2 (by decide) ?_
      refine aw_irem X dX7_deal_46 (by decide) ?_
      refine aw_top (fun v6 ev6 => ?_)
      have h := h v6 ev6
      refine aw_istore (lv' := [(4, .int v6), (0, .ref (eA E 0)), (2, .int x2), (3, .int x3)]) X dX7_deal_47 (by decide) rfl ?_
      refine aw_aload_n X dX7_deal_49 1 rfl ?_
      refine aw_get X dX7_deal_50 (X.lt (by decide)) (sh_1 (rfl : tp 0 = 1) _) fl_RX7_10 rfl ?_
      refine ca_i X (rn_vn X [] [] (X.lt (by decide)) (sh_2 (rfl : tp 1 = 2) _) rfl rfl kw503 kw13 (c_X3_draw h) cal_yX3_draw kw501 (Nat.le_of_ble_eq_true rfl) rfl rfl (Nat.le_of_ble_eq_true rfl) dX7_deal_53) (fun M7 r8 h => ?_)
      refine aw_bipush (v := 60) X dX7_deal_56 (by decide) ?_
      refine aw_irem X dX7_deal_58 (by decide) ?_
      refine aw_top (fun v9 ev9 => ?_)
      have h := h v9 ev9
      refine aw_istore (lv' := [(5, .int v9), (4, .int v6), (0, .ref (eA E 0)), (2, .int x2), (3, .int x3)]) X dX7_deal_59 (by decide) rfl ?_
      refine aw_iconst (v := 1) X dX7_deal_61 (by decide) ?_
      refine aw_aload_n X dX7_deal_62 2 rfl ?_
      refine aw_get X dX7_deal_63 (X.lt (by decide)) (sh_1 (rfl : tp 0 = 1) _) fl_RX7_10 rfl ?_
      refine ca_i X (rn_vn X [] [.int 1] (X.lt (by decide)) (sh_2 (rfl : tp 1 = 2) _) rfl rfl kw503 kw13 (c_X3_draw h) cal_yX3_draw kw501 (Nat.le_of_ble_eq_true rfl) rfl rfl (Nat.le_of_ble_eq_true rfl) dX7_deal_66) (fun M10 r11 h => ?_)
      refine aw_bipush (v := 30) X dX7_deal_69 (by decide) ?_
      refine aw_irem X dX7_deal_71 (by decide) ?_
      refine aw_iadd X dX7_deal_72 ?_
      refine aw_top (fun v12 ev12 => ?_)
      have h := h v12 ev12
      refine aw_istore (lv' := [(6, .int v12), (5, .int v9), (4, .int v6), (0, .ref (eA E 0)), (2, .int x2), (3, .int x3)]) X dX7_deal_73 (by decide) rfl ?_
      refine aw_aload_n X dX7_deal_75 3 rfl ?_
      refine aw_get X dX7_deal_76 (X.lt (by decide)) (sh_1 (rfl : tp 0 = 1) _) fl_RX7_10 rfl ?_
      refine ca_i X (rn_vn X [] [] (X.lt (by decide)) (sh_2 (rfl : tp 1 = 2) _) rfl rfl kw503 kw13 (c_X3_draw h) cal_yX3_draw kw501 (Nat.le_of_ble_eq_true rfl) rfl rfl (Nat.le_of_ble_eq_true rfl) dX7_deal_79) (fun M13 r14 h => ?_)
      refine aw_bipush (v := 10) X dX7_deal_82 (by decide) ?_
      refine aw_irem X dX7_deal_84 (by decide) ?_
      refine aw_top (fun v15 ev15 => ?_)
      have h := h v15 ev15
      refine aw_istore (lv' := [(7, .int v15), (6, .int v12), (5, .int v9), (4, .int v6), (0, .ref (eA E 0)), (2, .int x2), (3, .int x3)]) X dX7_deal_85 (by decide) rfl ?_
      refine aw_aload_n X dX7_deal_87 4 rfl ?_
      refine aw_get X dX7_deal_88 (X.lt (by decide)) (sh_1 (rfl : tp 0 = 1) _) fl_RX7_10 rfl ?_
      refine aw_iload X dX7_deal_91 3 rfl ?_
      refine aw_iload X dX7_deal_93 2 rfl ?_
      refine aw_iload X dX7_deal_95 1 rfl ?_
      refine aw_iload X dX7_deal_97 0 rfl ?_
      refine ca_v X (rn_vn X [.int v6, .int v9, .int v12, .int v15] [] (X.lt (by decide)) (sh_2 (rfl : tp 1 = 2) _) rfl rfl kw407 kw0 (c_X3_admit h) cal_yX3_admit kw405 (Nat.le_of_ble_eq_true rfl) rfl rfl (Nat.le_of_ble_eq_true rfl) dX7_deal_99) (fun M16 h => ?_)
      obtain ⟨v18, ev18⟩ : ∃ y : Int32, y = x3 + 1 := ⟨_, rfl⟩
      have h := h v18 ev18
      refine aw_iinc (v := v18) (lv' := [(3, .int v18), (7, .int v15), (6, .int v12), (5, .int v9), (4, .int v6), (0, .ref (eA E 0)), (2, .int x2)]) X dX7_deal_102 6 rfl (by rw [ev18]; rfl) (by decide) rfl ?_
      refine aw_goto (tgt := 30) X dX7_deal_105 (by decide) ?_
      exact aw_sub [5, 6, 0] rfl (ih _ _ _ h)
def wp_X7_deal (n : Nat)  (M : Mm) (p1 : Int32) (K : Mm → Int32 → Prop) : Prop := wp_X7_within n M p1 1 8 (fun M1 r2 => (¬ r2 = 0 → ∀ v3 : Int32, v3 = jmin p1 (8 - (M1 1 4)) → ∃ kf : Nat, wl_X7_deal_30 n p1 K kf M1 v3 0) ∧ (r2 = 0 → K M1 (-1000000001)))
set_option maxHeartbeats 4000000 in
set_option maxRecDepth 100000 in
theorem c_X7_deal {l : Launch} {E : En} {M : Mm} {p1 : Int32} {K : Mm → Int32 → Prop}  (h : wp_X7_deal (eN E)  M p1 K) : Ctr l E yX7_deal cX7_deal 8 (some .int) 2 [.ref (eA E 0), .int p1] M (QI E K) := by
  refine Ctr.of (by decide +kernel) (Nat.le_of_ble_eq_true rfl) (fun g A hgl X => ?_)
  subst hgl
  have X : CX g cX7_deal RX7 (some .int) 2 E A 8 := X
  show AW g E A 8 _ 0 [(0, .ref (eA E 0)), (1, .int p1)] [] M
  unfold wp_X7_deal at h
  refine aw_iload_n X dX7_deal_0 1 rfl ?_
  refine aw_iconst (v := 1) X dX7_deal_1 (by decide) ?_
  refine aw_bipush (v := 8) X dX7_deal_2 (by decide) ?_
  refine ca_i X (rn_s X [.int p1, .int 1, .int 8] [] kw394 (c_X7_within h) cal_yX7_within kw393 (Nat.le_of_ble_eq_true rfl) rfl rfl (Nat.le_of_ble_eq_true rfl) dX7_deal_4) (fun M1 r2 h => ?_)
  refine aw_if_ne (tgt := 13) X dX7_deal_7 (by decide) (fun c => ?_) (fun c => ?_)
  · have h := h.1 c
    refine aw_iload_n X dX7_deal_13 1 rfl ?_
    refine aw_bipush (v := 8) X dX7_deal_14 (by decide) ?_
    refine aw_aload_n X dX7_deal_16 0 rfl ?_
    refine aw_get X dX7_deal_17 (X.lt (by decide)) (sh_1 (rfl : tp 0 = 1) _) fl_RX7_10 rfl ?_
    refine aw_get X dX7_deal_20 (X.lt (by decide)) (sh_2 (rfl : tp 1 = 2) _) fl_RX7_69 rfl ?_
    refine aw_isub X dX7_deal_23 ?_
    refine aw_mmin X dX7_deal_24 kw457 kw458 kw103 kw459 (by decide) (Nat.le_of_ble_eq_true rfl) ?_
    refine aw_top (fun v3 ev3 => ?_)
    have h := h v3 ev3
    refine aw_istore_n (lv' := [(2, .int v3), (0, .ref (eA E 0)), (1, .int p1)]) X dX7_deal_27 (by decide) rfl ?_
    refine aw_iconst (v := 0) X dX7_deal_28 (by decide) ?_
    refine aw_istore_n (lv' := [(3, .int 0), (2, .int v3), (0, .ref (eA E 0)), (1, .int p1)]) X dX7_deal_29 (by decide) rfl ?_
    obtain ⟨kf, h⟩ := h
    exact aw_sub [2, 1, 0] rfl (lw_X7_deal_30 X p1  kf _ _ _ h)
  · have h := h.2 c
    refine aw_ldc (v := (-1000000001)) X dX7_deal_10 kw403 ?_
    exact aw_iret X dX7_deal_12 h
def wp_X7_seed (n : Nat)  (M : Mm) (p1 : Int32) (K : Mm → Int32 → Prop) : Prop := ∀ v1 : Int32, v1 = M 1 13 → ∀ M2 : Mm, M2 = wr M 1 13 p1 → K M2 v1
set_option maxHeartbeats 4000000 in
set_option maxRecDepth 100000 in
theorem c_X7_seed {l : Launch} {E : En} {M : Mm} {p1 : Int32} {K : Mm → Int32 → Prop}  (h : wp_X7_seed (eN E)  M p1 K) : Ctr l E yX7_seed cX7_seed 3 (some .int) 0 [.ref (eA E 0), .int p1] M (QI E K) := by
  refine Ctr.of (by decide +kernel) (Nat.le_of_ble_eq_true rfl) (fun g A hgl X => ?_)
  subst hgl
  have X : CX g cX7_seed RX7 (some .int) 0 E A 3 := X
  show AW g E A 3 _ 0 [(0, .ref (eA E 0)), (1, .int p1)] [] M
  unfold wp_X7_seed at h
  refine aw_aload_n X dX7_seed_0 0 rfl ?_
  refine aw_get X dX7_seed_1 (X.lt (by decide)) (sh_1 (rfl : tp 0 = 1) _) fl_RX7_10 rfl ?_
  refine aw_get X dX7_seed_4 (X.lt (by decide)) (sh_2 (rfl : tp 1 = 2) _) fl_RX7_161 rfl ?_
  refine aw_top (fun v1 ev1 => ?_)
  have h := h v1 ev1
  refine aw_istore_n (lv' := [(2, .int v1), (0, .ref (eA E 0)), (1, .int p1)]) X dX7_seed_7 (by decide) rfl ?_
  refine aw_aload_n X dX7_seed_8 1 rfl ?_
  refine aw_get X dX7_seed_9 (X.lt (by decide)) (sh_1 (rfl : tp 0 = 1) _) fl_RX7_10 rfl ?_
  refine aw_iload_n X dX7_seed_12 2 rfl ?_
  refine aw_put X dX7_seed_13 (X.lt (by decide)) (sh_2 (rfl : tp 1 = 2) _) fl_RX7_161 fw_3_13 (Nat.le_of_ble_eq_true rfl) (sp_2_13 (rfl : tp 1 = 2) _ _) (fun M2 eM2 => ?_)
  have h := h M2 eM2
  refine aw_iload_n X dX7_seed_16 0 rfl ?_
  exact aw_iret X dX7_seed_17 h
def wp_X7_run (n : Nat)  (M : Mm) (p1 : Int32) (K : Mm → Int32 → Prop) : Prop := wp_X7_within n M p1 1 300 (fun M1 r2 => (¬ r2 = 0 → wp_X3_advance n M1 1 p1 (fun M3 r4 => wp_X3_gotOfAll n M3 1 (fun M5 r6 => K M5 r6))) ∧ (r2 = 0 → K M1 (-1000000001)))
set_option maxHeartbeats 4000000 in
set_option maxRecDepth 100000 in
theorem c_X7_run {l : Launch} {E : En} {M : Mm} {p1 : Int32} {K : Mm → Int32 → Prop}  (h : wp_X7_run (eN E)  M p1 K) : Ctr l E yX7_run cX7_run 2 (some .int) 6 [.ref (eA E 0), .int p1] M (QI E K) := by
  refine Ctr.of (by decide +kernel) (Nat.le_of_ble_eq_true rfl) (fun g A hgl X => ?_)
  subst hgl
  have X : CX g cX7_run RX7 (some .int) 6 E A 2 := X
  show AW g E A 2 _ 0 [(0, .ref (eA E 0)), (1, .int p1)] [] M
  unfold wp_X7_run at h
  refine aw_iload_n X dX7_run_0 1 rfl ?_
  refine aw_iconst (v := 1) X dX7_run_1 (by decide) ?_
  refine aw_sipush (v := 300) X dX7_run_2 (by decide) ?_
  refine ca_i X (rn_s X [.int p1, .int 1, .int 300] [] kw394 (c_X7_within h) cal_yX7_within kw393 (Nat.le_of_ble_eq_true rfl) rfl rfl (Nat.le_of_ble_eq_true rfl) dX7_run_5) (fun M1 r2 h => ?_)
  refine aw_if_ne (tgt := 14) X dX7_run_8 (by decide) (fun c => ?_) (fun c => ?_)
  · have h := h.1 c
    refine aw_aload_n X dX7_run_14 0 rfl ?_
    refine aw_get X dX7_run_15 (X.lt (by decide)) (sh_1 (rfl : tp 0 = 1) _) fl_RX7_10 rfl ?_
    refine aw_iload_n X dX7_run_18 1 rfl ?_
    refine ca_i X (rn_vn X [.int p1] [] (X.lt (by decide)) (sh_2 (rfl : tp 1 = 2) _) rfl rfl kw516 kw14 (c_X3_advance h) cal_yX3_advance kw514 (Nat.le_of_ble_eq_true rfl) rfl rfl (Nat.le_of_ble_eq_true rfl) dX7_run_19) (fun M3 r4 h => ?_)
    refine aw_pop X dX7_run_22 rfl ?_
    refine aw_aload_n X dX7_run_23 0 rfl ?_
    refine aw_get X dX7_run_24 (X.lt (by decide)) (sh_1 (rfl : tp 0 = 1) _) fl_RX7_10 rfl ?_
    refine ca_i X (rn_vn X [] [] (X.lt (by decide)) (sh_2 (rfl : tp 1 = 2) _) rfl rfl kw557 kw23 (c_X3_gotOfAll h) cal_yX3_gotOfAll kw555 (Nat.le_of_ble_eq_true rfl) rfl rfl (Nat.le_of_ble_eq_true rfl) dX7_run_27) (fun M5 r6 h => ?_)
    exact aw_iret X dX7_run_30 h
  · have h := h.2 c
    refine aw_ldc (v := (-1000000001)) X dX7_run_11 kw403 ?_
    exact aw_iret X dX7_run_13 h
def wp_X7_behind (n : Nat)  (M : Mm) (p1 : Int32) (p2 : Int32) (K : Mm → Int32 → Prop) : Prop := wp_X7_within n M p1 0 300 (fun M1 r2 => (r2 = 0 → K M1 (-1000000001)) ∧ (¬ r2 = 0 → wp_X7_within n M1 p2 0 3 (fun M3 r4 => (¬ r4 = 0 → wp_X3_become n M3 13 1 (fun M5 => wp_X3_advance n M5 13 p1 (fun M7 r8 => (p2 = 0 → K M7 (M7 13 7)) ∧ (p2 = 1 → wp_X3_gotOfAll n M7 13 (fun M9 r10 => K M9 r10)) ∧ (p2 = 2 → wp_X3_emptyOfAll n M7 13 (fun M11 r12 => K M11 r12)) ∧ (¬ p2 = 0 → ¬ p2 = 1 → ¬ p2 = 2 → K M7 r8)))) ∧ (r4 = 0 → K M3 (-1000000001)))))
set_option maxHeartbeats 4000000 in
set_option maxRecDepth 100000 in
theorem c_X7_behind {l : Launch} {E : En} {M : Mm} {p1 : Int32} {p2 : Int32} {K : Mm → Int32 → Prop}  (h : wp_X7_behind (eN E)  M p1 p2 K) : Ctr l E yX7_behind cX7_behind 4 (some .int) 6 [.ref (eA E 0), .int p1, .int p2] M (QI E K) := by
  refine Ctr.of (by decide +kernel) (Nat.le_of_ble_eq_true rfl) (fun g A hgl X => ?_)
  subst hgl
  have X : CX g cX7_behind RX7 (some .int) 6 E A 4 := X
  show AW g E A 4 _ 0 [(0, .ref (eA E 0)), (1, .int p1), (2, .int p2)] [] M
  unfold wp_X7_behind at h
  refine aw_iload_n X dX7_behind_0 1 rfl ?_
  refine aw_iconst (v := 0) X dX7_behind_1 (by decide) ?_
  refine aw_sipush (v := 300) X dX7_behind_2 (by decide) ?_
  refine ca_i X (rn_s X [.int p1, .int 0, .int 300] [] kw394 (c_X7_within h) cal_yX7_within kw393 (Nat.le_of_ble_eq_true rfl) rfl rfl (Nat.le_of_ble_eq_true rfl) dX7_behind_5) (fun M1 r2 h => ?_)
  refine aw_if_eq (tgt := 20) X dX7_behind_8 (by decide) (fun c => ?_) (fun c => ?_)
  · have h := h.1 c
    refine aw_ldc (v := (-1000000001)) X dX7_behind_20 kw403 ?_
    exact aw_iret X dX7_behind_22 h
  · have h := h.2 c
    refine aw_iload_n X dX7_behind_11 2 rfl ?_
    refine aw_iconst (v := 0) X dX7_behind_12 (by decide) ?_
    refine aw_iconst (v := 3) X dX7_behind_13 (by decide) ?_
    refine ca_i X (rn_s X [.int p2, .int 0, .int 3] [] kw394 (c_X7_within h) cal_yX7_within kw393 (Nat.le_of_ble_eq_true rfl) rfl rfl (Nat.le_of_ble_eq_true rfl) dX7_behind_14) (fun M3 r4 h => ?_)
    refine aw_if_ne (tgt := 23) X dX7_behind_17 (by decide) (fun c => ?_) (fun c => ?_)
    · have h := h.1 c
      refine aw_aload_n X dX7_behind_23 0 rfl ?_
      refine aw_get X dX7_behind_24 (X.lt (by decide)) (sh_1 (rfl : tp 0 = 1) _) fl_RX7_16 rfl ?_
      refine aw_aload_n X dX7_behind_27 0 rfl ?_
      refine aw_get X dX7_behind_28 (X.lt (by decide)) (sh_1 (rfl : tp 0 = 1) _) fl_RX7_10 rfl ?_
      refine ca_v X (rn_vn X [.ref (eA E 1)] [] (X.lt (by decide)) (sh_2 (rfl : tp 13 = 2) _) rfl rfl kw565 kw24 (c_X3_become h) cal_yX3_become kw563 (Nat.le_of_ble_eq_true rfl) rfl rfl (Nat.le_of_ble_eq_true rfl) dX7_behind_31) (fun M5 h => ?_)
      refine aw_aload_n X dX7_behind_34 0 rfl ?_
      refine aw_get X dX7_behind_35 (X.lt (by decide)) (sh_1 (rfl : tp 0 = 1) _) fl_RX7_16 rfl ?_
      refine aw_iload_n X dX7_behind_38 1 rfl ?_
      refine ca_i X (rn_vn X [.int p1] [] (X.lt (by decide)) (sh_2 (rfl : tp 13 = 2) _) rfl rfl kw516 kw14 (c_X3_advance h) cal_yX3_advance kw514 (Nat.le_of_ble_eq_true rfl) rfl rfl (Nat.le_of_ble_eq_true rfl) dX7_behind_39) (fun M7 r8 h => ?_)
      refine aw_istore_n (lv' := [(3, .int r8), (0, .ref (eA E 0)), (1, .int p1), (2, .int p2)]) X dX7_behind_42 (by decide) rfl ?_
      refine aw_iload_n X dX7_behind_43 3 rfl ?_
      by_cases c0 : p2 = 0
      · have h := h.1 c0
        refine aw_tableIn (tgt := 72) X dX7_behind_44 0 c0 (by decide) (by decide) rfl (by decide) ?_
        refine aw_aload_n X dX7_behind_72 1 rfl ?_
        refine aw_get X dX7_behind_73 (X.lt (by decide)) (sh_1 (rfl : tp 0 = 1) _) fl_RX7_16 rfl ?_
        refine aw_get X dX7_behind_76 (X.lt (by decide)) (sh_2 (rfl : tp 13 = 2) _) fl_RX7_174 rfl ?_
        exact aw_iret X dX7_behind_79 h
      · by_cases c1 : p2 = 1
        · have h := h.2.1 c1
          refine aw_tableIn (tgt := 80) X dX7_behind_44 1 c1 (by decide) (by decide) rfl (by decide) ?_
          refine aw_aload_n X dX7_behind_80 1 rfl ?_
          refine aw_get X dX7_behind_81 (X.lt (by decide)) (sh_1 (rfl : tp 0 = 1) _) fl_RX7_16 rfl ?_
          refine ca_i X (rn_vn X [] [] (X.lt (by decide)) (sh_2 (rfl : tp 13 = 2) _) rfl rfl kw557 kw23 (c_X3_gotOfAll h) cal_yX3_gotOfAll kw555 (Nat.le_of_ble_eq_true rfl) rfl rfl (Nat.le_of_ble_eq_true rfl) dX7_behind_84) (fun M9 r10 h => ?_)
          exact aw_iret X dX7_behind_87 h
        · by_cases c2 : p2 = 2
          · have h := h.2.2.1 c2
            refine aw_tableIn (tgt := 88) X dX7_behind_44 2 c2 (by decide) (by decide) rfl (by decide) ?_
            refine aw_aload_n X dX7_behind_88 1 rfl ?_
            refine aw_get X dX7_behind_89 (X.lt (by decide)) (sh_1 (rfl : tp 0 = 1) _) fl_RX7_16 rfl ?_
            refine ca_i X (rn_vn X [] [] (X.lt (by decide)) (sh_2 (rfl : tp 13 = 2) _) rfl rfl kw576 kw26 (c_X3_emptyOfAll h) cal_yX3_emptyOfAll kw574 (Nat.le_of_ble_eq_true rfl) rfl rfl (Nat.le_of_ble_eq_true rfl) dX7_behind_92) (fun M11 r12 h => ?_)
            exact aw_iret X dX7_behind_95 h
          · have h := h.2.2.2 c0 c1 c2
            refine aw_tableOut (tgt := 96) X dX7_behind_44 (by have n0 := lv_neT (a := 0) c0 rfl; have n1 := lv_neT (a := 1) c1 rfl; have n2 := lv_neT (a := 2) c2 rfl; omega) (by decide) ?_
            refine aw_iload_n X dX7_behind_96 0 rfl ?_
            exact aw_iret X dX7_behind_97 h
    · have h := h.2 c
      refine aw_ldc (v := (-1000000001)) X dX7_behind_20 kw403 ?_
      exact aw_iret X dX7_behind_22 h
def wp_X7_fullIn (n : Nat)  (M : Mm) (p1 : Int32) (K : Mm → Int32 → Prop) : Prop := wp_X7_within n M p1 0 99 (fun M1 r2 => (¬ r2 = 0 → ((M1 1 7) < p1 → (p1 ≤ (M1 1 6) → ∀ v3 : Int32, v3 = jmax 1 ((M1 1 5) - (M1 1 10)) → K M1 (v3 + (((p1 - (M1 1 7)) - 1) * (M1 1 5)))) ∧ (¬ p1 ≤ (M1 1 6) → K M1 (-1000000005))) ∧ (¬ (M1 1 7) < p1 → K M1 0)) ∧ (r2 = 0 → K M1 (-1000000001)))
set_option maxHeartbeats 4000000 in
set_option maxRecDepth 100000 in
theorem c_X7_fullIn {l : Launch} {E : En} {M : Mm} {p1 : Int32} {K : Mm → Int32 → Prop}  (h : wp_X7_fullIn (eN E)  M p1 K) : Ctr l E yX7_fullIn cX7_fullIn 3 (some .int) 1 [.ref (eA E 0), .int p1] M (QI E K) := by
  refine Ctr.of (by decide +kernel) (Nat.le_of_ble_eq_true rfl) (fun g A hgl X => ?_)
  subst hgl
  have X : CX g cX7_fullIn RX7 (some .int) 1 E A 3 := X
  show AW g E A 3 _ 0 [(0, .ref (eA E 0)), (1, .int p1)] [] M
  unfold wp_X7_fullIn at h
  refine aw_iload_n X dX7_fullIn_0 1 rfl ?_
  refine aw_iconst (v := 0) X dX7_fullIn_1 (by decide) ?_
  refine aw_bipush (v := 99) X dX7_fullIn_2 (by decide) ?_
  refine ca_i X (rn_s X [.int p1, .int 0, .int 99] [] kw394 (c_X7_within h) cal_yX7_within kw393 (Nat.le_of_ble_eq_true rfl) rfl rfl (Nat.le_of_ble_eq_true rfl) dX7_fullIn_4) (fun M1 r2 h => ?_)
  refine aw_if_ne (tgt := 13) X dX7_fullIn_7 (by decide) (fun c => ?_) (fun c => ?_)
  · have h := h.1 c
    refine aw_aload_n X dX7_fullIn_13 0 rfl ?_
    refine aw_get X dX7_fullIn_14 (X.lt (by decide)) (sh_1 (rfl : tp 0 = 1) _) fl_RX7_10 rfl ?_
    refine aw_get X dX7_fullIn_17 (X.lt (by decide)) (sh_2 (rfl : tp 1 = 2) _) fl_RX7_174 rfl ?_
    refine aw_iload_n X dX7_fullIn_20 1 rfl ?_
    refine aw_icmp_lt (tgt := 26) X dX7_fullIn_21 (by decide) (fun c => ?_) (fun c => ?_)
    · have h := h.1 c
      refine aw_iload_n X dX7_fullIn_26 1 rfl ?_
      refine aw_aload_n X dX7_fullIn_27 0 rfl ?_
      refine aw_get X dX7_fullIn_28 (X.lt (by decide)) (sh_1 (rfl : tp 0 = 1) _) fl_RX7_10 rfl ?_
      refine aw_get X dX7_fullIn_31 (X.lt (by decide)) (sh_2 (rfl : tp 1 = 2) _) fl_RX7_180 rfl ?_
      refine aw_icmp_le (tgt := 40) X dX7_fullIn_34 (by decide) (fun c => ?_) (fun c => ?_)
      · have h := h.1 c
        refine aw_iconst (v := 1) X dX7_fullIn_40 (by decide) ?_
        refine aw_aload_n X dX7_fullIn_41 0 rfl ?_
        refine aw_get X dX7_fullIn_42 (X.lt (by decide)) (sh_1 (rfl : tp 0 = 1) _) fl_RX7_10 rfl ?_
        refine aw_get X dX7_fullIn_45 (X.lt (by decide)) (sh_2 (rfl : tp 1 = 2) _) fl_RX7_184 rfl ?_
        refine aw_aload_n X dX7_fullIn_48 0 rfl ?_
        refine aw_get X dX7_fullIn_49 (X.lt (by decide)) (sh_1 (rfl : tp 0 = 1) _) fl_RX7_10 rfl ?_
        refine aw_get X dX7_fullIn_52 (X.lt (by decide)) (sh_2 (rfl : tp 1 = 2) _) fl_RX7_187 rfl ?_
        refine aw_isub X dX7_fullIn_55 ?_
        refine aw_mmax X dX7_fullIn_56 kw460 kw267 kw103 kw268 (by decide) (Nat.le_of_ble_eq_true rfl) ?_
        refine aw_top (fun v3 ev3 => ?_)
        have h := h v3 ev3
        refine aw_istore_n (lv' := [(2, .int v3), (0, .ref (eA E 0)), (1, .int p1)]) X dX7_fullIn_59 (by decide) rfl ?_
        refine aw_iload_n X dX7_fullIn_60 0 rfl ?_
        refine aw_iload_n X dX7_fullIn_61 2 rfl ?_
        refine aw_aload_n X dX7_fullIn_62 1 rfl ?_
        refine aw_get X dX7_fullIn_63 (X.lt (by decide)) (sh_1 (rfl : tp 0 = 1) _) fl_RX7_10 rfl ?_
        refine aw_get X dX7_fullIn_66 (X.lt (by decide)) (sh_2 (rfl : tp 1 = 2) _) fl_RX7_174 rfl ?_
        refine aw_isub X dX7_fullIn_69 ?_
        refine aw_iconst (v := 1) X dX7_fullIn_70 (by decide) ?_
        refine aw_isub X dX7_fullIn_71 ?_
        refine aw_aload_n X dX7_fullIn_72 1 rfl ?_
        refine aw_get X dX7_fullIn_73 (X.lt (by decide)) (sh_1 (rfl : tp 0 = 1) _) fl_RX7_10 rfl ?_
        refine aw_get X dX7_fullIn_76 (X.lt (by decide)) (sh_2 (rfl : tp 1 = 2) _) fl_RX7_184 rfl ?_
        refine aw_imul X dX7_fullIn_79 ?_
        refine aw_iadd X dX7_fullIn_80 ?_
        exact aw_iret X dX7_fullIn_81 h
      · have h := h.2 c
        refine aw_ldc (v := (-1000000005)) X dX7_fullIn_37 kw582 ?_
        exact aw_iret X dX7_fullIn_39 h
    · have h := h.2 c
      refine aw_iconst (v := 0) X dX7_fullIn_24 (by decide) ?_
      exact aw_iret X dX7_fullIn_25 h
  · have h := h.2 c
    refine aw_ldc (v := (-1000000001)) X dX7_fullIn_10 kw403 ?_
    exact aw_iret X dX7_fullIn_12 h
def wl_X7_best_46 (n : Nat) (p1 : Int32) (p2 : Int32) (p3 : Int32)  (K : Mm → Int32 → Prop) : Nat → Mm → Int32 → Int32 → Int32 → Prop
  | 0, _, _, _, _ => False
  | k + 1, M, x4, x5, x6 => ((([5, 59, 30, 9, 9] : List Int32).getD (1 : Int32).toNatClampNeg 0) < x6 → (¬ p3 = 0 → K M x5) ∧ (p3 = 0 → K M x4)) ∧ (¬ (([5, 59, 30, 9, 9] : List Int32).getD (1 : Int32).toNatClampNeg 0) < x6 → wp_X3_become n M 13 1 (fun M10 => wp_X3_comerAt n M10 13 p1 (fun M12 r13 => (r13 = none → K M12 (-1000000001)) ∧ (∀ t14 : Nat, r13 = some t14 → tp t14 = 5 ∧ (∀ M16 : Mm, M16 = wr M12 t14 1 x6 → wp_X3_advance n M16 13 p2 (fun M17 r18 => ((M17 t14 9) ≤ x5 → ∀ v19 : Int32, v19 = x6 + 1 → wl_X7_best_46 n p1 p2 p3 K k M17 x4 x5 v19) ∧ (¬ (M17 t14 9) ≤ x5 → ∀ v20 : Int32, v20 = M17 t14 9 → ∀ v21 : Int32, v21 = x6 + 1 → wl_X7_best_46 n p1 p2 p3 K k M17 x6 v20 v21)))))))
set_option maxHeartbeats 4000000 in
set_option maxRecDepth 100000 in
theorem lw_X7_best_46 {g : Gm} {E : En} {A : Nat → Prop} {K : Mm → Int32 → Prop} (X : CX g cX7_best RX7 (some .int) 6 E A 8) (p1 : Int32) (p2 : Int32) (p3 : Int32)   : ∀ (k : Nat) (M : Mm) (x4 : Int32) (x5 : Int32) (x6 : Int32), wl_X7_best_46 (eN E) p1 p2 p3  K k M x4 x5 x6 → AW g E A 8 (MQ (gB g) (QI E K A) (gA g) (gS g) (gk g) (gn g) A) 46 [(0, .ref (eA E 0)), (1, .int p1), (2, .int p2), (3, .int p3), (4, .int x4), (5, .int x5), (6, .int x6)] [] M := by
  intro k
  induction k with
  | zero => intro M x4 x5 x6 h; exact h.elim
  | succ k ih =>
    intro M x4 x5 x6 h
    rw [wl_X7_best_46] at h
    refine aw_iload X dX7_best_46 6 rfl ?_
    refine aw_gets X dX7_best_48 X.sta.1.2.2.1.1 kw401 rfl ?_
    refine aw_iconst (v := 1) X dX7_best_51 (by decide) ?_
    refine aw_ti X dX7_best_52 X.sta.1.2.2.1.2 (by unfold vp_in; decide) ?_
    refine aw_icmp_gt (tgt := 128) X dX7_best_53 (by decide) (fun c => ?_) (fun c => ?_)
    · have h := h.1 c
      refine aw_iload_n X dX7_best_128 3 rfl ?_
      refine aw_if_ne (tgt := 137) X dX7_best_129 (by decide) (fun c => ?_) (fun c => ?_)
      · have h := h.1 c
        refine aw_iload X dX7_best_137 5 rfl ?_
        exact aw_iret X dX7_best_139 h
      · have h := h.2 c
        refine aw_iload X dX7_best_132 4 rfl ?_
        refine aw_goto (tgt := 139) X dX7_best_134 (by decide) ?_
        exact aw_iret X dX7_best_139 h
    · have h := h.2 c
      refine aw_aload_n X dX7_best_56 0 rfl ?_
      refine aw_get X dX7_best_57 (X.lt (by decide)) (sh_1 (rfl : tp 0 = 1) _) fl_RX7_16 rfl ?_
      refine aw_aload_n X dX7_best_60 0 rfl ?_
      refine aw_get X dX7_best_61 (X.lt (by decide)) (sh_1 (rfl : tp 0 = 1) _) fl_RX7_10 rfl ?_
      refine ca_v X (rn_vn X [.ref (eA E 1)] [] (X.lt (by decide)) (sh_2 (rfl : tp 13 = 2) _) rfl rfl kw565 kw24 (c_X3_become h) cal_yX3_become kw563 (Nat.le_of_ble_eq_true rfl) rfl rfl (Nat.le_of_ble_eq_true rfl) dX7_best_64) (fun M10 h => ?_)
      refine aw_aload_n X dX7_best_67 0 rfl ?_
      refine aw_get X dX7_best_68 (X.lt (by decide)) (sh_1 (rfl : tp 0 = 1) _) fl_RX7_16 rfl ?_
      refine aw_iload_n X dX7_best_71 1 rfl ?_
      refine ca_q X (rn_vn X [.int p1] [] (X.lt (by decide)) (sh_2 (rfl : tp 13 = 2) _) rfl rfl kw419 kw2 (c_X3_comerAt h) cal_yX3_comerAt kw417 (Nat.le_of_ble_eq_true rfl) rfl rfl (Nat.le_of_ble_eq_true rfl) dX7_best_72) (fun M12 r13 h => ?_)
      rcases r13 with _ | t14
      · have h := h.1 rfl
        refine aw_astoreN (lv' := [(7, .null), (0, .ref (eA E 0)), (1, .int p1), (2, .int p2), (3, .int p3), (4, .int x4), (5, .int x5), (6, .int x6)]) X dX7_best_75 (by decide) rfl ?_
        refine aw_aloadN X dX7_best_77 0 rfl ?_
        refine aw_ifnonnullN X dX7_best_79 ?_
        refine aw_ldc (v := (-1000000001)) X dX7_best_82 kw403 ?_
        exact aw_iret X dX7_best_84 h
      · obtain ⟨ht15, h⟩ := h.2 t14 rfl
        refine aw_astore (lv' := [(7, .ref (eA E t14)), (0, .ref (eA E 0)), (1, .int p1), (2, .int p2), (3, .int p3), (4, .int x4), (5, .int x5), (6, .int x6)]) X dX7_best_75 (by decide) rfl ?_
        refine aw_aload X dX7_best_77 0 rfl ?_
        refine aw_ifnonnull (tgt := 85) X dX7_best_79 (by decide) ?_
        refine aw_aload X dX7_best_85 0 rfl ?_
        refine aw_iload X dX7_best_87 7 rfl ?_
        refine aw_put X dX7_best_89 (X.il ht15 (by decide)) (sh_5 ht15 _) fl_RX7_131 fw_0_1 (Nat.le_of_ble_eq_true rfl) (sp_5_1 ht15 _ _) (fun M16 eM16 => ?_)
        have h := h M16 eM16
        refine aw_aload_n X dX7_best_92 1 rfl ?_
        refine aw_get X dX7_best_93 (X.lt (by decide)) (sh_1 (rfl : tp 0 = 1) _) fl_RX7_16 rfl ?_
        refine aw_iload_n X dX7_best_96 3 rfl ?_
        refine ca_i X (rn_vn X [.int p2] [] (X.lt (by decide)) (sh_2 (rfl : tp 13 = 2) _) rfl rfl kw516 kw14 (c_X3_advance h) cal_yX3_advance kw514 (Nat.le_of_ble_eq_true rfl) rfl rfl (Nat.le_of_ble_eq_true rfl) dX7_best_97) (fun M17 r18 h => ?_)
        refine aw_pop X dX7_best_100 rfl ?_
        refine aw_aload X dX7_best_101 0 rfl ?_
        refine aw_get X dX7_best_103 (X.il ht15 (by decide)) (sh_5 ht15 _) fl_RX7_103 rfl ?_
        refine aw_iload X dX7_best_106 6 rfl ?_
        refine aw_icmp_le (tgt := 122) X dX7_best_108 (by decide) (fun c => ?_) (fun c => ?_)
        · have h := h.1 c
          obtain ⟨v19, ev19⟩ : ∃ y : Int32, y = x6 + 1 := ⟨_, rfl⟩
          have h := h v19 ev19
          refine aw_iinc (v := v19) (lv' := [(6, .int v19), (7, .ref (eA E t14)), (0, .ref (eA E 0)), (1, .int p1), (2, .int p2), (3, .int p3), (4, .int x4), (5, .int x5)]) X dX7_best_122 7 rfl (by rw [ev19]; rfl) (by decide) rfl ?_
          refine aw_goto (tgt := 46) X dX7_best_125 (by decide) ?_
          exact aw_sub [2, 3, 4, 5, 6, 7, 0] rfl (ih _ _ _ _ h)
        · have h := h.2 c
          refine aw_aload X dX7_best_111 0 rfl ?_
          refine aw_get X dX7_best_113 (X.il ht15 (by decide)) (sh_5 ht15 _) fl_RX7_103 rfl ?_
          refine aw_top (fun v20 ev20 => ?_)
          have h := h v20 ev20
          refine aw_istore (lv' := [(5, .int v20), (7, .ref (eA E t14)), (0, .ref (eA E 0)), (1, .int p1), (2, .int p2), (3, .int p3), (4, .int x4), (6, .int x6)]) X dX7_best_116 (by decide) rfl ?_
          refine aw_iload X dX7_best_118 7 rfl ?_
          refine aw_istore (lv' := [(4, .int x6), (5, .int v20), (7, .ref (eA E t14)), (0, .ref (eA E 0)), (1, .int p1), (2, .int p2), (3, .int p3), (6, .int x6)]) X dX7_best_120 (by decide) rfl ?_
          obtain ⟨v21, ev21⟩ : ∃ y : Int32, y = x6 + 1 := ⟨_, rfl⟩
          have h := h v21 ev21
          refine aw_iinc (v := v21) (lv' := [(6, .int v21), (4, .int x6), (5, .int v20), (7, .ref (eA E t14)), (0, .ref (eA E 0)), (1, .int p1), (2, .int p2), (3, .int p3)]) X dX7_best_122 7 rfl (by rw [ev21]; rfl) (by decide) rfl ?_
          refine aw_goto (tgt := 46) X dX7_best_125 (by decide) ?_
          exact aw_sub [4, 5, 6, 7, 1, 2, 0] rfl (ih _ _ _ _ h)
def wp_X7_best (n : Nat)  (M : Mm) (p1 : Int32) (p2 : Int32) (p3 : Int32) (K : Mm → Int32 → Prop) : Prop := wp_X3_comerAt n M 1 p1 (fun M1 r2 => (r2 = none → K M1 (-1000000001)) ∧ (∀ t3 : Nat, r2 = some t3 → tp t3 = 5 ∧ (wp_X7_within n M1 p2 1 120 (fun M5 r6 => (r6 = 0 → K M5 (-1000000001)) ∧ (¬ r6 = 0 → wp_X7_within n M5 p3 0 1 (fun M7 r8 => (¬ r8 = 0 → ∀ v9 : Int32, v9 = ([0, 0, 1, 0, 0] : List Int32).getD (1 : Int32).toNatClampNeg 0 → ∃ kf : Nat, wl_X7_best_46 n p1 p2 p3 K kf M7 0 (-1) v9) ∧ (r8 = 0 → K M7 (-1000000001))))))))
set_option maxHeartbeats 4000000 in
set_option maxRecDepth 100000 in
theorem c_X7_best {l : Launch} {E : En} {M : Mm} {p1 : Int32} {p2 : Int32} {p3 : Int32} {K : Mm → Int32 → Prop}  (h : wp_X7_best (eN E)  M p1 p2 p3 K) : Ctr l E yX7_best cX7_best 8 (some .int) 6 [.ref (eA E 0), .int p1, .int p2, .int p3] M (QI E K) := by
  refine Ctr.of (by decide +kernel) (Nat.le_of_ble_eq_true rfl) (fun g A hgl X => ?_)
  subst hgl
  have X : CX g cX7_best RX7 (some .int) 6 E A 8 := X
  show AW g E A 8 _ 0 [(0, .ref (eA E 0)), (1, .int p1), (2, .int p2), (3, .int p3)] [] M
  unfold wp_X7_best at h
  refine aw_aload_n X dX7_best_0 0 rfl ?_
  refine aw_get X dX7_best_1 (X.lt (by decide)) (sh_1 (rfl : tp 0 = 1) _) fl_RX7_10 rfl ?_
  refine aw_iload_n X dX7_best_4 1 rfl ?_
  refine ca_q X (rn_vn X [.int p1] [] (X.lt (by decide)) (sh_2 (rfl : tp 1 = 2) _) rfl rfl kw419 kw2 (c_X3_comerAt h) cal_yX3_comerAt kw417 (Nat.le_of_ble_eq_true rfl) rfl rfl (Nat.le_of_ble_eq_true rfl) dX7_best_5) (fun M1 r2 h => ?_)
  rcases r2 with _ | t3
  · have h := h.1 rfl
    refine aw_ifnullN (tgt := 30) X dX7_best_8 (by decide) ?_
    refine aw_ldc (v := (-1000000001)) X dX7_best_30 kw403 ?_
    exact aw_iret X dX7_best_32 h
  · obtain ⟨ht4, h⟩ := h.2 t3 rfl
    refine aw_ifnull X dX7_best_8 ?_
    refine aw_iload_n X dX7_best_11 2 rfl ?_
    refine aw_iconst (v := 1) X dX7_best_12 (by decide) ?_
    refine aw_bipush (v := 120) X dX7_best_13 (by decide) ?_
    refine ca_i X (rn_s X [.int p2, .int 1, .int 120] [] kw394 (c_X7_within h) cal_yX7_within kw393 (Nat.le_of_ble_eq_true rfl) rfl rfl (Nat.le_of_ble_eq_true rfl) dX7_best_15) (fun M5 r6 h => ?_)
    refine aw_if_eq (tgt := 30) X dX7_best_18 (by decide) (fun c => ?_) (fun c => ?_)
    · have h := h.1 c
      refine aw_ldc (v := (-1000000001)) X dX7_best_30 kw403 ?_
      exact aw_iret X dX7_best_32 h
    · have h := h.2 c
      refine aw_iload_n X dX7_best_21 3 rfl ?_
      refine aw_iconst (v := 0) X dX7_best_22 (by decide) ?_
      refine aw_iconst (v := 1) X dX7_best_23 (by decide) ?_
      refine ca_i X (rn_s X [.int p3, .int 0, .int 1] [] kw394 (c_X7_within h) cal_yX7_within kw393 (Nat.le_of_ble_eq_true rfl) rfl rfl (Nat.le_of_ble_eq_true rfl) dX7_best_24) (fun M7 r8 h => ?_)
      refine aw_if_ne (tgt := 33) X dX7_best_27 (by decide) (fun c => ?_) (fun c => ?_)
      · have h := h.1 c
        refine aw_iconst (v := 0) X dX7_best_33 (by decide) ?_
        refine aw_istore (lv' := [(4, .int 0), (0, .ref (eA E 0)), (1, .int p1), (2, .int p2), (3, .int p3)]) X dX7_best_34 (by decide) rfl ?_
        refine aw_iconst (v := (-1)) X dX7_best_36 (by decide) ?_
        refine aw_istore (lv' := [(5, .int (-1)), (4, .int 0), (0, .ref (eA E 0)), (1, .int p1), (2, .int p2), (3, .int p3)]) X dX7_best_37 (by decide) rfl ?_
        refine aw_gets X dX7_best_39 X.sta.1.2.1.1 kw399 rfl ?_
        refine aw_iconst (v := 1) X dX7_best_42 (by decide) ?_
        refine aw_ti X dX7_best_43 X.sta.1.2.1.2 (by unfold vp_in; decide) ?_
        refine aw_top (fun v9 ev9 => ?_)
        have h := h v9 ev9
        refine aw_istore (lv' := [(6, .int v9), (5, .int (-1)), (4, .int 0), (0, .ref (eA E 0)), (1, .int p1), (2, .int p2), (3, .int p3)]) X dX7_best_44 (by decide) rfl ?_
        obtain ⟨kf, h⟩ := h
        exact aw_sub [3, 4, 5, 6, 2, 1, 0] rfl (lw_X7_best_46 X p1 p2 p3  kf _ _ _ _ h)
      · have h := h.2 c
        refine aw_ldc (v := (-1000000001)) X dX7_best_30 kw403 ?_
        exact aw_iret X dX7_best_32 h
def wp_X7_alone (n : Nat)  (M : Mm) (p1 : Int32) (p2 : Int32) (K : Mm → Int32 → Prop) : Prop := wp_X3_comerAt n M 1 p1 (fun M1 r2 => (r2 = none → K M1 (-1000000001)) ∧ (∀ t3 : Nat, r2 = some t3 → tp t3 = 5 ∧ (wp_X7_within n M1 p2 1 300 (fun M5 r6 => (¬ r6 = 0 → wp_X3_become n M5 13 1 (fun M7 => wp_X3_comerAt n M7 13 p1 (fun M9 r10 => (r10 = none → K M9 (-1000000001)) ∧ (∀ t11 : Nat, r10 = some t11 → tp t11 = 5 ∧ (wp_X3_advance n M9 13 p2 (fun M13 r14 => ∀ v15 : Int32, v15 = M13 t11 9 → wp_X3_become n M13 13 1 (fun M16 => wp_X3_keepOthersHome n M16 13 p1 (fun M18 => wp_X3_advance n M18 13 p2 (fun M20 r21 => K M20 ((M20 t11 9) - v15)))))))))) ∧ (r6 = 0 → K M5 (-1000000001))))))
set_option maxHeartbeats 4000000 in
set_option maxRecDepth 100000 in
theorem c_X7_alone {l : Launch} {E : En} {M : Mm} {p1 : Int32} {p2 : Int32} {K : Mm → Int32 → Prop}  (h : wp_X7_alone (eN E)  M p1 p2 K) : Ctr l E yX7_alone cX7_alone 5 (some .int) 6 [.ref (eA E 0), .int p1, .int p2] M (QI E K) := by
  refine Ctr.of (by decide +kernel) (Nat.le_of_ble_eq_true rfl) (fun g A hgl X => ?_)
  subst hgl
  have X : CX g cX7_alone RX7 (some .int) 6 E A 5 := X
  show AW g E A 5 _ 0 [(0, .ref (eA E 0)), (1, .int p1), (2, .int p2)] [] M
  unfold wp_X7_alone at h
  refine aw_aload_n X dX7_alone_0 0 rfl ?_
  refine aw_get X dX7_alone_1 (X.lt (by decide)) (sh_1 (rfl : tp 0 = 1) _) fl_RX7_10 rfl ?_
  refine aw_iload_n X dX7_alone_4 1 rfl ?_
  refine ca_q X (rn_vn X [.int p1] [] (X.lt (by decide)) (sh_2 (rfl : tp 1 = 2) _) rfl rfl kw419 kw2 (c_X3_comerAt h) cal_yX3_comerAt kw417 (Nat.le_of_ble_eq_true rfl) rfl rfl (Nat.le_of_ble_eq_true rfl) dX7_alone_5) (fun M1 r2 h => ?_)
  rcases r2 with _ | t3
  · have h := h.1 rfl
    refine aw_ifnullN (tgt := 22) X dX7_alone_8 (by decide) ?_
    refine aw_ldc (v := (-1000000001)) X dX7_alone_22 kw403 ?_
    exact aw_iret X dX7_alone_24 h
  · obtain ⟨ht4, h⟩ := h.2 t3 rfl
    refine aw_ifnull X dX7_alone_8 ?_
    refine aw_iload_n X dX7_alone_11 2 rfl ?_
    refine aw_iconst (v := 1) X dX7_alone_12 (by decide) ?_
    refine aw_sipush (v := 300) X dX7_alone_13 (by decide) ?_
    refine ca_i X (rn_s X [.int p2, .int 1, .int 300] [] kw394 (c_X7_within h) cal_yX7_within kw393 (Nat.le_of_ble_eq_true rfl) rfl rfl (Nat.le_of_ble_eq_true rfl) dX7_alone_16) (fun M5 r6 h => ?_)
    refine aw_if_ne (tgt := 25) X dX7_alone_19 (by decide) (fun c => ?_) (fun c => ?_)
    · have h := h.1 c
      refine aw_aload_n X dX7_alone_25 0 rfl ?_
      refine aw_get X dX7_alone_26 (X.lt (by decide)) (sh_1 (rfl : tp 0 = 1) _) fl_RX7_16 rfl ?_
      refine aw_aload_n X dX7_alone_29 0 rfl ?_
      refine aw_get X dX7_alone_30 (X.lt (by decide)) (sh_1 (rfl : tp 0 = 1) _) fl_RX7_10 rfl ?_
      refine ca_v X (rn_vn X [.ref (eA E 1)] [] (X.lt (by decide)) (sh_2 (rfl : tp 13 = 2) _) rfl rfl kw565 kw24 (c_X3_become h) cal_yX3_become kw563 (Nat.le_of_ble_eq_true rfl) rfl rfl (Nat.le_of_ble_eq_true rfl) dX7_alone_33) (fun M7 h => ?_)
      refine aw_aload_n X dX7_alone_36 0 rfl ?_
      refine aw_get X dX7_alone_37 (X.lt (by decide)) (sh_1 (rfl : tp 0 = 1) _) fl_RX7_16 rfl ?_
      refine aw_iload_n X dX7_alone_40 1 rfl ?_
      refine ca_q X (rn_vn X [.int p1] [] (X.lt (by decide)) (sh_2 (rfl : tp 13 = 2) _) rfl rfl kw419 kw2 (c_X3_comerAt h) cal_yX3_comerAt kw417 (Nat.le_of_ble_eq_true rfl) rfl rfl (Nat.le_of_ble_eq_true rfl) dX7_alone_41) (fun M9 r10 h => ?_)
      rcases r10 with _ | t11
      · have h := h.1 rfl
        refine aw_astore_nN (lv' := [(3, .null), (0, .ref (eA E 0)), (1, .int p1), (2, .int p2)]) X dX7_alone_44 (by decide) rfl ?_
        refine aw_aload_nN X dX7_alone_45 0 rfl ?_
        refine aw_ifnonnullN X dX7_alone_46 ?_
        refine aw_ldc (v := (-1000000001)) X dX7_alone_49 kw403 ?_
        exact aw_iret X dX7_alone_51 h
      · obtain ⟨ht12, h⟩ := h.2 t11 rfl
        refine aw_astore_n (lv' := [(3, .ref (eA E t11)), (0, .ref (eA E 0)), (1, .int p1), (2, .int p2)]) X dX7_alone_44 (by decide) rfl ?_
        refine aw_aload_n X dX7_alone_45 0 rfl ?_
        refine aw_ifnonnull (tgt := 52) X dX7_alone_46 (by decide) ?_
        refine aw_aload_n X dX7_alone_52 1 rfl ?_
        refine aw_get X dX7_alone_53 (X.lt (by decide)) (sh_1 (rfl : tp 0 = 1) _) fl_RX7_16 rfl ?_
        refine aw_iload_n X dX7_alone_56 3 rfl ?_
        refine ca_i X (rn_vn X [.int p2] [] (X.lt (by decide)) (sh_2 (rfl : tp 13 = 2) _) rfl rfl kw516 kw14 (c_X3_advance h) cal_yX3_advance kw514 (Nat.le_of_ble_eq_true rfl) rfl rfl (Nat.le_of_ble_eq_true rfl) dX7_alone_57) (fun M13 r14 h => ?_)
        refine aw_pop X dX7_alone_60 rfl ?_
        refine aw_aload_n X dX7_alone_61 0 rfl ?_
        refine aw_get X dX7_alone_62 (X.il ht12 (by decide)) (sh_5 ht12 _) fl_RX7_103 rfl ?_
        refine aw_top (fun v15 ev15 => ?_)
        have h := h v15 ev15
        refine aw_istore (lv' := [(4, .int v15), (3, .ref (eA E t11)), (0, .ref (eA E 0)), (1, .int p1), (2, .int p2)]) X dX7_alone_65 (by decide) rfl ?_
        refine aw_aload_n X dX7_alone_67 2 rfl ?_
        refine aw_get X dX7_alone_68 (X.lt (by decide)) (sh_1 (rfl : tp 0 = 1) _) fl_RX7_16 rfl ?_
        refine aw_aload_n X dX7_alone_71 2 rfl ?_
        refine aw_get X dX7_alone_72 (X.lt (by decide)) (sh_1 (rfl : tp 0 = 1) _) fl_RX7_10 rfl ?_
        refine ca_v X (rn_vn X [.ref (eA E 1)] [] (X.lt (by decide)) (sh_2 (rfl : tp 13 = 2) _) rfl rfl kw565 kw24 (c_X3_become h) cal_yX3_become kw563 (Nat.le_of_ble_eq_true rfl) rfl rfl (Nat.le_of_ble_eq_true rfl) dX7_alone_75) (fun M16 h => ?_)
        refine aw_aload_n X dX7_alone_78 2 rfl ?_
        refine aw_get X dX7_alone_79 (X.lt (by decide)) (sh_1 (rfl : tp 0 = 1) _) fl_RX7_16 rfl ?_
        refine aw_iload_n X dX7_alone_82 3 rfl ?_
        refine ca_v X (rn_vn X [.int p1] [] (X.lt (by decide)) (sh_2 (rfl : tp 13 = 2) _) rfl rfl kw593 kw27 (c_X3_keepOthersHome h) cal_yX3_keepOthersHome kw591 (Nat.le_of_ble_eq_true rfl) rfl rfl (Nat.le_of_ble_eq_true rfl) dX7_alone_83) (fun M18 h => ?_)
        refine aw_aload_n X dX7_alone_86 2 rfl ?_
        refine aw_get X dX7_alone_87 (X.lt (by decide)) (sh_1 (rfl : tp 0 = 1) _) fl_RX7_16 rfl ?_
        refine aw_iload_n X dX7_alone_90 4 rfl ?_
        refine ca_i X (rn_vn X [.int p2] [] (X.lt (by decide)) (sh_2 (rfl : tp 13 = 2) _) rfl rfl kw516 kw14 (c_X3_advance h) cal_yX3_advance kw514 (Nat.le_of_ble_eq_true rfl) rfl rfl (Nat.le_of_ble_eq_true rfl) dX7_alone_91) (fun M20 r21 h => ?_)
        refine aw_pop X dX7_alone_94 rfl ?_
        refine aw_aload_n X dX7_alone_95 1 rfl ?_
        refine aw_get X dX7_alone_96 (X.il ht12 (by decide)) (sh_5 ht12 _) fl_RX7_103 rfl ?_
        refine aw_iload X dX7_alone_99 0 rfl ?_
        refine aw_isub X dX7_alone_101 ?_
        exact aw_iret X dX7_alone_102 h
    · have h := h.2 c
      refine aw_ldc (v := (-1000000001)) X dX7_alone_22 kw403 ?_
      exact aw_iret X dX7_alone_24 h
def wp_X7_mean (n : Nat)  (M : Mm) (p1 : Int32) (K : Mm → Int64 → Prop) : Prop := wp_X7_within n M p1 0 1 (fun M1 r2 => (¬ r2 = 0 → wp_X3_visitsOfAll n M1 1 (fun M3 r4 => ∀ v5 : Int64, v5 = r4.toInt64 → (¬ (lg_cmp v5 0) = 0 → wp_X7_greatestShared n M3 ((M3 1 12).toInt64) v5 (fun M6 r7 => (¬ (lg_cmp r7 0) = 0 → (¬ p1 = 0 → ¬ r7 = 0 ∧ (K M6 (v5 / r7))) ∧ (p1 = 0 → ¬ r7 = 0 ∧ (K M6 (((M6 1 12).toInt64) / r7)))) ∧ ((lg_cmp r7 0) = 0 → K M6 p1.toInt64))) ∧ ((lg_cmp v5 0) = 0 → K M3 p1.toInt64))) ∧ (r2 = 0 → K M1 (-1000000001)))
set_option maxHeartbeats 4000000 in
set_option maxRecDepth 100000 in
theorem c_X7_mean {l : Launch} {E : En} {M : Mm} {p1 : Int32} {K : Mm → Int64 → Prop}  (h : wp_X7_mean (eN E)  M p1 K) : Ctr l E yX7_mean cX7_mean 6 (some .long) 1 [.ref (eA E 0), .int p1] M (QL E K) := by
  refine Ctr.of (by decide +kernel) (Nat.le_of_ble_eq_true rfl) (fun g A hgl X => ?_)
  subst hgl
  have X : CX g cX7_mean RX7 (some .long) 1 E A 6 := X
  show AW g E A 6 _ 0 [(0, .ref (eA E 0)), (1, .int p1)] [] M
  unfold wp_X7_mean at h
  refine aw_iload_n X dX7_mean_0 1 rfl ?_
  refine aw_iconst (v := 0) X dX7_mean_1 (by decide) ?_
  refine aw_iconst (v := 1) X dX7_mean_2 (by decide) ?_
  refine ca_i X (rn_s X [.int p1, .int 0, .int 1] [] kw394 (c_X7_within h) cal_yX7_within kw393 (Nat.le_of_ble_eq_true rfl) rfl rfl (Nat.le_of_ble_eq_true rfl) dX7_mean_3) (fun M1 r2 h => ?_)
  refine aw_if_ne (tgt := 13) X dX7_mean_6 (by decide) (fun c => ?_) (fun c => ?_)
  · have h := h.1 c
    refine aw_aload_n X dX7_mean_13 0 rfl ?_
    refine aw_get X dX7_mean_14 (X.lt (by decide)) (sh_1 (rfl : tp 0 = 1) _) fl_RX7_10 rfl ?_
    refine ca_i X (rn_vn X [] [] (X.lt (by decide)) (sh_2 (rfl : tp 1 = 2) _) rfl rfl kw602 kw28 (c_X3_visitsOfAll h) cal_yX3_visitsOfAll kw600 (Nat.le_of_ble_eq_true rfl) rfl rfl (Nat.le_of_ble_eq_true rfl) dX7_mean_17) (fun M3 r4 h => ?_)
    refine aw_i2l X dX7_mean_20 ?_
    refine aw_topl (fun v5 ev5 => ?_)
    have h := h v5 ev5
    refine aw_lstore_n (lv' := [(2, .long v5), (0, .ref (eA E 0)), (1, .int p1)]) X dX7_mean_21 (by decide) rfl ?_
    refine aw_lload_n X dX7_mean_22 0 rfl ?_
    refine aw_lconst (v := 0) X dX7_mean_23 (by decide) ?_
    refine aw_lcmp X dX7_mean_24 ?_
    refine aw_if_ne (tgt := 31) X dX7_mean_25 (by decide) (fun c => ?_) (fun c => ?_)
    · have h := h.1 c
      refine aw_aload_n X dX7_mean_31 1 rfl ?_
      refine aw_get X dX7_mean_32 (X.lt (by decide)) (sh_1 (rfl : tp 0 = 1) _) fl_RX7_10 rfl ?_
      refine aw_get X dX7_mean_35 (X.lt (by decide)) (sh_2 (rfl : tp 1 = 2) _) fl_RX7_207 rfl ?_
      refine aw_i2l X dX7_mean_38 ?_
      refine aw_lload_n X dX7_mean_39 0 rfl ?_
      refine ca_l X (rn_s X [.long ((M3 1 12).toInt64), .long v5] [] kw605 (c_X7_greatestShared h) cal_yX7_greatestShared kw604 (Nat.le_of_ble_eq_true rfl) rfl rfl (Nat.le_of_ble_eq_true rfl) dX7_mean_40) (fun M6 r7 h => ?_)
      refine aw_lstore (lv' := [(4, .long r7), (2, .long v5), (0, .ref (eA E 0)), (1, .int p1)]) X dX7_mean_43 (by decide) rfl ?_
      refine aw_lload X dX7_mean_45 0 rfl ?_
      refine aw_lconst (v := 0) X dX7_mean_47 (by decide) ?_
      refine aw_lcmp X dX7_mean_48 ?_
      refine aw_if_ne (tgt := 55) X dX7_mean_49 (by decide) (fun c => ?_) (fun c => ?_)
      · have h := h.1 c
        refine aw_iload_n X dX7_mean_55 3 rfl ?_
        refine aw_if_ne (tgt := 70) X dX7_mean_56 (by decide) (fun c => ?_) (fun c => ?_)
        · have h := h.1 c
          refine aw_lload_n X dX7_mean_70 1 rfl ?_
          refine aw_lload X dX7_mean_71 0 rfl ?_
          obtain ⟨hne, h⟩ := h
          refine aw_ldiv X dX7_mean_73 hne ?_
          exact aw_lret X dX7_mean_74 h
        · have h := h.2 c
          refine aw_aload_n X dX7_mean_59 2 rfl ?_
          refine aw_get X dX7_mean_60 (X.lt (by decide)) (sh_1 (rfl : tp 0 = 1) _) fl_RX7_10 rfl ?_
          refine aw_get X dX7_mean_63 (X.lt (by decide)) (sh_2 (rfl : tp 1 = 2) _) fl_RX7_207 rfl ?_
          refine aw_i2l X dX7_mean_66 ?_
          refine aw_goto (tgt := 71) X dX7_mean_67 (by decide) ?_
          refine aw_lload X dX7_mean_71 0 rfl ?_
          obtain ⟨hne, h⟩ := h
          refine aw_ldiv X dX7_mean_73 hne ?_
          exact aw_lret X dX7_mean_74 h
      · have h := h.2 c
        refine aw_iload_n X dX7_mean_52 3 rfl ?_
        refine aw_i2l X dX7_mean_53 ?_
        exact aw_lret X dX7_mean_54 h
    · have h := h.2 c
      refine aw_iload_n X dX7_mean_28 2 rfl ?_
      refine aw_i2l X dX7_mean_29 ?_
      exact aw_lret X dX7_mean_30 h
  · have h := h.2 c
    refine aw_ldc2_w (v := (-1000000001)) X dX7_mean_9 kw599 ?_
    exact aw_lret X dX7_mean_12 h
def wl_X7_least_7 (n : Nat)   (K : Mm → Int32 → Prop) : Nat → Mm → Int32 → Option Nat → Int32 → Prop
  | 0, _, _, _, _ => False
  | k + 1, M, x1, x2, x3 => (x2 = none → ((M 1 4) ≤ x3 → K M x1) ∧ (¬ (M 1 4) ≤ x3 → wp_X3_comerAt n M 1 x3 (fun M1 r2 => (r2 = none → ∀ v3 : Int32, v3 = x3 + 1 → wl_X7_least_7 n K k M1 x1 none v3) ∧ (∀ t4 : Nat, r2 = some t4 → tp t4 = 5 ∧ (∀ v6 : Int32, v6 = x3 + 1 → wl_X7_least_7 n K k M1 x3 (some t4) v6))))) ∧ (∀ x2i : Nat, x2 = some x2i → tp x2i = 5 ∧ (((M 1 4) ≤ x3 → K M x1) ∧ (¬ (M 1 4) ≤ x3 → wp_X3_comerAt n M 1 x3 (fun M7 r8 => (r8 = none → ∀ v9 : Int32, v9 = x3 + 1 → wl_X7_least_7 n K k M7 x1 (some x2i) v9) ∧ (∀ t10 : Nat, r8 = some t10 → tp t10 = 5 ∧ (wp_X0_faredWorse n M7 t10 x2i (fun M12 r13 => (r13 = 0 → ∀ v14 : Int32, v14 = x3 + 1 → wl_X7_least_7 n K k M12 x1 (some x2i) v14) ∧ (¬ r13 = 0 → ∀ v15 : Int32, v15 = x3 + 1 → wl_X7_least_7 n K k M12 x3 (some t10) v15))))))))
set_option maxHeartbeats 4000000 in
set_option maxRecDepth 100000 in
theorem lw_X7_least_7 {g : Gm} {E : En} {A : Nat → Prop} {K : Mm → Int32 → Prop} (X : CX g cX7_least RX7 (some .int) 2 E A 5)    : ∀ (k : Nat) (M : Mm) (x1 : Int32) (x2 : Option Nat) (x3 : Int32), wl_X7_least_7 (eN E)   K k M x1 x2 x3 → AW g E A 5 (MQ (gB g) (QI E K A) (gA g) (gS g) (gk g) (gn g) A) 7 [(0, .ref (eA E 0)), (1, .int x1), (2, va_rf ((x2).map (eA E))), (3, .int x3)] [] M := by
  intro k
  induction k with
  | zero => intro M x1 x2 x3 h; exact h.elim
  | succ k ih =>
    intro M x1 x2 x3 h
    rw [wl_X7_least_7] at h
    rcases x2 with _ | x2i
    · have h := h.1 rfl
      refine aw_iload_n X dX7_least_7 3 rfl ?_
      refine aw_aload_n X dX7_least_8 0 rfl ?_
      refine aw_get X dX7_least_9 (X.lt (by decide)) (sh_1 (rfl : tp 0 = 1) _) fl_RX7_10 rfl ?_
      refine aw_get X dX7_least_12 (X.lt (by decide)) (sh_2 (rfl : tp 1 = 2) _) fl_RX7_69 rfl ?_
      refine aw_icmp_ge (tgt := 57) X dX7_least_15 (by decide) (fun c => ?_) (fun c => ?_)
      · have h := h.1 c
        refine aw_iload_n X dX7_least_57 1 rfl ?_
        exact aw_iret X dX7_least_58 h
      · have h := h.2 c
        refine aw_aload_n X dX7_least_18 0 rfl ?_
        refine aw_get X dX7_least_19 (X.lt (by decide)) (sh_1 (rfl : tp 0 = 1) _) fl_RX7_10 rfl ?_
        refine aw_iload_n X dX7_least_22 3 rfl ?_
        refine ca_q X (rn_vn X [.int x3] [] (X.lt (by decide)) (sh_2 (rfl : tp 1 = 2) _) rfl rfl kw419 kw2 (c_X3_comerAt h) cal_yX3_comerAt kw417 (Nat.le_of_ble_eq_true rfl) rfl rfl (Nat.le_of_ble_eq_true rfl) dX7_least_23) (fun M1 r2 h => ?_)
        rcases r2 with _ | t4
        · have h := h.1 rfl
          refine aw_astoreN (lv' := [(4, .null), (0, .ref (eA E 0)), (1, .int x1), (2, .null), (3, .int x3)]) X dX7_least_26 (by decide) rfl ?_
          refine aw_aloadN X dX7_least_28 0 rfl ?_
          refine aw_ifnullN (tgt := 51) X dX7_least_30 (by decide) ?_
          obtain ⟨v3, ev3⟩ : ∃ y : Int32, y = x3 + 1 := ⟨_, rfl⟩
          have h := h v3 ev3
          refine aw_iinc (v := v3) (lv' := [(3, .int v3), (4, .null), (0, .ref (eA E 0)), (1, .int x1), (2, .null)]) X dX7_least_51 4 rfl (by rw [ev3]; rfl) (by decide) rfl ?_
          refine aw_goto (tgt := 7) X dX7_least_54 (by decide) ?_
          exact aw_sub [2, 3, 4, 0] rfl (ih _ _ _ _ h)
        · obtain ⟨ht5, h⟩ := h.2 t4 rfl
          refine aw_astore (lv' := [(4, .ref (eA E t4)), (0, .ref (eA E 0)), (1, .int x1), (2, .null), (3, .int x3)]) X dX7_least_26 (by decide) rfl ?_
          refine aw_aload X dX7_least_28 0 rfl ?_
          refine aw_ifnull X dX7_least_30 ?_
          refine aw_aload_nN X dX7_least_33 3 rfl ?_
          refine aw_ifnullN (tgt := 46) X dX7_least_34 (by decide) ?_
          refine aw_aload X dX7_least_46 0 rfl ?_
          refine aw_astore_n (lv' := [(2, .ref (eA E t4)), (4, .ref (eA E t4)), (0, .ref (eA E 0)), (1, .int x1), (3, .int x3)]) X dX7_least_48 (by decide) rfl ?_
          refine aw_iload_n X dX7_least_49 4 rfl ?_
          refine aw_istore_n (lv' := [(1, .int x3), (2, .ref (eA E t4)), (4, .ref (eA E t4)), (0, .ref (eA E 0)), (3, .int x3)]) X dX7_least_50 (by decide) rfl ?_
          obtain ⟨v6, ev6⟩ : ∃ y : Int32, y = x3 + 1 := ⟨_, rfl⟩
          have h := h v6 ev6
          refine aw_iinc (v := v6) (lv' := [(3, .int v6), (1, .int x3), (2, .ref (eA E t4)), (4, .ref (eA E t4)), (0, .ref (eA E 0))]) X dX7_least_51 4 rfl (by rw [ev6]; rfl) (by decide) rfl ?_
          refine aw_goto (tgt := 7) X dX7_least_54 (by decide) ?_
          exact aw_sub [4, 1, 2, 0] rfl (ih _ _ _ _ h)
    · obtain ⟨hx2i, h⟩ := h.2 x2i rfl
      refine aw_iload_n X dX7_least_7 3 rfl ?_
      refine aw_aload_n X dX7_least_8 0 rfl ?_
      refine aw_get X dX7_least_9 (X.lt (by decide)) (sh_1 (rfl : tp 0 = 1) _) fl_RX7_10 rfl ?_
      refine aw_get X dX7_least_12 (X.lt (by decide)) (sh_2 (rfl : tp 1 = 2) _) fl_RX7_69 rfl ?_
      refine aw_icmp_ge (tgt := 57) X dX7_least_15 (by decide) (fun c => ?_) (fun c => ?_)
      · have h := h.1 c
        refine aw_iload_n X dX7_least_57 1 rfl ?_
        exact aw_iret X dX7_least_58 h
      · have h := h.2 c
        refine aw_aload_n X dX7_least_18 0 rfl ?_
        refine aw_get X dX7_least_19 (X.lt (by decide)) (sh_1 (rfl : tp 0 = 1) _) fl_RX7_10 rfl ?_
        refine aw_iload_n X dX7_least_22 3 rfl ?_
        refine ca_q X (rn_vn X [.int x3] [] (X.lt (by decide)) (sh_2 (rfl : tp 1 = 2) _) rfl rfl kw419 kw2 (c_X3_comerAt h) cal_yX3_comerAt kw417 (Nat.le_of_ble_eq_true rfl) rfl rfl (Nat.le_of_ble_eq_true rfl) dX7_least_23) (fun M7 r8 h => ?_)
        rcases r8 with _ | t10
        · have h := h.1 rfl
          refine aw_astoreN (lv' := [(4, .null), (0, .ref (eA E 0)), (1, .int x1), (2, .ref (eA E x2i)), (3, .int x3)]) X dX7_least_26 (by decide) rfl ?_
          refine aw_aloadN X dX7_least_28 0 rfl ?_
          refine aw_ifnullN (tgt := 51) X dX7_least_30 (by decide) ?_
          obtain ⟨v9, ev9⟩ : ∃ y : Int32, y = x3 + 1 := ⟨_, rfl⟩
          have h := h v9 ev9
          refine aw_iinc (v := v9) (lv' := [(3, .int v9), (4, .null), (0, .ref (eA E 0)), (1, .int x1), (2, .ref (eA E x2i))]) X dX7_least_51 4 rfl (by rw [ev9]; rfl) (by decide) rfl ?_
          refine aw_goto (tgt := 7) X dX7_least_54 (by decide) ?_
          exact aw_sub [2, 3, 4, 0] rfl (ih _ _ _ _ h)
        · obtain ⟨ht11, h⟩ := h.2 t10 rfl
          refine aw_astore (lv' := [(4, .ref (eA E t10)), (0, .ref (eA E 0)), (1, .int x1), (2, .ref (eA E x2i)), (3, .int x3)]) X dX7_least_26 (by decide) rfl ?_
          refine aw_aload X dX7_least_28 0 rfl ?_
          refine aw_ifnull X dX7_least_30 ?_
          refine aw_aload_n X dX7_least_33 3 rfl ?_
          refine aw_ifnull X dX7_least_34 ?_
          refine aw_aload X dX7_least_37 0 rfl ?_
          refine aw_aload_n X dX7_least_39 3 rfl ?_
          refine ca_i X (rn_vn X [.ref (eA E x2i)] [] (X.il ht11 (by decide)) (sh_5 ht11 _) rfl rfl kw613 kw29 (c_X0_faredWorse h) cal_yX0_faredWorse kw611 (Nat.le_of_ble_eq_true rfl) rfl rfl (Nat.le_of_ble_eq_true rfl) dX7_least_40) (fun M12 r13 h => ?_)
          refine aw_if_eq (tgt := 51) X dX7_least_43 (by decide) (fun c => ?_) (fun c => ?_)
          · have h := h.1 c
            obtain ⟨v14, ev14⟩ : ∃ y : Int32, y = x3 + 1 := ⟨_, rfl⟩
            have h := h v14 ev14
            refine aw_iinc (v := v14) (lv' := [(3, .int v14), (4, .ref (eA E t10)), (0, .ref (eA E 0)), (1, .int x1), (2, .ref (eA E x2i))]) X dX7_least_51 4 rfl (by rw [ev14]; rfl) (by decide) rfl ?_
            refine aw_goto (tgt := 7) X dX7_least_54 (by decide) ?_
            exact aw_sub [2, 3, 4, 0] rfl (ih _ _ _ _ h)
          · have h := h.2 c
            refine aw_aload X dX7_least_46 0 rfl ?_
            refine aw_astore_n (lv' := [(2, .ref (eA E t10)), (4, .ref (eA E t10)), (0, .ref (eA E 0)), (1, .int x1), (3, .int x3)]) X dX7_least_48 (by decide) rfl ?_
            refine aw_iload_n X dX7_least_49 4 rfl ?_
            refine aw_istore_n (lv' := [(1, .int x3), (2, .ref (eA E t10)), (4, .ref (eA E t10)), (0, .ref (eA E 0)), (3, .int x3)]) X dX7_least_50 (by decide) rfl ?_
            obtain ⟨v15, ev15⟩ : ∃ y : Int32, y = x3 + 1 := ⟨_, rfl⟩
            have h := h v15 ev15
            refine aw_iinc (v := v15) (lv' := [(3, .int v15), (1, .int x3), (2, .ref (eA E t10)), (4, .ref (eA E t10)), (0, .ref (eA E 0))]) X dX7_least_51 4 rfl (by rw [ev15]; rfl) (by decide) rfl ?_
            refine aw_goto (tgt := 7) X dX7_least_54 (by decide) ?_
            exact aw_sub [4, 1, 2, 0] rfl (ih _ _ _ _ h)
def wp_X7_least (n : Nat)  (M : Mm)  (K : Mm → Int32 → Prop) : Prop := ∃ kf : Nat, wl_X7_least_7 n K kf M (-1000000005) none 0
set_option maxHeartbeats 4000000 in
set_option maxRecDepth 100000 in
theorem c_X7_least {l : Launch} {E : En} {M : Mm}  {K : Mm → Int32 → Prop}  (h : wp_X7_least (eN E)  M  K) : Ctr l E yX7_least cX7_least 5 (some .int) 2 [.ref (eA E 0)] M (QI E K) := by
  refine Ctr.of (by decide +kernel) (Nat.le_of_ble_eq_true rfl) (fun g A hgl X => ?_)
  subst hgl
  have X : CX g cX7_least RX7 (some .int) 2 E A 5 := X
  show AW g E A 5 _ 0 [(0, .ref (eA E 0))] [] M
  unfold wp_X7_least at h
  refine aw_ldc (v := (-1000000005)) X dX7_least_0 kw582 ?_
  refine aw_istore_n (lv' := [(1, .int (-1000000005)), (0, .ref (eA E 0))]) X dX7_least_2 (by decide) rfl ?_
  refine aw_null X dX7_least_3 ?_
  refine aw_astore_nN (lv' := [(2, .null), (1, .int (-1000000005)), (0, .ref (eA E 0))]) X dX7_least_4 (by decide) rfl ?_
  refine aw_iconst (v := 0) X dX7_least_5 (by decide) ?_
  refine aw_istore_n (lv' := [(3, .int 0), (2, .null), (1, .int (-1000000005)), (0, .ref (eA E 0))]) X dX7_least_6 (by decide) rfl ?_
  obtain ⟨kf, h⟩ := h
  exact aw_sub [3, 2, 1, 0] rfl (lw_X7_least_7 X   kf _ _ _ _ h)
def wp_X7_fine (n : Nat)  (M : Mm) (p1 : Int32) (K : Mm → Int32 → Prop) : Prop := wp_X3_comerAt n M 1 p1 (fun M1 r2 => (r2 = none → K M1 (-1000000001)) ∧ (∀ t3 : Nat, r2 = some t3 → tp t3 = 5 ∧ (wp_X3_lawOf n M1 1 2 (fun M5 r6 => (r6 = none → K M5 (M5 t3 10)) ∧ (∀ t7 : Nat, r6 = some t7 → (tp t7 = 20 ∧ t7 + 2 < n) ∧ (wp_X6_value n M5 t7 (M5 t3 9) (M5 t3 10) 0 (fun M9 r10 => K M9 r10)))))))
set_option maxHeartbeats 4000000 in
set_option maxRecDepth 100000 in
theorem c_X7_fine {l : Launch} {E : En} {M : Mm} {p1 : Int32} {K : Mm → Int32 → Prop}  (h : wp_X7_fine (eN E)  M p1 K) : Ctr l E yX7_fine cX7_fine 4 (some .int) 2 [.ref (eA E 0), .int p1] M (QI E K) := by
  refine Ctr.of (by decide +kernel) (Nat.le_of_ble_eq_true rfl) (fun g A hgl X => ?_)
  subst hgl
  have X : CX g cX7_fine RX7 (some .int) 2 E A 4 := X
  show AW g E A 4 _ 0 [(0, .ref (eA E 0)), (1, .int p1)] [] M
  unfold wp_X7_fine at h
  refine aw_aload_n X dX7_fine_0 0 rfl ?_
  refine aw_get X dX7_fine_1 (X.lt (by decide)) (sh_1 (rfl : tp 0 = 1) _) fl_RX7_10 rfl ?_
  refine aw_iload_n X dX7_fine_4 1 rfl ?_
  refine ca_q X (rn_vn X [.int p1] [] (X.lt (by decide)) (sh_2 (rfl : tp 1 = 2) _) rfl rfl kw419 kw2 (c_X3_comerAt h) cal_yX3_comerAt kw417 (Nat.le_of_ble_eq_true rfl) rfl rfl (Nat.le_of_ble_eq_true rfl) dX7_fine_5) (fun M1 r2 h => ?_)
  rcases r2 with _ | t3
  · have h := h.1 rfl
    refine aw_astore_nN (lv' := [(2, .null), (0, .ref (eA E 0)), (1, .int p1)]) X dX7_fine_8 (by decide) rfl ?_
    refine aw_aload_nN X dX7_fine_9 0 rfl ?_
    refine aw_ifnonnullN X dX7_fine_10 ?_
    refine aw_ldc (v := (-1000000001)) X dX7_fine_13 kw403 ?_
    exact aw_iret X dX7_fine_15 h
  · obtain ⟨ht4, h⟩ := h.2 t3 rfl
    refine aw_astore_n (lv' := [(2, .ref (eA E t3)), (0, .ref (eA E 0)), (1, .int p1)]) X dX7_fine_8 (by decide) rfl ?_
    refine aw_aload_n X dX7_fine_9 0 rfl ?_
    refine aw_ifnonnull (tgt := 16) X dX7_fine_10 (by decide) ?_
    refine aw_aload_n X dX7_fine_16 1 rfl ?_
    refine aw_get X dX7_fine_17 (X.lt (by decide)) (sh_1 (rfl : tp 0 = 1) _) fl_RX7_10 rfl ?_
    refine aw_iconst (v := 2) X dX7_fine_20 (by decide) ?_
    refine ca_q X (rn_vn X [.int 2] [] (X.lt (by decide)) (sh_2 (rfl : tp 1 = 2) _) rfl rfl kw440 kw7 (c_X3_lawOf h) cal_yX3_lawOf kw619 (Nat.le_of_ble_eq_true rfl) rfl rfl (Nat.le_of_ble_eq_true rfl) dX7_fine_21) (fun M5 r6 h => ?_)
    rcases r6 with _ | t7
    · have h := h.1 rfl
      refine aw_astore_nN (lv' := [(3, .null), (2, .ref (eA E t3)), (0, .ref (eA E 0)), (1, .int p1)]) X dX7_fine_24 (by decide) rfl ?_
      refine aw_aload_nN X dX7_fine_25 0 rfl ?_
      refine aw_ifnonnullN X dX7_fine_26 ?_
      refine aw_aload_n X dX7_fine_29 1 rfl ?_
      refine aw_get X dX7_fine_30 (X.il ht4 (by decide)) (sh_5 ht4 _) fl_RX7_106 rfl ?_
      refine aw_goto (tgt := 49) X dX7_fine_33 (by decide) ?_
      exact aw_iret X dX7_fine_49 h
    · obtain ⟨ht8, h⟩ := h.2 t7 rfl
      refine aw_astore_n (lv' := [(3, .ref (eA E t7)), (2, .ref (eA E t3)), (0, .ref (eA E 0)), (1, .int p1)]) X dX7_fine_24 (by decide) rfl ?_
      refine aw_aload_n X dX7_fine_25 0 rfl ?_
      refine aw_ifnonnull (tgt := 36) X dX7_fine_26 (by decide) ?_
      refine aw_aload_n X dX7_fine_36 0 rfl ?_
      refine aw_aload_n X dX7_fine_37 1 rfl ?_
      refine aw_get X dX7_fine_38 (X.il ht4 (by decide)) (sh_5 ht4 _) fl_RX7_103 rfl ?_
      refine aw_aload_n X dX7_fine_41 1 rfl ?_
      refine aw_get X dX7_fine_42 (X.il ht4 (by decide)) (sh_5 ht4 _) fl_RX7_106 rfl ?_
      refine aw_iconst (v := 0) X dX7_fine_45 (by decide) ?_
      refine ca_i X (rn_vn X [.int (M5 t3 9), .int (M5 t3 10), .int 0] [] (by have := ht8.2; omega) (sh_20 ht8.1 _) rfl rfl kw444 kw8 (c_X6_value h) cal_yX6_value kw620 (Nat.le_of_ble_eq_true rfl) rfl rfl (Nat.le_of_ble_eq_true rfl) dX7_fine_46) (fun M9 r10 h => ?_)
      exact aw_iret X dX7_fine_49 h
def wl_X7_feedBytesOf_3 (n : Nat) (p1 : Int32)  (K : Mm → Prop) : Nat → Mm → Int32 → Prop
  | 0, _, _ => False
  | k + 1, M, x2 => (x2 < 0 → K M) ∧ (¬ x2 < 0 → wp_X2_add n M 38 ((jushr p1 x2) &&& 255) (fun M1 => ∀ v3 : Int32, v3 = x2 + (-8) → wl_X7_feedBytesOf_3 n p1 K k M1 v3))
set_option maxHeartbeats 4000000 in
set_option maxRecDepth 100000 in
theorem lw_X7_feedBytesOf_3 {g : Gm} {E : En} {A : Nat → Prop} {K : Mm → Prop} (X : CX g cX7_feedBytesOf RX7 none 1 E A 3) (p1 : Int32)   : ∀ (k : Nat) (M : Mm) (x2 : Int32), wl_X7_feedBytesOf_3 (eN E) p1  K k M x2 → AW g E A 3 (MQ (gB g) (QV E K A) (gA g) (gS g) (gk g) (gn g) A) 3 [(0, .ref (eA E 0)), (1, .int p1), (2, .int x2)] [] M := by
  intro k
  induction k with
  | zero => intro M x2 h; exact h.elim
  | succ k ih =>
    intro M x2 h
    rw [wl_X7_feedBytesOf_3] at h
    refine aw_iload_n X dX7_feedBytesOf_3 2 rfl ?_
    refine aw_if_lt (tgt := 27) X dX7_feedBytesOf_4 (by decide) (fun c => ?_) (fun c => ?_)
    · have h := h.1 c
      exact aw_vret X dX7_feedBytesOf_27 h
    · have h := h.2 c
      refine aw_aload_n X dX7_feedBytesOf_7 0 rfl ?_
      refine aw_get X dX7_feedBytesOf_8 (X.lt (by decide)) (sh_1 (rfl : tp 0 = 1) _) fl_RX7_37 rfl ?_
      refine aw_iload_n X dX7_feedBytesOf_11 1 rfl ?_
      refine aw_iload_n X dX7_feedBytesOf_12 2 rfl ?_
      refine aw_iushr (v := jushr p1 x2) X dX7_feedBytesOf_13 rfl ?_
      refine aw_sipush (v := 255) X dX7_feedBytesOf_14 (by decide) ?_
      refine aw_iand X dX7_feedBytesOf_17 ?_
      refine ca_v X (rn_vn X [.int ((jushr p1 x2) &&& 255)] [] (X.lt (by decide)) (sh_7 (rfl : tp 38 = 7) _) rfl rfl kw631 kw31 (c_X2_add h) cal_yX2_add kw629 (Nat.le_of_ble_eq_true rfl) rfl rfl (Nat.le_of_ble_eq_true rfl) dX7_feedBytesOf_18) (fun M1 h => ?_)
      obtain ⟨v3, ev3⟩ : ∃ y : Int32, y = x2 + (-8) := ⟨_, rfl⟩
      have h := h v3 ev3
      refine aw_iinc (v := v3) (lv' := [(2, .int v3), (0, .ref (eA E 0)), (1, .int p1)]) X dX7_feedBytesOf_21 2 rfl (by rw [ev3]; rfl) (by decide) rfl ?_
      refine aw_goto (tgt := 3) X dX7_feedBytesOf_24 (by decide) ?_
      exact aw_sub [1, 2, 0] rfl (ih _ _ h)
def wp_X7_feedBytesOf (n : Nat)  (M : Mm) (p1 : Int32) (K : Mm → Prop) : Prop := ∃ kf : Nat, wl_X7_feedBytesOf_3 n p1 K kf M 24
set_option maxHeartbeats 4000000 in
set_option maxRecDepth 100000 in
theorem c_X7_feedBytesOf {l : Launch} {E : En} {M : Mm} {p1 : Int32} {K : Mm → Prop}  (h : wp_X7_feedBytesOf (eN E)  M p1 K) : Ctr l E yX7_feedBytesOf cX7_feedBytesOf 3 none 1 [.ref (eA E 0), .int p1] M (QV E K) := by
  refine Ctr.of (by decide +kernel) (Nat.le_of_ble_eq_true rfl) (fun g A hgl X => ?_)
  subst hgl
  have X : CX g cX7_feedBytesOf RX7 none 1 E A 3 := X
  show AW g E A 3 _ 0 [(0, .ref (eA E 0)), (1, .int p1)] [] M
  unfold wp_X7_feedBytesOf at h
  refine aw_bipush (v := 24) X dX7_feedBytesOf_0 (by decide) ?_
  refine aw_istore_n (lv' := [(2, .int 24), (0, .ref (eA E 0)), (1, .int p1)]) X dX7_feedBytesOf_2 (by decide) rfl ?_
  obtain ⟨kf, h⟩ := h
  exact aw_sub [1, 2, 0] rfl (lw_X7_feedBytesOf_3 X p1  kf _ _ h)
def wp_X7_feed (n : Nat)  (M : Mm) (p1 : Int32) (p2 : Int32) (p3 : Int32) (K : Mm → Int32 → Prop) : Prop := (((M 38 1) + 12) ≤ 96 → wp_X7_feedBytesOf n M p1 (fun M1 => wp_X7_feedBytesOf n M1 p2 (fun M3 => wp_X7_feedBytesOf n M3 p3 (fun M5 => K M5 (M5 38 1))))) ∧ (¬ ((M 38 1) + 12) ≤ 96 → K M (-1000000003))
set_option maxHeartbeats 4000000 in
set_option maxRecDepth 100000 in
theorem c_X7_feed {l : Launch} {E : En} {M : Mm} {p1 : Int32} {p2 : Int32} {p3 : Int32} {K : Mm → Int32 → Prop}  (h : wp_X7_feed (eN E)  M p1 p2 p3 K) : Ctr l E yX7_feed cX7_feed 4 (some .int) 2 [.ref (eA E 0), .int p1, .int p2, .int p3] M (QI E K) := by
  refine Ctr.of (by decide +kernel) (Nat.le_of_ble_eq_true rfl) (fun g A hgl X => ?_)
  subst hgl
  have X : CX g cX7_feed RX7 (some .int) 2 E A 4 := X
  show AW g E A 4 _ 0 [(0, .ref (eA E 0)), (1, .int p1), (2, .int p2), (3, .int p3)] [] M
  unfold wp_X7_feed at h
  refine aw_aload_n X dX7_feed_0 0 rfl ?_
  refine aw_get X dX7_feed_1 (X.lt (by decide)) (sh_1 (rfl : tp 0 = 1) _) fl_RX7_37 rfl ?_
  refine aw_get X dX7_feed_4 (X.lt (by decide)) (sh_7 (rfl : tp 38 = 7) _) fl_RX7_227 rfl ?_
  refine aw_bipush (v := 12) X dX7_feed_7 (by decide) ?_
  refine aw_iadd X dX7_feed_9 ?_
  refine aw_bipush (v := 96) X dX7_feed_10 (by decide) ?_
  refine aw_icmp_le (tgt := 18) X dX7_feed_12 (by decide) (fun c => ?_) (fun c => ?_)
  · have h := h.1 c
    refine aw_aload_n X dX7_feed_18 0 rfl ?_
    refine aw_iload_n X dX7_feed_19 1 rfl ?_
    refine ca_v X (rn_v X [.int p1] [] (X.lt (by decide)) (sh_1 (rfl : tp 0 = 1) _) rfl rfl kw627 kw30 (c_X7_feedBytesOf h) cal_yX7_feedBytesOf kw625 (Nat.le_of_ble_eq_true rfl) rfl rfl (Nat.le_of_ble_eq_true rfl) dX7_feed_20) (fun M1 h => ?_)
    refine aw_aload_n X dX7_feed_23 0 rfl ?_
    refine aw_iload_n X dX7_feed_24 2 rfl ?_
    refine ca_v X (rn_v X [.int p2] [] (X.lt (by decide)) (sh_1 (rfl : tp 0 = 1) _) rfl rfl kw627 kw30 (c_X7_feedBytesOf h) cal_yX7_feedBytesOf kw625 (Nat.le_of_ble_eq_true rfl) rfl rfl (Nat.le_of_ble_eq_true rfl) dX7_feed_25) (fun M3 h => ?_)
    refine aw_aload_n X dX7_feed_28 0 rfl ?_
    refine aw_iload_n X dX7_feed_29 3 rfl ?_
    refine ca_v X (rn_v X [.int p3] [] (X.lt (by decide)) (sh_1 (rfl : tp 0 = 1) _) rfl rfl kw627 kw30 (c_X7_feedBytesOf h) cal_yX7_feedBytesOf kw625 (Nat.le_of_ble_eq_true rfl) rfl rfl (Nat.le_of_ble_eq_true rfl) dX7_feed_30) (fun M5 h => ?_)
    refine aw_aload_n X dX7_feed_33 0 rfl ?_
    refine aw_get X dX7_feed_34 (X.lt (by decide)) (sh_1 (rfl : tp 0 = 1) _) fl_RX7_37 rfl ?_
    refine aw_get X dX7_feed_37 (X.lt (by decide)) (sh_7 (rfl : tp 38 = 7) _) fl_RX7_227 rfl ?_
    exact aw_iret X dX7_feed_40 h
  · have h := h.2 c
    refine aw_ldc (v := (-1000000003)) X dX7_feed_15 kw404 ?_
    exact aw_iret X dX7_feed_17 h
def wp_X7_trim (n : Nat)  (M : Mm) (p1 : Int32) (K : Mm → Int32 → Prop) : Prop := wp_X7_within n M p1 0 (M 38 1) (fun M1 r2 => (¬ r2 = 0 → ∀ M3 : Mm, M3 = wr M1 38 1 p1 → K M3 p1) ∧ (r2 = 0 → K M1 (-1000000001)))
set_option maxHeartbeats 4000000 in
set_option maxRecDepth 100000 in
theorem c_X7_trim {l : Launch} {E : En} {M : Mm} {p1 : Int32} {K : Mm → Int32 → Prop}  (h : wp_X7_trim (eN E)  M p1 K) : Ctr l E yX7_trim cX7_trim 2 (some .int) 1 [.ref (eA E 0), .int p1] M (QI E K) := by
  refine Ctr.of (by decide +kernel) (Nat.le_of_ble_eq_true rfl) (fun g A hgl X => ?_)
  subst hgl
  have X : CX g cX7_trim RX7 (some .int) 1 E A 2 := X
  show AW g E A 2 _ 0 [(0, .ref (eA E 0)), (1, .int p1)] [] M
  unfold wp_X7_trim at h
  refine aw_iload_n X dX7_trim_0 1 rfl ?_
  refine aw_iconst (v := 0) X dX7_trim_1 (by decide) ?_
  refine aw_aload_n X dX7_trim_2 0 rfl ?_
  refine aw_get X dX7_trim_3 (X.lt (by decide)) (sh_1 (rfl : tp 0 = 1) _) fl_RX7_37 rfl ?_
  refine aw_get X dX7_trim_6 (X.lt (by decide)) (sh_7 (rfl : tp 38 = 7) _) fl_RX7_227 rfl ?_
  refine ca_i X (rn_s X [.int p1, .int 0, .int (M 38 1)] [] kw394 (c_X7_within h) cal_yX7_within kw393 (Nat.le_of_ble_eq_true rfl) rfl rfl (Nat.le_of_ble_eq_true rfl) dX7_trim_9) (fun M1 r2 h => ?_)
  refine aw_if_ne (tgt := 18) X dX7_trim_12 (by decide) (fun c => ?_) (fun c => ?_)
  · have h := h.1 c
    refine aw_aload_n X dX7_trim_18 0 rfl ?_
    refine aw_get X dX7_trim_19 (X.lt (by decide)) (sh_1 (rfl : tp 0 = 1) _) fl_RX7_37 rfl ?_
    refine aw_iload_n X dX7_trim_22 1 rfl ?_
    refine aw_put X dX7_trim_23 (X.lt (by decide)) (sh_7 (rfl : tp 38 = 7) _) fl_RX7_227 fw_2_1 (Nat.le_of_ble_eq_true rfl) (sp_7_1 (rfl : tp 38 = 7) _ _) (fun M3 eM3 => ?_)
    have h := h M3 eM3
    refine aw_iload_n X dX7_trim_26 1 rfl ?_
    exact aw_iret X dX7_trim_27 h
  · have h := h.2 c
    refine aw_ldc (v := (-1000000001)) X dX7_trim_15 kw403 ?_
    exact aw_iret X dX7_trim_17 h
def wp_X7_textTold (n : Nat)  (M : Mm) (p1 : Int32) (p2 : Int32) (K : Mm → Int32 → Prop) : Prop := wp_X3_lawAt n M 1 p1 (fun M1 r2 => (r2 = none → K M1 (-1000000001)) ∧ (∀ t3 : Nat, r2 = some t3 → (tp t3 = 20 ∧ t3 + 2 < n) ∧ (wp_X7_within n M1 p2 0 1 (fun M5 r6 => (¬ r6 = 0 → (¬ p2 = 0 → K M5 (M5 t3 1)) ∧ (p2 = 0 → K M5 (M5 t3 0))) ∧ (r6 = 0 → K M5 (-1000000001))))))
set_option maxHeartbeats 4000000 in
set_option maxRecDepth 100000 in
theorem c_X7_textTold {l : Launch} {E : En} {M : Mm} {p1 : Int32} {p2 : Int32} {K : Mm → Int32 → Prop}  (h : wp_X7_textTold (eN E)  M p1 p2 K) : Ctr l E yX7_textTold cX7_textTold 4 (some .int) 2 [.ref (eA E 0), .int p1, .int p2] M (QI E K) := by
  refine Ctr.of (by decide +kernel) (Nat.le_of_ble_eq_true rfl) (fun g A hgl X => ?_)
  subst hgl
  have X : CX g cX7_textTold RX7 (some .int) 2 E A 4 := X
  show AW g E A 4 _ 0 [(0, .ref (eA E 0)), (1, .int p1), (2, .int p2)] [] M
  unfold wp_X7_textTold at h
  refine aw_aload_n X dX7_textTold_0 0 rfl ?_
  refine aw_get X dX7_textTold_1 (X.lt (by decide)) (sh_1 (rfl : tp 0 = 1) _) fl_RX7_10 rfl ?_
  refine aw_iload_n X dX7_textTold_4 1 rfl ?_
  refine ca_q X (rn_vn X [.int p1] [] (X.lt (by decide)) (sh_2 (rfl : tp 1 = 2) _) rfl rfl kw854 kw46 (c_X3_lawAt h) cal_yX3_lawAt kw852 (Nat.le_of_ble_eq_true rfl) rfl rfl (Nat.le_of_ble_eq_true rfl) dX7_textTold_5) (fun M1 r2 h => ?_)
  rcases r2 with _ | t3
  · have h := h.1 rfl
    refine aw_astore_nN (lv' := [(3, .null), (0, .ref (eA E 0)), (1, .int p1), (2, .int p2)]) X dX7_textTold_8 (by decide) rfl ?_
    refine aw_aload_nN X dX7_textTold_9 0 rfl ?_
    refine aw_ifnullN (tgt := 22) X dX7_textTold_10 (by decide) ?_
    refine aw_ldc (v := (-1000000001)) X dX7_textTold_22 kw403 ?_
    exact aw_iret X dX7_textTold_24 h
  · obtain ⟨ht4, h⟩ := h.2 t3 rfl
    refine aw_astore_n (lv' := [(3, .ref (eA E t3)), (0, .ref (eA E 0)), (1, .int p1), (2, .int p2)]) X dX7_textTold_8 (by decide) rfl ?_
    refine aw_aload_n X dX7_textTold_9 0 rfl ?_
    refine aw_ifnull X dX7_textTold_10 ?_
    refine aw_iload_n X dX7_textTold_13 3 rfl ?_
    refine aw_iconst (v := 0) X dX7_textTold_14 (by decide) ?_
    refine aw_iconst (v := 1) X dX7_textTold_15 (by decide) ?_
    refine ca_i X (rn_s X [.int p2, .int 0, .int 1] [] kw394 (c_X7_within h) cal_yX7_within kw393 (Nat.le_of_ble_eq_true rfl) rfl rfl (Nat.le_of_ble_eq_true rfl) dX7_textTold_16) (fun M5 r6 h => ?_)
    refine aw_if_ne (tgt := 25) X dX7_textTold_19 (by decide) (fun c => ?_) (fun c => ?_)
    · have h := h.1 c
      refine aw_iload_n X dX7_textTold_25 3 rfl ?_
      refine aw_if_ne (tgt := 36) X dX7_textTold_26 (by decide) (fun c => ?_) (fun c => ?_)
      · have h := h.1 c
        refine aw_aload_n X dX7_textTold_36 0 rfl ?_
        refine aw_get X dX7_textTold_37 (by have := ht4.2; omega) (sh_20 ht4.1 _) fl_RX7_255 rfl ?_
        exact aw_iret X dX7_textTold_40 h
      · have h := h.2 c
        refine aw_aload_n X dX7_textTold_29 0 rfl ?_
        refine aw_get X dX7_textTold_30 (by have := ht4.2; omega) (sh_20 ht4.1 _) fl_RX7_252 rfl ?_
        refine aw_goto (tgt := 40) X dX7_textTold_33 (by decide) ?_
        exact aw_iret X dX7_textTold_40 h
    · have h := h.2 c
      refine aw_ldc (v := (-1000000001)) X dX7_textTold_22 kw403 ?_
      exact aw_iret X dX7_textTold_24 h
def wp_X7_why (n : Nat)  (M : Mm) (p1 : Int32) (K : Mm → Int32 → Prop) : Prop := wp_X7_within n M p1 0 2 (fun M1 r2 => (¬ r2 = 0 → vp_in p1 3 ∧ (∀ v3 : Int32, v3 = M1 3 p1.toNatClampNeg → (0 ≤ v3 → K M1 v3) ∧ (¬ 0 ≤ v3 → K M1 (-1000000005)))) ∧ (r2 = 0 → K M1 (-1000000001)))
set_option maxHeartbeats 4000000 in
set_option maxRecDepth 100000 in
theorem c_X7_why {l : Launch} {E : En} {M : Mm} {p1 : Int32} {K : Mm → Int32 → Prop}  (h : wp_X7_why (eN E)  M p1 K) : Ctr l E yX7_why cX7_why 3 (some .int) 1 [.ref (eA E 0), .int p1] M (QI E K) := by
  refine Ctr.of (by decide +kernel) (Nat.le_of_ble_eq_true rfl) (fun g A hgl X => ?_)
  subst hgl
  have X : CX g cX7_why RX7 (some .int) 1 E A 3 := X
  show AW g E A 3 _ 0 [(0, .ref (eA E 0)), (1, .int p1)] [] M
  unfold wp_X7_why at h
  refine aw_iload_n X dX7_why_0 1 rfl ?_
  refine aw_iconst (v := 0) X dX7_why_1 (by decide) ?_
  refine aw_iconst (v := 2) X dX7_why_2 (by decide) ?_
  refine ca_i X (rn_s X [.int p1, .int 0, .int 2] [] kw394 (c_X7_within h) cal_yX7_within kw393 (Nat.le_of_ble_eq_true rfl) rfl rfl (Nat.le_of_ble_eq_true rfl) dX7_why_3) (fun M1 r2 h => ?_)
  refine aw_if_ne (tgt := 12) X dX7_why_6 (by decide) (fun c => ?_) (fun c => ?_)
  · have h := h.1 c
    refine aw_aload_n X dX7_why_12 0 rfl ?_
    refine aw_get X dX7_why_13 (X.lt (by decide)) (sh_1 (rfl : tp 0 = 1) _) fl_RX7_10 rfl ?_
    refine aw_get X dX7_why_16 (X.lt (by decide)) (sh_2 (rfl : tp 1 = 2) _) fl_RX7_258 rfl ?_
    refine aw_iload_n X dX7_why_19 1 rfl ?_
    obtain ⟨hin, h⟩ := h
    refine aw_iald X dX7_why_20 (X.lt (by decide)) (sh_ia 3 (rfl : tp 3 = 1003) _) hin ?_
    refine aw_top (fun v3 ev3 => ?_)
    have h := h v3 ev3
    refine aw_istore_n (lv' := [(2, .int v3), (0, .ref (eA E 0)), (1, .int p1)]) X dX7_why_21 (by decide) rfl ?_
    refine aw_iload_n X dX7_why_22 0 rfl ?_
    refine aw_if_ge (tgt := 31) X dX7_why_23 (by decide) (fun c => ?_) (fun c => ?_)
    · have h := h.1 c
      refine aw_iload_n X dX7_why_31 0 rfl ?_
      exact aw_iret X dX7_why_32 h
    · have h := h.2 c
      refine aw_ldc (v := (-1000000005)) X dX7_why_26 kw582 ?_
      refine aw_goto (tgt := 32) X dX7_why_28 (by decide) ?_
      exact aw_iret X dX7_why_32 h
  · have h := h.2 c
    refine aw_ldc (v := (-1000000001)) X dX7_why_9 kw403 ?_
    exact aw_iret X dX7_why_11 h
def wp_X7_sheetAt (n : Nat)  (M : Mm) (p1 : Int32) (K : Mm → Option Nat → Prop) : Prop := wp_X7_within n M p1 0 (4 - 1) (fun M1 r2 => (r2 = 0 → K M1 none) ∧ (¬ r2 = 0 → vp_in p1 4 ∧ (K M1 (some (45 + 2 * p1.toNatClampNeg)))))
set_option maxHeartbeats 4000000 in
set_option maxRecDepth 100000 in
theorem c_X7_sheetAt {l : Launch} {E : En} {M : Mm} {p1 : Int32} {K : Mm → Option Nat → Prop}  (h : wp_X7_sheetAt (eN E)  M p1 K) : Ctr l E yX7_sheetAt cX7_sheetAt 2 (some (.object "ShyWell$Sheet")) 1 [.ref (eA E 0), .int p1] M (QQ E K) := by
  refine Ctr.of (by decide +kernel) (Nat.le_of_ble_eq_true rfl) (fun g A hgl X => ?_)
  subst hgl
  have X : CX g cX7_sheetAt RX7 (some (.object "ShyWell$Sheet")) 1 E A 2 := X
  show AW g E A 2 _ 0 [(0, .ref (eA E 0)), (1, .int p1)] [] M
  unfold wp_X7_sheetAt at h
  refine aw_iload_n X dX7_sheetAt_0 1 rfl ?_
  refine aw_iconst (v := 0) X dX7_sheetAt_1 (by decide) ?_
  refine aw_aload_n X dX7_sheetAt_2 0 rfl ?_
  refine aw_get X dX7_sheetAt_3 (X.lt (by decide)) (sh_1 (rfl : tp 0 = 1) _) fl_RX7_48 rfl ?_
  refine aw_alen (t := 3) (v := 4) X dX7_sheetAt_6 (X.lt (by decide)) (sh_8 (rfl : tp 44 = 8) _) rfl rfl ?_
  refine aw_iconst (v := 1) X dX7_sheetAt_7 (by decide) ?_
  refine aw_isub X dX7_sheetAt_8 ?_
  refine ca_i X (rn_s X [.int p1, .int 0, .int (4 - 1)] [] kw394 (c_X7_within h) cal_yX7_within kw393 (Nat.le_of_ble_eq_true rfl) rfl rfl (Nat.le_of_ble_eq_true rfl) dX7_sheetAt_9) (fun M1 r2 h => ?_)
  refine aw_if_eq (tgt := 24) X dX7_sheetAt_12 (by decide) (fun c => ?_) (fun c => ?_)
  · have h := h.1 c
    refine aw_null X dX7_sheetAt_24 ?_
    exact aw_aret X none rfl dX7_sheetAt_25 h
  · have h := h.2 c
    refine aw_aload_n X dX7_sheetAt_15 0 rfl ?_
    refine aw_get X dX7_sheetAt_16 (X.lt (by decide)) (sh_1 (rfl : tp 0 = 1) _) fl_RX7_48 rfl ?_
    refine aw_iload_n X dX7_sheetAt_19 1 rfl ?_
    obtain ⟨hin3, h⟩ := h
    refine aw_aald (t := 3) X dX7_sheetAt_20 (X.lt (by decide)) (sh_8 (rfl : tp 44 = 8) _) rfl hin3 rfl ?_
    refine aw_goto (tgt := 25) X dX7_sheetAt_21 (by decide) ?_
    exact aw_aret X (some (45 + 2 * p1.toNatClampNeg)) rfl dX7_sheetAt_25 h
def wp_X7_sheet (n : Nat)  (M : Mm) (p1 : Int32) (p2 : Int32) (p3 : Int32) (K : Mm → Int32 → Prop) : Prop := wp_X7_sheetAt n M p1 (fun M1 r2 => (r2 = none → K M1 (-1000000001)) ∧ (∀ t3 : Nat, r2 = some t3 → tp t3 = 9 ∧ (wp_X7_within n M1 p2 (-1) 1 (fun M5 r6 => (¬ r6 = 0 → (¬ p2 = (-1) → (p3 ≤ 24 → (0 ≤ p3 → wp_X4_start n M5 t3 p2 p3 (fun M7 => K M7 p3)) ∧ (¬ 0 ≤ p3 → K M5 (-1000000014))) ∧ (¬ p3 ≤ 24 → K M5 (-1000000001))) ∧ (p2 = (-1) → wp_X4_start n M5 t3 (-1) 0 (fun M9 => K M9 0))) ∧ (r6 = 0 → K M5 (-1000000001))))))
set_option maxHeartbeats 4000000 in
set_option maxRecDepth 100000 in
theorem c_X7_sheet {l : Launch} {E : En} {M : Mm} {p1 : Int32} {p2 : Int32} {p3 : Int32} {K : Mm → Int32 → Prop}  (h : wp_X7_sheet (eN E)  M p1 p2 p3 K) : Ctr l E yX7_sheet cX7_sheet 5 (some .int) 3 [.ref (eA E 0), .int p1, .int p2, .int p3] M (QI E K) := by
  refine Ctr.of (by decide +kernel) (Nat.le_of_ble_eq_true rfl) (fun g A hgl X => ?_)
  subst hgl
  have X : CX g cX7_sheet RX7 (some .int) 3 E A 5 := X
  show AW g E A 5 _ 0 [(0, .ref (eA E 0)), (1, .int p1), (2, .int p2), (3, .int p3)] [] M
  unfold wp_X7_sheet at h
  refine aw_aload_n X dX7_sheet_0 0 rfl ?_
  refine aw_iload_n X dX7_sheet_1 1 rfl ?_
  refine ca_q X (rn_v X [.int p1] [] (X.lt (by decide)) (sh_1 (rfl : tp 0 = 1) _) rfl rfl kw866 kw47 (c_X7_sheetAt h) cal_yX7_sheetAt kw864 (Nat.le_of_ble_eq_true rfl) rfl rfl (Nat.le_of_ble_eq_true rfl) dX7_sheet_2) (fun M1 r2 h => ?_)
  rcases r2 with _ | t3
  · have h := h.1 rfl
    refine aw_astoreN (lv' := [(4, .null), (0, .ref (eA E 0)), (1, .int p1), (2, .int p2), (3, .int p3)]) X dX7_sheet_5 (by decide) rfl ?_
    refine aw_aloadN X dX7_sheet_7 0 rfl ?_
    refine aw_ifnullN (tgt := 21) X dX7_sheet_9 (by decide) ?_
    refine aw_ldc (v := (-1000000001)) X dX7_sheet_21 kw403 ?_
    exact aw_iret X dX7_sheet_23 h
  · obtain ⟨ht4, h⟩ := h.2 t3 rfl
    refine aw_astore (lv' := [(4, .ref (eA E t3)), (0, .ref (eA E 0)), (1, .int p1), (2, .int p2), (3, .int p3)]) X dX7_sheet_5 (by decide) rfl ?_
    refine aw_aload X dX7_sheet_7 0 rfl ?_
    refine aw_ifnull X dX7_sheet_9 ?_
    refine aw_iload_n X dX7_sheet_12 3 rfl ?_
    refine aw_iconst (v := (-1)) X dX7_sheet_13 (by decide) ?_
    refine aw_iconst (v := 1) X dX7_sheet_14 (by decide) ?_
    refine ca_i X (rn_s X [.int p2, .int (-1), .int 1] [] kw394 (c_X7_within h) cal_yX7_within kw393 (Nat.le_of_ble_eq_true rfl) rfl rfl (Nat.le_of_ble_eq_true rfl) dX7_sheet_15) (fun M5 r6 h => ?_)
    refine aw_if_ne (tgt := 24) X dX7_sheet_18 (by decide) (fun c => ?_) (fun c => ?_)
    · have h := h.1 c
      refine aw_iload_n X dX7_sheet_24 3 rfl ?_
      refine aw_iconst (v := (-1)) X dX7_sheet_25 (by decide) ?_
      refine aw_icmp_ne (tgt := 38) X dX7_sheet_26 (by decide) (fun c => ?_) (fun c => ?_)
      · have h := h.1 c
        refine aw_iload_n X dX7_sheet_38 4 rfl ?_
        refine aw_bipush (v := 24) X dX7_sheet_39 (by decide) ?_
        refine aw_icmp_le (tgt := 47) X dX7_sheet_41 (by decide) (fun c => ?_) (fun c => ?_)
        · have h := h.1 c
          refine aw_iload_n X dX7_sheet_47 4 rfl ?_
          refine aw_if_ge (tgt := 55) X dX7_sheet_48 (by decide) (fun c => ?_) (fun c => ?_)
          · have h := h.1 c
            refine aw_aload X dX7_sheet_55 0 rfl ?_
            refine aw_iload_n X dX7_sheet_57 3 rfl ?_
            refine aw_iload_n X dX7_sheet_58 4 rfl ?_
            refine ca_v X (rn_vn X [.int p2, .int p3] [] (X.il ht4 (by decide)) (sh_9 ht4 _) rfl rfl kw870 kw48 (c_X4_start h) cal_yX4_start kw868 (Nat.le_of_ble_eq_true rfl) rfl rfl (Nat.le_of_ble_eq_true rfl) dX7_sheet_59) (fun M7 h => ?_)
            refine aw_iload_n X dX7_sheet_62 4 rfl ?_
            exact aw_iret X dX7_sheet_63 h
          · have h := h.2 c
            refine aw_ldc_w (v := (-1000000014)) X dX7_sheet_51 kw876 ?_
            exact aw_iret X dX7_sheet_54 h
        · have h := h.2 c
          refine aw_ldc (v := (-1000000001)) X dX7_sheet_44 kw403 ?_
          exact aw_iret X dX7_sheet_46 h
      · have h := h.2 c
        refine aw_aload X dX7_sheet_29 0 rfl ?_
        refine aw_iconst (v := (-1)) X dX7_sheet_31 (by decide) ?_
        refine aw_iconst (v := 0) X dX7_sheet_32 (by decide) ?_
        refine ca_v X (rn_vn X [.int (-1), .int 0] [] (X.il ht4 (by decide)) (sh_9 ht4 _) rfl rfl kw870 kw48 (c_X4_start h) cal_yX4_start kw868 (Nat.le_of_ble_eq_true rfl) rfl rfl (Nat.le_of_ble_eq_true rfl) dX7_sheet_33) (fun M9 h => ?_)
        refine aw_iconst (v := 0) X dX7_sheet_36 (by decide) ?_
        exact aw_iret X dX7_sheet_37 h
    · have h := h.2 c
      refine aw_ldc (v := (-1000000001)) X dX7_sheet_21 kw403 ?_
      exact aw_iret X dX7_sheet_23 h
def wb_X7_mark_97 (n : Nat) (p1 : Int32) (p2 : Int32) (p3 : Int32)  (K : Mm → Int32 → Prop) (M : Mm) (x4 : Nat) : Prop := (tp x4 = 9) ∧ (vp_in p2 24 ∧ (∀ M10 : Mm, M10 = wr M (x4 + 1) p2.toNatClampNeg p3 → K M10 1))
set_option maxHeartbeats 4000000 in
set_option maxRecDepth 100000 in
theorem lb_X7_mark_97 {g : Gm} {E : En} {A : Nat → Prop} {K : Mm → Int32 → Prop} (X : CX g cX7_mark RX7 (some .int) 2 E A 5) (p1 : Int32) (p2 : Int32) (p3 : Int32)   (M : Mm) (x4 : Nat) (h : wb_X7_mark_97 (eN E) p1 p2 p3  K M x4) : AW g E A 5 (MQ (gB g) (QI E K A) (gA g) (gS g) (gk g) (gn g) A) 97 [(2, .int p2), (3, .int p3), (4, .ref (eA E x4))] [] M := by
  unfold wb_X7_mark_97 at h
  obtain ⟨hx4, h⟩ := h
  refine aw_aload X dX7_mark_97 2 rfl ?_
  refine aw_get X dX7_mark_99 (X.il hx4 (by decide)) (sh_9 hx4 _) fl_RX7_275 rfl ?_
  refine aw_iload_n X dX7_mark_102 0 rfl ?_
  refine aw_iload_n X dX7_mark_103 1 rfl ?_
  obtain ⟨hin, h⟩ := h
  refine aw_iast X dX7_mark_104 (X.il (ly_9_0 hx4) (by decide)) (sh_ia 24 (ly_9_0 hx4) _) (sh_ia 24 (ly_9_0 hx4) _) hin (fun M10 eM10 => ?_)
  have h := h M10 eM10
  refine aw_iconst (v := 1) X dX7_mark_105 (by decide) ?_
  exact aw_iret X dX7_mark_106 h
def wp_X7_mark (n : Nat)  (M : Mm) (p1 : Int32) (p2 : Int32) (p3 : Int32) (K : Mm → Int32 → Prop) : Prop := wp_X7_sheetAt n M p1 (fun M1 r2 => (r2 = none → K M1 (-1000000001)) ∧ (∀ t3 : Nat, r2 = some t3 → tp t3 = 9 ∧ ((¬ (M1 t3 1) = (-1) → wp_X7_within n M1 p2 0 ((M1 t3 2) - 1) (fun M5 r6 => (¬ r6 = 0 → (¬ (M5 t3 1) = 0 → (p3 = (-1000000005) → wb_X7_mark_97 n p1 p2 p3 K M5 t3) ∧ (¬ p3 = (-1000000005) → wp_X7_within n M5 p3 (-99999) 99999 (fun M7 r8 => (¬ r8 = 0 → wb_X7_mark_97 n p1 p2 p3 K M7 t3) ∧ (r8 = 0 → K M7 (-1000000001))))) ∧ ((M5 t3 1) = 0 → (¬ p3 = (-1000000005) → vp_in p2 24 ∧ (∀ M9 : Mm, M9 = wr M5 (t3 + 1) p2.toNatClampNeg p3.toInt16.toInt32 → K M9 1)) ∧ (p3 = (-1000000005) → K M5 (-1000000012)))) ∧ (r6 = 0 → K M5 (-1000000013)))) ∧ ((M1 t3 1) = (-1) → K M1 (-1000000011)))))
set_option maxHeartbeats 4000000 in
set_option maxRecDepth 100000 in
theorem c_X7_mark {l : Launch} {E : En} {M : Mm} {p1 : Int32} {p2 : Int32} {p3 : Int32} {K : Mm → Int32 → Prop}  (h : wp_X7_mark (eN E)  M p1 p2 p3 K) : Ctr l E yX7_mark cX7_mark 5 (some .int) 2 [.ref (eA E 0), .int p1, .int p2, .int p3] M (QI E K) := by
  refine Ctr.of (by decide +kernel) (Nat.le_of_ble_eq_true rfl) (fun g A hgl X => ?_)
  subst hgl
  have X : CX g cX7_mark RX7 (some .int) 2 E A 5 := X
  show AW g E A 5 _ 0 [(0, .ref (eA E 0)), (1, .int p1), (2, .int p2), (3, .int p3)] [] M
  unfold wp_X7_mark at h
  refine aw_aload_n X dX7_mark_0 0 rfl ?_
  refine aw_iload_n X dX7_mark_1 1 rfl ?_
  refine ca_q X (rn_v X [.int p1] [] (X.lt (by decide)) (sh_1 (rfl : tp 0 = 1) _) rfl rfl kw866 kw47 (c_X7_sheetAt h) cal_yX7_sheetAt kw864 (Nat.le_of_ble_eq_true rfl) rfl rfl (Nat.le_of_ble_eq_true rfl) dX7_mark_2) (fun M1 r2 h => ?_)
  rcases r2 with _ | t3
  · have h := h.1 rfl
    refine aw_astoreN (lv' := [(4, .null), (0, .ref (eA E 0)), (1, .int p1), (2, .int p2), (3, .int p3)]) X dX7_mark_5 (by decide) rfl ?_
    refine aw_aloadN X dX7_mark_7 0 rfl ?_
    refine aw_ifnonnullN X dX7_mark_9 ?_
    refine aw_ldc (v := (-1000000001)) X dX7_mark_12 kw403 ?_
    exact aw_iret X dX7_mark_14 h
  · obtain ⟨ht4, h⟩ := h.2 t3 rfl
    refine aw_astore (lv' := [(4, .ref (eA E t3)), (0, .ref (eA E 0)), (1, .int p1), (2, .int p2), (3, .int p3)]) X dX7_mark_5 (by decide) rfl ?_
    refine aw_aload X dX7_mark_7 0 rfl ?_
    refine aw_ifnonnull (tgt := 15) X dX7_mark_9 (by decide) ?_
    refine aw_aload X dX7_mark_15 0 rfl ?_
    refine aw_get X dX7_mark_17 (X.il ht4 (by decide)) (sh_9 ht4 _) fl_RX7_269 rfl ?_
    refine aw_iconst (v := (-1)) X dX7_mark_20 (by decide) ?_
    refine aw_icmp_ne (tgt := 28) X dX7_mark_21 (by decide) (fun c => ?_) (fun c => ?_)
    · have h := h.1 c
      refine aw_iload_n X dX7_mark_28 3 rfl ?_
      refine aw_iconst (v := 0) X dX7_mark_29 (by decide) ?_
      refine aw_aload X dX7_mark_30 0 rfl ?_
      refine aw_get X dX7_mark_32 (X.il ht4 (by decide)) (sh_9 ht4 _) fl_RX7_273 rfl ?_
      refine aw_iconst (v := 1) X dX7_mark_35 (by decide) ?_
      refine aw_isub X dX7_mark_36 ?_
      refine ca_i X (rn_s X [.int p2, .int 0, .int ((M1 t3 2) - 1)] [] kw394 (c_X7_within h) cal_yX7_within kw393 (Nat.le_of_ble_eq_true rfl) rfl rfl (Nat.le_of_ble_eq_true rfl) dX7_mark_37) (fun M5 r6 h => ?_)
      refine aw_if_ne (tgt := 47) X dX7_mark_40 (by decide) (fun c => ?_) (fun c => ?_)
      · have h := h.1 c
        refine aw_aload X dX7_mark_47 0 rfl ?_
        refine aw_get X dX7_mark_49 (X.il ht4 (by decide)) (sh_9 ht4 _) fl_RX7_269 rfl ?_
        refine aw_if_ne (tgt := 75) X dX7_mark_52 (by decide) (fun c => ?_) (fun c => ?_)
        · have h := h.1 c
          refine aw_iload_n X dX7_mark_75 4 rfl ?_
          refine aw_ldc (v := (-1000000005)) X dX7_mark_76 kw582 ?_
          refine aw_icmp_eq (tgt := 97) X dX7_mark_78 (by decide) (fun c => ?_) (fun c => ?_)
          · have h := h.1 c
            exact aw_sub [3, 4, 0] rfl (lb_X7_mark_97 X p1 p2 p3  _ _ h)
          · have h := h.2 c
            refine aw_iload_n X dX7_mark_81 4 rfl ?_
            refine aw_ldc_w (v := (-99999)) X dX7_mark_82 kw883 ?_
            refine aw_ldc_w (v := 99999) X dX7_mark_85 kw884 ?_
            refine ca_i X (rn_s X [.int p3, .int (-99999), .int 99999] [] kw394 (c_X7_within h) cal_yX7_within kw393 (Nat.le_of_ble_eq_true rfl) rfl rfl (Nat.le_of_ble_eq_true rfl) dX7_mark_88) (fun M7 r8 h => ?_)
            refine aw_if_ne (tgt := 97) X dX7_mark_91 (by decide) (fun c => ?_) (fun c => ?_)
            · have h := h.1 c
              exact aw_sub [3, 4, 0] rfl (lb_X7_mark_97 X p1 p2 p3  _ _ h)
            · have h := h.2 c
              refine aw_ldc (v := (-1000000001)) X dX7_mark_94 kw403 ?_
              exact aw_iret X dX7_mark_96 h
        · have h := h.2 c
          refine aw_iload_n X dX7_mark_55 4 rfl ?_
          refine aw_ldc (v := (-1000000005)) X dX7_mark_56 kw582 ?_
          refine aw_icmp_ne (tgt := 64) X dX7_mark_58 (by decide) (fun c => ?_) (fun c => ?_)
          · have h := h.1 c
            refine aw_aload X dX7_mark_64 0 rfl ?_
            refine aw_get X dX7_mark_66 (X.il ht4 (by decide)) (sh_9 ht4 _) fl_RX7_275 rfl ?_
            refine aw_iload_n X dX7_mark_69 3 rfl ?_
            refine aw_iload_n X dX7_mark_70 4 rfl ?_
            refine aw_i2s X dX7_mark_71 ?_
            obtain ⟨hin, h⟩ := h
            refine aw_iast X dX7_mark_72 (X.il (ly_9_0 ht4) (by decide)) (sh_ia 24 (ly_9_0 ht4) _) (sh_ia 24 (ly_9_0 ht4) _) hin (fun M9 eM9 => ?_)
            have h := h M9 eM9
            refine aw_iconst (v := 1) X dX7_mark_73 (by decide) ?_
            exact aw_iret X dX7_mark_74 h
          · have h := h.2 c
            refine aw_ldc (v := (-1000000012)) X dX7_mark_61 kw472 ?_
            exact aw_iret X dX7_mark_63 h
      · have h := h.2 c
        refine aw_ldc_w (v := (-1000000013)) X dX7_mark_43 kw882 ?_
        exact aw_iret X dX7_mark_46 h
    · have h := h.2 c
      refine aw_ldc_w (v := (-1000000011)) X dX7_mark_24 kw881 ?_
      exact aw_iret X dX7_mark_27 h
def wl_X7_pour_30 (n : Nat) (p1 : Int32)  (K : Mm → Int32 → Prop) : Nat → Mm → Nat → Int32 → Int32 → Prop
  | 0, _, _, _, _ => False
  | k + 1, M, x2, x3, x4 => (tp x2 = 9) ∧ (((M 1 4) ≤ x4 → K M x3) ∧ (¬ (M 1 4) ≤ x4 → ((M x2 2) ≤ x4 → K M x3) ∧ (¬ (M x2 2) ≤ x4 → wp_X3_comerAt n M 1 x4 (fun M5 r6 => (r6 = none → ∀ v7 : Int32, v7 = x4 + 1 → wl_X7_pour_30 n p1 K k M5 x2 x3 v7) ∧ (∀ t8 : Nat, r6 = some t8 → tp t8 = 5 ∧ (vp_in x4 24 ∧ ((¬ (M5 (x2 + 1) x4.toNatClampNeg) = (-1000000005) → vp_in x4 24 ∧ (wp_X7_held n M5 (M5 (x2 + 1) x4.toNatClampNeg) (([0, 0, 1, 0, 0] : List Int32).getD (3 : Int32).toNatClampNeg 0) (([5, 59, 30, 9, 9] : List Int32).getD (3 : Int32).toNatClampNeg 0) (fun M10 r11 => (r11 = (M10 t8 3) → ∀ M12 : Mm, M12 = wr M10 t8 3 r11 → ∀ v13 : Int32, v13 = x4 + 1 → wl_X7_pour_30 n p1 K k M12 x2 x3 v13) ∧ (¬ r11 = (M10 t8 3) → ∀ v14 : Int32, v14 = x3 + 1 → ∀ M15 : Mm, M15 = wr M10 t8 3 r11 → ∀ v16 : Int32, v16 = x4 + 1 → wl_X7_pour_30 n p1 K k M15 x2 v14 v16)))) ∧ ((M5 (x2 + 1) x4.toNatClampNeg) = (-1000000005) → ∀ v17 : Int32, v17 = x4 + 1 → wl_X7_pour_30 n p1 K k M5 x2 x3 v17))))))))
set_option maxHeartbeats 4000000 in
set_option maxRecDepth 100000 in
theorem lw_X7_pour_30 {g : Gm} {E : En} {A : Nat → Prop} {K : Mm → Int32 → Prop} (X : CX g cX7_pour RX7 (some .int) 2 E A 7) (p1 : Int32)   : ∀ (k : Nat) (M : Mm) (x2 : Nat) (x3 : Int32) (x4 : Int32), wl_X7_pour_30 (eN E) p1  K k M x2 x3 x4 → AW g E A 7 (MQ (gB g) (QI E K A) (gA g) (gS g) (gk g) (gn g) A) 30 [(0, .ref (eA E 0)), (2, .ref (eA E x2)), (3, .int x3), (4, .int x4)] [] M := by
  intro k
  induction k with
  | zero => intro M x2 x3 x4 h; exact h.elim
  | succ k ih =>
    intro M x2 x3 x4 h
    rw [wl_X7_pour_30] at h
    obtain ⟨hx2, h⟩ := h
    refine aw_iload X dX7_pour_30 3 rfl ?_
    refine aw_aload_n X dX7_pour_32 0 rfl ?_
    refine aw_get X dX7_pour_33 (X.lt (by decide)) (sh_1 (rfl : tp 0 = 1) _) fl_RX7_10 rfl ?_
    refine aw_get X dX7_pour_36 (X.lt (by decide)) (sh_2 (rfl : tp 1 = 2) _) fl_RX7_69 rfl ?_
    refine aw_icmp_ge (tgt := 130) X dX7_pour_39 (by decide) (fun c => ?_) (fun c => ?_)
    · have h := h.1 c
      refine aw_iload_n X dX7_pour_130 2 rfl ?_
      exact aw_iret X dX7_pour_131 h
    · have h := h.2 c
      refine aw_iload X dX7_pour_42 3 rfl ?_
      refine aw_aload_n X dX7_pour_44 1 rfl ?_
      refine aw_get X dX7_pour_45 (X.il hx2 (by decide)) (sh_9 hx2 _) fl_RX7_273 rfl ?_
      refine aw_icmp_ge (tgt := 130) X dX7_pour_48 (by decide) (fun c => ?_) (fun c => ?_)
      · have h := h.1 c
        refine aw_iload_n X dX7_pour_130 2 rfl ?_
        exact aw_iret X dX7_pour_131 h
      · have h := h.2 c
        refine aw_aload_n X dX7_pour_51 0 rfl ?_
        refine aw_get X dX7_pour_52 (X.lt (by decide)) (sh_1 (rfl : tp 0 = 1) _) fl_RX7_10 rfl ?_
        refine aw_iload X dX7_pour_55 3 rfl ?_
        refine ca_q X (rn_vn X [.int x4] [] (X.lt (by decide)) (sh_2 (rfl : tp 1 = 2) _) rfl rfl kw419 kw2 (c_X3_comerAt h) cal_yX3_comerAt kw417 (Nat.le_of_ble_eq_true rfl) rfl rfl (Nat.le_of_ble_eq_true rfl) dX7_pour_57) (fun M5 r6 h => ?_)
        rcases r6 with _ | t8
        · have h := h.1 rfl
          refine aw_astoreN (lv' := [(5, .null), (0, .ref (eA E 0)), (2, .ref (eA E x2)), (3, .int x3), (4, .int x4)]) X dX7_pour_60 (by decide) rfl ?_
          refine aw_aloadN X dX7_pour_62 0 rfl ?_
          refine aw_ifnullN (tgt := 124) X dX7_pour_64 (by decide) ?_
          obtain ⟨v7, ev7⟩ : ∃ y : Int32, y = x4 + 1 := ⟨_, rfl⟩
          have h := h v7 ev7
          refine aw_iinc (v := v7) (lv' := [(4, .int v7), (5, .null), (0, .ref (eA E 0)), (2, .ref (eA E x2)), (3, .int x3)]) X dX7_pour_124 4 rfl (by rw [ev7]; rfl) (by decide) rfl ?_
          refine aw_goto (tgt := 30) X dX7_pour_127 (by decide) ?_
          exact aw_sub [2, 3, 4, 0] rfl (ih _ _ _ _ h)
        · obtain ⟨ht9, h⟩ := h.2 t8 rfl
          refine aw_astore (lv' := [(5, .ref (eA E t8)), (0, .ref (eA E 0)), (2, .ref (eA E x2)), (3, .int x3), (4, .int x4)]) X dX7_pour_60 (by decide) rfl ?_
          refine aw_aload X dX7_pour_62 0 rfl ?_
          refine aw_ifnull X dX7_pour_64 ?_
          refine aw_aload_n X dX7_pour_67 2 rfl ?_
          refine aw_get X dX7_pour_68 (X.il hx2 (by decide)) (sh_9 hx2 _) fl_RX7_275 rfl ?_
          refine aw_iload X dX7_pour_71 4 rfl ?_
          obtain ⟨hin, h⟩ := h
          refine aw_iald X dX7_pour_73 (X.il (ly_9_0 hx2) (by decide)) (sh_ia 24 (ly_9_0 hx2) _) hin ?_
          refine aw_ldc (v := (-1000000005)) X dX7_pour_74 kw582 ?_
          refine aw_icmp_ne (tgt := 82) X dX7_pour_76 (by decide) (fun c => ?_) (fun c => ?_)
          · have h := h.1 c
            refine aw_aload_n X dX7_pour_82 2 rfl ?_
            refine aw_get X dX7_pour_83 (X.il hx2 (by decide)) (sh_9 hx2 _) fl_RX7_275 rfl ?_
            refine aw_iload X dX7_pour_86 4 rfl ?_
            obtain ⟨hin, h⟩ := h
            refine aw_iald X dX7_pour_88 (X.il (ly_9_0 hx2) (by decide)) (sh_ia 24 (ly_9_0 hx2) _) hin ?_
            refine aw_gets X dX7_pour_89 X.sta.1.2.1.1 kw399 rfl ?_
            refine aw_iconst (v := 3) X dX7_pour_92 (by decide) ?_
            refine aw_ti X dX7_pour_93 X.sta.1.2.1.2 (by unfold vp_in; decide) ?_
            refine aw_gets X dX7_pour_94 X.sta.1.2.2.1.1 kw401 rfl ?_
            refine aw_iconst (v := 3) X dX7_pour_97 (by decide) ?_
            refine aw_ti X dX7_pour_98 X.sta.1.2.2.1.2 (by unfold vp_in; decide) ?_
            refine ca_i X (rn_s X [.int (M5 (x2 + 1) x4.toNatClampNeg), .int (([0, 0, 1, 0, 0] : List Int32).getD (3 : Int32).toNatClampNeg 0), .int (([5, 59, 30, 9, 9] : List Int32).getD (3 : Int32).toNatClampNeg 0)] [] kw455 (c_X7_held h) cal_yX7_held kw889 (Nat.le_of_ble_eq_true rfl) rfl rfl (Nat.le_of_ble_eq_true rfl) dX7_pour_99) (fun M10 r11 h => ?_)
            refine aw_istore (lv' := [(6, .int r11), (5, .ref (eA E t8)), (0, .ref (eA E 0)), (2, .ref (eA E x2)), (3, .int x3), (4, .int x4)]) X dX7_pour_102 (by decide) rfl ?_
            refine aw_iload X dX7_pour_104 0 rfl ?_
            refine aw_aload X dX7_pour_106 1 rfl ?_
            refine aw_get X dX7_pour_108 (X.il ht9 (by decide)) (sh_5 ht9 _) fl_RX7_283 rfl ?_
            refine aw_icmp_eq (tgt := 117) X dX7_pour_111 (by decide) (fun c => ?_) (fun c => ?_)
            · have h := h.1 c
              refine aw_aload X dX7_pour_117 1 rfl ?_
              refine aw_iload X dX7_pour_119 0 rfl ?_
              refine aw_put X dX7_pour_121 (X.il ht9 (by decide)) (sh_5 ht9 _) fl_RX7_283 fw_0_3 (Nat.le_of_ble_eq_true rfl) (sp_5_3 ht9 _ _) (fun M12 eM12 => ?_)
              have h := h M12 eM12
              obtain ⟨v13, ev13⟩ : ∃ y : Int32, y = x4 + 1 := ⟨_, rfl⟩
              have h := h v13 ev13
              refine aw_iinc (v := v13) (lv' := [(4, .int v13), (6, .int r11), (5, .ref (eA E t8)), (0, .ref (eA E 0)), (2, .ref (eA E x2)), (3, .int x3)]) X dX7_pour_124 5 rfl (by rw [ev13]; rfl) (by decide) rfl ?_
              refine aw_goto (tgt := 30) X dX7_pour_127 (by decide) ?_
              exact aw_sub [3, 4, 5, 0] rfl (ih _ _ _ _ h)
            · have h := h.2 c
              obtain ⟨v14, ev14⟩ : ∃ y : Int32, y = x3 + 1 := ⟨_, rfl⟩
              have h := h v14 ev14
              refine aw_iinc (v := v14) (lv' := [(3, .int v14), (6, .int r11), (5, .ref (eA E t8)), (0, .ref (eA E 0)), (2, .ref (eA E x2)), (4, .int x4)]) X dX7_pour_114 4 rfl (by rw [ev14]; rfl) (by decide) rfl ?_
              refine aw_aload X dX7_pour_117 2 rfl ?_
              refine aw_iload X dX7_pour_119 1 rfl ?_
              refine aw_put X dX7_pour_121 (X.il ht9 (by decide)) (sh_5 ht9 _) fl_RX7_283 fw_0_3 (Nat.le_of_ble_eq_true rfl) (sp_5_3 ht9 _ _) (fun M15 eM15 => ?_)
              have h := h M15 eM15
              obtain ⟨v16, ev16⟩ : ∃ y : Int32, y = x4 + 1 := ⟨_, rfl⟩
              have h := h v16 ev16
              refine aw_iinc (v := v16) (lv' := [(4, .int v16), (3, .int v14), (6, .int r11), (5, .ref (eA E t8)), (0, .ref (eA E 0)), (2, .ref (eA E x2))]) X dX7_pour_124 5 rfl (by rw [ev16]; rfl) (by decide) rfl ?_
              refine aw_goto (tgt := 30) X dX7_pour_127 (by decide) ?_
              exact aw_sub [4, 5, 1, 0] rfl (ih _ _ _ _ h)
          · have h := h.2 c
            refine aw_goto (tgt := 124) X dX7_pour_79 (by decide) ?_
            obtain ⟨v17, ev17⟩ : ∃ y : Int32, y = x4 + 1 := ⟨_, rfl⟩
            have h := h v17 ev17
            refine aw_iinc (v := v17) (lv' := [(4, .int v17), (5, .ref (eA E t8)), (0, .ref (eA E 0)), (2, .ref (eA E x2)), (3, .int x3)]) X dX7_pour_124 4 rfl (by rw [ev17]; rfl) (by decide) rfl ?_
            refine aw_goto (tgt := 30) X dX7_pour_127 (by decide) ?_
            exact aw_sub [2, 3, 4, 0] rfl (ih _ _ _ _ h)
def wp_X7_pour (n : Nat)  (M : Mm) (p1 : Int32) (K : Mm → Int32 → Prop) : Prop := wp_X7_sheetAt n M p1 (fun M1 r2 => (r2 = none → K M1 (-1000000001)) ∧ (∀ t3 : Nat, r2 = some t3 → tp t3 = 9 ∧ ((¬ (M1 t3 1) = (-1) → ∃ kf : Nat, wl_X7_pour_30 n p1 K kf M1 t3 0 0) ∧ ((M1 t3 1) = (-1) → K M1 (-1000000011)))))
set_option maxHeartbeats 4000000 in
set_option maxRecDepth 100000 in
theorem c_X7_pour {l : Launch} {E : En} {M : Mm} {p1 : Int32} {K : Mm → Int32 → Prop}  (h : wp_X7_pour (eN E)  M p1 K) : Ctr l E yX7_pour cX7_pour 7 (some .int) 2 [.ref (eA E 0), .int p1] M (QI E K) := by
  refine Ctr.of (by decide +kernel) (Nat.le_of_ble_eq_true rfl) (fun g A hgl X => ?_)
  subst hgl
  have X : CX g cX7_pour RX7 (some .int) 2 E A 7 := X
  show AW g E A 7 _ 0 [(0, .ref (eA E 0)), (1, .int p1)] [] M
  unfold wp_X7_pour at h
  refine aw_aload_n X dX7_pour_0 0 rfl ?_
  refine aw_iload_n X dX7_pour_1 1 rfl ?_
  refine ca_q X (rn_v X [.int p1] [] (X.lt (by decide)) (sh_1 (rfl : tp 0 = 1) _) rfl rfl kw866 kw47 (c_X7_sheetAt h) cal_yX7_sheetAt kw864 (Nat.le_of_ble_eq_true rfl) rfl rfl (Nat.le_of_ble_eq_true rfl) dX7_pour_2) (fun M1 r2 h => ?_)
  rcases r2 with _ | t3
  · have h := h.1 rfl
    refine aw_astore_nN (lv' := [(2, .null), (0, .ref (eA E 0)), (1, .int p1)]) X dX7_pour_5 (by decide) rfl ?_
    refine aw_aload_nN X dX7_pour_6 0 rfl ?_
    refine aw_ifnonnullN X dX7_pour_7 ?_
    refine aw_ldc (v := (-1000000001)) X dX7_pour_10 kw403 ?_
    exact aw_iret X dX7_pour_12 h
  · obtain ⟨ht4, h⟩ := h.2 t3 rfl
    refine aw_astore_n (lv' := [(2, .ref (eA E t3)), (0, .ref (eA E 0)), (1, .int p1)]) X dX7_pour_5 (by decide) rfl ?_
    refine aw_aload_n X dX7_pour_6 0 rfl ?_
    refine aw_ifnonnull (tgt := 13) X dX7_pour_7 (by decide) ?_
    refine aw_aload_n X dX7_pour_13 0 rfl ?_
    refine aw_get X dX7_pour_14 (X.il ht4 (by decide)) (sh_9 ht4 _) fl_RX7_269 rfl ?_
    refine aw_iconst (v := (-1)) X dX7_pour_17 (by decide) ?_
    refine aw_icmp_ne (tgt := 25) X dX7_pour_18 (by decide) (fun c => ?_) (fun c => ?_)
    · have h := h.1 c
      refine aw_iconst (v := 0) X dX7_pour_25 (by decide) ?_
      refine aw_istore_n (lv' := [(3, .int 0), (2, .ref (eA E t3)), (0, .ref (eA E 0)), (1, .int p1)]) X dX7_pour_26 (by decide) rfl ?_
      refine aw_iconst (v := 0) X dX7_pour_27 (by decide) ?_
      refine aw_istore (lv' := [(4, .int 0), (3, .int 0), (2, .ref (eA E t3)), (0, .ref (eA E 0)), (1, .int p1)]) X dX7_pour_28 (by decide) rfl ?_
      obtain ⟨kf, h⟩ := h
      exact aw_sub [3, 2, 1, 0] rfl (lw_X7_pour_30 X p1  kf _ _ _ _ h)
    · have h := h.2 c
      refine aw_ldc_w (v := (-1000000011)) X dX7_pour_21 kw881 ?_
      exact aw_iret X dX7_pour_24 h
def wl_X7_explained_59 (n : Nat) (p1 : Int32) (p2 : Int32)  (K : Mm → Int32 → Prop) : Nat → Mm → Nat → Int32 → Int32 → Int32 → Prop
  | 0, _, _, _, _, _ => False
  | k + 1, M, x3, x4, x5, x6 => (tp x3 = 9) ∧ (((([60, 99, 99, 9, 100] : List Int32).getD (0 : Int32).toNatClampNeg 0) < x6 → (¬ p2 = 0 → K M x5) ∧ (p2 = 0 → K M x4)) ∧ (¬ (([60, 99, 99, 9, 100] : List Int32).getD (0 : Int32).toNatClampNeg 0) < x6 → wp_X3_differences n M 1 x3 x6 (fun M11 r12 => (x5 ≤ r12 → ∀ v13 : Int32, v13 = x6 + 1 → wl_X7_explained_59 n p1 p2 K k M11 x3 x4 x5 v13) ∧ (¬ x5 ≤ r12 → ∀ v14 : Int32, v14 = x6 + 1 → wl_X7_explained_59 n p1 p2 K k M11 x3 x6 r12 v14))))
set_option maxHeartbeats 4000000 in
set_option maxRecDepth 100000 in
theorem lw_X7_explained_59 {g : Gm} {E : En} {A : Nat → Prop} {K : Mm → Int32 → Prop} (X : CX g cX7_explained RX7 (some .int) 2 E A 8) (p1 : Int32) (p2 : Int32)   : ∀ (k : Nat) (M : Mm) (x3 : Nat) (x4 : Int32) (x5 : Int32) (x6 : Int32), wl_X7_explained_59 (eN E) p1 p2  K k M x3 x4 x5 x6 → AW g E A 8 (MQ (gB g) (QI E K A) (gA g) (gS g) (gk g) (gn g) A) 59 [(0, .ref (eA E 0)), (2, .int p2), (3, .ref (eA E x3)), (4, .int x4), (5, .int x5), (6, .int x6)] [] M := by
  intro k
  induction k with
  | zero => intro M x3 x4 x5 x6 h; exact h.elim
  | succ k ih =>
    intro M x3 x4 x5 x6 h
    rw [wl_X7_explained_59] at h
    obtain ⟨hx3, h⟩ := h
    refine aw_iload X dX7_explained_59 5 rfl ?_
    refine aw_gets X dX7_explained_61 X.sta.1.2.2.2.2.1 kw491 rfl ?_
    refine aw_iconst (v := 0) X dX7_explained_64 (by decide) ?_
    refine aw_ti X dX7_explained_65 X.sta.1.2.2.2.2.2 (by unfold vp_in; decide) ?_
    refine aw_icmp_gt (tgt := 102) X dX7_explained_66 (by decide) (fun c => ?_) (fun c => ?_)
    · have h := h.1 c
      refine aw_iload_n X dX7_explained_102 1 rfl ?_
      refine aw_if_ne (tgt := 111) X dX7_explained_103 (by decide) (fun c => ?_) (fun c => ?_)
      · have h := h.1 c
        refine aw_iload X dX7_explained_111 4 rfl ?_
        exact aw_iret X dX7_explained_113 h
      · have h := h.2 c
        refine aw_iload X dX7_explained_106 3 rfl ?_
        refine aw_goto (tgt := 113) X dX7_explained_108 (by decide) ?_
        exact aw_iret X dX7_explained_113 h
    · have h := h.2 c
      refine aw_aload_n X dX7_explained_69 0 rfl ?_
      refine aw_get X dX7_explained_70 (X.lt (by decide)) (sh_1 (rfl : tp 0 = 1) _) fl_RX7_10 rfl ?_
      refine aw_aload_n X dX7_explained_73 2 rfl ?_
      refine aw_iload X dX7_explained_74 5 rfl ?_
      refine ca_i X (rn_vn X [.ref (eA E x3), .int x6] [] (X.lt (by decide)) (sh_2 (rfl : tp 1 = 2) _) rfl rfl kw896 kw49 (c_X3_differences h) cal_yX3_differences kw894 (Nat.le_of_ble_eq_true rfl) rfl rfl (Nat.le_of_ble_eq_true rfl) dX7_explained_76) (fun M11 r12 h => ?_)
      refine aw_istore (lv' := [(7, .int r12), (0, .ref (eA E 0)), (2, .int p2), (3, .ref (eA E x3)), (4, .int x4), (5, .int x5), (6, .int x6)]) X dX7_explained_79 (by decide) rfl ?_
      refine aw_iload X dX7_explained_81 0 rfl ?_
      refine aw_iload X dX7_explained_83 5 rfl ?_
      refine aw_icmp_ge (tgt := 96) X dX7_explained_85 (by decide) (fun c => ?_) (fun c => ?_)
      · have h := h.1 c
        obtain ⟨v13, ev13⟩ : ∃ y : Int32, y = x6 + 1 := ⟨_, rfl⟩
        have h := h v13 ev13
        refine aw_iinc (v := v13) (lv' := [(6, .int v13), (7, .int r12), (0, .ref (eA E 0)), (2, .int p2), (3, .ref (eA E x3)), (4, .int x4), (5, .int x5)]) X dX7_explained_96 6 rfl (by rw [ev13]; rfl) (by decide) rfl ?_
        refine aw_goto (tgt := 59) X dX7_explained_99 (by decide) ?_
        exact aw_sub [2, 3, 4, 5, 6, 0] rfl (ih _ _ _ _ _ h)
      · have h := h.2 c
        refine aw_iload X dX7_explained_88 0 rfl ?_
        refine aw_istore (lv' := [(5, .int r12), (7, .int r12), (0, .ref (eA E 0)), (2, .int p2), (3, .ref (eA E x3)), (4, .int x4), (6, .int x6)]) X dX7_explained_90 (by decide) rfl ?_
        refine aw_iload X dX7_explained_92 6 rfl ?_
        refine aw_istore (lv' := [(4, .int x6), (5, .int r12), (7, .int r12), (0, .ref (eA E 0)), (2, .int p2), (3, .ref (eA E x3)), (6, .int x6)]) X dX7_explained_94 (by decide) rfl ?_
        obtain ⟨v14, ev14⟩ : ∃ y : Int32, y = x6 + 1 := ⟨_, rfl⟩
        have h := h v14 ev14
        refine aw_iinc (v := v14) (lv' := [(6, .int v14), (4, .int x6), (5, .int r12), (7, .int r12), (0, .ref (eA E 0)), (2, .int p2), (3, .ref (eA E x3))]) X dX7_explained_96 6 rfl (by rw [ev14]; rfl) (by decide) rfl ?_
        refine aw_goto (tgt := 59) X dX7_explained_99 (by decide) ?_
        exact aw_sub [4, 5, 6, 1, 2, 0] rfl (ih _ _ _ _ _ h)
def wp_X7_explained (n : Nat)  (M : Mm) (p1 : Int32) (p2 : Int32) (K : Mm → Int32 → Prop) : Prop := wp_X7_sheetAt n M p1 (fun M1 r2 => (r2 = none → K M1 (-1000000001)) ∧ (∀ t3 : Nat, r2 = some t3 → tp t3 = 9 ∧ (wp_X7_within n M1 p2 0 1 (fun M5 r6 => (¬ r6 = 0 → (¬ (M5 t3 1) = (-1) → ∀ v7 : Int32, v7 = ([1, 0, 0, 1, 0] : List Int32).getD (0 : Int32).toNatClampNeg 0 → wp_X3_differences n M5 1 t3 v7 (fun M8 r9 => ∀ v10 : Int32, v10 = v7 + 1 → ∃ kf : Nat, wl_X7_explained_59 n p1 p2 K kf M8 t3 v7 r9 v10)) ∧ ((M5 t3 1) = (-1) → K M5 (-1000000011))) ∧ (r6 = 0 → K M5 (-1000000001))))))
set_option maxHeartbeats 4000000 in
set_option maxRecDepth 100000 in
theorem c_X7_explained {l : Launch} {E : En} {M : Mm} {p1 : Int32} {p2 : Int32} {K : Mm → Int32 → Prop}  (h : wp_X7_explained (eN E)  M p1 p2 K) : Ctr l E yX7_explained cX7_explained 8 (some .int) 2 [.ref (eA E 0), .int p1, .int p2] M (QI E K) := by
  refine Ctr.of (by decide +kernel) (Nat.le_of_ble_eq_true rfl) (fun g A hgl X => ?_)
  subst hgl
  have X : CX g cX7_explained RX7 (some .int) 2 E A 8 := X
  show AW g E A 8 _ 0 [(0, .ref (eA E 0)), (1, .int p1), (2, .int p2)] [] M
  unfold wp_X7_explained at h
  refine aw_aload_n X dX7_explained_0 0 rfl ?_
  refine aw_iload_n X dX7_explained_1 1 rfl ?_
  refine ca_q X (rn_v X [.int p1] [] (X.lt (by decide)) (sh_1 (rfl : tp 0 = 1) _) rfl rfl kw866 kw47 (c_X7_sheetAt h) cal_yX7_sheetAt kw864 (Nat.le_of_ble_eq_true rfl) rfl rfl (Nat.le_of_ble_eq_true rfl) dX7_explained_2) (fun M1 r2 h => ?_)
  rcases r2 with _ | t3
  · have h := h.1 rfl
    refine aw_astore_nN (lv' := [(3, .null), (0, .ref (eA E 0)), (1, .int p1), (2, .int p2)]) X dX7_explained_5 (by decide) rfl ?_
    refine aw_aload_nN X dX7_explained_6 0 rfl ?_
    refine aw_ifnullN (tgt := 19) X dX7_explained_7 (by decide) ?_
    refine aw_ldc (v := (-1000000001)) X dX7_explained_19 kw403 ?_
    exact aw_iret X dX7_explained_21 h
  · obtain ⟨ht4, h⟩ := h.2 t3 rfl
    refine aw_astore_n (lv' := [(3, .ref (eA E t3)), (0, .ref (eA E 0)), (1, .int p1), (2, .int p2)]) X dX7_explained_5 (by decide) rfl ?_
    refine aw_aload_n X dX7_explained_6 0 rfl ?_
    refine aw_ifnull X dX7_explained_7 ?_
    refine aw_iload_n X dX7_explained_10 3 rfl ?_
    refine aw_iconst (v := 0) X dX7_explained_11 (by decide) ?_
    refine aw_iconst (v := 1) X dX7_explained_12 (by decide) ?_
    refine ca_i X (rn_s X [.int p2, .int 0, .int 1] [] kw394 (c_X7_within h) cal_yX7_within kw393 (Nat.le_of_ble_eq_true rfl) rfl rfl (Nat.le_of_ble_eq_true rfl) dX7_explained_13) (fun M5 r6 h => ?_)
    refine aw_if_ne (tgt := 22) X dX7_explained_16 (by decide) (fun c => ?_) (fun c => ?_)
    · have h := h.1 c
      refine aw_aload_n X dX7_explained_22 0 rfl ?_
      refine aw_get X dX7_explained_23 (X.il ht4 (by decide)) (sh_9 ht4 _) fl_RX7_269 rfl ?_
      refine aw_iconst (v := (-1)) X dX7_explained_26 (by decide) ?_
      refine aw_icmp_ne (tgt := 34) X dX7_explained_27 (by decide) (fun c => ?_) (fun c => ?_)
      · have h := h.1 c
        refine aw_gets X dX7_explained_34 X.sta.1.2.2.2.1.1 kw489 rfl ?_
        refine aw_iconst (v := 0) X dX7_explained_37 (by decide) ?_
        refine aw_ti X dX7_explained_38 X.sta.1.2.2.2.1.2 (by unfold vp_in; decide) ?_
        refine aw_top (fun v7 ev7 => ?_)
        have h := h v7 ev7
        refine aw_istore (lv' := [(4, .int v7), (3, .ref (eA E t3)), (0, .ref (eA E 0)), (1, .int p1), (2, .int p2)]) X dX7_explained_39 (by decide) rfl ?_
        refine aw_aload_n X dX7_explained_41 2 rfl ?_
        refine aw_get X dX7_explained_42 (X.lt (by decide)) (sh_1 (rfl : tp 0 = 1) _) fl_RX7_10 rfl ?_
        refine aw_aload_n X dX7_explained_45 1 rfl ?_
        refine aw_iload X dX7_explained_46 0 rfl ?_
        refine ca_i X (rn_vn X [.ref (eA E t3), .int v7] [] (X.lt (by decide)) (sh_2 (rfl : tp 1 = 2) _) rfl rfl kw896 kw49 (c_X3_differences h) cal_yX3_differences kw894 (Nat.le_of_ble_eq_true rfl) rfl rfl (Nat.le_of_ble_eq_true rfl) dX7_explained_48) (fun M8 r9 h => ?_)
        refine aw_istore (lv' := [(5, .int r9), (4, .int v7), (3, .ref (eA E t3)), (0, .ref (eA E 0)), (1, .int p1), (2, .int p2)]) X dX7_explained_51 (by decide) rfl ?_
        refine aw_iload X dX7_explained_53 1 rfl ?_
        refine aw_iconst (v := 1) X dX7_explained_55 (by decide) ?_
        refine aw_iadd X dX7_explained_56 ?_
        refine aw_top (fun v10 ev10 => ?_)
        have h := h v10 ev10
        refine aw_istore (lv' := [(6, .int v10), (5, .int r9), (4, .int v7), (3, .ref (eA E t3)), (0, .ref (eA E 0)), (1, .int p1), (2, .int p2)]) X dX7_explained_57 (by decide) rfl ?_
        obtain ⟨kf, h⟩ := h
        exact aw_sub [4, 6, 3, 2, 1, 0] rfl (lw_X7_explained_59 X p1 p2  kf _ _ _ _ _ h)
      · have h := h.2 c
        refine aw_ldc_w (v := (-1000000011)) X dX7_explained_30 kw881 ?_
        exact aw_iret X dX7_explained_33 h
    · have h := h.2 c
      refine aw_ldc (v := (-1000000001)) X dX7_explained_19 kw403 ?_
      exact aw_iret X dX7_explained_21 h
def wp_X7_copy (n : Nat)  (M : Mm) (p1 : Int32) (p2 : Int32) (p3 : Int32) (p4 : Int32) (p5 : Int32) (K : Mm → Int32 → Prop) : Prop := wp_X7_sheetAt n M p1 (fun M1 r2 => (r2 = none → wp_X7_sheetAt n M1 p3 (fun M3 r4 => (r4 = none → K M3 (-1000000001)) ∧ (∀ t5 : Nat, r4 = some t5 → tp t5 = 9 ∧ (K M3 (-1000000001))))) ∧ (∀ t7 : Nat, r2 = some t7 → tp t7 = 9 ∧ (wp_X7_sheetAt n M1 p3 (fun M9 r10 => (r10 = none → K M9 (-1000000001)) ∧ (∀ t11 : Nat, r10 = some t11 → tp t11 = 9 ∧ (((M9 t7 1) = (-1) → K M9 (-1000000011)) ∧ (¬ (M9 t7 1) = (-1) → (¬ (M9 t11 1) = (-1) → ((M9 t7 1) = (M9 t11 1) → wp_X4_hasPlaces n M9 t7 p2 p5 (fun M13 r14 => (r14 = 0 → K M13 (-1000000013)) ∧ (¬ r14 = 0 → wp_X4_hasPlaces n M13 t11 p4 p5 (fun M15 r16 => (¬ r16 = 0 → (¬ (p2 : Int32) < 0 ∧ ¬ (p4 : Int32) < 0 ∧ ¬ (p5 : Int32) < 0 ∧ (p2 : Int32).toNatClampNeg + (p5 : Int32).toNatClampNeg ≤ 24 ∧ (p4 : Int32).toNatClampNeg + (p5 : Int32).toNatClampNeg ≤ 24) ∧ (∀ M17 : Mm, M17 = va_up M15 (t11 + 1) (va_cpy (M15 (t7 + 1)) (M15 (t11 + 1)) (p2 : Int32).toNatClampNeg (p4 : Int32).toNatClampNeg (p5 : Int32).toNatClampNeg) → K M17 p5)) ∧ (r16 = 0 → K M15 (-1000000013)))))) ∧ (¬ (M9 t7 1) = (M9 t11 1) → K M9 (-1000000012))) ∧ ((M9 t11 1) = (-1) → K M9 (-1000000011)))))))))
set_option maxHeartbeats 4000000 in
set_option maxRecDepth 100000 in
theorem c_X7_copy {l : Launch} {E : En} {M : Mm} {p1 : Int32} {p2 : Int32} {p3 : Int32} {p4 : Int32} {p5 : Int32} {K : Mm → Int32 → Prop}  (h : wp_X7_copy (eN E)  M p1 p2 p3 p4 p5 K) : Ctr l E yX7_copy cX7_copy 8 (some .int) 2 [.ref (eA E 0), .int p1, .int p2, .int p3, .int p4, .int p5] M (QI E K) := by
  refine Ctr.of (by decide +kernel) (Nat.le_of_ble_eq_true rfl) (fun g A hgl X => ?_)
  subst hgl
  have X : CX g cX7_copy RX7 (some .int) 2 E A 8 := X
  show AW g E A 8 _ 0 [(0, .ref (eA E 0)), (1, .int p1), (2, .int p2), (3, .int p3), (4, .int p4), (5, .int p5)] [] M
  unfold wp_X7_copy at h
  refine aw_aload_n X dX7_copy_0 0 rfl ?_
  refine aw_iload_n X dX7_copy_1 1 rfl ?_
  refine ca_q X (rn_v X [.int p1] [] (X.lt (by decide)) (sh_1 (rfl : tp 0 = 1) _) rfl rfl kw866 kw47 (c_X7_sheetAt h) cal_yX7_sheetAt kw864 (Nat.le_of_ble_eq_true rfl) rfl rfl (Nat.le_of_ble_eq_true rfl) dX7_copy_2) (fun M1 r2 h => ?_)
  rcases r2 with _ | t7
  · have h := h.1 rfl
    refine aw_astoreN (lv' := [(6, .null), (0, .ref (eA E 0)), (1, .int p1), (2, .int p2), (3, .int p3), (4, .int p4), (5, .int p5)]) X dX7_copy_5 (by decide) rfl ?_
    refine aw_aload_n X dX7_copy_7 1 rfl ?_
    refine aw_iload_n X dX7_copy_8 4 rfl ?_
    refine ca_q X (rn_v X [.int p3] [] (X.lt (by decide)) (sh_1 (rfl : tp 0 = 1) _) rfl rfl kw866 kw47 (c_X7_sheetAt h) cal_yX7_sheetAt kw864 (Nat.le_of_ble_eq_true rfl) rfl rfl (Nat.le_of_ble_eq_true rfl) dX7_copy_9) (fun M3 r4 h => ?_)
    rcases r4 with _ | t5
    · have h := h.1 rfl
      refine aw_astoreN (lv' := [(7, .null), (6, .null), (0, .ref (eA E 0)), (1, .int p1), (2, .int p2), (3, .int p3), (4, .int p4), (5, .int p5)]) X dX7_copy_12 (by decide) rfl ?_
      refine aw_aloadN X dX7_copy_14 1 rfl ?_
      refine aw_ifnullN (tgt := 24) X dX7_copy_16 (by decide) ?_
      refine aw_ldc (v := (-1000000001)) X dX7_copy_24 kw403 ?_
      exact aw_iret X dX7_copy_26 h
    · obtain ⟨ht6, h⟩ := h.2 t5 rfl
      refine aw_astore (lv' := [(7, .ref (eA E t5)), (6, .null), (0, .ref (eA E 0)), (1, .int p1), (2, .int p2), (3, .int p3), (4, .int p4), (5, .int p5)]) X dX7_copy_12 (by decide) rfl ?_
      refine aw_aloadN X dX7_copy_14 1 rfl ?_
      refine aw_ifnullN (tgt := 24) X dX7_copy_16 (by decide) ?_
      refine aw_ldc (v := (-1000000001)) X dX7_copy_24 kw403 ?_
      exact aw_iret X dX7_copy_26 h
  · obtain ⟨ht8, h⟩ := h.2 t7 rfl
    refine aw_astore (lv' := [(6, .ref (eA E t7)), (0, .ref (eA E 0)), (1, .int p1), (2, .int p2), (3, .int p3), (4, .int p4), (5, .int p5)]) X dX7_copy_5 (by decide) rfl ?_
    refine aw_aload_n X dX7_copy_7 1 rfl ?_
    refine aw_iload_n X dX7_copy_8 4 rfl ?_
    refine ca_q X (rn_v X [.int p3] [] (X.lt (by decide)) (sh_1 (rfl : tp 0 = 1) _) rfl rfl kw866 kw47 (c_X7_sheetAt h) cal_yX7_sheetAt kw864 (Nat.le_of_ble_eq_true rfl) rfl rfl (Nat.le_of_ble_eq_true rfl) dX7_copy_9) (fun M9 r10 h => ?_)
    rcases r10 with _ | t11
    · have h := h.1 rfl
      refine aw_astoreN (lv' := [(7, .null), (6, .ref (eA E t7)), (0, .ref (eA E 0)), (1, .int p1), (2, .int p2), (3, .int p3), (4, .int p4), (5, .int p5)]) X dX7_copy_12 (by decide) rfl ?_
      refine aw_aload X dX7_copy_14 1 rfl ?_
      refine aw_ifnull X dX7_copy_16 ?_
      refine aw_aloadN X dX7_copy_19 0 rfl ?_
      refine aw_ifnonnullN X dX7_copy_21 ?_
      refine aw_ldc (v := (-1000000001)) X dX7_copy_24 kw403 ?_
      exact aw_iret X dX7_copy_26 h
    · obtain ⟨ht12, h⟩ := h.2 t11 rfl
      refine aw_astore (lv' := [(7, .ref (eA E t11)), (6, .ref (eA E t7)), (0, .ref (eA E 0)), (1, .int p1), (2, .int p2), (3, .int p3), (4, .int p4), (5, .int p5)]) X dX7_copy_12 (by decide) rfl ?_
      refine aw_aload X dX7_copy_14 1 rfl ?_
      refine aw_ifnull X dX7_copy_16 ?_
      refine aw_aload X dX7_copy_19 0 rfl ?_
      refine aw_ifnonnull (tgt := 27) X dX7_copy_21 (by decide) ?_
      refine aw_aload X dX7_copy_27 1 rfl ?_
      refine aw_get X dX7_copy_29 (X.il ht8 (by decide)) (sh_9 ht8 _) fl_RX7_269 rfl ?_
      refine aw_iconst (v := (-1)) X dX7_copy_32 (by decide) ?_
      refine aw_icmp_eq (tgt := 45) X dX7_copy_33 (by decide) (fun c => ?_) (fun c => ?_)
      · have h := h.1 c
        refine aw_ldc_w (v := (-1000000011)) X dX7_copy_45 kw881 ?_
        exact aw_iret X dX7_copy_48 h
      · have h := h.2 c
        refine aw_aload X dX7_copy_36 0 rfl ?_
        refine aw_get X dX7_copy_38 (X.il ht12 (by decide)) (sh_9 ht12 _) fl_RX7_269 rfl ?_
        refine aw_iconst (v := (-1)) X dX7_copy_41 (by decide) ?_
        refine aw_icmp_ne (tgt := 49) X dX7_copy_42 (by decide) (fun c => ?_) (fun c => ?_)
        · have h := h.1 c
          refine aw_aload X dX7_copy_49 1 rfl ?_
          refine aw_get X dX7_copy_51 (X.il ht8 (by decide)) (sh_9 ht8 _) fl_RX7_269 rfl ?_
          refine aw_aload X dX7_copy_54 0 rfl ?_
          refine aw_get X dX7_copy_56 (X.il ht12 (by decide)) (sh_9 ht12 _) fl_RX7_269 rfl ?_
          refine aw_icmp_eq (tgt := 65) X dX7_copy_59 (by decide) (fun c => ?_) (fun c => ?_)
          · have h := h.1 c
            refine aw_aload X dX7_copy_65 1 rfl ?_
            refine aw_iload_n X dX7_copy_67 4 rfl ?_
            refine aw_iload X dX7_copy_68 7 rfl ?_
            refine ca_i X (rn_vn X [.int p2, .int p5] [] (X.il ht8 (by decide)) (sh_9 ht8 _) rfl rfl kw909 kw50 (c_X4_hasPlaces h) cal_yX4_hasPlaces kw907 (Nat.le_of_ble_eq_true rfl) rfl rfl (Nat.le_of_ble_eq_true rfl) dX7_copy_70) (fun M13 r14 h => ?_)
            refine aw_if_eq (tgt := 88) X dX7_copy_73 (by decide) (fun c => ?_) (fun c => ?_)
            · have h := h.1 c
              refine aw_ldc_w (v := (-1000000013)) X dX7_copy_88 kw882 ?_
              exact aw_iret X dX7_copy_91 h
            · have h := h.2 c
              refine aw_aload X dX7_copy_76 0 rfl ?_
              refine aw_iload X dX7_copy_78 6 rfl ?_
              refine aw_iload X dX7_copy_80 7 rfl ?_
              refine ca_i X (rn_vn X [.int p4, .int p5] [] (X.il ht12 (by decide)) (sh_9 ht12 _) rfl rfl kw909 kw50 (c_X4_hasPlaces h) cal_yX4_hasPlaces kw907 (Nat.le_of_ble_eq_true rfl) rfl rfl (Nat.le_of_ble_eq_true rfl) dX7_copy_82) (fun M15 r16 h => ?_)
              refine aw_if_ne (tgt := 92) X dX7_copy_85 (by decide) (fun c => ?_) (fun c => ?_)
              · have h := h.1 c
                refine aw_aload X dX7_copy_92 1 rfl ?_
                refine aw_get X dX7_copy_94 (X.il ht8 (by decide)) (sh_9 ht8 _) fl_RX7_275 rfl ?_
                refine aw_iload_n X dX7_copy_97 4 rfl ?_
                refine aw_aload X dX7_copy_98 0 rfl ?_
                refine aw_get X dX7_copy_100 (X.il ht12 (by decide)) (sh_9 ht12 _) fl_RX7_275 rfl ?_
                refine aw_iload X dX7_copy_103 6 rfl ?_
                refine aw_iload X dX7_copy_105 7 rfl ?_
                obtain ⟨hcp, h⟩ := h
                refine aw_copy X dX7_copy_107 kw911 kw569 kw568 kw108 (X.il (ly_9_0 ht8) (by decide)) (sh_ia 24 (ly_9_0 ht8) _) (X.il (ly_9_0 ht12) (by decide)) (sh_ia 24 (ly_9_0 ht12)) hcp.1 hcp.2.1 hcp.2.2.1 hcp.2.2.2.1 hcp.2.2.2.2 (by decide) (Nat.le_of_ble_eq_true rfl) (fun M17 eM17 => ?_)
                have h := h M17 eM17
                refine aw_iload X dX7_copy_110 7 rfl ?_
                exact aw_iret X dX7_copy_112 h
              · have h := h.2 c
                refine aw_ldc_w (v := (-1000000013)) X dX7_copy_88 kw882 ?_
                exact aw_iret X dX7_copy_91 h
          · have h := h.2 c
            refine aw_ldc (v := (-1000000012)) X dX7_copy_62 kw472 ?_
            exact aw_iret X dX7_copy_64 h
        · have h := h.2 c
          refine aw_ldc_w (v := (-1000000011)) X dX7_copy_45 kw881 ?_
          exact aw_iret X dX7_copy_48 h
def wp_X7_slotAt (n : Nat)  (M : Mm) (p1 : Int32) (K : Mm → Option Nat → Prop) : Prop := wp_X7_within n M p1 0 (5 - 1) (fun M1 r2 => (r2 = 0 → K M1 none) ∧ (¬ r2 = 0 → vp_in p1 5 ∧ (K M1 (some (54 + 4 * p1.toNatClampNeg)))))
set_option maxHeartbeats 4000000 in
set_option maxRecDepth 100000 in
theorem c_X7_slotAt {l : Launch} {E : En} {M : Mm} {p1 : Int32} {K : Mm → Option Nat → Prop}  (h : wp_X7_slotAt (eN E)  M p1 K) : Ctr l E yX7_slotAt cX7_slotAt 2 (some (.object "ShyWell$Slot")) 1 [.ref (eA E 0), .int p1] M (QQ E K) := by
  refine Ctr.of (by decide +kernel) (Nat.le_of_ble_eq_true rfl) (fun g A hgl X => ?_)
  subst hgl
  have X : CX g cX7_slotAt RX7 (some (.object "ShyWell$Slot")) 1 E A 2 := X
  show AW g E A 2 _ 0 [(0, .ref (eA E 0)), (1, .int p1)] [] M
  unfold wp_X7_slotAt at h
  refine aw_iload_n X dX7_slotAt_0 1 rfl ?_
  refine aw_iconst (v := 0) X dX7_slotAt_1 (by decide) ?_
  refine aw_aload_n X dX7_slotAt_2 0 rfl ?_
  refine aw_get X dX7_slotAt_3 (X.lt (by decide)) (sh_1 (rfl : tp 0 = 1) _) fl_RX7_54 rfl ?_
  refine aw_alen (t := 4) (v := 5) X dX7_slotAt_6 (X.lt (by decide)) (sh_10 (rfl : tp 53 = 10) _) rfl rfl ?_
  refine aw_iconst (v := 1) X dX7_slotAt_7 (by decide) ?_
  refine aw_isub X dX7_slotAt_8 ?_
  refine ca_i X (rn_s X [.int p1, .int 0, .int (5 - 1)] [] kw394 (c_X7_within h) cal_yX7_within kw393 (Nat.le_of_ble_eq_true rfl) rfl rfl (Nat.le_of_ble_eq_true rfl) dX7_slotAt_9) (fun M1 r2 h => ?_)
  refine aw_if_eq (tgt := 24) X dX7_slotAt_12 (by decide) (fun c => ?_) (fun c => ?_)
  · have h := h.1 c
    refine aw_null X dX7_slotAt_24 ?_
    exact aw_aret X none rfl dX7_slotAt_25 h
  · have h := h.2 c
    refine aw_aload_n X dX7_slotAt_15 0 rfl ?_
    refine aw_get X dX7_slotAt_16 (X.lt (by decide)) (sh_1 (rfl : tp 0 = 1) _) fl_RX7_54 rfl ?_
    refine aw_iload_n X dX7_slotAt_19 1 rfl ?_
    obtain ⟨hin3, h⟩ := h
    refine aw_aald (t := 4) X dX7_slotAt_20 (X.lt (by decide)) (sh_10 (rfl : tp 53 = 10) _) rfl hin3 rfl ?_
    refine aw_goto (tgt := 25) X dX7_slotAt_21 (by decide) ?_
    exact aw_aret X (some (54 + 4 * p1.toNatClampNeg)) rfl dX7_slotAt_25 h
def wp_X7_lay (n : Nat)  (M : Mm) (p1 : Int32) (p2 : Int32) (p3 : Int32) (K : Mm → Int32 → Prop) : Prop := wp_X7_slotAt n M p1 (fun M1 r2 => (r2 = none → K M1 (-1000000001)) ∧ (∀ t3 : Nat, r2 = some t3 → tp t3 = 11 ∧ (wp_X7_within n M1 p2 0 3 (fun M5 r6 => (¬ r6 = 0 → ∀ v7 : Int32, v7 = M5 t3 2 → (¬ p2 = 1 → (¬ p2 = 2 → (¬ p2 = 3 → ∀ M8 : Mm, M8 = wr M5 t3 2 p2 → K M8 v7) ∧ (p2 = 3 → ∀ M9 : Mm, M9 = wr M5 t3 3 p3 → ∀ M10 : Mm, M10 = wr M9 t3 2 p2 → K M10 v7)) ∧ (p2 = 2 → wp_X7_sheetAt n M5 p3 (fun M11 r12 => (r12 = none → K M11 (-1000000001)) ∧ (∀ t13 : Nat, r12 = some t13 → tp t13 = 9 ∧ ((¬ (M11 t13 1) = (-1) → wp_X4_become n M11 (t3 + 2) t13 (fun M15 => ∀ M17 : Mm, M17 = wr M15 t3 2 p2 → K M17 v7)) ∧ ((M11 t13 1) = (-1) → K M11 (-1000000011))))))) ∧ (p2 = 1 → wp_X3_comerAt n M5 1 p3 (fun M18 r19 => (r19 = none → K M18 (-1000000001)) ∧ (∀ t20 : Nat, r19 = some t20 → tp t20 = 5 ∧ (wp_X0_become n M18 (t3 + 1) t20 (fun M22 => ∀ M24 : Mm, M24 = wr M22 t3 2 p2 → K M24 v7)))))) ∧ (r6 = 0 → K M5 (-1000000001))))))
set_option maxHeartbeats 4000000 in
set_option maxRecDepth 100000 in
theorem c_X7_lay {l : Launch} {E : En} {M : Mm} {p1 : Int32} {p2 : Int32} {p3 : Int32} {K : Mm → Int32 → Prop}  (h : wp_X7_lay (eN E)  M p1 p2 p3 K) : Ctr l E yX7_lay cX7_lay 7 (some .int) 2 [.ref (eA E 0), .int p1, .int p2, .int p3] M (QI E K) := by
  refine Ctr.of (by decide +kernel) (Nat.le_of_ble_eq_true rfl) (fun g A hgl X => ?_)
  subst hgl
  have X : CX g cX7_lay RX7 (some .int) 2 E A 7 := X
  show AW g E A 7 _ 0 [(0, .ref (eA E 0)), (1, .int p1), (2, .int p2), (3, .int p3)] [] M
  unfold wp_X7_lay at h
  refine aw_aload_n X dX7_lay_0 0 rfl ?_
  refine aw_iload_n X dX7_lay_1 1 rfl ?_
  refine ca_q X (rn_v X [.int p1] [] (X.lt (by decide)) (sh_1 (rfl : tp 0 = 1) _) rfl rfl kw918 kw51 (c_X7_slotAt h) cal_yX7_slotAt kw916 (Nat.le_of_ble_eq_true rfl) rfl rfl (Nat.le_of_ble_eq_true rfl) dX7_lay_2) (fun M1 r2 h => ?_)
  rcases r2 with _ | t3
  · have h := h.1 rfl
    refine aw_astoreN (lv' := [(4, .null), (0, .ref (eA E 0)), (1, .int p1), (2, .int p2), (3, .int p3)]) X dX7_lay_5 (by decide) rfl ?_
    refine aw_aloadN X dX7_lay_7 0 rfl ?_
    refine aw_ifnullN (tgt := 21) X dX7_lay_9 (by decide) ?_
    refine aw_ldc (v := (-1000000001)) X dX7_lay_21 kw403 ?_
    exact aw_iret X dX7_lay_23 h
  · obtain ⟨ht4, h⟩ := h.2 t3 rfl
    refine aw_astore (lv' := [(4, .ref (eA E t3)), (0, .ref (eA E 0)), (1, .int p1), (2, .int p2), (3, .int p3)]) X dX7_lay_5 (by decide) rfl ?_
    refine aw_aload X dX7_lay_7 0 rfl ?_
    refine aw_ifnull X dX7_lay_9 ?_
    refine aw_iload_n X dX7_lay_12 3 rfl ?_
    refine aw_iconst (v := 0) X dX7_lay_13 (by decide) ?_
    refine aw_iconst (v := 3) X dX7_lay_14 (by decide) ?_
    refine ca_i X (rn_s X [.int p2, .int 0, .int 3] [] kw394 (c_X7_within h) cal_yX7_within kw393 (Nat.le_of_ble_eq_true rfl) rfl rfl (Nat.le_of_ble_eq_true rfl) dX7_lay_15) (fun M5 r6 h => ?_)
    refine aw_if_ne (tgt := 24) X dX7_lay_18 (by decide) (fun c => ?_) (fun c => ?_)
    · have h := h.1 c
      refine aw_aload X dX7_lay_24 0 rfl ?_
      refine aw_get X dX7_lay_26 (X.il ht4 (by decide)) (sh_11 ht4 _) fl_RX7_303 rfl ?_
      refine aw_top (fun v7 ev7 => ?_)
      have h := h v7 ev7
      refine aw_istore (lv' := [(5, .int v7), (4, .ref (eA E t3)), (0, .ref (eA E 0)), (1, .int p1), (2, .int p2), (3, .int p3)]) X dX7_lay_29 (by decide) rfl ?_
      refine aw_iload_n X dX7_lay_31 4 rfl ?_
      refine aw_iconst (v := 1) X dX7_lay_32 (by decide) ?_
      refine aw_icmp_ne (tgt := 67) X dX7_lay_33 (by decide) (fun c => ?_) (fun c => ?_)
      · have h := h.1 c
        refine aw_iload_n X dX7_lay_67 4 rfl ?_
        refine aw_iconst (v := 2) X dX7_lay_68 (by decide) ?_
        refine aw_icmp_ne (tgt := 113) X dX7_lay_69 (by decide) (fun c => ?_) (fun c => ?_)
        · have h := h.1 c
          refine aw_iload_n X dX7_lay_113 4 rfl ?_
          refine aw_iconst (v := 3) X dX7_lay_114 (by decide) ?_
          refine aw_icmp_ne (tgt := 124) X dX7_lay_115 (by decide) (fun c => ?_) (fun c => ?_)
          · have h := h.1 c
            refine aw_aload X dX7_lay_124 1 rfl ?_
            refine aw_iload_n X dX7_lay_126 4 rfl ?_
            refine aw_put X dX7_lay_127 (X.il ht4 (by decide)) (sh_11 ht4 _) fl_RX7_303 fw_5_2 (Nat.le_of_ble_eq_true rfl) (sp_11_2 ht4 _ _) (fun M8 eM8 => ?_)
            have h := h M8 eM8
            refine aw_iload X dX7_lay_130 0 rfl ?_
            exact aw_iret X dX7_lay_132 h
          · have h := h.2 c
            refine aw_aload X dX7_lay_118 1 rfl ?_
            refine aw_iload_n X dX7_lay_120 5 rfl ?_
            refine aw_put X dX7_lay_121 (X.il ht4 (by decide)) (sh_11 ht4 _) fl_RX7_320 fw_5_3 (Nat.le_of_ble_eq_true rfl) (sp_11_3 ht4 _ _) (fun M9 eM9 => ?_)
            have h := h M9 eM9
            refine aw_aload X dX7_lay_124 1 rfl ?_
            refine aw_iload_n X dX7_lay_126 4 rfl ?_
            refine aw_put X dX7_lay_127 (X.il ht4 (by decide)) (sh_11 ht4 _) fl_RX7_303 fw_5_2 (Nat.le_of_ble_eq_true rfl) (sp_11_2 ht4 _ _) (fun M10 eM10 => ?_)
            have h := h M10 eM10
            refine aw_iload X dX7_lay_130 0 rfl ?_
            exact aw_iret X dX7_lay_132 h
        · have h := h.2 c
          refine aw_aload_n X dX7_lay_72 2 rfl ?_
          refine aw_iload_n X dX7_lay_73 5 rfl ?_
          refine ca_q X (rn_v X [.int p3] [] (X.lt (by decide)) (sh_1 (rfl : tp 0 = 1) _) rfl rfl kw866 kw47 (c_X7_sheetAt h) cal_yX7_sheetAt kw864 (Nat.le_of_ble_eq_true rfl) rfl rfl (Nat.le_of_ble_eq_true rfl) dX7_lay_74) (fun M11 r12 h => ?_)
          rcases r12 with _ | t13
          · have h := h.1 rfl
            refine aw_astoreN (lv' := [(6, .null), (5, .int v7), (4, .ref (eA E t3)), (0, .ref (eA E 0)), (1, .int p1), (2, .int p2), (3, .int p3)]) X dX7_lay_77 (by decide) rfl ?_
            refine aw_aloadN X dX7_lay_79 0 rfl ?_
            refine aw_ifnonnullN X dX7_lay_81 ?_
            refine aw_ldc (v := (-1000000001)) X dX7_lay_84 kw403 ?_
            exact aw_iret X dX7_lay_86 h
          · obtain ⟨ht14, h⟩ := h.2 t13 rfl
            refine aw_astore (lv' := [(6, .ref (eA E t13)), (5, .int v7), (4, .ref (eA E t3)), (0, .ref (eA E 0)), (1, .int p1), (2, .int p2), (3, .int p3)]) X dX7_lay_77 (by decide) rfl ?_
            refine aw_aload X dX7_lay_79 0 rfl ?_
            refine aw_ifnonnull (tgt := 87) X dX7_lay_81 (by decide) ?_
            refine aw_aload X dX7_lay_87 0 rfl ?_
            refine aw_get X dX7_lay_89 (X.il ht14 (by decide)) (sh_9 ht14 _) fl_RX7_269 rfl ?_
            refine aw_iconst (v := (-1)) X dX7_lay_92 (by decide) ?_
            refine aw_icmp_ne (tgt := 100) X dX7_lay_93 (by decide) (fun c => ?_) (fun c => ?_)
            · have h := h.1 c
              refine aw_aload X dX7_lay_100 2 rfl ?_
              refine aw_get X dX7_lay_102 (X.il ht4 (by decide)) (sh_11 ht4 _) fl_RX7_313 rfl ?_
              refine aw_aload X dX7_lay_105 0 rfl ?_
              refine ca_v X (rn_vn X [.ref (eA E t13)] [] (X.il (ly_11_1 ht4) (by decide)) (sh_9 (ly_11_1 ht4) _) rfl rfl kw923 kw52 (c_X4_become h) cal_yX4_become kw921 (Nat.le_of_ble_eq_true rfl) rfl rfl (Nat.le_of_ble_eq_true rfl) dX7_lay_107) (fun M15 h => ?_)
              refine aw_goto (tgt := 124) X dX7_lay_110 (by decide) ?_
              refine aw_aload X dX7_lay_124 2 rfl ?_
              refine aw_iload_n X dX7_lay_126 5 rfl ?_
              refine aw_put X dX7_lay_127 (X.il ht4 (by decide)) (sh_11 ht4 _) fl_RX7_303 fw_5_2 (Nat.le_of_ble_eq_true rfl) (sp_11_2 ht4 _ _) (fun M17 eM17 => ?_)
              have h := h M17 eM17
              refine aw_iload X dX7_lay_130 1 rfl ?_
              exact aw_iret X dX7_lay_132 h
            · have h := h.2 c
              refine aw_ldc_w (v := (-1000000011)) X dX7_lay_96 kw881 ?_
              exact aw_iret X dX7_lay_99 h
      · have h := h.2 c
        refine aw_aload_n X dX7_lay_36 2 rfl ?_
        refine aw_get X dX7_lay_37 (X.lt (by decide)) (sh_1 (rfl : tp 0 = 1) _) fl_RX7_10 rfl ?_
        refine aw_iload_n X dX7_lay_40 5 rfl ?_
        refine ca_q X (rn_vn X [.int p3] [] (X.lt (by decide)) (sh_2 (rfl : tp 1 = 2) _) rfl rfl kw419 kw2 (c_X3_comerAt h) cal_yX3_comerAt kw417 (Nat.le_of_ble_eq_true rfl) rfl rfl (Nat.le_of_ble_eq_true rfl) dX7_lay_41) (fun M18 r19 h => ?_)
        rcases r19 with _ | t20
        · have h := h.1 rfl
          refine aw_astoreN (lv' := [(6, .null), (5, .int v7), (4, .ref (eA E t3)), (0, .ref (eA E 0)), (1, .int p1), (2, .int p2), (3, .int p3)]) X dX7_lay_44 (by decide) rfl ?_
          refine aw_aloadN X dX7_lay_46 0 rfl ?_
          refine aw_ifnonnullN X dX7_lay_48 ?_
          refine aw_ldc (v := (-1000000001)) X dX7_lay_51 kw403 ?_
          exact aw_iret X dX7_lay_53 h
        · obtain ⟨ht21, h⟩ := h.2 t20 rfl
          refine aw_astore (lv' := [(6, .ref (eA E t20)), (5, .int v7), (4, .ref (eA E t3)), (0, .ref (eA E 0)), (1, .int p1), (2, .int p2), (3, .int p3)]) X dX7_lay_44 (by decide) rfl ?_
          refine aw_aload X dX7_lay_46 0 rfl ?_
          refine aw_ifnonnull (tgt := 54) X dX7_lay_48 (by decide) ?_
          refine aw_aload X dX7_lay_54 2 rfl ?_
          refine aw_get X dX7_lay_56 (X.il ht4 (by decide)) (sh_11 ht4 _) fl_RX7_306 rfl ?_
          refine aw_aload X dX7_lay_59 0 rfl ?_
          refine ca_v X (rn_vn X [.ref (eA E t20)] [] (X.il (ly_11_0 ht4) (by decide)) (sh_5 (ly_11_0 ht4) _) rfl rfl kw572 kw25 (c_X0_become h) cal_yX0_become kw920 (Nat.le_of_ble_eq_true rfl) rfl rfl (Nat.le_of_ble_eq_true rfl) dX7_lay_61) (fun M22 h => ?_)
          refine aw_goto (tgt := 124) X dX7_lay_64 (by decide) ?_
          refine aw_aload X dX7_lay_124 2 rfl ?_
          refine aw_iload_n X dX7_lay_126 5 rfl ?_
          refine aw_put X dX7_lay_127 (X.il ht4 (by decide)) (sh_11 ht4 _) fl_RX7_303 fw_5_2 (Nat.le_of_ble_eq_true rfl) (sp_11_2 ht4 _ _) (fun M24 eM24 => ?_)
          have h := h M24 eM24
          refine aw_iload X dX7_lay_130 1 rfl ?_
          exact aw_iret X dX7_lay_132 h
    · have h := h.2 c
      refine aw_ldc (v := (-1000000001)) X dX7_lay_21 kw403 ?_
      exact aw_iret X dX7_lay_23 h
def wp_X7_ask (n : Nat)  (M : Mm) (p1 : Int32) (p2 : Int32) (K : Mm → Int32 → Prop) : Prop := wp_X7_slotAt n M p1 (fun M1 r2 => (r2 = none → K M1 (-1000000001)) ∧ (∀ t3 : Nat, r2 = some t3 → tp t3 = 11 ∧ (wp_X7_isKind n M1 p2 (fun M5 r6 => (¬ r6 = 0 → (¬ (M5 t3 2) = 0 → (¬ (M5 t3 2) = 1 → K M5 (-1000000012)) ∧ ((M5 t3 2) = 1 → wp_X7_isUnder n M5 (M5 (t3 + 1) 0) p2 (fun M7 r8 => (¬ r8 = 0 → wp_X0_worth n M7 (t3 + 1) (fun M9 r10 => K M9 r10)) ∧ (r8 = 0 → K M7 (-1000000012))))) ∧ ((M5 t3 2) = 0 → K M5 (-1000000011))) ∧ (r6 = 0 → K M5 (-1000000001))))))
set_option maxHeartbeats 4000000 in
set_option maxRecDepth 100000 in
theorem c_X7_ask {l : Launch} {E : En} {M : Mm} {p1 : Int32} {p2 : Int32} {K : Mm → Int32 → Prop}  (h : wp_X7_ask (eN E)  M p1 p2 K) : Ctr l E yX7_ask cX7_ask 4 (some .int) 3 [.ref (eA E 0), .int p1, .int p2] M (QI E K) := by
  refine Ctr.of (by decide +kernel) (Nat.le_of_ble_eq_true rfl) (fun g A hgl X => ?_)
  subst hgl
  have X : CX g cX7_ask RX7 (some .int) 3 E A 4 := X
  show AW g E A 4 _ 0 [(0, .ref (eA E 0)), (1, .int p1), (2, .int p2)] [] M
  unfold wp_X7_ask at h
  refine aw_aload_n X dX7_ask_0 0 rfl ?_
  refine aw_iload_n X dX7_ask_1 1 rfl ?_
  refine ca_q X (rn_v X [.int p1] [] (X.lt (by decide)) (sh_1 (rfl : tp 0 = 1) _) rfl rfl kw918 kw51 (c_X7_slotAt h) cal_yX7_slotAt kw916 (Nat.le_of_ble_eq_true rfl) rfl rfl (Nat.le_of_ble_eq_true rfl) dX7_ask_2) (fun M1 r2 h => ?_)
  rcases r2 with _ | t3
  · have h := h.1 rfl
    refine aw_astore_nN (lv' := [(3, .null), (0, .ref (eA E 0)), (1, .int p1), (2, .int p2)]) X dX7_ask_5 (by decide) rfl ?_
    refine aw_aload_nN X dX7_ask_6 0 rfl ?_
    refine aw_ifnullN (tgt := 17) X dX7_ask_7 (by decide) ?_
    refine aw_ldc (v := (-1000000001)) X dX7_ask_17 kw403 ?_
    exact aw_iret X dX7_ask_19 h
  · obtain ⟨ht4, h⟩ := h.2 t3 rfl
    refine aw_astore_n (lv' := [(3, .ref (eA E t3)), (0, .ref (eA E 0)), (1, .int p1), (2, .int p2)]) X dX7_ask_5 (by decide) rfl ?_
    refine aw_aload_n X dX7_ask_6 0 rfl ?_
    refine aw_ifnull X dX7_ask_7 ?_
    refine aw_iload_n X dX7_ask_10 3 rfl ?_
    refine ca_i X (rn_s X [.int p2] [] kw389 (c_X7_isKind h) cal_yX7_isKind kw388 (Nat.le_of_ble_eq_true rfl) rfl rfl (Nat.le_of_ble_eq_true rfl) dX7_ask_11) (fun M5 r6 h => ?_)
    refine aw_if_ne (tgt := 20) X dX7_ask_14 (by decide) (fun c => ?_) (fun c => ?_)
    · have h := h.1 c
      refine aw_aload_n X dX7_ask_20 0 rfl ?_
      refine aw_get X dX7_ask_21 (X.il ht4 (by decide)) (sh_11 ht4 _) fl_RX7_303 rfl ?_
      refine aw_if_ne (tgt := 31) X dX7_ask_24 (by decide) (fun c => ?_) (fun c => ?_)
      · have h := h.1 c
        refine aw_aload_n X dX7_ask_31 0 rfl ?_
        refine aw_get X dX7_ask_32 (X.il ht4 (by decide)) (sh_11 ht4 _) fl_RX7_303 rfl ?_
        refine aw_iconst (v := 1) X dX7_ask_35 (by decide) ?_
        refine aw_icmp_ne (tgt := 53) X dX7_ask_36 (by decide) (fun c => ?_) (fun c => ?_)
        · have h := h.1 c
          refine aw_ldc (v := (-1000000012)) X dX7_ask_53 kw472 ?_
          exact aw_iret X dX7_ask_55 h
        · have h := h.2 c
          refine aw_aload_n X dX7_ask_39 0 rfl ?_
          refine aw_get X dX7_ask_40 (X.il ht4 (by decide)) (sh_11 ht4 _) fl_RX7_306 rfl ?_
          refine aw_get X dX7_ask_43 (X.il (ly_11_0 ht4) (by decide)) (sh_5 (ly_11_0 ht4) _) fl_RX7_86 rfl ?_
          refine aw_iload_n X dX7_ask_46 3 rfl ?_
          refine ca_i X (rn_s X [.int (M5 (t3 + 1) 0), .int p2] [] kw470 (c_X7_isUnder h) cal_yX7_isUnder kw469 (Nat.le_of_ble_eq_true rfl) rfl rfl (Nat.le_of_ble_eq_true rfl) dX7_ask_47) (fun M7 r8 h => ?_)
          refine aw_if_ne (tgt := 56) X dX7_ask_50 (by decide) (fun c => ?_) (fun c => ?_)
          · have h := h.1 c
            refine aw_aload_n X dX7_ask_56 0 rfl ?_
            refine aw_get X dX7_ask_57 (X.il ht4 (by decide)) (sh_11 ht4 _) fl_RX7_306 rfl ?_
            refine ca_i X (rn_vn X [] [] (X.il (ly_11_0 ht4) (by decide)) (sh_5 (ly_11_0 ht4) _) rfl rfl kw424 kw3 (c_X0_worth h) cal_yX0_worth kw422 (Nat.le_of_ble_eq_true rfl) rfl rfl (Nat.le_of_ble_eq_true rfl) dX7_ask_60) (fun M9 r10 h => ?_)
            exact aw_iret X dX7_ask_63 h
          · have h := h.2 c
            refine aw_ldc (v := (-1000000012)) X dX7_ask_53 kw472 ?_
            exact aw_iret X dX7_ask_55 h
      · have h := h.2 c
        refine aw_ldc_w (v := (-1000000011)) X dX7_ask_27 kw881 ?_
        exact aw_iret X dX7_ask_30 h
    · have h := h.2 c
      refine aw_ldc (v := (-1000000001)) X dX7_ask_17 kw403 ?_
      exact aw_iret X dX7_ask_19 h
def wp_X7_item (n : Nat)  (M : Mm) (p1 : Int32) (p2 : Int32) (K : Mm → Int32 → Prop) : Prop := wp_X7_slotAt n M p1 (fun M1 r2 => (r2 = none → K M1 (-1000000001)) ∧ (∀ t3 : Nat, r2 = some t3 → tp t3 = 11 ∧ ((¬ (M1 t3 2) = 0 → ((M1 t3 2) = 2 → wp_X7_within n M1 p2 0 ((M1 (t3 + 2) 2) - 1) (fun M5 r6 => (¬ r6 = 0 → vp_in p2 24 ∧ (∀ v7 : Int32, v7 = M5 (t3 + 2 + 1) p2.toNatClampNeg → (¬ v7 = (-1000000005) → K M5 v7) ∧ (v7 = (-1000000005) → K M5 (-1000000012)))) ∧ (r6 = 0 → K M5 (-1000000013)))) ∧ (¬ (M1 t3 2) = 2 → K M1 (-1000000012))) ∧ ((M1 t3 2) = 0 → K M1 (-1000000011)))))
set_option maxHeartbeats 4000000 in
set_option maxRecDepth 100000 in
theorem c_X7_item {l : Launch} {E : En} {M : Mm} {p1 : Int32} {p2 : Int32} {K : Mm → Int32 → Prop}  (h : wp_X7_item (eN E)  M p1 p2 K) : Ctr l E yX7_item cX7_item 5 (some .int) 2 [.ref (eA E 0), .int p1, .int p2] M (QI E K) := by
  refine Ctr.of (by decide +kernel) (Nat.le_of_ble_eq_true rfl) (fun g A hgl X => ?_)
  subst hgl
  have X : CX g cX7_item RX7 (some .int) 2 E A 5 := X
  show AW g E A 5 _ 0 [(0, .ref (eA E 0)), (1, .int p1), (2, .int p2)] [] M
  unfold wp_X7_item at h
  refine aw_aload_n X dX7_item_0 0 rfl ?_
  refine aw_iload_n X dX7_item_1 1 rfl ?_
  refine ca_q X (rn_v X [.int p1] [] (X.lt (by decide)) (sh_1 (rfl : tp 0 = 1) _) rfl rfl kw918 kw51 (c_X7_slotAt h) cal_yX7_slotAt kw916 (Nat.le_of_ble_eq_true rfl) rfl rfl (Nat.le_of_ble_eq_true rfl) dX7_item_2) (fun M1 r2 h => ?_)
  rcases r2 with _ | t3
  · have h := h.1 rfl
    refine aw_astore_nN (lv' := [(3, .null), (0, .ref (eA E 0)), (1, .int p1), (2, .int p2)]) X dX7_item_5 (by decide) rfl ?_
    refine aw_aload_nN X dX7_item_6 0 rfl ?_
    refine aw_ifnonnullN X dX7_item_7 ?_
    refine aw_ldc (v := (-1000000001)) X dX7_item_10 kw403 ?_
    exact aw_iret X dX7_item_12 h
  · obtain ⟨ht4, h⟩ := h.2 t3 rfl
    refine aw_astore_n (lv' := [(3, .ref (eA E t3)), (0, .ref (eA E 0)), (1, .int p1), (2, .int p2)]) X dX7_item_5 (by decide) rfl ?_
    refine aw_aload_n X dX7_item_6 0 rfl ?_
    refine aw_ifnonnull (tgt := 13) X dX7_item_7 (by decide) ?_
    refine aw_aload_n X dX7_item_13 0 rfl ?_
    refine aw_get X dX7_item_14 (X.il ht4 (by decide)) (sh_11 ht4 _) fl_RX7_303 rfl ?_
    refine aw_if_ne (tgt := 24) X dX7_item_17 (by decide) (fun c => ?_) (fun c => ?_)
    · have h := h.1 c
      refine aw_aload_n X dX7_item_24 0 rfl ?_
      refine aw_get X dX7_item_25 (X.il ht4 (by decide)) (sh_11 ht4 _) fl_RX7_303 rfl ?_
      refine aw_iconst (v := 2) X dX7_item_28 (by decide) ?_
      refine aw_icmp_eq (tgt := 35) X dX7_item_29 (by decide) (fun c => ?_) (fun c => ?_)
      · have h := h.1 c
        refine aw_iload_n X dX7_item_35 3 rfl ?_
        refine aw_iconst (v := 0) X dX7_item_36 (by decide) ?_
        refine aw_aload_n X dX7_item_37 0 rfl ?_
        refine aw_get X dX7_item_38 (X.il ht4 (by decide)) (sh_11 ht4 _) fl_RX7_313 rfl ?_
        refine aw_get X dX7_item_41 (X.il (ly_11_1 ht4) (by decide)) (sh_9 (ly_11_1 ht4) _) fl_RX7_273 rfl ?_
        refine aw_iconst (v := 1) X dX7_item_44 (by decide) ?_
        refine aw_isub X dX7_item_45 ?_
        refine ca_i X (rn_s X [.int p2, .int 0, .int ((M1 (t3 + 2) 2) - 1)] [] kw394 (c_X7_within h) cal_yX7_within kw393 (Nat.le_of_ble_eq_true rfl) rfl rfl (Nat.le_of_ble_eq_true rfl) dX7_item_46) (fun M5 r6 h => ?_)
        refine aw_if_ne (tgt := 56) X dX7_item_49 (by decide) (fun c => ?_) (fun c => ?_)
        · have h := h.1 c
          refine aw_aload_n X dX7_item_56 0 rfl ?_
          refine aw_get X dX7_item_57 (X.il ht4 (by decide)) (sh_11 ht4 _) fl_RX7_313 rfl ?_
          refine aw_get X dX7_item_60 (X.il (ly_11_1 ht4) (by decide)) (sh_9 (ly_11_1 ht4) _) fl_RX7_275 rfl ?_
          refine aw_iload_n X dX7_item_63 3 rfl ?_
          obtain ⟨hin, h⟩ := h
          refine aw_iald X dX7_item_64 (X.il (ly_9_0 (ly_11_1 ht4)) (by decide)) (sh_ia 24 (ly_9_0 (ly_11_1 ht4)) _) hin ?_
          refine aw_top (fun v7 ev7 => ?_)
          have h := h v7 ev7
          refine aw_istore (lv' := [(4, .int v7), (3, .ref (eA E t3)), (0, .ref (eA E 0)), (1, .int p1), (2, .int p2)]) X dX7_item_65 (by decide) rfl ?_
          refine aw_iload X dX7_item_67 0 rfl ?_
          refine aw_ldc (v := (-1000000005)) X dX7_item_69 kw582 ?_
          refine aw_icmp_ne (tgt := 79) X dX7_item_71 (by decide) (fun c => ?_) (fun c => ?_)
          · have h := h.1 c
            refine aw_iload X dX7_item_79 0 rfl ?_
            exact aw_iret X dX7_item_81 h
          · have h := h.2 c
            refine aw_ldc (v := (-1000000012)) X dX7_item_74 kw472 ?_
            refine aw_goto (tgt := 81) X dX7_item_76 (by decide) ?_
            exact aw_iret X dX7_item_81 h
        · have h := h.2 c
          refine aw_ldc_w (v := (-1000000013)) X dX7_item_52 kw882 ?_
          exact aw_iret X dX7_item_55 h
      · have h := h.2 c
        refine aw_ldc (v := (-1000000012)) X dX7_item_32 kw472 ?_
        exact aw_iret X dX7_item_34 h
    · have h := h.2 c
      refine aw_ldc_w (v := (-1000000011)) X dX7_item_20 kw881 ?_
      exact aw_iret X dX7_item_23 h
def wp_X7_rest (n : Nat)  (M : Mm) (p1 : Int32) (p2 : Int32) (K : Mm → Int32 → Prop) : Prop := wp_X7_slotAt n M p1 (fun M1 r2 => (r2 = none → K M1 (-1000000001)) ∧ (∀ t3 : Nat, r2 = some t3 → tp t3 = 11 ∧ ((¬ (M1 t3 2) = 0 → ((M1 t3 2) = 3 → (¬ p2 = 0 → ¬ p2 = 0 ∧ (K M1 (jrem (M1 t3 3) p2))) ∧ (p2 = 0 → K M1 (-1000000002))) ∧ (¬ (M1 t3 2) = 3 → K M1 (-1000000012))) ∧ ((M1 t3 2) = 0 → K M1 (-1000000011)))))
set_option maxHeartbeats 4000000 in
set_option maxRecDepth 100000 in
theorem c_X7_rest {l : Launch} {E : En} {M : Mm} {p1 : Int32} {p2 : Int32} {K : Mm → Int32 → Prop}  (h : wp_X7_rest (eN E)  M p1 p2 K) : Ctr l E yX7_rest cX7_rest 4 (some .int) 2 [.ref (eA E 0), .int p1, .int p2] M (QI E K) := by
  refine Ctr.of (by decide +kernel) (Nat.le_of_ble_eq_true rfl) (fun g A hgl X => ?_)
  subst hgl
  have X : CX g cX7_rest RX7 (some .int) 2 E A 4 := X
  show AW g E A 4 _ 0 [(0, .ref (eA E 0)), (1, .int p1), (2, .int p2)] [] M
  unfold wp_X7_rest at h
  refine aw_aload_n X dX7_rest_0 0 rfl ?_
  refine aw_iload_n X dX7_rest_1 1 rfl ?_
  refine ca_q X (rn_v X [.int p1] [] (X.lt (by decide)) (sh_1 (rfl : tp 0 = 1) _) rfl rfl kw918 kw51 (c_X7_slotAt h) cal_yX7_slotAt kw916 (Nat.le_of_ble_eq_true rfl) rfl rfl (Nat.le_of_ble_eq_true rfl) dX7_rest_2) (fun M1 r2 h => ?_)
  rcases r2 with _ | t3
  · have h := h.1 rfl
    refine aw_astore_nN (lv' := [(3, .null), (0, .ref (eA E 0)), (1, .int p1), (2, .int p2)]) X dX7_rest_5 (by decide) rfl ?_
    refine aw_aload_nN X dX7_rest_6 0 rfl ?_
    refine aw_ifnonnullN X dX7_rest_7 ?_
    refine aw_ldc (v := (-1000000001)) X dX7_rest_10 kw403 ?_
    exact aw_iret X dX7_rest_12 h
  · obtain ⟨ht4, h⟩ := h.2 t3 rfl
    refine aw_astore_n (lv' := [(3, .ref (eA E t3)), (0, .ref (eA E 0)), (1, .int p1), (2, .int p2)]) X dX7_rest_5 (by decide) rfl ?_
    refine aw_aload_n X dX7_rest_6 0 rfl ?_
    refine aw_ifnonnull (tgt := 13) X dX7_rest_7 (by decide) ?_
    refine aw_aload_n X dX7_rest_13 0 rfl ?_
    refine aw_get X dX7_rest_14 (X.il ht4 (by decide)) (sh_11 ht4 _) fl_RX7_303 rfl ?_
    refine aw_if_ne (tgt := 24) X dX7_rest_17 (by decide) (fun c => ?_) (fun c => ?_)
    · have h := h.1 c
      refine aw_aload_n X dX7_rest_24 0 rfl ?_
      refine aw_get X dX7_rest_25 (X.il ht4 (by decide)) (sh_11 ht4 _) fl_RX7_303 rfl ?_
      refine aw_iconst (v := 3) X dX7_rest_28 (by decide) ?_
      refine aw_icmp_eq (tgt := 35) X dX7_rest_29 (by decide) (fun c => ?_) (fun c => ?_)
      · have h := h.1 c
        refine aw_iload_n X dX7_rest_35 3 rfl ?_
        refine aw_if_ne (tgt := 45) X dX7_rest_36 (by decide) (fun c => ?_) (fun c => ?_)
        · have h := h.1 c
          refine aw_aload_n X dX7_rest_45 0 rfl ?_
          refine aw_get X dX7_rest_46 (X.il ht4 (by decide)) (sh_11 ht4 _) fl_RX7_320 rfl ?_
          refine aw_iload_n X dX7_rest_49 3 rfl ?_
          obtain ⟨hne, h⟩ := h
          refine aw_irem X dX7_rest_50 hne ?_
          exact aw_iret X dX7_rest_51 h
        · have h := h.2 c
          refine aw_ldc_w (v := (-1000000002)) X dX7_rest_39 kw938 ?_
          refine aw_goto (tgt := 51) X dX7_rest_42 (by decide) ?_
          exact aw_iret X dX7_rest_51 h
      · have h := h.2 c
        refine aw_ldc (v := (-1000000012)) X dX7_rest_32 kw472 ?_
        exact aw_iret X dX7_rest_34 h
    · have h := h.2 c
      refine aw_ldc_w (v := (-1000000011)) X dX7_rest_20 kw881 ?_
      exact aw_iret X dX7_rest_23 h
def wp_X7_tell (n : Nat)  (M : Mm) (p1 : Int32) (K : Mm → Int32 → Prop) : Prop := ((M 42 1) < 60 → wp_X2_add n M 42 p1 (fun M1 => K M1 (M1 42 1))) ∧ (¬ (M 42 1) < 60 → K M (-1000000003))
set_option maxHeartbeats 4000000 in
set_option maxRecDepth 100000 in
theorem c_X7_tell {l : Launch} {E : En} {M : Mm} {p1 : Int32} {K : Mm → Int32 → Prop}  (h : wp_X7_tell (eN E)  M p1 K) : Ctr l E yX7_tell cX7_tell 2 (some .int) 1 [.ref (eA E 0), .int p1] M (QI E K) := by
  refine Ctr.of (by decide +kernel) (Nat.le_of_ble_eq_true rfl) (fun g A hgl X => ?_)
  subst hgl
  have X : CX g cX7_tell RX7 (some .int) 1 E A 2 := X
  show AW g E A 2 _ 0 [(0, .ref (eA E 0)), (1, .int p1)] [] M
  unfold wp_X7_tell at h
  refine aw_aload_n X dX7_tell_0 0 rfl ?_
  refine aw_get X dX7_tell_1 (X.lt (by decide)) (sh_1 (rfl : tp 0 = 1) _) fl_RX7_43 rfl ?_
  refine aw_get X dX7_tell_4 (X.lt (by decide)) (sh_7 (rfl : tp 42 = 7) _) fl_RX7_227 rfl ?_
  refine aw_bipush (v := 60) X dX7_tell_7 (by decide) ?_
  refine aw_icmp_lt (tgt := 15) X dX7_tell_9 (by decide) (fun c => ?_) (fun c => ?_)
  · have h := h.1 c
    refine aw_aload_n X dX7_tell_15 0 rfl ?_
    refine aw_get X dX7_tell_16 (X.lt (by decide)) (sh_1 (rfl : tp 0 = 1) _) fl_RX7_43 rfl ?_
    refine aw_iload_n X dX7_tell_19 1 rfl ?_
    refine ca_v X (rn_vn X [.int p1] [] (X.lt (by decide)) (sh_7 (rfl : tp 42 = 7) _) rfl rfl kw631 kw31 (c_X2_add h) cal_yX2_add kw629 (Nat.le_of_ble_eq_true rfl) rfl rfl (Nat.le_of_ble_eq_true rfl) dX7_tell_20) (fun M1 h => ?_)
    refine aw_aload_n X dX7_tell_23 0 rfl ?_
    refine aw_get X dX7_tell_24 (X.lt (by decide)) (sh_1 (rfl : tp 0 = 1) _) fl_RX7_43 rfl ?_
    refine aw_get X dX7_tell_27 (X.lt (by decide)) (sh_7 (rfl : tp 42 = 7) _) fl_RX7_227 rfl ?_
    exact aw_iret X dX7_tell_30 h
  · have h := h.2 c
    refine aw_ldc (v := (-1000000003)) X dX7_tell_12 kw404 ?_
    exact aw_iret X dX7_tell_14 h
def wp_X7_wasTold (n : Nat)  (M : Mm) (p1 : Int32) (p2 : Int32) (p3 : Int32) (K : Mm → Int32 → Prop) : Prop := (p1 < 0 → K M 0) ∧ (¬ p1 < 0 → (p2 ≤ p1 → K M 0) ∧ (¬ p2 ≤ p1 → (60 ≤ p1 → K M 0) ∧ (¬ 60 ≤ p1 → vp_in p1 60 ∧ ((¬ (M 43 p1.toNatClampNeg) = p3 → K M 0) ∧ ((M 43 p1.toNatClampNeg) = p3 → K M 1)))))
set_option maxHeartbeats 4000000 in
set_option maxRecDepth 100000 in
theorem c_X7_wasTold {l : Launch} {E : En} {M : Mm} {p1 : Int32} {p2 : Int32} {p3 : Int32} {K : Mm → Int32 → Prop}  (h : wp_X7_wasTold (eN E)  M p1 p2 p3 K) : Ctr l E yX7_wasTold cX7_wasTold 4 (some .boolean) 0 [.ref (eA E 0), .int p1, .int p2, .int p3] M (QI E K) := by
  refine Ctr.of (by decide +kernel) (Nat.le_of_ble_eq_true rfl) (fun g A hgl X => ?_)
  subst hgl
  have X : CX g cX7_wasTold RX7 (some .boolean) 0 E A 4 := X
  show AW g E A 4 _ 0 [(0, .ref (eA E 0)), (1, .int p1), (2, .int p2), (3, .int p3)] [] M
  unfold wp_X7_wasTold at h
  refine aw_iload_n X dX7_wasTold_0 1 rfl ?_
  refine aw_if_lt (tgt := 38) X dX7_wasTold_1 (by decide) (fun c => ?_) (fun c => ?_)
  · have h := h.1 c
    refine aw_iconst (v := 0) X dX7_wasTold_38 (by decide) ?_
    exact aw_zret X dX7_wasTold_39 (by decide) h
  · have h := h.2 c
    refine aw_iload_n X dX7_wasTold_4 1 rfl ?_
    refine aw_iload_n X dX7_wasTold_5 2 rfl ?_
    refine aw_icmp_ge (tgt := 38) X dX7_wasTold_6 (by decide) (fun c => ?_) (fun c => ?_)
    · have h := h.1 c
      refine aw_iconst (v := 0) X dX7_wasTold_38 (by decide) ?_
      exact aw_zret X dX7_wasTold_39 (by decide) h
    · have h := h.2 c
      refine aw_iload_n X dX7_wasTold_9 1 rfl ?_
      refine aw_aload_n X dX7_wasTold_10 0 rfl ?_
      refine aw_get X dX7_wasTold_11 (X.lt (by decide)) (sh_1 (rfl : tp 0 = 1) _) fl_RX7_43 rfl ?_
      refine aw_get X dX7_wasTold_14 (X.lt (by decide)) (sh_7 (rfl : tp 42 = 7) _) fl_RX7_336 rfl ?_
      refine aw_alen (t := 0) (v := 60) X dX7_wasTold_17 (X.lt (by decide)) (sh_ia 60 (rfl : tp 43 = 1060) _) rfl rfl ?_
      refine aw_icmp_ge (tgt := 38) X dX7_wasTold_18 (by decide) (fun c => ?_) (fun c => ?_)
      · have h := h.1 c
        refine aw_iconst (v := 0) X dX7_wasTold_38 (by decide) ?_
        exact aw_zret X dX7_wasTold_39 (by decide) h
      · have h := h.2 c
        refine aw_aload_n X dX7_wasTold_21 0 rfl ?_
        refine aw_get X dX7_wasTold_22 (X.lt (by decide)) (sh_1 (rfl : tp 0 = 1) _) fl_RX7_43 rfl ?_
        refine aw_get X dX7_wasTold_25 (X.lt (by decide)) (sh_7 (rfl : tp 42 = 7) _) fl_RX7_336 rfl ?_
        refine aw_iload_n X dX7_wasTold_28 1 rfl ?_
        obtain ⟨hin, h⟩ := h
        refine aw_iald X dX7_wasTold_29 (X.lt (by decide)) (sh_ia 60 (rfl : tp 43 = 1060) _) hin ?_
        refine aw_iload_n X dX7_wasTold_30 3 rfl ?_
        refine aw_icmp_ne (tgt := 38) X dX7_wasTold_31 (by decide) (fun c => ?_) (fun c => ?_)
        · have h := h.1 c
          refine aw_iconst (v := 0) X dX7_wasTold_38 (by decide) ?_
          exact aw_zret X dX7_wasTold_39 (by decide) h
        · have h := h.2 c
          refine aw_iconst (v := 1) X dX7_wasTold_34 (by decide) ?_
          refine aw_goto (tgt := 39) X dX7_wasTold_35 (by decide) ?_
          exact aw_zret X dX7_wasTold_39 (by decide) h
def wl_X7_check_70 (n : Nat) (p1 : Int32)  (K : Mm → Int32 → Prop) : Nat → Mm → Int32 → Int32 → Int32 → Prop
  | 0, _, _, _, _ => False
  | k + 1, M, x2, x3, x4 => (x3 ≤ x4 → (x2 ≤ (2 * x3) → K M 0) ∧ (¬ x2 ≤ (2 * x3) → K M ((2 * x3) + 1))) ∧ (¬ x3 ≤ x4 → wp_X3_advance n M 13 1 (fun M8 r9 => wp_X7_wasTold n M8 (2 * x4) x2 (M8 13 7) (fun M10 r11 => (¬ r11 = 0 → wp_X3_standing n M10 13 (fun M12 r13 => wp_X7_wasTold n M12 ((2 * x4) + 1) x2 r13 (fun M14 r15 => (¬ r15 = 0 → ∀ v16 : Int32, v16 = x4 + 1 → wl_X7_check_70 n p1 K k M14 x2 x3 v16) ∧ (r15 = 0 → K M14 ((2 * x4) + 2))))) ∧ (r11 = 0 → K M10 ((2 * x4) + 1)))))
set_option maxHeartbeats 4000000 in
set_option maxRecDepth 100000 in
theorem lw_X7_check_70 {g : Gm} {E : En} {A : Nat → Prop} {K : Mm → Int32 → Prop} (X : CX g cX7_check RX7 (some .int) 6 E A 5) (p1 : Int32)   : ∀ (k : Nat) (M : Mm) (x2 : Int32) (x3 : Int32) (x4 : Int32), wl_X7_check_70 (eN E) p1  K k M x2 x3 x4 → AW g E A 5 (MQ (gB g) (QI E K A) (gA g) (gS g) (gk g) (gn g) A) 70 [(0, .ref (eA E 0)), (2, .int x2), (3, .int x3), (4, .int x4)] [] M := by
  intro k
  induction k with
  | zero => intro M x2 x3 x4 h; exact h.elim
  | succ k ih =>
    intro M x2 x3 x4 h
    rw [wl_X7_check_70] at h
    refine aw_iload X dX7_check_70 3 rfl ?_
    refine aw_iload_n X dX7_check_72 2 rfl ?_
    refine aw_icmp_ge (tgt := 145) X dX7_check_73 (by decide) (fun c => ?_) (fun c => ?_)
    · have h := h.1 c
      refine aw_iload_n X dX7_check_145 1 rfl ?_
      refine aw_iconst (v := 2) X dX7_check_146 (by decide) ?_
      refine aw_iload_n X dX7_check_147 2 rfl ?_
      refine aw_imul X dX7_check_148 ?_
      refine aw_icmp_le (tgt := 160) X dX7_check_149 (by decide) (fun c => ?_) (fun c => ?_)
      · have h := h.1 c
        refine aw_iconst (v := 0) X dX7_check_160 (by decide) ?_
        exact aw_iret X dX7_check_161 h
      · have h := h.2 c
        refine aw_iconst (v := 2) X dX7_check_152 (by decide) ?_
        refine aw_iload_n X dX7_check_153 2 rfl ?_
        refine aw_imul X dX7_check_154 ?_
        refine aw_iconst (v := 1) X dX7_check_155 (by decide) ?_
        refine aw_iadd X dX7_check_156 ?_
        refine aw_goto (tgt := 161) X dX7_check_157 (by decide) ?_
        exact aw_iret X dX7_check_161 h
    · have h := h.2 c
      refine aw_aload_n X dX7_check_76 0 rfl ?_
      refine aw_get X dX7_check_77 (X.lt (by decide)) (sh_1 (rfl : tp 0 = 1) _) fl_RX7_16 rfl ?_
      refine aw_iconst (v := 1) X dX7_check_80 (by decide) ?_
      refine ca_i X (rn_vn X [.int 1] [] (X.lt (by decide)) (sh_2 (rfl : tp 13 = 2) _) rfl rfl kw516 kw14 (c_X3_advance h) cal_yX3_advance kw514 (Nat.le_of_ble_eq_true rfl) rfl rfl (Nat.le_of_ble_eq_true rfl) dX7_check_81) (fun M8 r9 h => ?_)
      refine aw_pop X dX7_check_84 rfl ?_
      refine aw_aload_n X dX7_check_85 0 rfl ?_
      refine aw_iconst (v := 2) X dX7_check_86 (by decide) ?_
      refine aw_iload X dX7_check_87 3 rfl ?_
      refine aw_imul X dX7_check_89 ?_
      refine aw_iload_n X dX7_check_90 1 rfl ?_
      refine aw_aload_n X dX7_check_91 0 rfl ?_
      refine aw_get X dX7_check_92 (X.lt (by decide)) (sh_1 (rfl : tp 0 = 1) _) fl_RX7_16 rfl ?_
      refine aw_get X dX7_check_95 (X.lt (by decide)) (sh_2 (rfl : tp 13 = 2) _) fl_RX7_174 rfl ?_
      refine ca_i X (rn_v X [.int (2 * x4), .int x2, .int (M8 13 7)] [] (X.lt (by decide)) (sh_1 (rfl : tp 0 = 1) _) rfl rfl kw949 kw53 (c_X7_wasTold h) cal_yX7_wasTold kw947 (Nat.le_of_ble_eq_true rfl) rfl rfl (Nat.le_of_ble_eq_true rfl) dX7_check_98) (fun M10 r11 h => ?_)
      refine aw_if_ne (tgt := 111) X dX7_check_101 (by decide) (fun c => ?_) (fun c => ?_)
      · have h := h.1 c
        refine aw_aload_n X dX7_check_111 0 rfl ?_
        refine aw_iconst (v := 2) X dX7_check_112 (by decide) ?_
        refine aw_iload X dX7_check_113 3 rfl ?_
        refine aw_imul X dX7_check_115 ?_
        refine aw_iconst (v := 1) X dX7_check_116 (by decide) ?_
        refine aw_iadd X dX7_check_117 ?_
        refine aw_iload_n X dX7_check_118 1 rfl ?_
        refine aw_aload_n X dX7_check_119 0 rfl ?_
        refine aw_get X dX7_check_120 (X.lt (by decide)) (sh_1 (rfl : tp 0 = 1) _) fl_RX7_16 rfl ?_
        refine ca_i X (rn_vn X [] [.int x2, .int ((2 * x4) + 1), .ref (eA E 0)] (X.lt (by decide)) (sh_2 (rfl : tp 13 = 2) _) rfl rfl kw432 kw5 (c_X3_standing h) cal_yX3_standing kw951 (Nat.le_of_ble_eq_true rfl) rfl rfl (Nat.le_of_ble_eq_true rfl) dX7_check_123) (fun M12 r13 h => ?_)
        refine ca_i X (rn_v X [.int ((2 * x4) + 1), .int x2, .int r13] [] (X.lt (by decide)) (sh_1 (rfl : tp 0 = 1) _) rfl rfl kw949 kw53 (c_X7_wasTold h) cal_yX7_wasTold kw947 (Nat.le_of_ble_eq_true rfl) rfl rfl (Nat.le_of_ble_eq_true rfl) dX7_check_126) (fun M14 r15 h => ?_)
        refine aw_if_ne (tgt := 139) X dX7_check_129 (by decide) (fun c => ?_) (fun c => ?_)
        · have h := h.1 c
          obtain ⟨v16, ev16⟩ : ∃ y : Int32, y = x4 + 1 := ⟨_, rfl⟩
          have h := h v16 ev16
          refine aw_iinc (v := v16) (lv' := [(4, .int v16), (0, .ref (eA E 0)), (2, .int x2), (3, .int x3)]) X dX7_check_139 3 rfl (by rw [ev16]; rfl) (by decide) rfl ?_
          refine aw_goto (tgt := 70) X dX7_check_142 (by decide) ?_
          exact aw_sub [1, 2, 3, 0] rfl (ih _ _ _ _ h)
        · have h := h.2 c
          refine aw_iconst (v := 2) X dX7_check_132 (by decide) ?_
          refine aw_iload X dX7_check_133 3 rfl ?_
          refine aw_imul X dX7_check_135 ?_
          refine aw_iconst (v := 2) X dX7_check_136 (by decide) ?_
          refine aw_iadd X dX7_check_137 ?_
          exact aw_iret X dX7_check_138 h
      · have h := h.2 c
        refine aw_iconst (v := 2) X dX7_check_104 (by decide) ?_
        refine aw_iload X dX7_check_105 3 rfl ?_
        refine aw_imul X dX7_check_107 ?_
        refine aw_iconst (v := 1) X dX7_check_108 (by decide) ?_
        refine aw_iadd X dX7_check_109 ?_
        exact aw_iret X dX7_check_110 h
def wp_X7_check (n : Nat)  (M : Mm) (p1 : Int32) (K : Mm → Int32 → Prop) : Prop := ∀ v1 : Int32, v1 = M 42 1 → ∀ M2 : Mm, M2 = wr M 42 1 0 → wp_X7_within n M2 p1 1 30 (fun M3 r4 => (¬ r4 = 0 → (¬ (M3 0 3) = 0 → wp_X3_become n M3 13 25 (fun M5 => ∀ v7 : Int32, v7 = jmin p1 (99999 - (M5 13 11)) → ∃ kf : Nat, wl_X7_check_70 n p1 K kf M5 v1 v7 0)) ∧ ((M3 0 3) = 0 → K M3 (-1000000002))) ∧ (r4 = 0 → K M3 (-1000000001)))
set_option maxHeartbeats 4000000 in
set_option maxRecDepth 100000 in
theorem c_X7_check {l : Launch} {E : En} {M : Mm} {p1 : Int32} {K : Mm → Int32 → Prop}  (h : wp_X7_check (eN E)  M p1 K) : Ctr l E yX7_check cX7_check 5 (some .int) 6 [.ref (eA E 0), .int p1] M (QI E K) := by
  refine Ctr.of (by decide +kernel) (Nat.le_of_ble_eq_true rfl) (fun g A hgl X => ?_)
  subst hgl
  have X : CX g cX7_check RX7 (some .int) 6 E A 5 := X
  show AW g E A 5 _ 0 [(0, .ref (eA E 0)), (1, .int p1)] [] M
  unfold wp_X7_check at h
  refine aw_aload_n X dX7_check_0 0 rfl ?_
  refine aw_get X dX7_check_1 (X.lt (by decide)) (sh_1 (rfl : tp 0 = 1) _) fl_RX7_43 rfl ?_
  refine aw_get X dX7_check_4 (X.lt (by decide)) (sh_7 (rfl : tp 42 = 7) _) fl_RX7_227 rfl ?_
  refine aw_top (fun v1 ev1 => ?_)
  have h := h v1 ev1
  refine aw_istore_n (lv' := [(2, .int v1), (0, .ref (eA E 0)), (1, .int p1)]) X dX7_check_7 (by decide) rfl ?_
  refine aw_aload_n X dX7_check_8 1 rfl ?_
  refine aw_get X dX7_check_9 (X.lt (by decide)) (sh_1 (rfl : tp 0 = 1) _) fl_RX7_43 rfl ?_
  refine aw_iconst (v := 0) X dX7_check_12 (by decide) ?_
  refine aw_put X dX7_check_13 (X.lt (by decide)) (sh_7 (rfl : tp 42 = 7) _) fl_RX7_227 fw_2_1 (Nat.le_of_ble_eq_true rfl) (sp_7_1 (rfl : tp 42 = 7) _ _) (fun M2 eM2 => ?_)
  have h := h M2 eM2
  refine aw_iload_n X dX7_check_16 2 rfl ?_
  refine aw_iconst (v := 1) X dX7_check_17 (by decide) ?_
  refine aw_bipush (v := 30) X dX7_check_18 (by decide) ?_
  refine ca_i X (rn_s X [.int p1, .int 1, .int 30] [] kw394 (c_X7_within h) cal_yX7_within kw393 (Nat.le_of_ble_eq_true rfl) rfl rfl (Nat.le_of_ble_eq_true rfl) dX7_check_20) (fun M3 r4 h => ?_)
  refine aw_if_ne (tgt := 29) X dX7_check_23 (by decide) (fun c => ?_) (fun c => ?_)
  · have h := h.1 c
    refine aw_aload_n X dX7_check_29 1 rfl ?_
    refine aw_get X dX7_check_30 (X.lt (by decide)) (sh_1 (rfl : tp 0 = 1) _) fl_RX7_22 rfl ?_
    refine aw_if_ne (tgt := 40) X dX7_check_33 (by decide) (fun c => ?_) (fun c => ?_)
    · have h := h.1 c
      refine aw_aload_n X dX7_check_40 1 rfl ?_
      refine aw_get X dX7_check_41 (X.lt (by decide)) (sh_1 (rfl : tp 0 = 1) _) fl_RX7_16 rfl ?_
      refine aw_aload_n X dX7_check_44 1 rfl ?_
      refine aw_get X dX7_check_45 (X.lt (by decide)) (sh_1 (rfl : tp 0 = 1) _) fl_RX7_19 rfl ?_
      refine ca_v X (rn_vn X [.ref (eA E 25)] [] (X.lt (by decide)) (sh_2 (rfl : tp 13 = 2) _) rfl rfl kw565 kw24 (c_X3_become h) cal_yX3_become kw563 (Nat.le_of_ble_eq_true rfl) rfl rfl (Nat.le_of_ble_eq_true rfl) dX7_check_48) (fun M5 h => ?_)
      refine aw_iload_n X dX7_check_51 2 rfl ?_
      refine aw_ldc_w (v := 99999) X dX7_check_52 kw884 ?_
      refine aw_aload_n X dX7_check_55 1 rfl ?_
      refine aw_get X dX7_check_56 (X.lt (by decide)) (sh_1 (rfl : tp 0 = 1) _) fl_RX7_16 rfl ?_
      refine aw_get X dX7_check_59 (X.lt (by decide)) (sh_2 (rfl : tp 13 = 2) _) fl_RX7_327 rfl ?_
      refine aw_isub X dX7_check_62 ?_
      refine aw_mmin X dX7_check_63 kw457 kw458 kw103 kw459 (by decide) (Nat.le_of_ble_eq_true rfl) ?_
      refine aw_top (fun v7 ev7 => ?_)
      have h := h v7 ev7
      refine aw_istore_n (lv' := [(3, .int v7), (2, .int v1), (0, .ref (eA E 0)), (1, .int p1)]) X dX7_check_66 (by decide) rfl ?_
      refine aw_iconst (v := 0) X dX7_check_67 (by decide) ?_
      refine aw_istore (lv' := [(4, .int 0), (3, .int v7), (2, .int v1), (0, .ref (eA E 0)), (1, .int p1)]) X dX7_check_68 (by decide) rfl ?_
      obtain ⟨kf, h⟩ := h
      exact aw_sub [3, 2, 1, 0] rfl (lw_X7_check_70 X p1  kf _ _ _ _ h)
    · have h := h.2 c
      refine aw_ldc_w (v := (-1000000002)) X dX7_check_36 kw938 ?_
      exact aw_iret X dX7_check_39 h
  · have h := h.2 c
    refine aw_ldc (v := (-1000000001)) X dX7_check_26 kw403 ?_
    exact aw_iret X dX7_check_28 h
def wp_X7_keep (n : Nat)  (M : Mm)  (K : Mm → Int32 → Prop) : Prop := wp_X3_become n M 25 1 (fun M1 => ∀ M3 : Mm, M3 = wr M1 0 3 1 → K M3 (M3 1 4))
set_option maxHeartbeats 4000000 in
set_option maxRecDepth 100000 in
theorem c_X7_keep {l : Launch} {E : En} {M : Mm}  {K : Mm → Int32 → Prop}  (h : wp_X7_keep (eN E)  M  K) : Ctr l E yX7_keep cX7_keep 1 (some .int) 2 [.ref (eA E 0)] M (QI E K) := by
  refine Ctr.of (by decide +kernel) (Nat.le_of_ble_eq_true rfl) (fun g A hgl X => ?_)
  subst hgl
  have X : CX g cX7_keep RX7 (some .int) 2 E A 1 := X
  show AW g E A 1 _ 0 [(0, .ref (eA E 0))] [] M
  unfold wp_X7_keep at h
  refine aw_aload_n X dX7_keep_0 0 rfl ?_
  refine aw_get X dX7_keep_1 (X.lt (by decide)) (sh_1 (rfl : tp 0 = 1) _) fl_RX7_19 rfl ?_
  refine aw_aload_n X dX7_keep_4 0 rfl ?_
  refine aw_get X dX7_keep_5 (X.lt (by decide)) (sh_1 (rfl : tp 0 = 1) _) fl_RX7_10 rfl ?_
  refine ca_v X (rn_vn X [.ref (eA E 1)] [] (X.lt (by decide)) (sh_2 (rfl : tp 25 = 2) _) rfl rfl kw565 kw24 (c_X3_become h) cal_yX3_become kw563 (Nat.le_of_ble_eq_true rfl) rfl rfl (Nat.le_of_ble_eq_true rfl) dX7_keep_8) (fun M1 h => ?_)
  refine aw_aload_n X dX7_keep_11 0 rfl ?_
  refine aw_iconst (v := 1) X dX7_keep_12 (by decide) ?_
  refine aw_putT X dX7_keep_13 (X.lt (by decide)) (sh_1 (rfl : tp 0 = 1) _) fl_RX7_22 fw_7_3 (by decide) (by decide) (Nat.le_of_ble_eq_true rfl) (sp_1_3 (rfl : tp 0 = 1) _ _) (fun M3 eM3 => ?_)
  have h := h M3 eM3
  refine aw_aload_n X dX7_keep_16 0 rfl ?_
  refine aw_get X dX7_keep_17 (X.lt (by decide)) (sh_1 (rfl : tp 0 = 1) _) fl_RX7_10 rfl ?_
  refine aw_get X dX7_keep_20 (X.lt (by decide)) (sh_2 (rfl : tp 1 = 2) _) fl_RX7_69 rfl ?_
  exact aw_iret X dX7_keep_23 h
def wp_X7_back (n : Nat)  (M : Mm)  (K : Mm → Int32 → Prop) : Prop := (¬ (M 0 3) = 0 → wp_X3_become n M 1 25 (fun M1 => K M1 (M1 1 4))) ∧ ((M 0 3) = 0 → K M (-1000000002))
set_option maxHeartbeats 4000000 in
set_option maxRecDepth 100000 in
theorem c_X7_back {l : Launch} {E : En} {M : Mm}  {K : Mm → Int32 → Prop}  (h : wp_X7_back (eN E)  M  K) : Ctr l E yX7_back cX7_back 1 (some .int) 2 [.ref (eA E 0)] M (QI E K) := by
  refine Ctr.of (by decide +kernel) (Nat.le_of_ble_eq_true rfl) (fun g A hgl X => ?_)
  subst hgl
  have X : CX g cX7_back RX7 (some .int) 2 E A 1 := X
  show AW g E A 1 _ 0 [(0, .ref (eA E 0))] [] M
  unfold wp_X7_back at h
  refine aw_aload_n X dX7_back_0 0 rfl ?_
  refine aw_get X dX7_back_1 (X.lt (by decide)) (sh_1 (rfl : tp 0 = 1) _) fl_RX7_22 rfl ?_
  refine aw_if_ne (tgt := 11) X dX7_back_4 (by decide) (fun c => ?_) (fun c => ?_)
  · have h := h.1 c
    refine aw_aload_n X dX7_back_11 0 rfl ?_
    refine aw_get X dX7_back_12 (X.lt (by decide)) (sh_1 (rfl : tp 0 = 1) _) fl_RX7_10 rfl ?_
    refine aw_aload_n X dX7_back_15 0 rfl ?_
    refine aw_get X dX7_back_16 (X.lt (by decide)) (sh_1 (rfl : tp 0 = 1) _) fl_RX7_19 rfl ?_
    refine ca_v X (rn_vn X [.ref (eA E 25)] [] (X.lt (by decide)) (sh_2 (rfl : tp 1 = 2) _) rfl rfl kw565 kw24 (c_X3_become h) cal_yX3_become kw563 (Nat.le_of_ble_eq_true rfl) rfl rfl (Nat.le_of_ble_eq_true rfl) dX7_back_19) (fun M1 h => ?_)
    refine aw_aload_n X dX7_back_22 0 rfl ?_
    refine aw_get X dX7_back_23 (X.lt (by decide)) (sh_1 (rfl : tp 0 = 1) _) fl_RX7_10 rfl ?_
    refine aw_get X dX7_back_26 (X.lt (by decide)) (sh_2 (rfl : tp 1 = 2) _) fl_RX7_69 rfl ?_
    exact aw_iret X dX7_back_29 h
  · have h := h.2 c
    refine aw_ldc_w (v := (-1000000002)) X dX7_back_7 kw938 ?_
    exact aw_iret X dX7_back_10 h
def wp_X7_count (n : Nat)  (M : Mm) (p1 : Int32) (K : Mm → Int32 → Prop) : Prop := (p1 = 0 → K M (M 1 4)) ∧ (p1 = 1 → wp_X3_standing n M 1 (fun M1 r2 => K M1 r2)) ∧ (p1 = 2 → K M (M 1 11)) ∧ (p1 = 3 → K M (M 1 7)) ∧ (p1 = 4 → K M (M 1 10)) ∧ (p1 = 5 → K M (M 1 12)) ∧ (p1 = 6 → wp_X3_gotOfAll n M 1 (fun M3 r4 => K M3 r4)) ∧ (p1 = 7 → wp_X3_emptyOfAll n M 1 (fun M5 r6 => K M5 r6)) ∧ (p1 = 8 → K M (M 1 2)) ∧ (p1 = 9 → K M (M 42 1)) ∧ (p1 = 10 → K M (M 38 1)) ∧ (p1 = 11 → K M (M 1 13)) ∧ (¬ p1 = 0 → ¬ p1 = 1 → ¬ p1 = 2 → ¬ p1 = 3 → ¬ p1 = 4 → ¬ p1 = 5 → ¬ p1 = 6 → ¬ p1 = 7 → ¬ p1 = 8 → ¬ p1 = 9 → ¬ p1 = 10 → ¬ p1 = 11 → K M (-1000000001))
set_option maxHeartbeats 4000000 in
set_option maxRecDepth 100000 in
theorem c_X7_count {l : Launch} {E : En} {M : Mm} {p1 : Int32} {K : Mm → Int32 → Prop}  (h : wp_X7_count (eN E)  M p1 K) : Ctr l E yX7_count cX7_count 2 (some .int) 1 [.ref (eA E 0), .int p1] M (QI E K) := by
  refine Ctr.of (by decide +kernel) (Nat.le_of_ble_eq_true rfl) (fun g A hgl X => ?_)
  subst hgl
  have X : CX g cX7_count RX7 (some .int) 1 E A 2 := X
  show AW g E A 2 _ 0 [(0, .ref (eA E 0)), (1, .int p1)] [] M
  unfold wp_X7_count at h
  refine aw_iload_n X dX7_count_0 1 rfl ?_
  by_cases c0 : p1 = 0
  · have h := h.1 c0
    refine aw_tableIn (tgt := 64) X dX7_count_1 0 c0 (by decide) (by decide) rfl (by decide) ?_
    refine aw_aload_n X dX7_count_64 0 rfl ?_
    refine aw_get X dX7_count_65 (X.lt (by decide)) (sh_1 (rfl : tp 0 = 1) _) fl_RX7_10 rfl ?_
    refine aw_get X dX7_count_68 (X.lt (by decide)) (sh_2 (rfl : tp 1 = 2) _) fl_RX7_69 rfl ?_
    exact aw_iret X dX7_count_71 h
  · by_cases c1 : p1 = 1
    · have h := h.2.1 c1
      refine aw_tableIn (tgt := 72) X dX7_count_1 1 c1 (by decide) (by decide) rfl (by decide) ?_
      refine aw_aload_n X dX7_count_72 0 rfl ?_
      refine aw_get X dX7_count_73 (X.lt (by decide)) (sh_1 (rfl : tp 0 = 1) _) fl_RX7_10 rfl ?_
      refine ca_i X (rn_vn X [] [] (X.lt (by decide)) (sh_2 (rfl : tp 1 = 2) _) rfl rfl kw432 kw5 (c_X3_standing h) cal_yX3_standing kw951 (Nat.le_of_ble_eq_true rfl) rfl rfl (Nat.le_of_ble_eq_true rfl) dX7_count_76) (fun M1 r2 h => ?_)
      exact aw_iret X dX7_count_79 h
    · by_cases c2 : p1 = 2
      · have h := h.2.2.1 c2
        refine aw_tableIn (tgt := 80) X dX7_count_1 2 c2 (by decide) (by decide) rfl (by decide) ?_
        refine aw_aload_n X dX7_count_80 0 rfl ?_
        refine aw_get X dX7_count_81 (X.lt (by decide)) (sh_1 (rfl : tp 0 = 1) _) fl_RX7_10 rfl ?_
        refine aw_get X dX7_count_84 (X.lt (by decide)) (sh_2 (rfl : tp 1 = 2) _) fl_RX7_327 rfl ?_
        exact aw_iret X dX7_count_87 h
      · by_cases c3 : p1 = 3
        · have h := h.2.2.2.1 c3
          refine aw_tableIn (tgt := 88) X dX7_count_1 3 c3 (by decide) (by decide) rfl (by decide) ?_
          refine aw_aload_n X dX7_count_88 0 rfl ?_
          refine aw_get X dX7_count_89 (X.lt (by decide)) (sh_1 (rfl : tp 0 = 1) _) fl_RX7_10 rfl ?_
          refine aw_get X dX7_count_92 (X.lt (by decide)) (sh_2 (rfl : tp 1 = 2) _) fl_RX7_174 rfl ?_
          exact aw_iret X dX7_count_95 h
        · by_cases c4 : p1 = 4
          · have h := h.2.2.2.2.1 c4
            refine aw_tableIn (tgt := 96) X dX7_count_1 4 c4 (by decide) (by decide) rfl (by decide) ?_
            refine aw_aload_n X dX7_count_96 0 rfl ?_
            refine aw_get X dX7_count_97 (X.lt (by decide)) (sh_1 (rfl : tp 0 = 1) _) fl_RX7_10 rfl ?_
            refine aw_get X dX7_count_100 (X.lt (by decide)) (sh_2 (rfl : tp 1 = 2) _) fl_RX7_187 rfl ?_
            exact aw_iret X dX7_count_103 h
          · by_cases c5 : p1 = 5
            · have h := h.2.2.2.2.2.1 c5
              refine aw_tableIn (tgt := 104) X dX7_count_1 5 c5 (by decide) (by decide) rfl (by decide) ?_
              refine aw_aload_n X dX7_count_104 0 rfl ?_
              refine aw_get X dX7_count_105 (X.lt (by decide)) (sh_1 (rfl : tp 0 = 1) _) fl_RX7_10 rfl ?_
              refine aw_get X dX7_count_108 (X.lt (by decide)) (sh_2 (rfl : tp 1 = 2) _) fl_RX7_207 rfl ?_
              exact aw_iret X dX7_count_111 h
            · by_cases c6 : p1 = 6
              · have h := h.2.2.2.2.2.2.1 c6
                refine aw_tableIn (tgt := 112) X dX7_count_1 6 c6 (by decide) (by decide) rfl (by decide) ?_
                refine aw_aload_n X dX7_count_112 0 rfl ?_
                refine aw_get X dX7_count_113 (X.lt (by decide)) (sh_1 (rfl : tp 0 = 1) _) fl_RX7_10 rfl ?_
                refine ca_i X (rn_vn X [] [] (X.lt (by decide)) (sh_2 (rfl : tp 1 = 2) _) rfl rfl kw557 kw23 (c_X3_gotOfAll h) cal_yX3_gotOfAll kw555 (Nat.le_of_ble_eq_true rfl) rfl rfl (Nat.le_of_ble_eq_true rfl) dX7_count_116) (fun M3 r4 h => ?_)
                exact aw_iret X dX7_count_119 h
              · by_cases c7 : p1 = 7
                · have h := h.2.2.2.2.2.2.2.1 c7
                  refine aw_tableIn (tgt := 120) X dX7_count_1 7 c7 (by decide) (by decide) rfl (by decide) ?_
                  refine aw_aload_n X dX7_count_120 0 rfl ?_
                  refine aw_get X dX7_count_121 (X.lt (by decide)) (sh_1 (rfl : tp 0 = 1) _) fl_RX7_10 rfl ?_
                  refine ca_i X (rn_vn X [] [] (X.lt (by decide)) (sh_2 (rfl : tp 1 = 2) _) rfl rfl kw576 kw26 (c_X3_emptyOfAll h) cal_yX3_emptyOfAll kw574 (Nat.le_of_ble_eq_true rfl) rfl rfl (Nat.le_of_ble_eq_true rfl) dX7_count_124) (fun M5 r6 h => ?_)
                  exact aw_iret X dX7_count_127 h
                · by_cases c8 : p1 = 8
                  · have h := h.2.2.2.2.2.2.2.2.1 c8
                    refine aw_tableIn (tgt := 128) X dX7_count_1 8 c8 (by decide) (by decide) rfl (by decide) ?_
                    refine aw_aload_n X dX7_count_128 0 rfl ?_
                    refine aw_get X dX7_count_129 (X.lt (by decide)) (sh_1 (rfl : tp 0 = 1) _) fl_RX7_10 rfl ?_
                    refine aw_get X dX7_count_132 (X.lt (by decide)) (sh_2 (rfl : tp 1 = 2) _) fl_RX7_238 rfl ?_
                    exact aw_iret X dX7_count_135 h
                  · by_cases c9 : p1 = 9
                    · have h := h.2.2.2.2.2.2.2.2.2.1 c9
                      refine aw_tableIn (tgt := 136) X dX7_count_1 9 c9 (by decide) (by decide) rfl (by decide) ?_
                      refine aw_aload_n X dX7_count_136 0 rfl ?_
                      refine aw_get X dX7_count_137 (X.lt (by decide)) (sh_1 (rfl : tp 0 = 1) _) fl_RX7_43 rfl ?_
                      refine aw_get X dX7_count_140 (X.lt (by decide)) (sh_7 (rfl : tp 42 = 7) _) fl_RX7_227 rfl ?_
                      exact aw_iret X dX7_count_143 h
                    · by_cases c10 : p1 = 10
                      · have h := h.2.2.2.2.2.2.2.2.2.2.1 c10
                        refine aw_tableIn (tgt := 144) X dX7_count_1 10 c10 (by decide) (by decide) rfl (by decide) ?_
                        refine aw_aload_n X dX7_count_144 0 rfl ?_
                        refine aw_get X dX7_count_145 (X.lt (by decide)) (sh_1 (rfl : tp 0 = 1) _) fl_RX7_37 rfl ?_
                        refine aw_get X dX7_count_148 (X.lt (by decide)) (sh_7 (rfl : tp 38 = 7) _) fl_RX7_227 rfl ?_
                        exact aw_iret X dX7_count_151 h
                      · by_cases c11 : p1 = 11
                        · have h := h.2.2.2.2.2.2.2.2.2.2.2.1 c11
                          refine aw_tableIn (tgt := 152) X dX7_count_1 11 c11 (by decide) (by decide) rfl (by decide) ?_
                          refine aw_aload_n X dX7_count_152 0 rfl ?_
                          refine aw_get X dX7_count_153 (X.lt (by decide)) (sh_1 (rfl : tp 0 = 1) _) fl_RX7_10 rfl ?_
                          refine aw_get X dX7_count_156 (X.lt (by decide)) (sh_2 (rfl : tp 1 = 2) _) fl_RX7_161 rfl ?_
                          exact aw_iret X dX7_count_159 h
                        · have h := h.2.2.2.2.2.2.2.2.2.2.2.2 c0 c1 c2 c3 c4 c5 c6 c7 c8 c9 c10 c11
                          refine aw_tableOut (tgt := 160) X dX7_count_1 (by have n0 := lv_neT (a := 0) c0 rfl; have n1 := lv_neT (a := 1) c1 rfl; have n2 := lv_neT (a := 2) c2 rfl; have n3 := lv_neT (a := 3) c3 rfl; have n4 := lv_neT (a := 4) c4 rfl; have n5 := lv_neT (a := 5) c5 rfl; have n6 := lv_neT (a := 6) c6 rfl; have n7 := lv_neT (a := 7) c7 rfl; have n8 := lv_neT (a := 8) c8 rfl; have n9 := lv_neT (a := 9) c9 rfl; have n10 := lv_neT (a := 10) c10 rfl; have n11 := lv_neT (a := 11) c11 rfl; omega) (by decide) ?_
                          refine aw_ldc (v := (-1000000001)) X dX7_count_160 kw403 ?_
                          exact aw_iret X dX7_count_162 h
