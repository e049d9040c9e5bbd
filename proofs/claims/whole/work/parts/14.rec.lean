def wb_X8_term_28 (n : Nat) (P : Mm → Int32 → (Mm → Int32 → Prop) → Prop) (p1 : Int32) (Z10 : Mm → Prop) (K : Mm → Int32 → Prop) (M : Mm)  : Prop := ∀ v7 : Int32, v7 = M 74 22 → wp_X8_nextToken n M (fun M8 => P M8 p1 (fun M10 r11 => (¬ r11 = 0 → wp_X8_step n M10 2 v7 (fun M12 => Z10 M12)) ∧ (r11 = 0 → K M10 0)))
set_option maxHeartbeats 4000000 in
set_option maxRecDepth 100000 in
theorem lb_X8_term_28 {d : Nat} {g : Gm} {E : En} {A : Nat → Prop} {K : Mm → Int32 → Prop} (X : CX g cX8_term RX8 (some .boolean) (d + 1) E A 3) (P : Mm → Int32 → (Mm → Int32 → Prop) → Prop) (p1 : Int32) (hd0 : 10 ≤ d) (hP : ∀ (M : Mm) (p1 : Int32) (K : Mm → Int32 → Prop), P M p1 K → Ctr (gL g) E yX8_part0 cX8_part0 2 (some .boolean) d [.ref (eA E 74), .int p1] M (QI E K))  {Z10 : Mm → Prop} (hZ10 : ∀ (M : Mm) , Z10 M  → AW g E A 3 (MQ (gB g) (QI E K A) (gA g) (gS g) (gk g) (gn g) A) 10 [(0, .ref (eA E 74)), (1, .int p1)] [] M) (M : Mm)  (h : wb_X8_term_28 (eN E) P p1 Z10 K M ) : AW g E A 3 (MQ (gB g) (QI E K A) (gA g) (gS g) (gk g) (gn g) A) 28 [(0, .ref (eA E 74)), (1, .int p1)] [] M := by
  unfold wb_X8_term_28 at h
  refine aw_aload_n X dX8_term_28 0 rfl ?_
  refine aw_get X dX8_term_29 (X.lt (by decide)) (sh_12 (rfl : tp 74 = 12) _) fl_RX8_229 rfl ?_
  refine aw_top (fun v7 ev7 => ?_)
  have h := h v7 ev7
  refine aw_istore_n (lv' := [(2, .int v7), (0, .ref (eA E 74)), (1, .int p1)]) X dX8_term_32 (by decide) rfl ?_
  refine aw_aload_n X dX8_term_33 1 rfl ?_
  refine ca_v X (rn_v X [] [] (X.lt (by decide)) (sh_12 (rfl : tp 74 = 12) _) rfl rfl kw1293 kw80 (c_X8_nextToken h) cal_yX8_nextToken kw1291 (by omega) rfl rfl (Nat.le_of_ble_eq_true rfl) dX8_term_34) (fun M8 h => ?_)
  refine aw_aload_n X dX8_term_37 1 rfl ?_
  refine aw_iload_n X dX8_term_38 2 rfl ?_
  refine ca_i X (rn_v X [.int p1] [] (X.lt (by decide)) (sh_12 (rfl : tp 74 = 12) _) rfl rfl kw1341 kw91 (hP _ _ _ h) cal_yX8_part0 kw1339 (by omega) rfl rfl (Nat.le_of_ble_eq_true rfl) dX8_term_39) (fun M10 r11 h => ?_)
  refine aw_if_ne (tgt := 47) X dX8_term_42 (by decide) (fun c => ?_) (fun c => ?_)
  · have h := h.1 c
    refine aw_aload_n X dX8_term_47 1 rfl ?_
    refine aw_iconst (v := 2) X dX8_term_48 (by decide) ?_
    refine aw_iload_n X dX8_term_49 0 rfl ?_
    refine ca_v X (rn_v X [.int 2, .int v7] [] (X.lt (by decide)) (sh_12 (rfl : tp 74 = 12) _) rfl rfl kw1345 kw92 (c_X8_step h) cal_yX8_step kw1343 (by omega) rfl rfl (Nat.le_of_ble_eq_true rfl) dX8_term_50) (fun M12 h => ?_)
    refine aw_goto (tgt := 10) X dX8_term_53 (by decide) ?_
    exact aw_sub [1, 2] rfl (hZ10 _ h)
  · have h := h.2 c
    refine aw_iconst (v := 0) X dX8_term_45 (by decide) ?_
    exact aw_zret X dX8_term_46 (by decide) h
def wl_X8_term_10 (n : Nat) (P : Mm → Int32 → (Mm → Int32 → Prop) → Prop) (p1 : Int32)  (K : Mm → Int32 → Prop) : Nat → Mm → Prop
  | 0, _ => False
  | k + 1, M => wp_X8_isSign n M 42 (fun M3 r4 => (¬ r4 = 0 → wb_X8_term_28 n P p1 (fun M => wl_X8_term_10 n P p1 K k M) K M3 ) ∧ (r4 = 0 → wp_X8_isSign n M3 47 (fun M5 r6 => (r6 = 0 → K M5 1) ∧ (¬ r6 = 0 → wb_X8_term_28 n P p1 (fun M => wl_X8_term_10 n P p1 K k M) K M5 ))))
set_option maxHeartbeats 4000000 in
set_option maxRecDepth 100000 in
theorem lw_X8_term_10 {d : Nat} {g : Gm} {E : En} {A : Nat → Prop} {K : Mm → Int32 → Prop} (X : CX g cX8_term RX8 (some .boolean) (d + 1) E A 3) (P : Mm → Int32 → (Mm → Int32 → Prop) → Prop) (p1 : Int32) (hd0 : 10 ≤ d) (hP : ∀ (M : Mm) (p1 : Int32) (K : Mm → Int32 → Prop), P M p1 K → Ctr (gL g) E yX8_part0 cX8_part0 2 (some .boolean) d [.ref (eA E 74), .int p1] M (QI E K))  : ∀ (k : Nat) (M : Mm) , wl_X8_term_10 (eN E) P p1  K k M  → AW g E A 3 (MQ (gB g) (QI E K A) (gA g) (gS g) (gk g) (gn g) A) 10 [(0, .ref (eA E 74)), (1, .int p1)] [] M := by
  intro k
  induction k with
  | zero => intro M  h; exact h.elim
  | succ k ih =>
    intro M  h
    rw [wl_X8_term_10] at h
    refine aw_aload_n X dX8_term_10 0 rfl ?_
    refine aw_bipush (v := 42) X dX8_term_11 (by decide) ?_
    refine ca_i X (rn_v X [.int 42] [] (X.lt (by decide)) (sh_12 (rfl : tp 74 = 12) _) rfl rfl kw1352 kw93 (c_X8_isSign h) cal_yX8_isSign kw1350 (by omega) rfl rfl (Nat.le_of_ble_eq_true rfl) dX8_term_13) (fun M3 r4 h => ?_)
    refine aw_if_ne (tgt := 28) X dX8_term_16 (by decide) (fun c => ?_) (fun c => ?_)
    · have h := h.1 c
      exact aw_sub [0, 1] rfl (lb_X8_term_28 X P p1 hd0 hP ih _ h)
    · have h := h.2 c
      refine aw_aload_n X dX8_term_19 0 rfl ?_
      refine aw_bipush (v := 47) X dX8_term_20 (by decide) ?_
      refine ca_i X (rn_v X [.int 47] [] (X.lt (by decide)) (sh_12 (rfl : tp 74 = 12) _) rfl rfl kw1352 kw93 (c_X8_isSign h) cal_yX8_isSign kw1350 (by omega) rfl rfl (Nat.le_of_ble_eq_true rfl) dX8_term_22) (fun M5 r6 h => ?_)
      refine aw_if_eq (tgt := 56) X dX8_term_25 (by decide) (fun c => ?_) (fun c => ?_)
      · have h := h.1 c
        refine aw_iconst (v := 1) X dX8_term_56 (by decide) ?_
        exact aw_zret X dX8_term_57 (by decide) h
      · have h := h.2 c
        exact aw_sub [0, 1] rfl (lb_X8_term_28 X P p1 hd0 hP ih _ h)
def wq_X8_term (n : Nat) (P : Mm → Int32 → (Mm → Int32 → Prop) → Prop) (M : Mm) (p1 : Int32) (K : Mm → Int32 → Prop) : Prop := P M p1 (fun M1 r2 => (¬ r2 = 0 → ∃ kf : Nat, wl_X8_term_10 n P p1 K kf M1) ∧ (r2 = 0 → K M1 0))
set_option maxHeartbeats 4000000 in
set_option maxRecDepth 100000 in
theorem c_X8_term {d : Nat} {l : Launch} {E : En} {M : Mm} {P : Mm → Int32 → (Mm → Int32 → Prop) → Prop} {p1 : Int32} {K : Mm → Int32 → Prop} (hd0 : 10 ≤ d) (hP : ∀ (M : Mm) (p1 : Int32) (K : Mm → Int32 → Prop), P M p1 K → Ctr l E yX8_part0 cX8_part0 2 (some .boolean) d [.ref (eA E 74), .int p1] M (QI E K)) (h : wq_X8_term (eN E) P M p1 K) : Ctr l E yX8_term cX8_term 3 (some .boolean) (d + 1) [.ref (eA E 74), .int p1] M (QI E K) := by
  refine Ctr.of (by decide +kernel) (Nat.le_of_ble_eq_true rfl) (fun g A hgl X => ?_)
  subst hgl
  have X : CX g cX8_term RX8 (some .boolean) (d + 1) E A 3 := X
  show AW g E A 3 _ 0 [(0, .ref (eA E 74)), (1, .int p1)] [] M
  unfold wq_X8_term at h
  refine aw_aload_n X dX8_term_0 0 rfl ?_
  refine aw_iload_n X dX8_term_1 1 rfl ?_
  refine ca_i X (rn_v X [.int p1] [] (X.lt (by decide)) (sh_12 (rfl : tp 74 = 12) _) rfl rfl kw1341 kw91 (hP _ _ _ h) cal_yX8_part0 kw1339 (by omega) rfl rfl (Nat.le_of_ble_eq_true rfl) dX8_term_2) (fun M1 r2 h => ?_)
  refine aw_if_ne (tgt := 10) X dX8_term_5 (by decide) (fun c => ?_) (fun c => ?_)
  · have h := h.1 c
    obtain ⟨kf, h⟩ := h
    exact aw_sub [0, 1] rfl (lw_X8_term_10 X P p1 hd0 hP  kf _ h)
  · have h := h.2 c
    refine aw_iconst (v := 0) X dX8_term_8 (by decide) ?_
    exact aw_zret X dX8_term_9 (by decide) h
def wb_X8_sum_28 (n : Nat) (P : Mm → Int32 → (Mm → Int32 → Prop) → Prop) (p1 : Int32) (Z10 : Mm → Prop) (K : Mm → Int32 → Prop) (M : Mm)  : Prop := ∀ v7 : Int32, v7 = M 74 22 → wp_X8_nextToken n M (fun M8 => wq_X8_term n P M8 p1 (fun M10 r11 => (¬ r11 = 0 → wp_X8_step n M10 2 v7 (fun M12 => Z10 M12)) ∧ (r11 = 0 → K M10 0)))
set_option maxHeartbeats 4000000 in
set_option maxRecDepth 100000 in
theorem lb_X8_sum_28 {d : Nat} {g : Gm} {E : En} {A : Nat → Prop} {K : Mm → Int32 → Prop} (X : CX g cX8_sum RX8 (some .boolean) (d + 2) E A 3) (P : Mm → Int32 → (Mm → Int32 → Prop) → Prop) (p1 : Int32) (hd0 : 10 ≤ d) (hP : ∀ (M : Mm) (p1 : Int32) (K : Mm → Int32 → Prop), P M p1 K → Ctr (gL g) E yX8_part0 cX8_part0 2 (some .boolean) d [.ref (eA E 74), .int p1] M (QI E K))  {Z10 : Mm → Prop} (hZ10 : ∀ (M : Mm) , Z10 M  → AW g E A 3 (MQ (gB g) (QI E K A) (gA g) (gS g) (gk g) (gn g) A) 10 [(0, .ref (eA E 74)), (1, .int p1)] [] M) (M : Mm)  (h : wb_X8_sum_28 (eN E) P p1 Z10 K M ) : AW g E A 3 (MQ (gB g) (QI E K A) (gA g) (gS g) (gk g) (gn g) A) 28 [(0, .ref (eA E 74)), (1, .int p1)] [] M := by
  unfold wb_X8_sum_28 at h
  refine aw_aload_n X dX8_sum_28 0 rfl ?_
  refine aw_get X dX8_sum_29 (X.lt (by decide)) (sh_12 (rfl : tp 74 = 12) _) fl_RX8_229 rfl ?_
  refine aw_top (fun v7 ev7 => ?_)
  have h := h v7 ev7
  refine aw_istore_n (lv' := [(2, .int v7), (0, .ref (eA E 74)), (1, .int p1)]) X dX8_sum_32 (by decide) rfl ?_
  refine aw_aload_n X dX8_sum_33 1 rfl ?_
  refine ca_v X (rn_v X [] [] (X.lt (by decide)) (sh_12 (rfl : tp 74 = 12) _) rfl rfl kw1293 kw80 (c_X8_nextToken h) cal_yX8_nextToken kw1291 (by omega) rfl rfl (Nat.le_of_ble_eq_true rfl) dX8_sum_34) (fun M8 h => ?_)
  refine aw_aload_n X dX8_sum_37 1 rfl ?_
  refine aw_iload_n X dX8_sum_38 2 rfl ?_
  refine ca_i X (rn_v X [.int p1] [] (X.lt (by decide)) (sh_12 (rfl : tp 74 = 12) _) rfl rfl kw1337 kw90 (c_X8_term hd0 hP h) cal_yX8_term kw1335 (by omega) rfl rfl (Nat.le_of_ble_eq_true rfl) dX8_sum_39) (fun M10 r11 h => ?_)
  refine aw_if_ne (tgt := 47) X dX8_sum_42 (by decide) (fun c => ?_) (fun c => ?_)
  · have h := h.1 c
    refine aw_aload_n X dX8_sum_47 1 rfl ?_
    refine aw_iconst (v := 2) X dX8_sum_48 (by decide) ?_
    refine aw_iload_n X dX8_sum_49 0 rfl ?_
    refine ca_v X (rn_v X [.int 2, .int v7] [] (X.lt (by decide)) (sh_12 (rfl : tp 74 = 12) _) rfl rfl kw1345 kw92 (c_X8_step h) cal_yX8_step kw1343 (by omega) rfl rfl (Nat.le_of_ble_eq_true rfl) dX8_sum_50) (fun M12 h => ?_)
    refine aw_goto (tgt := 10) X dX8_sum_53 (by decide) ?_
    exact aw_sub [1, 2] rfl (hZ10 _ h)
  · have h := h.2 c
    refine aw_iconst (v := 0) X dX8_sum_45 (by decide) ?_
    exact aw_zret X dX8_sum_46 (by decide) h
def wl_X8_sum_10 (n : Nat) (P : Mm → Int32 → (Mm → Int32 → Prop) → Prop) (p1 : Int32)  (K : Mm → Int32 → Prop) : Nat → Mm → Prop
  | 0, _ => False
  | k + 1, M => wp_X8_isSign n M 43 (fun M3 r4 => (¬ r4 = 0 → wb_X8_sum_28 n P p1 (fun M => wl_X8_sum_10 n P p1 K k M) K M3 ) ∧ (r4 = 0 → wp_X8_isSign n M3 45 (fun M5 r6 => (r6 = 0 → K M5 1) ∧ (¬ r6 = 0 → wb_X8_sum_28 n P p1 (fun M => wl_X8_sum_10 n P p1 K k M) K M5 ))))
set_option maxHeartbeats 4000000 in
set_option maxRecDepth 100000 in
theorem lw_X8_sum_10 {d : Nat} {g : Gm} {E : En} {A : Nat → Prop} {K : Mm → Int32 → Prop} (X : CX g cX8_sum RX8 (some .boolean) (d + 2) E A 3) (P : Mm → Int32 → (Mm → Int32 → Prop) → Prop) (p1 : Int32) (hd0 : 10 ≤ d) (hP : ∀ (M : Mm) (p1 : Int32) (K : Mm → Int32 → Prop), P M p1 K → Ctr (gL g) E yX8_part0 cX8_part0 2 (some .boolean) d [.ref (eA E 74), .int p1] M (QI E K))  : ∀ (k : Nat) (M : Mm) , wl_X8_sum_10 (eN E) P p1  K k M  → AW g E A 3 (MQ (gB g) (QI E K A) (gA g) (gS g) (gk g) (gn g) A) 10 [(0, .ref (eA E 74)), (1, .int p1)] [] M := by
  intro k
  induction k with
  | zero => intro M  h; exact h.elim
  | succ k ih =>
    intro M  h
    rw [wl_X8_sum_10] at h
    refine aw_aload_n X dX8_sum_10 0 rfl ?_
    refine aw_bipush (v := 43) X dX8_sum_11 (by decide) ?_
    refine ca_i X (rn_v X [.int 43] [] (X.lt (by decide)) (sh_12 (rfl : tp 74 = 12) _) rfl rfl kw1352 kw93 (c_X8_isSign h) cal_yX8_isSign kw1350 (by omega) rfl rfl (Nat.le_of_ble_eq_true rfl) dX8_sum_13) (fun M3 r4 h => ?_)
    refine aw_if_ne (tgt := 28) X dX8_sum_16 (by decide) (fun c => ?_) (fun c => ?_)
    · have h := h.1 c
      exact aw_sub [0, 1] rfl (lb_X8_sum_28 X P p1 hd0 hP ih _ h)
    · have h := h.2 c
      refine aw_aload_n X dX8_sum_19 0 rfl ?_
      refine aw_bipush (v := 45) X dX8_sum_20 (by decide) ?_
      refine ca_i X (rn_v X [.int 45] [] (X.lt (by decide)) (sh_12 (rfl : tp 74 = 12) _) rfl rfl kw1352 kw93 (c_X8_isSign h) cal_yX8_isSign kw1350 (by omega) rfl rfl (Nat.le_of_ble_eq_true rfl) dX8_sum_22) (fun M5 r6 h => ?_)
      refine aw_if_eq (tgt := 56) X dX8_sum_25 (by decide) (fun c => ?_) (fun c => ?_)
      · have h := h.1 c
        refine aw_iconst (v := 1) X dX8_sum_56 (by decide) ?_
        exact aw_zret X dX8_sum_57 (by decide) h
      · have h := h.2 c
        exact aw_sub [0, 1] rfl (lb_X8_sum_28 X P p1 hd0 hP ih _ h)
def wq_X8_sum (n : Nat) (P : Mm → Int32 → (Mm → Int32 → Prop) → Prop) (M : Mm) (p1 : Int32) (K : Mm → Int32 → Prop) : Prop := wq_X8_term n P M p1 (fun M1 r2 => (¬ r2 = 0 → ∃ kf : Nat, wl_X8_sum_10 n P p1 K kf M1) ∧ (r2 = 0 → K M1 0))
set_option maxHeartbeats 4000000 in
set_option maxRecDepth 100000 in
theorem c_X8_sum {d : Nat} {l : Launch} {E : En} {M : Mm} {P : Mm → Int32 → (Mm → Int32 → Prop) → Prop} {p1 : Int32} {K : Mm → Int32 → Prop} (hd0 : 10 ≤ d) (hP : ∀ (M : Mm) (p1 : Int32) (K : Mm → Int32 → Prop), P M p1 K → Ctr l E yX8_part0 cX8_part0 2 (some .boolean) d [.ref (eA E 74), .int p1] M (QI E K)) (h : wq_X8_sum (eN E) P M p1 K) : Ctr l E yX8_sum cX8_sum 3 (some .boolean) (d + 2) [.ref (eA E 74), .int p1] M (QI E K) := by
  refine Ctr.of (by decide +kernel) (Nat.le_of_ble_eq_true rfl) (fun g A hgl X => ?_)
  subst hgl
  have X : CX g cX8_sum RX8 (some .boolean) (d + 2) E A 3 := X
  show AW g E A 3 _ 0 [(0, .ref (eA E 74)), (1, .int p1)] [] M
  unfold wq_X8_sum at h
  refine aw_aload_n X dX8_sum_0 0 rfl ?_
  refine aw_iload_n X dX8_sum_1 1 rfl ?_
  refine ca_i X (rn_v X [.int p1] [] (X.lt (by decide)) (sh_12 (rfl : tp 74 = 12) _) rfl rfl kw1337 kw90 (c_X8_term hd0 hP h) cal_yX8_term kw1335 (by omega) rfl rfl (Nat.le_of_ble_eq_true rfl) dX8_sum_2) (fun M1 r2 h => ?_)
  refine aw_if_ne (tgt := 10) X dX8_sum_5 (by decide) (fun c => ?_) (fun c => ?_)
  · have h := h.1 c
    obtain ⟨kf, h⟩ := h
    exact aw_sub [0, 1] rfl (lw_X8_sum_10 X P p1 hd0 hP  kf _ h)
  · have h := h.2 c
    refine aw_iconst (v := 0) X dX8_sum_8 (by decide) ?_
    exact aw_zret X dX8_sum_9 (by decide) h
def wb_X8_test_37 (n : Nat) (P : Mm → Int32 → (Mm → Int32 → Prop) → Prop) (p1 : Int32)  (K : Mm → Int32 → Prop) (M : Mm)  : Prop := ∀ v9 : Int32, v9 = M 74 22 → wp_X8_nextToken n M (fun M10 => wq_X8_sum n P M10 p1 (fun M12 r13 => (¬ r13 = 0 → wp_X8_step n M12 2 v9 (fun M14 => K M14 1)) ∧ (r13 = 0 → K M12 0)))
set_option maxHeartbeats 4000000 in
set_option maxRecDepth 100000 in
theorem lb_X8_test_37 {d : Nat} {g : Gm} {E : En} {A : Nat → Prop} {K : Mm → Int32 → Prop} (X : CX g cX8_test RX8 (some .boolean) (d + 3) E A 3) (P : Mm → Int32 → (Mm → Int32 → Prop) → Prop) (p1 : Int32) (hd0 : 10 ≤ d) (hP : ∀ (M : Mm) (p1 : Int32) (K : Mm → Int32 → Prop), P M p1 K → Ctr (gL g) E yX8_part0 cX8_part0 2 (some .boolean) d [.ref (eA E 74), .int p1] M (QI E K))  (M : Mm)  (h : wb_X8_test_37 (eN E) P p1  K M ) : AW g E A 3 (MQ (gB g) (QI E K A) (gA g) (gS g) (gk g) (gn g) A) 37 [(0, .ref (eA E 74)), (1, .int p1)] [] M := by
  unfold wb_X8_test_37 at h
  refine aw_aload_n X dX8_test_37 0 rfl ?_
  refine aw_get X dX8_test_38 (X.lt (by decide)) (sh_12 (rfl : tp 74 = 12) _) fl_RX8_229 rfl ?_
  refine aw_top (fun v9 ev9 => ?_)
  have h := h v9 ev9
  refine aw_istore_n (lv' := [(2, .int v9), (0, .ref (eA E 74)), (1, .int p1)]) X dX8_test_41 (by decide) rfl ?_
  refine aw_aload_n X dX8_test_42 1 rfl ?_
  refine ca_v X (rn_v X [] [] (X.lt (by decide)) (sh_12 (rfl : tp 74 = 12) _) rfl rfl kw1293 kw80 (c_X8_nextToken h) cal_yX8_nextToken kw1291 (by omega) rfl rfl (Nat.le_of_ble_eq_true rfl) dX8_test_43) (fun M10 h => ?_)
  refine aw_aload_n X dX8_test_46 1 rfl ?_
  refine aw_iload_n X dX8_test_47 2 rfl ?_
  refine ca_i X (rn_v X [.int p1] [] (X.lt (by decide)) (sh_12 (rfl : tp 74 = 12) _) rfl rfl kw1333 kw89 (c_X8_sum hd0 hP h) cal_yX8_sum kw1331 (by omega) rfl rfl (Nat.le_of_ble_eq_true rfl) dX8_test_48) (fun M12 r13 h => ?_)
  refine aw_if_ne (tgt := 56) X dX8_test_51 (by decide) (fun c => ?_) (fun c => ?_)
  · have h := h.1 c
    refine aw_aload_n X dX8_test_56 1 rfl ?_
    refine aw_iconst (v := 2) X dX8_test_57 (by decide) ?_
    refine aw_iload_n X dX8_test_58 0 rfl ?_
    refine ca_v X (rn_v X [.int 2, .int v9] [] (X.lt (by decide)) (sh_12 (rfl : tp 74 = 12) _) rfl rfl kw1345 kw92 (c_X8_step h) cal_yX8_step kw1343 (by omega) rfl rfl (Nat.le_of_ble_eq_true rfl) dX8_test_59) (fun M14 h => ?_)
    refine aw_iconst (v := 1) X dX8_test_62 (by decide) ?_
    exact aw_zret X dX8_test_63 (by decide) h
  · have h := h.2 c
    refine aw_iconst (v := 0) X dX8_test_54 (by decide) ?_
    exact aw_zret X dX8_test_55 (by decide) h
def wq_X8_test (n : Nat) (P : Mm → Int32 → (Mm → Int32 → Prop) → Prop) (M : Mm) (p1 : Int32) (K : Mm → Int32 → Prop) : Prop := wq_X8_sum n P M p1 (fun M1 r2 => (¬ r2 = 0 → wp_X8_isSign n M1 60 (fun M3 r4 => (¬ r4 = 0 → wb_X8_test_37 n P p1 K M3 ) ∧ (r4 = 0 → wp_X8_isSign n M3 61 (fun M5 r6 => (¬ r6 = 0 → wb_X8_test_37 n P p1 K M5 ) ∧ (r6 = 0 → wp_X8_isSign n M5 62 (fun M7 r8 => (r8 = 0 → K M7 1) ∧ (¬ r8 = 0 → wb_X8_test_37 n P p1 K M7 ))))))) ∧ (r2 = 0 → K M1 0))
set_option maxHeartbeats 4000000 in
set_option maxRecDepth 100000 in
theorem c_X8_test {d : Nat} {l : Launch} {E : En} {M : Mm} {P : Mm → Int32 → (Mm → Int32 → Prop) → Prop} {p1 : Int32} {K : Mm → Int32 → Prop} (hd0 : 10 ≤ d) (hP : ∀ (M : Mm) (p1 : Int32) (K : Mm → Int32 → Prop), P M p1 K → Ctr l E yX8_part0 cX8_part0 2 (some .boolean) d [.ref (eA E 74), .int p1] M (QI E K)) (h : wq_X8_test (eN E) P M p1 K) : Ctr l E yX8_test cX8_test 3 (some .boolean) (d + 3) [.ref (eA E 74), .int p1] M (QI E K) := by
  refine Ctr.of (by decide +kernel) (Nat.le_of_ble_eq_true rfl) (fun g A hgl X => ?_)
  subst hgl
  have X : CX g cX8_test RX8 (some .boolean) (d + 3) E A 3 := X
  show AW g E A 3 _ 0 [(0, .ref (eA E 74)), (1, .int p1)] [] M
  unfold wq_X8_test at h
  refine aw_aload_n X dX8_test_0 0 rfl ?_
  refine aw_iload_n X dX8_test_1 1 rfl ?_
  refine ca_i X (rn_v X [.int p1] [] (X.lt (by decide)) (sh_12 (rfl : tp 74 = 12) _) rfl rfl kw1333 kw89 (c_X8_sum hd0 hP h) cal_yX8_sum kw1331 (by omega) rfl rfl (Nat.le_of_ble_eq_true rfl) dX8_test_2) (fun M1 r2 h => ?_)
  refine aw_if_ne (tgt := 10) X dX8_test_5 (by decide) (fun c => ?_) (fun c => ?_)
  · have h := h.1 c
    refine aw_aload_n X dX8_test_10 0 rfl ?_
    refine aw_bipush (v := 60) X dX8_test_11 (by decide) ?_
    refine ca_i X (rn_v X [.int 60] [] (X.lt (by decide)) (sh_12 (rfl : tp 74 = 12) _) rfl rfl kw1352 kw93 (c_X8_isSign h) cal_yX8_isSign kw1350 (by omega) rfl rfl (Nat.le_of_ble_eq_true rfl) dX8_test_13) (fun M3 r4 h => ?_)
    refine aw_if_ne (tgt := 37) X dX8_test_16 (by decide) (fun c => ?_) (fun c => ?_)
    · have h := h.1 c
      exact aw_sub [0, 1] rfl (lb_X8_test_37 X P p1 hd0 hP  _ h)
    · have h := h.2 c
      refine aw_aload_n X dX8_test_19 0 rfl ?_
      refine aw_bipush (v := 61) X dX8_test_20 (by decide) ?_
      refine ca_i X (rn_v X [.int 61] [] (X.lt (by decide)) (sh_12 (rfl : tp 74 = 12) _) rfl rfl kw1352 kw93 (c_X8_isSign h) cal_yX8_isSign kw1350 (by omega) rfl rfl (Nat.le_of_ble_eq_true rfl) dX8_test_22) (fun M5 r6 h => ?_)
      refine aw_if_ne (tgt := 37) X dX8_test_25 (by decide) (fun c => ?_) (fun c => ?_)
      · have h := h.1 c
        exact aw_sub [0, 1] rfl (lb_X8_test_37 X P p1 hd0 hP  _ h)
      · have h := h.2 c
        refine aw_aload_n X dX8_test_28 0 rfl ?_
        refine aw_bipush (v := 62) X dX8_test_29 (by decide) ?_
        refine ca_i X (rn_v X [.int 62] [] (X.lt (by decide)) (sh_12 (rfl : tp 74 = 12) _) rfl rfl kw1352 kw93 (c_X8_isSign h) cal_yX8_isSign kw1350 (by omega) rfl rfl (Nat.le_of_ble_eq_true rfl) dX8_test_31) (fun M7 r8 h => ?_)
        refine aw_if_eq (tgt := 62) X dX8_test_34 (by decide) (fun c => ?_) (fun c => ?_)
        · have h := h.1 c
          refine aw_iconst (v := 1) X dX8_test_62 (by decide) ?_
          exact aw_zret X dX8_test_63 (by decide) h
        · have h := h.2 c
          exact aw_sub [0, 1] rfl (lb_X8_test_37 X P p1 hd0 hP  _ h)
  · have h := h.2 c
    refine aw_iconst (v := 0) X dX8_test_8 (by decide) ?_
    exact aw_zret X dX8_test_9 (by decide) h
def wl_X8_both_10 (n : Nat) (P : Mm → Int32 → (Mm → Int32 → Prop) → Prop) (p1 : Int32)  (K : Mm → Int32 → Prop) : Nat → Mm → Prop
  | 0, _ => False
  | k + 1, M => wp_X8_isSign n M 38 (fun M3 r4 => (r4 = 0 → K M3 1) ∧ (¬ r4 = 0 → wp_X8_nextToken n M3 (fun M5 => wq_X8_test n P M5 p1 (fun M7 r8 => (¬ r8 = 0 → wp_X8_step n M7 2 38 (fun M9 => wl_X8_both_10 n P p1 K k M9)) ∧ (r8 = 0 → K M7 0)))))
set_option maxHeartbeats 4000000 in
set_option maxRecDepth 100000 in
theorem lw_X8_both_10 {d : Nat} {g : Gm} {E : En} {A : Nat → Prop} {K : Mm → Int32 → Prop} (X : CX g cX8_both RX8 (some .boolean) (d + 4) E A 2) (P : Mm → Int32 → (Mm → Int32 → Prop) → Prop) (p1 : Int32) (hd0 : 10 ≤ d) (hP : ∀ (M : Mm) (p1 : Int32) (K : Mm → Int32 → Prop), P M p1 K → Ctr (gL g) E yX8_part0 cX8_part0 2 (some .boolean) d [.ref (eA E 74), .int p1] M (QI E K))  : ∀ (k : Nat) (M : Mm) , wl_X8_both_10 (eN E) P p1  K k M  → AW g E A 2 (MQ (gB g) (QI E K A) (gA g) (gS g) (gk g) (gn g) A) 10 [(0, .ref (eA E 74)), (1, .int p1)] [] M := by
  intro k
  induction k with
  | zero => intro M  h; exact h.elim
  | succ k ih =>
    intro M  h
    rw [wl_X8_both_10] at h
    refine aw_aload_n X dX8_both_10 0 rfl ?_
    refine aw_bipush (v := 38) X dX8_both_11 (by decide) ?_
    refine ca_i X (rn_v X [.int 38] [] (X.lt (by decide)) (sh_12 (rfl : tp 74 = 12) _) rfl rfl kw1352 kw93 (c_X8_isSign h) cal_yX8_isSign kw1350 (by omega) rfl rfl (Nat.le_of_ble_eq_true rfl) dX8_both_13) (fun M3 r4 h => ?_)
    refine aw_if_eq (tgt := 43) X dX8_both_16 (by decide) (fun c => ?_) (fun c => ?_)
    · have h := h.1 c
      refine aw_iconst (v := 1) X dX8_both_43 (by decide) ?_
      exact aw_zret X dX8_both_44 (by decide) h
    · have h := h.2 c
      refine aw_aload_n X dX8_both_19 0 rfl ?_
      refine ca_v X (rn_v X [] [] (X.lt (by decide)) (sh_12 (rfl : tp 74 = 12) _) rfl rfl kw1293 kw80 (c_X8_nextToken h) cal_yX8_nextToken kw1291 (by omega) rfl rfl (Nat.le_of_ble_eq_true rfl) dX8_both_20) (fun M5 h => ?_)
      refine aw_aload_n X dX8_both_23 0 rfl ?_
      refine aw_iload_n X dX8_both_24 1 rfl ?_
      refine ca_i X (rn_v X [.int p1] [] (X.lt (by decide)) (sh_12 (rfl : tp 74 = 12) _) rfl rfl kw1329 kw88 (c_X8_test hd0 hP h) cal_yX8_test kw1327 (by omega) rfl rfl (Nat.le_of_ble_eq_true rfl) dX8_both_25) (fun M7 r8 h => ?_)
      refine aw_if_ne (tgt := 33) X dX8_both_28 (by decide) (fun c => ?_) (fun c => ?_)
      · have h := h.1 c
        refine aw_aload_n X dX8_both_33 0 rfl ?_
        refine aw_iconst (v := 2) X dX8_both_34 (by decide) ?_
        refine aw_bipush (v := 38) X dX8_both_35 (by decide) ?_
        refine ca_v X (rn_v X [.int 2, .int 38] [] (X.lt (by decide)) (sh_12 (rfl : tp 74 = 12) _) rfl rfl kw1345 kw92 (c_X8_step h) cal_yX8_step kw1343 (by omega) rfl rfl (Nat.le_of_ble_eq_true rfl) dX8_both_37) (fun M9 h => ?_)
        refine aw_goto (tgt := 10) X dX8_both_40 (by decide) ?_
        exact aw_sub [0, 1] rfl (ih _ h)
      · have h := h.2 c
        refine aw_iconst (v := 0) X dX8_both_31 (by decide) ?_
        exact aw_zret X dX8_both_32 (by decide) h
def wq_X8_both (n : Nat) (P : Mm → Int32 → (Mm → Int32 → Prop) → Prop) (M : Mm) (p1 : Int32) (K : Mm → Int32 → Prop) : Prop := wq_X8_test n P M p1 (fun M1 r2 => (¬ r2 = 0 → ∃ kf : Nat, wl_X8_both_10 n P p1 K kf M1) ∧ (r2 = 0 → K M1 0))
set_option maxHeartbeats 4000000 in
set_option maxRecDepth 100000 in
theorem c_X8_both {d : Nat} {l : Launch} {E : En} {M : Mm} {P : Mm → Int32 → (Mm → Int32 → Prop) → Prop} {p1 : Int32} {K : Mm → Int32 → Prop} (hd0 : 10 ≤ d) (hP : ∀ (M : Mm) (p1 : Int32) (K : Mm → Int32 → Prop), P M p1 K → Ctr l E yX8_part0 cX8_part0 2 (some .boolean) d [.ref (eA E 74), .int p1] M (QI E K)) (h : wq_X8_both (eN E) P M p1 K) : Ctr l E yX8_both cX8_both 2 (some .boolean) (d + 4) [.ref (eA E 74), .int p1] M (QI E K) := by
  refine Ctr.of (by decide +kernel) (Nat.le_of_ble_eq_true rfl) (fun g A hgl X => ?_)
  subst hgl
  have X : CX g cX8_both RX8 (some .boolean) (d + 4) E A 2 := X
  show AW g E A 2 _ 0 [(0, .ref (eA E 74)), (1, .int p1)] [] M
  unfold wq_X8_both at h
  refine aw_aload_n X dX8_both_0 0 rfl ?_
  refine aw_iload_n X dX8_both_1 1 rfl ?_
  refine ca_i X (rn_v X [.int p1] [] (X.lt (by decide)) (sh_12 (rfl : tp 74 = 12) _) rfl rfl kw1329 kw88 (c_X8_test hd0 hP h) cal_yX8_test kw1327 (by omega) rfl rfl (Nat.le_of_ble_eq_true rfl) dX8_both_2) (fun M1 r2 h => ?_)
  refine aw_if_ne (tgt := 10) X dX8_both_5 (by decide) (fun c => ?_) (fun c => ?_)
  · have h := h.1 c
    obtain ⟨kf, h⟩ := h
    exact aw_sub [0, 1] rfl (lw_X8_both_10 X P p1 hd0 hP  kf _ h)
  · have h := h.2 c
    refine aw_iconst (v := 0) X dX8_both_8 (by decide) ?_
    exact aw_zret X dX8_both_9 (by decide) h
def wl_X8_either_10 (n : Nat) (P : Mm → Int32 → (Mm → Int32 → Prop) → Prop) (p1 : Int32)  (K : Mm → Int32 → Prop) : Nat → Mm → Prop
  | 0, _ => False
  | k + 1, M => wp_X8_isSign n M 124 (fun M3 r4 => (r4 = 0 → K M3 1) ∧ (¬ r4 = 0 → wp_X8_nextToken n M3 (fun M5 => wq_X8_both n P M5 p1 (fun M7 r8 => (¬ r8 = 0 → wp_X8_step n M7 2 124 (fun M9 => wl_X8_either_10 n P p1 K k M9)) ∧ (r8 = 0 → K M7 0)))))
set_option maxHeartbeats 4000000 in
set_option maxRecDepth 100000 in
theorem lw_X8_either_10 {d : Nat} {g : Gm} {E : En} {A : Nat → Prop} {K : Mm → Int32 → Prop} (X : CX g cX8_either RX8 (some .boolean) (d + 5) E A 2) (P : Mm → Int32 → (Mm → Int32 → Prop) → Prop) (p1 : Int32) (hd0 : 10 ≤ d) (hP : ∀ (M : Mm) (p1 : Int32) (K : Mm → Int32 → Prop), P M p1 K → Ctr (gL g) E yX8_part0 cX8_part0 2 (some .boolean) d [.ref (eA E 74), .int p1] M (QI E K))  : ∀ (k : Nat) (M : Mm) , wl_X8_either_10 (eN E) P p1  K k M  → AW g E A 2 (MQ (gB g) (QI E K A) (gA g) (gS g) (gk g) (gn g) A) 10 [(0, .ref (eA E 74)), (1, .int p1)] [] M := by
  intro k
  induction k with
  | zero => intro M  h; exact h.elim
  | succ k ih =>
    intro M  h
    rw [wl_X8_either_10] at h
    refine aw_aload_n X dX8_either_10 0 rfl ?_
    refine aw_bipush (v := 124) X dX8_either_11 (by decide) ?_
    refine ca_i X (rn_v X [.int 124] [] (X.lt (by decide)) (sh_12 (rfl : tp 74 = 12) _) rfl rfl kw1352 kw93 (c_X8_isSign h) cal_yX8_isSign kw1350 (by omega) rfl rfl (Nat.le_of_ble_eq_true rfl) dX8_either_13) (fun M3 r4 h => ?_)
    refine aw_if_eq (tgt := 43) X dX8_either_16 (by decide) (fun c => ?_) (fun c => ?_)
    · have h := h.1 c
      refine aw_iconst (v := 1) X dX8_either_43 (by decide) ?_
      exact aw_zret X dX8_either_44 (by decide) h
    · have h := h.2 c
      refine aw_aload_n X dX8_either_19 0 rfl ?_
      refine ca_v X (rn_v X [] [] (X.lt (by decide)) (sh_12 (rfl : tp 74 = 12) _) rfl rfl kw1293 kw80 (c_X8_nextToken h) cal_yX8_nextToken kw1291 (by omega) rfl rfl (Nat.le_of_ble_eq_true rfl) dX8_either_20) (fun M5 h => ?_)
      refine aw_aload_n X dX8_either_23 0 rfl ?_
      refine aw_iload_n X dX8_either_24 1 rfl ?_
      refine ca_i X (rn_v X [.int p1] [] (X.lt (by decide)) (sh_12 (rfl : tp 74 = 12) _) rfl rfl kw1325 kw87 (c_X8_both hd0 hP h) cal_yX8_both kw1323 (by omega) rfl rfl (Nat.le_of_ble_eq_true rfl) dX8_either_25) (fun M7 r8 h => ?_)
      refine aw_if_ne (tgt := 33) X dX8_either_28 (by decide) (fun c => ?_) (fun c => ?_)
      · have h := h.1 c
        refine aw_aload_n X dX8_either_33 0 rfl ?_
        refine aw_iconst (v := 2) X dX8_either_34 (by decide) ?_
        refine aw_bipush (v := 124) X dX8_either_35 (by decide) ?_
        refine ca_v X (rn_v X [.int 2, .int 124] [] (X.lt (by decide)) (sh_12 (rfl : tp 74 = 12) _) rfl rfl kw1345 kw92 (c_X8_step h) cal_yX8_step kw1343 (by omega) rfl rfl (Nat.le_of_ble_eq_true rfl) dX8_either_37) (fun M9 h => ?_)
        refine aw_goto (tgt := 10) X dX8_either_40 (by decide) ?_
        exact aw_sub [0, 1] rfl (ih _ h)
      · have h := h.2 c
        refine aw_iconst (v := 0) X dX8_either_31 (by decide) ?_
        exact aw_zret X dX8_either_32 (by decide) h
def wq_X8_either (n : Nat) (P : Mm → Int32 → (Mm → Int32 → Prop) → Prop) (M : Mm) (p1 : Int32) (K : Mm → Int32 → Prop) : Prop := wq_X8_both n P M p1 (fun M1 r2 => (¬ r2 = 0 → ∃ kf : Nat, wl_X8_either_10 n P p1 K kf M1) ∧ (r2 = 0 → K M1 0))
set_option maxHeartbeats 4000000 in
set_option maxRecDepth 100000 in
theorem c_X8_either {d : Nat} {l : Launch} {E : En} {M : Mm} {P : Mm → Int32 → (Mm → Int32 → Prop) → Prop} {p1 : Int32} {K : Mm → Int32 → Prop} (hd0 : 10 ≤ d) (hP : ∀ (M : Mm) (p1 : Int32) (K : Mm → Int32 → Prop), P M p1 K → Ctr l E yX8_part0 cX8_part0 2 (some .boolean) d [.ref (eA E 74), .int p1] M (QI E K)) (h : wq_X8_either (eN E) P M p1 K) : Ctr l E yX8_either cX8_either 2 (some .boolean) (d + 5) [.ref (eA E 74), .int p1] M (QI E K) := by
  refine Ctr.of (by decide +kernel) (Nat.le_of_ble_eq_true rfl) (fun g A hgl X => ?_)
  subst hgl
  have X : CX g cX8_either RX8 (some .boolean) (d + 5) E A 2 := X
  show AW g E A 2 _ 0 [(0, .ref (eA E 74)), (1, .int p1)] [] M
  unfold wq_X8_either at h
  refine aw_aload_n X dX8_either_0 0 rfl ?_
  refine aw_iload_n X dX8_either_1 1 rfl ?_
  refine ca_i X (rn_v X [.int p1] [] (X.lt (by decide)) (sh_12 (rfl : tp 74 = 12) _) rfl rfl kw1325 kw87 (c_X8_both hd0 hP h) cal_yX8_both kw1323 (by omega) rfl rfl (Nat.le_of_ble_eq_true rfl) dX8_either_2) (fun M1 r2 h => ?_)
  refine aw_if_ne (tgt := 10) X dX8_either_5 (by decide) (fun c => ?_) (fun c => ?_)
  · have h := h.1 c
    obtain ⟨kf, h⟩ := h
    exact aw_sub [0, 1] rfl (lw_X8_either_10 X P p1 hd0 hP  kf _ h)
  · have h := h.2 c
    refine aw_iconst (v := 0) X dX8_either_8 (by decide) ?_
    exact aw_zret X dX8_either_9 (by decide) h
def wb_X8_part0_145 (n : Nat) (P : Mm → Int32 → (Mm → Int32 → Prop) → Prop) (p1 : Int32)  (K : Mm → Int32 → Prop) (M : Mm)  : Prop := wp_X8_isSign n M 40 (fun M23 r24 => (r24 = 0 → K M23 0) ∧ (¬ r24 = 0 → (¬ (M23 74 23) = 8 → ∀ M25 : Mm, M25 = wr M23 74 23 ((M23 74 23) + 1) → wp_X8_nextToken n M25 (fun M26 => wq_X8_either n P M26 p1 (fun M28 r29 => (r29 = 0 → K M28 0) ∧ (¬ r29 = 0 → wp_X8_isSign n M28 41 (fun M30 r31 => (¬ r31 = 0 → ∀ M32 : Mm, M32 = wr M30 74 23 ((M30 74 23) - 1) → wp_X8_nextToken n M32 (fun M33 => K M33 1)) ∧ (r31 = 0 → K M30 0)))))) ∧ ((M23 74 23) = 8 → K M23 0)))
set_option maxHeartbeats 4000000 in
set_option maxRecDepth 100000 in
theorem lb_X8_part0_145 {d : Nat} {g : Gm} {E : En} {A : Nat → Prop} {K : Mm → Int32 → Prop} (X : CX g cX8_part0 RX8 (some .boolean) (d + 6) E A 2) (P : Mm → Int32 → (Mm → Int32 → Prop) → Prop) (p1 : Int32) (hd0 : 10 ≤ d) (hP : ∀ (M : Mm) (p1 : Int32) (K : Mm → Int32 → Prop), P M p1 K → Ctr (gL g) E yX8_part0 cX8_part0 2 (some .boolean) d [.ref (eA E 74), .int p1] M (QI E K))  (M : Mm)  (h : wb_X8_part0_145 (eN E) P p1  K M ) : AW g E A 2 (MQ (gB g) (QI E K A) (gA g) (gS g) (gk g) (gn g) A) 145 [(0, .ref (eA E 74)), (1, .int p1)] [] M := by
  unfold wb_X8_part0_145 at h
  refine aw_aload_n X dX8_part0_145 0 rfl ?_
  refine aw_bipush (v := 40) X dX8_part0_146 (by decide) ?_
  refine ca_i X (rn_v X [.int 40] [] (X.lt (by decide)) (sh_12 (rfl : tp 74 = 12) _) rfl rfl kw1352 kw93 (c_X8_isSign h) cal_yX8_isSign kw1350 (by omega) rfl rfl (Nat.le_of_ble_eq_true rfl) dX8_part0_148) (fun M23 r24 h => ?_)
  refine aw_if_eq (tgt := 163) X dX8_part0_151 (by decide) (fun c => ?_) (fun c => ?_)
  · have h := h.1 c
    refine aw_iconst (v := 0) X dX8_part0_163 (by decide) ?_
    exact aw_zret X dX8_part0_164 (by decide) h
  · have h := h.2 c
    refine aw_aload_n X dX8_part0_154 0 rfl ?_
    refine aw_get X dX8_part0_155 (X.lt (by decide)) (sh_12 (rfl : tp 74 = 12) _) fl_RX8_285 rfl ?_
    refine aw_bipush (v := 8) X dX8_part0_158 (by decide) ?_
    refine aw_icmp_ne (tgt := 165) X dX8_part0_160 (by decide) (fun c => ?_) (fun c => ?_)
    · have h := h.1 c
      refine aw_aload_n X dX8_part0_165 0 rfl ?_
      refine aw_dup X dX8_part0_166 rfl ?_
      refine aw_get X dX8_part0_167 (X.lt (by decide)) (sh_12 (rfl : tp 74 = 12) _) fl_RX8_285 rfl ?_
      refine aw_iconst (v := 1) X dX8_part0_170 (by decide) ?_
      refine aw_iadd X dX8_part0_171 ?_
      refine aw_put X dX8_part0_172 (X.lt (by decide)) (sh_12 (rfl : tp 74 = 12) _) fl_RX8_285 fw_8_23 (Nat.le_of_ble_eq_true rfl) (sp_12_23 (rfl : tp 74 = 12) _ _) (fun M25 eM25 => ?_)
      have h := h M25 eM25
      refine aw_aload_n X dX8_part0_175 0 rfl ?_
      refine ca_v X (rn_v X [] [] (X.lt (by decide)) (sh_12 (rfl : tp 74 = 12) _) rfl rfl kw1293 kw80 (c_X8_nextToken h) cal_yX8_nextToken kw1291 (by omega) rfl rfl (Nat.le_of_ble_eq_true rfl) dX8_part0_176) (fun M26 h => ?_)
      refine aw_aload_n X dX8_part0_179 0 rfl ?_
      refine aw_iload_n X dX8_part0_180 1 rfl ?_
      refine ca_i X (rn_v X [.int p1] [] (X.lt (by decide)) (sh_12 (rfl : tp 74 = 12) _) rfl rfl kw1321 kw86 (c_X8_either hd0 hP h) cal_yX8_either kw1319 (by omega) rfl rfl (Nat.le_of_ble_eq_true rfl) dX8_part0_181) (fun M28 r29 h => ?_)
      refine aw_if_eq (tgt := 196) X dX8_part0_184 (by decide) (fun c => ?_) (fun c => ?_)
      · have h := h.1 c
        refine aw_iconst (v := 0) X dX8_part0_196 (by decide) ?_
        exact aw_zret X dX8_part0_197 (by decide) h
      · have h := h.2 c
        refine aw_aload_n X dX8_part0_187 0 rfl ?_
        refine aw_bipush (v := 41) X dX8_part0_188 (by decide) ?_
        refine ca_i X (rn_v X [.int 41] [] (X.lt (by decide)) (sh_12 (rfl : tp 74 = 12) _) rfl rfl kw1352 kw93 (c_X8_isSign h) cal_yX8_isSign kw1350 (by omega) rfl rfl (Nat.le_of_ble_eq_true rfl) dX8_part0_190) (fun M30 r31 h => ?_)
        refine aw_if_ne (tgt := 198) X dX8_part0_193 (by decide) (fun c => ?_) (fun c => ?_)
        · have h := h.1 c
          refine aw_aload_n X dX8_part0_198 0 rfl ?_
          refine aw_dup X dX8_part0_199 rfl ?_
          refine aw_get X dX8_part0_200 (X.lt (by decide)) (sh_12 (rfl : tp 74 = 12) _) fl_RX8_285 rfl ?_
          refine aw_iconst (v := 1) X dX8_part0_203 (by decide) ?_
          refine aw_isub X dX8_part0_204 ?_
          refine aw_put X dX8_part0_205 (X.lt (by decide)) (sh_12 (rfl : tp 74 = 12) _) fl_RX8_285 fw_8_23 (Nat.le_of_ble_eq_true rfl) (sp_12_23 (rfl : tp 74 = 12) _ _) (fun M32 eM32 => ?_)
          have h := h M32 eM32
          refine aw_aload_n X dX8_part0_208 0 rfl ?_
          refine ca_v X (rn_v X [] [] (X.lt (by decide)) (sh_12 (rfl : tp 74 = 12) _) rfl rfl kw1293 kw80 (c_X8_nextToken h) cal_yX8_nextToken kw1291 (by omega) rfl rfl (Nat.le_of_ble_eq_true rfl) dX8_part0_209) (fun M33 h => ?_)
          refine aw_iconst (v := 1) X dX8_part0_212 (by decide) ?_
          exact aw_zret X dX8_part0_213 (by decide) h
        · have h := h.2 c
          refine aw_iconst (v := 0) X dX8_part0_196 (by decide) ?_
          exact aw_zret X dX8_part0_197 (by decide) h
    · have h := h.2 c
      refine aw_iconst (v := 0) X dX8_part0_163 (by decide) ?_
      exact aw_zret X dX8_part0_164 (by decide) h
def wb_X8_part0_84 (n : Nat) (P : Mm → Int32 → (Mm → Int32 → Prop) → Prop) (p1 : Int32)  (K : Mm → Int32 → Prop) (M : Mm)  : Prop := wp_X8_isSign n M 33 (fun M13 r14 => (r14 = 0 → wb_X8_part0_145 n P p1 K M13 ) ∧ (¬ r14 = 0 → (8 ≤ (M13 74 24) → wb_X8_part0_145 n P p1 K M13 ) ∧ (¬ 8 ≤ (M13 74 24) → ∀ M15 : Mm, M15 = wr M13 74 24 ((M13 74 24) + 1) → wp_X8_nextToken n M15 (fun M16 => P M16 p1 (fun M18 r19 => (¬ r19 = 0 → ∀ M20 : Mm, M20 = wr M18 74 24 ((M18 74 24) - 1) → wp_X8_step n M20 2 33 (fun M21 => K M21 1)) ∧ (r19 = 0 → K M18 0))))))
set_option maxHeartbeats 4000000 in
set_option maxRecDepth 100000 in
theorem lb_X8_part0_84 {d : Nat} {g : Gm} {E : En} {A : Nat → Prop} {K : Mm → Int32 → Prop} (X : CX g cX8_part0 RX8 (some .boolean) (d + 6) E A 2) (P : Mm → Int32 → (Mm → Int32 → Prop) → Prop) (p1 : Int32) (hd0 : 10 ≤ d) (hP : ∀ (M : Mm) (p1 : Int32) (K : Mm → Int32 → Prop), P M p1 K → Ctr (gL g) E yX8_part0 cX8_part0 2 (some .boolean) d [.ref (eA E 74), .int p1] M (QI E K))  (M : Mm)  (h : wb_X8_part0_84 (eN E) P p1  K M ) : AW g E A 2 (MQ (gB g) (QI E K A) (gA g) (gS g) (gk g) (gn g) A) 84 [(0, .ref (eA E 74)), (1, .int p1)] [] M := by
  unfold wb_X8_part0_84 at h
  refine aw_aload_n X dX8_part0_84 0 rfl ?_
  refine aw_bipush (v := 33) X dX8_part0_85 (by decide) ?_
  refine ca_i X (rn_v X [.int 33] [] (X.lt (by decide)) (sh_12 (rfl : tp 74 = 12) _) rfl rfl kw1352 kw93 (c_X8_isSign h) cal_yX8_isSign kw1350 (by omega) rfl rfl (Nat.le_of_ble_eq_true rfl) dX8_part0_87) (fun M13 r14 h => ?_)
  refine aw_if_eq (tgt := 145) X dX8_part0_90 (by decide) (fun c => ?_) (fun c => ?_)
  · have h := h.1 c
    exact aw_sub [0, 1] rfl (lb_X8_part0_145 X P p1 hd0 hP  _ h)
  · have h := h.2 c
    refine aw_aload_n X dX8_part0_93 0 rfl ?_
    refine aw_get X dX8_part0_94 (X.lt (by decide)) (sh_12 (rfl : tp 74 = 12) _) fl_RX8_282 rfl ?_
    refine aw_bipush (v := 8) X dX8_part0_97 (by decide) ?_
    refine aw_icmp_ge (tgt := 145) X dX8_part0_99 (by decide) (fun c => ?_) (fun c => ?_)
    · have h := h.1 c
      exact aw_sub [0, 1] rfl (lb_X8_part0_145 X P p1 hd0 hP  _ h)
    · have h := h.2 c
      refine aw_aload_n X dX8_part0_102 0 rfl ?_
      refine aw_dup X dX8_part0_103 rfl ?_
      refine aw_get X dX8_part0_104 (X.lt (by decide)) (sh_12 (rfl : tp 74 = 12) _) fl_RX8_282 rfl ?_
      refine aw_iconst (v := 1) X dX8_part0_107 (by decide) ?_
      refine aw_iadd X dX8_part0_108 ?_
      refine aw_put X dX8_part0_109 (X.lt (by decide)) (sh_12 (rfl : tp 74 = 12) _) fl_RX8_282 fw_8_24 (Nat.le_of_ble_eq_true rfl) (sp_12_24 (rfl : tp 74 = 12) _ _) (fun M15 eM15 => ?_)
      have h := h M15 eM15
      refine aw_aload_n X dX8_part0_112 0 rfl ?_
      refine ca_v X (rn_v X [] [] (X.lt (by decide)) (sh_12 (rfl : tp 74 = 12) _) rfl rfl kw1293 kw80 (c_X8_nextToken h) cal_yX8_nextToken kw1291 (by omega) rfl rfl (Nat.le_of_ble_eq_true rfl) dX8_part0_113) (fun M16 h => ?_)
      refine aw_aload_n X dX8_part0_116 0 rfl ?_
      refine aw_iload_n X dX8_part0_117 1 rfl ?_
      refine ca_i X (rn_v X [.int p1] [] (X.lt (by decide)) (sh_12 (rfl : tp 74 = 12) _) rfl rfl kw1341 kw91 (hP _ _ _ h) cal_yX8_part0 kw1339 (by omega) rfl rfl (Nat.le_of_ble_eq_true rfl) dX8_part0_118) (fun M18 r19 h => ?_)
      refine aw_if_ne (tgt := 126) X dX8_part0_121 (by decide) (fun c => ?_) (fun c => ?_)
      · have h := h.1 c
        refine aw_aload_n X dX8_part0_126 0 rfl ?_
        refine aw_dup X dX8_part0_127 rfl ?_
        refine aw_get X dX8_part0_128 (X.lt (by decide)) (sh_12 (rfl : tp 74 = 12) _) fl_RX8_282 rfl ?_
        refine aw_iconst (v := 1) X dX8_part0_131 (by decide) ?_
        refine aw_isub X dX8_part0_132 ?_
        refine aw_put X dX8_part0_133 (X.lt (by decide)) (sh_12 (rfl : tp 74 = 12) _) fl_RX8_282 fw_8_24 (Nat.le_of_ble_eq_true rfl) (sp_12_24 (rfl : tp 74 = 12) _ _) (fun M20 eM20 => ?_)
        have h := h M20 eM20
        refine aw_aload_n X dX8_part0_136 0 rfl ?_
        refine aw_iconst (v := 2) X dX8_part0_137 (by decide) ?_
        refine aw_bipush (v := 33) X dX8_part0_138 (by decide) ?_
        refine ca_v X (rn_v X [.int 2, .int 33] [] (X.lt (by decide)) (sh_12 (rfl : tp 74 = 12) _) rfl rfl kw1345 kw92 (c_X8_step h) cal_yX8_step kw1343 (by omega) rfl rfl (Nat.le_of_ble_eq_true rfl) dX8_part0_140) (fun M21 h => ?_)
        refine aw_iconst (v := 1) X dX8_part0_143 (by decide) ?_
        exact aw_zret X dX8_part0_144 (by decide) h
      · have h := h.2 c
        refine aw_iconst (v := 0) X dX8_part0_124 (by decide) ?_
        exact aw_zret X dX8_part0_125 (by decide) h
def wq_X8_part0 (n : Nat) (P : Mm → Int32 → (Mm → Int32 → Prop) → Prop) (M : Mm) (p1 : Int32) (K : Mm → Int32 → Prop) : Prop := (¬ (M 74 20) = 2 → (¬ (M 74 20) = 1 → wb_X8_part0_84 n P p1 K M ) ∧ ((M 74 20) = 1 → ((M 74 22) = 0 → wb_X8_part0_84 n P p1 K M ) ∧ (¬ (M 74 22) = 0 → wp_X8_isName n M p1 (M 74 22) (fun M1 r2 => (r2 = 0 → wb_X8_part0_84 n P p1 K M1 ) ∧ (¬ r2 = 0 → wp_X8_step n M1 1 (M1 74 22) (fun M3 => ∀ M5 : Mm, M5 = wr M3 74 27 ((M3 74 27) + 1) → wp_X8_nextToken n M5 (fun M6 => K M6 1))))))) ∧ ((M 74 20) = 2 → wp_X8_step n M 0 (M 74 21) (fun M8 => ∀ M10 : Mm, M10 = wr M8 74 27 ((M8 74 27) + 1) → wp_X8_nextToken n M10 (fun M11 => K M11 1)))
set_option maxHeartbeats 4000000 in
set_option maxRecDepth 100000 in
theorem c_X8_part0 {d : Nat} {l : Launch} {E : En} {M : Mm} {P : Mm → Int32 → (Mm → Int32 → Prop) → Prop} {p1 : Int32} {K : Mm → Int32 → Prop} (hd0 : 10 ≤ d) (hP : ∀ (M : Mm) (p1 : Int32) (K : Mm → Int32 → Prop), P M p1 K → Ctr l E yX8_part0 cX8_part0 2 (some .boolean) d [.ref (eA E 74), .int p1] M (QI E K)) (h : wq_X8_part0 (eN E) P M p1 K) : Ctr l E yX8_part0 cX8_part0 2 (some .boolean) (d + 6) [.ref (eA E 74), .int p1] M (QI E K) := by
  refine Ctr.of (by decide +kernel) (Nat.le_of_ble_eq_true rfl) (fun g A hgl X => ?_)
  subst hgl
  have X : CX g cX8_part0 RX8 (some .boolean) (d + 6) E A 2 := X
  show AW g E A 2 _ 0 [(0, .ref (eA E 74)), (1, .int p1)] [] M
  unfold wq_X8_part0 at h
  refine aw_aload_n X dX8_part0_0 0 rfl ?_
  refine aw_get X dX8_part0_1 (X.lt (by decide)) (sh_12 (rfl : tp 74 = 12) _) fl_RX8_220 rfl ?_
  refine aw_iconst (v := 2) X dX8_part0_4 (by decide) ?_
  refine aw_icmp_ne (tgt := 33) X dX8_part0_5 (by decide) (fun c => ?_) (fun c => ?_)
  · have h := h.1 c
    refine aw_aload_n X dX8_part0_33 0 rfl ?_
    refine aw_get X dX8_part0_34 (X.lt (by decide)) (sh_12 (rfl : tp 74 = 12) _) fl_RX8_220 rfl ?_
    refine aw_iconst (v := 1) X dX8_part0_37 (by decide) ?_
    refine aw_icmp_ne (tgt := 84) X dX8_part0_38 (by decide) (fun c => ?_) (fun c => ?_)
    · have h := h.1 c
      exact aw_sub [0, 1] rfl (lb_X8_part0_84 X P p1 hd0 hP  _ h)
    · have h := h.2 c
      refine aw_aload_n X dX8_part0_41 0 rfl ?_
      refine aw_get X dX8_part0_42 (X.lt (by decide)) (sh_12 (rfl : tp 74 = 12) _) fl_RX8_229 rfl ?_
      refine aw_if_eq (tgt := 84) X dX8_part0_45 (by decide) (fun c => ?_) (fun c => ?_)
      · have h := h.1 c
        exact aw_sub [0, 1] rfl (lb_X8_part0_84 X P p1 hd0 hP  _ h)
      · have h := h.2 c
        refine aw_iload_n X dX8_part0_48 1 rfl ?_
        refine aw_aload_n X dX8_part0_49 0 rfl ?_
        refine aw_get X dX8_part0_50 (X.lt (by decide)) (sh_12 (rfl : tp 74 = 12) _) fl_RX8_229 rfl ?_
        refine ca_i X (rn_s X [.int p1, .int (M 74 22)] [] kw1348 (c_X8_isName h) cal_yX8_isName kw1347 (by omega) rfl rfl (Nat.le_of_ble_eq_true rfl) dX8_part0_53) (fun M1 r2 h => ?_)
        refine aw_if_eq (tgt := 84) X dX8_part0_56 (by decide) (fun c => ?_) (fun c => ?_)
        · have h := h.1 c
          exact aw_sub [0, 1] rfl (lb_X8_part0_84 X P p1 hd0 hP  _ h)
        · have h := h.2 c
          refine aw_aload_n X dX8_part0_59 0 rfl ?_
          refine aw_iconst (v := 1) X dX8_part0_60 (by decide) ?_
          refine aw_aload_n X dX8_part0_61 0 rfl ?_
          refine aw_get X dX8_part0_62 (X.lt (by decide)) (sh_12 (rfl : tp 74 = 12) _) fl_RX8_229 rfl ?_
          refine ca_v X (rn_v X [.int 1, .int (M1 74 22)] [] (X.lt (by decide)) (sh_12 (rfl : tp 74 = 12) _) rfl rfl kw1345 kw92 (c_X8_step h) cal_yX8_step kw1343 (by omega) rfl rfl (Nat.le_of_ble_eq_true rfl) dX8_part0_65) (fun M3 h => ?_)
          refine aw_aload_n X dX8_part0_68 0 rfl ?_
          refine aw_dup X dX8_part0_69 rfl ?_
          refine aw_get X dX8_part0_70 (X.lt (by decide)) (sh_12 (rfl : tp 74 = 12) _) fl_RX8_276 rfl ?_
          refine aw_iconst (v := 1) X dX8_part0_73 (by decide) ?_
          refine aw_iadd X dX8_part0_74 ?_
          refine aw_put X dX8_part0_75 (X.lt (by decide)) (sh_12 (rfl : tp 74 = 12) _) fl_RX8_276 fw_8_27 (Nat.le_of_ble_eq_true rfl) (sp_12_27 (rfl : tp 74 = 12) _ _) (fun M5 eM5 => ?_)
          have h := h M5 eM5
          refine aw_aload_n X dX8_part0_78 0 rfl ?_
          refine ca_v X (rn_v X [] [] (X.lt (by decide)) (sh_12 (rfl : tp 74 = 12) _) rfl rfl kw1293 kw80 (c_X8_nextToken h) cal_yX8_nextToken kw1291 (by omega) rfl rfl (Nat.le_of_ble_eq_true rfl) dX8_part0_79) (fun M6 h => ?_)
          refine aw_iconst (v := 1) X dX8_part0_82 (by decide) ?_
          exact aw_zret X dX8_part0_83 (by decide) h
  · have h := h.2 c
    refine aw_aload_n X dX8_part0_8 0 rfl ?_
    refine aw_iconst (v := 0) X dX8_part0_9 (by decide) ?_
    refine aw_aload_n X dX8_part0_10 0 rfl ?_
    refine aw_get X dX8_part0_11 (X.lt (by decide)) (sh_12 (rfl : tp 74 = 12) _) fl_RX8_235 rfl ?_
    refine ca_v X (rn_v X [.int 0, .int (M 74 21)] [] (X.lt (by decide)) (sh_12 (rfl : tp 74 = 12) _) rfl rfl kw1345 kw92 (c_X8_step h) cal_yX8_step kw1343 (by omega) rfl rfl (Nat.le_of_ble_eq_true rfl) dX8_part0_14) (fun M8 h => ?_)
    refine aw_aload_n X dX8_part0_17 0 rfl ?_
    refine aw_dup X dX8_part0_18 rfl ?_
    refine aw_get X dX8_part0_19 (X.lt (by decide)) (sh_12 (rfl : tp 74 = 12) _) fl_RX8_276 rfl ?_
    refine aw_iconst (v := 1) X dX8_part0_22 (by decide) ?_
    refine aw_iadd X dX8_part0_23 ?_
    refine aw_put X dX8_part0_24 (X.lt (by decide)) (sh_12 (rfl : tp 74 = 12) _) fl_RX8_276 fw_8_27 (Nat.le_of_ble_eq_true rfl) (sp_12_27 (rfl : tp 74 = 12) _ _) (fun M10 eM10 => ?_)
    have h := h M10 eM10
    refine aw_aload_n X dX8_part0_27 0 rfl ?_
    refine ca_v X (rn_v X [] [] (X.lt (by decide)) (sh_12 (rfl : tp 74 = 12) _) rfl rfl kw1293 kw80 (c_X8_nextToken h) cal_yX8_nextToken kw1291 (by omega) rfl rfl (Nat.le_of_ble_eq_true rfl) dX8_part0_28) (fun M11 h => ?_)
    refine aw_iconst (v := 1) X dX8_part0_31 (by decide) ?_
    exact aw_zret X dX8_part0_32 (by decide) h
def wp_X8_part0 (n : Nat) : Nat → Mm → Int32 → (Mm → Int32 → Prop) → Prop
  | 0 => fun _ _ _ => False
  | k + 1 => fun M p1 K => wq_X8_part0 n (wp_X8_part0 n k) M p1 K
theorem c_X8_part0k {l : Launch} {E : En} : ∀ (k : Nat) (M : Mm) (p1 : Int32) (K : Mm → Int32 → Prop), wp_X8_part0 (eN E) k M p1 K → Ctr l E yX8_part0 cX8_part0 2 (some .boolean) (10 + 6 * k) [.ref (eA E 74), .int p1] M (QI E K)
  | 0, _, _, _, h => h.elim
  | k + 1, M, p1, K, h => c_X8_part0 (d := 10 + 6 * k) (by omega) (c_X8_part0k k) h
def wb_X8_parse_111 (n : Nat)   (K : Mm → Int32 → Prop) (M : Mm) (x1 : Int32) (x2 : Int32) : Prop := ∀ M18 : Mm, M18 = wr M 74 17 0 → (x2 = 0 → K M18 (-1)) ∧ (¬ x2 = 0 → K M18 x1)
set_option maxHeartbeats 4000000 in
set_option maxRecDepth 100000 in
theorem lb_X8_parse_111 {g : Gm} {E : En} {A : Nat → Prop} {K : Mm → Int32 → Prop} (X : CX g cX8_parse RX8 (some .int) 136 E A 3)    (M : Mm) (x1 : Int32) (x2 : Int32) (h : wb_X8_parse_111 (eN E)   K M x1 x2) : AW g E A 3 (MQ (gB g) (QI E K A) (gA g) (gS g) (gk g) (gn g) A) 111 [(0, .ref (eA E 74)), (1, .int x1), (2, .int x2)] [] M := by
  unfold wb_X8_parse_111 at h
  refine aw_aload_n X dX8_parse_111 0 rfl ?_
  refine aw_iconst (v := 0) X dX8_parse_112 (by decide) ?_
  refine aw_put X dX8_parse_113 (X.lt (by decide)) (sh_12 (rfl : tp 74 = 12) _) fl_RX8_206 fw_8_17 (Nat.le_of_ble_eq_true rfl) (sp_12_17 (rfl : tp 74 = 12) _ _) (fun M18 eM18 => ?_)
  have h := h M18 eM18
  refine aw_iload_n X dX8_parse_116 2 rfl ?_
  refine aw_if_eq (tgt := 124) X dX8_parse_117 (by decide) (fun c => ?_) (fun c => ?_)
  · have h := h.1 c
    refine aw_iconst (v := (-1)) X dX8_parse_124 (by decide) ?_
    exact aw_iret X dX8_parse_125 h
  · have h := h.2 c
    refine aw_iload_n X dX8_parse_120 1 rfl ?_
    refine aw_goto (tgt := 125) X dX8_parse_121 (by decide) ?_
    exact aw_iret X dX8_parse_125 h
def wb_X8_parse_110 (n : Nat)   (K : Mm → Int32 → Prop) (M : Mm) (x1 : Int32) (s0 : Int32) : Prop := wb_X8_parse_111 n K M x1 s0
set_option maxHeartbeats 4000000 in
set_option maxRecDepth 100000 in
theorem lb_X8_parse_110 {g : Gm} {E : En} {A : Nat → Prop} {K : Mm → Int32 → Prop} (X : CX g cX8_parse RX8 (some .int) 136 E A 3)    (M : Mm) (x1 : Int32) (s0 : Int32) (h : wb_X8_parse_110 (eN E)   K M x1 s0) : AW g E A 3 (MQ (gB g) (QI E K A) (gA g) (gS g) (gk g) (gn g) A) 110 [(0, .ref (eA E 74)), (1, .int x1)] [.int s0] M := by
  unfold wb_X8_parse_110 at h
  refine aw_istore_n (lv' := [(2, .int s0), (0, .ref (eA E 74)), (1, .int x1)]) X dX8_parse_110 (by decide) rfl ?_
  exact aw_sub [1, 2, 0] rfl (lb_X8_parse_111 X   _ _ _ h)
def wb_X8_parse_109 (n : Nat)   (K : Mm → Int32 → Prop) (M : Mm) (x1 : Int32) : Prop := wb_X8_parse_110 n K M x1 0
set_option maxHeartbeats 4000000 in
set_option maxRecDepth 100000 in
theorem lb_X8_parse_109 {g : Gm} {E : En} {A : Nat → Prop} {K : Mm → Int32 → Prop} (X : CX g cX8_parse RX8 (some .int) 136 E A 3)    (M : Mm) (x1 : Int32) (h : wb_X8_parse_109 (eN E)   K M x1) : AW g E A 3 (MQ (gB g) (QI E K A) (gA g) (gS g) (gk g) (gn g) A) 109 [(0, .ref (eA E 74)), (1, .int x1)] [] M := by
  unfold wb_X8_parse_109 at h
  refine aw_iconst (v := 0) X dX8_parse_109 (by decide) ?_
  exact aw_sub [0, 1] rfl (lb_X8_parse_110 X   _ _ _ h)
def wb_X8_parse_81 (n : Nat)   (K : Mm → Int32 → Prop) (M : Mm) (x1 : Int32) (s0 : Int32) : Prop := (s0 = 0 → wb_X8_parse_111 n K M x1 s0) ∧ (¬ s0 = 0 → wp_X8_nextToken n M (fun M14 => wq_X8_either n (wp_X8_part0 n 20) M14 x1 (fun M16 r17 => (r17 = 0 → wb_X8_parse_109 n K M16 x1) ∧ (¬ r17 = 0 → (¬ (M16 74 20) = 0 → wb_X8_parse_109 n K M16 x1) ∧ ((M16 74 20) = 0 → wb_X8_parse_110 n K M16 x1 1)))))
set_option maxHeartbeats 4000000 in
set_option maxRecDepth 100000 in
theorem lb_X8_parse_81 {g : Gm} {E : En} {A : Nat → Prop} {K : Mm → Int32 → Prop} (X : CX g cX8_parse RX8 (some .int) 136 E A 3)    (M : Mm) (x1 : Int32) (s0 : Int32) (h : wb_X8_parse_81 (eN E)   K M x1 s0) : AW g E A 3 (MQ (gB g) (QI E K A) (gA g) (gS g) (gk g) (gn g) A) 81 [(0, .ref (eA E 74)), (1, .int x1)] [.int s0] M := by
  unfold wb_X8_parse_81 at h
  refine aw_istore_n (lv' := [(2, .int s0), (0, .ref (eA E 74)), (1, .int x1)]) X dX8_parse_81 (by decide) rfl ?_
  refine aw_iload_n X dX8_parse_82 0 rfl ?_
  refine aw_if_eq (tgt := 111) X dX8_parse_83 (by decide) (fun c => ?_) (fun c => ?_)
  · have h := h.1 c
    exact aw_sub [1, 2, 0] rfl (lb_X8_parse_111 X   _ _ _ h)
  · have h := h.2 c
    refine aw_aload_n X dX8_parse_86 1 rfl ?_
    refine ca_v X (rn_v X [] [] (X.lt (by decide)) (sh_12 (rfl : tp 74 = 12) _) rfl rfl kw1293 kw80 (c_X8_nextToken h) cal_yX8_nextToken kw1291 (Nat.le_of_ble_eq_true rfl) rfl rfl (Nat.le_of_ble_eq_true rfl) dX8_parse_87) (fun M14 h => ?_)
    refine aw_aload_n X dX8_parse_90 1 rfl ?_
    refine aw_iload_n X dX8_parse_91 2 rfl ?_
    refine ca_i X (rn_v X [.int x1] [] (X.lt (by decide)) (sh_12 (rfl : tp 74 = 12) _) rfl rfl kw1321 kw86 (c_X8_either (d := 130) (by decide) (c_X8_part0k 20) h) cal_yX8_either kw1319 (Nat.le_of_ble_eq_true rfl) rfl rfl (Nat.le_of_ble_eq_true rfl) dX8_parse_92) (fun M16 r17 h => ?_)
    refine aw_if_eq (tgt := 109) X dX8_parse_95 (by decide) (fun c => ?_) (fun c => ?_)
    · have h := h.1 c
      exact aw_sub [1, 2] rfl (lb_X8_parse_109 X   _ _ h)
    · have h := h.2 c
      refine aw_aload_n X dX8_parse_98 1 rfl ?_
      refine aw_get X dX8_parse_99 (X.lt (by decide)) (sh_12 (rfl : tp 74 = 12) _) fl_RX8_220 rfl ?_
      refine aw_if_ne (tgt := 109) X dX8_parse_102 (by decide) (fun c => ?_) (fun c => ?_)
      · have h := h.1 c
        exact aw_sub [1, 2] rfl (lb_X8_parse_109 X   _ _ h)
      · have h := h.2 c
        refine aw_iconst (v := 1) X dX8_parse_105 (by decide) ?_
        refine aw_goto (tgt := 110) X dX8_parse_106 (by decide) ?_
        exact aw_sub [1, 2] rfl (lb_X8_parse_110 X   _ _ _ h)
def wb_X8_parse_60 (n : Nat)   (K : Mm → Int32 → Prop) (M : Mm) (s0 : Int32) : Prop := ∀ M9 : Mm, M9 = wr M 74 26 s0 → wp_X8_nextToken n M9 (fun M10 => wp_X8_key n M10 (fun M12 r13 => (r13 < 0 → wb_X8_parse_81 n K M12 r13 0) ∧ (¬ r13 < 0 → wb_X8_parse_81 n K M12 r13 1)))
set_option maxHeartbeats 4000000 in
set_option maxRecDepth 100000 in
theorem lb_X8_parse_60 {g : Gm} {E : En} {A : Nat → Prop} {K : Mm → Int32 → Prop} (X : CX g cX8_parse RX8 (some .int) 136 E A 3)    (M : Mm) (s0 : Int32) (h : wb_X8_parse_60 (eN E)   K M s0) : AW g E A 3 (MQ (gB g) (QI E K A) (gA g) (gS g) (gk g) (gn g) A) 60 [(0, .ref (eA E 74))] [.int s0, .ref (eA E 74)] M := by
  unfold wb_X8_parse_60 at h
  refine aw_put X dX8_parse_60 (X.lt (by decide)) (sh_12 (rfl : tp 74 = 12) _) fl_RX8_246 fw_8_26 (Nat.le_of_ble_eq_true rfl) (sp_12_26 (rfl : tp 74 = 12) _ _) (fun M9 eM9 => ?_)
  have h := h M9 eM9
  refine aw_aload_n X dX8_parse_63 0 rfl ?_
  refine ca_v X (rn_v X [] [] (X.lt (by decide)) (sh_12 (rfl : tp 74 = 12) _) rfl rfl kw1293 kw80 (c_X8_nextToken h) cal_yX8_nextToken kw1291 (Nat.le_of_ble_eq_true rfl) rfl rfl (Nat.le_of_ble_eq_true rfl) dX8_parse_64) (fun M10 h => ?_)
  refine aw_aload_n X dX8_parse_67 0 rfl ?_
  refine ca_i X (rn_v X [] [] (X.lt (by decide)) (sh_12 (rfl : tp 74 = 12) _) rfl rfl kw1309 kw83 (c_X8_key h) cal_yX8_key kw1307 (Nat.le_of_ble_eq_true rfl) rfl rfl (Nat.le_of_ble_eq_true rfl) dX8_parse_68) (fun M12 r13 h => ?_)
  refine aw_istore_n (lv' := [(1, .int r13), (0, .ref (eA E 74))]) X dX8_parse_71 (by decide) rfl ?_
  refine aw_iload_n X dX8_parse_72 0 rfl ?_
  refine aw_if_lt (tgt := 80) X dX8_parse_73 (by decide) (fun c => ?_) (fun c => ?_)
  · have h := h.1 c
    refine aw_iconst (v := 0) X dX8_parse_80 (by decide) ?_
    exact aw_sub [1, 0] rfl (lb_X8_parse_81 X   _ _ _ h)
  · have h := h.2 c
    refine aw_iconst (v := 1) X dX8_parse_76 (by decide) ?_
    refine aw_goto (tgt := 81) X dX8_parse_77 (by decide) ?_
    exact aw_sub [1, 0] rfl (lb_X8_parse_81 X   _ _ _ h)
def wp_X8_parse (n : Nat)  (M : Mm)  (K : Mm → Int32 → Prop) : Prop := ∀ M1 : Mm, M1 = wr M 74 19 0 → ∀ M2 : Mm, M2 = wr M1 74 20 3 → ∀ M3 : Mm, M3 = wr M2 74 23 0 → ∀ M4 : Mm, M4 = wr M3 74 24 0 → ∀ M5 : Mm, M5 = wr M4 74 25 0 → ∀ M6 : Mm, M6 = wr M5 74 27 0 → (14 ≤ (M6 75 1) → wb_X8_parse_60 n K M6 2908) ∧ (¬ 14 ≤ (M6 75 1) → wp_X8_textAt n M6 (M6 75 1) (fun M7 r8 => wb_X8_parse_60 n K M7 (r8 + 4)))
set_option maxHeartbeats 4000000 in
set_option maxRecDepth 100000 in
theorem c_X8_parse {l : Launch} {E : En} {M : Mm}  {K : Mm → Int32 → Prop}  (h : wp_X8_parse (eN E)  M  K) : Ctr l E yX8_parse cX8_parse 3 (some .int) 136 [.ref (eA E 74)] M (QI E K) := by
  refine Ctr.of (by decide +kernel) (Nat.le_of_ble_eq_true rfl) (fun g A hgl X => ?_)
  subst hgl
  have X : CX g cX8_parse RX8 (some .int) 136 E A 3 := X
  show AW g E A 3 _ 0 [(0, .ref (eA E 74))] [] M
  unfold wp_X8_parse at h
  refine aw_aload_n X dX8_parse_0 0 rfl ?_
  refine aw_iconst (v := 0) X dX8_parse_1 (by decide) ?_
  refine aw_put X dX8_parse_2 (X.lt (by decide)) (sh_12 (rfl : tp 74 = 12) _) fl_RX8_217 fw_8_19 (Nat.le_of_ble_eq_true rfl) (sp_12_19 (rfl : tp 74 = 12) _ _) (fun M1 eM1 => ?_)
  have h := h M1 eM1
  refine aw_aload_n X dX8_parse_5 0 rfl ?_
  refine aw_iconst (v := 3) X dX8_parse_6 (by decide) ?_
  refine aw_put X dX8_parse_7 (X.lt (by decide)) (sh_12 (rfl : tp 74 = 12) _) fl_RX8_220 fw_8_20 (Nat.le_of_ble_eq_true rfl) (sp_12_20 (rfl : tp 74 = 12) _ _) (fun M2 eM2 => ?_)
  have h := h M2 eM2
  refine aw_aload_n X dX8_parse_10 0 rfl ?_
  refine aw_iconst (v := 0) X dX8_parse_11 (by decide) ?_
  refine aw_put X dX8_parse_12 (X.lt (by decide)) (sh_12 (rfl : tp 74 = 12) _) fl_RX8_285 fw_8_23 (Nat.le_of_ble_eq_true rfl) (sp_12_23 (rfl : tp 74 = 12) _ _) (fun M3 eM3 => ?_)
  have h := h M3 eM3
  refine aw_aload_n X dX8_parse_15 0 rfl ?_
  refine aw_iconst (v := 0) X dX8_parse_16 (by decide) ?_
  refine aw_put X dX8_parse_17 (X.lt (by decide)) (sh_12 (rfl : tp 74 = 12) _) fl_RX8_282 fw_8_24 (Nat.le_of_ble_eq_true rfl) (sp_12_24 (rfl : tp 74 = 12) _ _) (fun M4 eM4 => ?_)
  have h := h M4 eM4
  refine aw_aload_n X dX8_parse_20 0 rfl ?_
  refine aw_iconst (v := 0) X dX8_parse_21 (by decide) ?_
  refine aw_put X dX8_parse_22 (X.lt (by decide)) (sh_12 (rfl : tp 74 = 12) _) fl_RX8_249 fw_8_25 (Nat.le_of_ble_eq_true rfl) (sp_12_25 (rfl : tp 74 = 12) _ _) (fun M5 eM5 => ?_)
  have h := h M5 eM5
  refine aw_aload_n X dX8_parse_25 0 rfl ?_
  refine aw_iconst (v := 0) X dX8_parse_26 (by decide) ?_
  refine aw_put X dX8_parse_27 (X.lt (by decide)) (sh_12 (rfl : tp 74 = 12) _) fl_RX8_276 fw_8_27 (Nat.le_of_ble_eq_true rfl) (sp_12_27 (rfl : tp 74 = 12) _ _) (fun M6 eM6 => ?_)
  have h := h M6 eM6
  refine aw_aload_n X dX8_parse_30 0 rfl ?_
  refine aw_aload_n X dX8_parse_31 0 rfl ?_
  refine aw_get X dX8_parse_32 (X.lt (by decide)) (sh_12 (rfl : tp 74 = 12) _) fl_RX8_7 rfl ?_
  refine aw_iconst (v := 1) X dX8_parse_35 (by decide) ?_
  refine aw_iald X dX8_parse_36 (X.lt (by decide)) (sh_ia 3108 (rfl : tp 75 = 4108) _) (by unfold vp_in; decide) ?_
  refine aw_bipush (v := 14) X dX8_parse_37 (by decide) ?_
  refine aw_icmp_ge (tgt := 57) X dX8_parse_39 (by decide) (fun c => ?_) (fun c => ?_)
  · have h := h.1 c
    refine aw_sipush (v := 2908) X dX8_parse_57 (by decide) ?_
    exact aw_sub [0] rfl (lb_X8_parse_60 X   _ _ h)
  · have h := h.2 c
    refine aw_aload_n X dX8_parse_42 0 rfl ?_
    refine aw_aload_n X dX8_parse_43 0 rfl ?_
    refine aw_get X dX8_parse_44 (X.lt (by decide)) (sh_12 (rfl : tp 74 = 12) _) fl_RX8_7 rfl ?_
    refine aw_iconst (v := 1) X dX8_parse_47 (by decide) ?_
    refine aw_iald X dX8_parse_48 (X.lt (by decide)) (sh_ia 3108 (rfl : tp 75 = 4108) _) (by unfold vp_in; decide) ?_
    refine ca_i X (rn_v X [.int (M6 75 1)] [.ref (eA E 74)] (X.lt (by decide)) (sh_12 (rfl : tp 74 = 12) _) rfl rfl kw1117 kw60 (c_X8_textAt h) cal_yX8_textAt kw1115 (Nat.le_of_ble_eq_true rfl) rfl rfl (Nat.le_of_ble_eq_true rfl) dX8_parse_49) (fun M7 r8 h => ?_)
    refine aw_iconst (v := 4) X dX8_parse_52 (by decide) ?_
    refine aw_iadd X dX8_parse_53 ?_
    refine aw_goto (tgt := 60) X dX8_parse_54 (by decide) ?_
    exact aw_sub [0] rfl (lb_X8_parse_60 X   _ _ h)
def wp_X8_text (n : Nat)  (M : Mm)  (K : Mm → Int32 → Prop) : Prop := wp_X8_parse n M (fun M1 r2 => (0 ≤ r2 → (¬ (M1 75 1) = 14 → wp_X8_textAt n M1 (M1 75 1) (fun M3 r4 => vp_in (r4 + 0) 3108 ∧ (∀ M5 : Mm, M5 = wr M3 75 (r4 + 0).toNatClampNeg r2 → vp_in (r4 + 1) 3108 ∧ (∀ M6 : Mm, M6 = wr M5 75 (r4 + 1).toNatClampNeg (M5 74 27) → vp_in (r4 + 2) 3108 ∧ (∀ M7 : Mm, M7 = wr M6 75 (r4 + 2).toNatClampNeg (M6 74 25) → ∀ M8 : Mm, M8 = wr M7 75 1 ((M7 75 1) + 1) → K M8 ((M8 75 1) - 1)))))) ∧ ((M1 75 1) = 14 → K M1 (-1000000003))) ∧ (¬ 0 ≤ r2 → K M1 ((-100) - (M1 74 18))))
set_option maxHeartbeats 4000000 in
set_option maxRecDepth 100000 in
theorem c_X8_text {l : Launch} {E : En} {M : Mm}  {K : Mm → Int32 → Prop}  (h : wp_X8_text (eN E)  M  K) : Ctr l E yX8_text cX8_text 3 (some .int) 137 [.ref (eA E 74)] M (QI E K) := by
  refine Ctr.of (by decide +kernel) (Nat.le_of_ble_eq_true rfl) (fun g A hgl X => ?_)
  subst hgl
  have X : CX g cX8_text RX8 (some .int) 137 E A 3 := X
  show AW g E A 3 _ 0 [(0, .ref (eA E 74))] [] M
  unfold wp_X8_text at h
  refine aw_aload_n X dX8_text_0 0 rfl ?_
  refine ca_i X (rn_v X [] [] (X.lt (by decide)) (sh_12 (rfl : tp 74 = 12) _) rfl rfl kw1289 kw79 (c_X8_parse h) cal_yX8_parse kw1287 (Nat.le_of_ble_eq_true rfl) rfl rfl (Nat.le_of_ble_eq_true rfl) dX8_text_1) (fun M1 r2 h => ?_)
  refine aw_istore_n (lv' := [(1, .int r2), (0, .ref (eA E 74))]) X dX8_text_4 (by decide) rfl ?_
  refine aw_iload_n X dX8_text_5 0 rfl ?_
  refine aw_if_ge (tgt := 17) X dX8_text_6 (by decide) (fun c => ?_) (fun c => ?_)
  · have h := h.1 c
    refine aw_aload_n X dX8_text_17 1 rfl ?_
    refine aw_get X dX8_text_18 (X.lt (by decide)) (sh_12 (rfl : tp 74 = 12) _) fl_RX8_7 rfl ?_
    refine aw_iconst (v := 1) X dX8_text_21 (by decide) ?_
    refine aw_iald X dX8_text_22 (X.lt (by decide)) (sh_ia 3108 (rfl : tp 75 = 4108) _) (by unfold vp_in; decide) ?_
    refine aw_bipush (v := 14) X dX8_text_23 (by decide) ?_
    refine aw_icmp_ne (tgt := 31) X dX8_text_25 (by decide) (fun c => ?_) (fun c => ?_)
    · have h := h.1 c
      refine aw_aload_n X dX8_text_31 1 rfl ?_
      refine aw_aload_n X dX8_text_32 1 rfl ?_
      refine aw_get X dX8_text_33 (X.lt (by decide)) (sh_12 (rfl : tp 74 = 12) _) fl_RX8_7 rfl ?_
      refine aw_iconst (v := 1) X dX8_text_36 (by decide) ?_
      refine aw_iald X dX8_text_37 (X.lt (by decide)) (sh_ia 3108 (rfl : tp 75 = 4108) _) (by unfold vp_in; decide) ?_
      refine ca_i X (rn_v X [.int (M1 75 1)] [] (X.lt (by decide)) (sh_12 (rfl : tp 74 = 12) _) rfl rfl kw1117 kw60 (c_X8_textAt h) cal_yX8_textAt kw1115 (Nat.le_of_ble_eq_true rfl) rfl rfl (Nat.le_of_ble_eq_true rfl) dX8_text_38) (fun M3 r4 h => ?_)
      refine aw_istore_n (lv' := [(2, .int r4), (1, .int r2), (0, .ref (eA E 74))]) X dX8_text_41 (by decide) rfl ?_
      refine aw_aload_n X dX8_text_42 2 rfl ?_
      refine aw_get X dX8_text_43 (X.lt (by decide)) (sh_12 (rfl : tp 74 = 12) _) fl_RX8_7 rfl ?_
      refine aw_iload_n X dX8_text_46 0 rfl ?_
      refine aw_iconst (v := 0) X dX8_text_47 (by decide) ?_
      refine aw_iadd X dX8_text_48 ?_
      refine aw_iload_n X dX8_text_49 1 rfl ?_
      obtain ⟨hin, h⟩ := h
      refine aw_iast X dX8_text_50 (X.lt (by decide)) (sh_ia 3108 (rfl : tp 75 = 4108) _) (sh_ia 3108 (rfl : tp 75 = 4108) _) hin (fun M5 eM5 => ?_)
      have h := h M5 eM5
      refine aw_aload_n X dX8_text_51 2 rfl ?_
      refine aw_get X dX8_text_52 (X.lt (by decide)) (sh_12 (rfl : tp 74 = 12) _) fl_RX8_7 rfl ?_
      refine aw_iload_n X dX8_text_55 0 rfl ?_
      refine aw_iconst (v := 1) X dX8_text_56 (by decide) ?_
      refine aw_iadd X dX8_text_57 ?_
      refine aw_aload_n X dX8_text_58 2 rfl ?_
      refine aw_get X dX8_text_59 (X.lt (by decide)) (sh_12 (rfl : tp 74 = 12) _) fl_RX8_276 rfl ?_
      obtain ⟨hin, h⟩ := h
      refine aw_iast X dX8_text_62 (X.lt (by decide)) (sh_ia 3108 (rfl : tp 75 = 4108) _) (sh_ia 3108 (rfl : tp 75 = 4108) _) hin (fun M6 eM6 => ?_)
      have h := h M6 eM6
      refine aw_aload_n X dX8_text_63 2 rfl ?_
      refine aw_get X dX8_text_64 (X.lt (by decide)) (sh_12 (rfl : tp 74 = 12) _) fl_RX8_7 rfl ?_
      refine aw_iload_n X dX8_text_67 0 rfl ?_
      refine aw_iconst (v := 2) X dX8_text_68 (by decide) ?_
      refine aw_iadd X dX8_text_69 ?_
      refine aw_aload_n X dX8_text_70 2 rfl ?_
      refine aw_get X dX8_text_71 (X.lt (by decide)) (sh_12 (rfl : tp 74 = 12) _) fl_RX8_249 rfl ?_
      obtain ⟨hin, h⟩ := h
      refine aw_iast X dX8_text_74 (X.lt (by decide)) (sh_ia 3108 (rfl : tp 75 = 4108) _) (sh_ia 3108 (rfl : tp 75 = 4108) _) hin (fun M7 eM7 => ?_)
      have h := h M7 eM7
      refine aw_aload_n X dX8_text_75 2 rfl ?_
      refine aw_get X dX8_text_76 (X.lt (by decide)) (sh_12 (rfl : tp 74 = 12) _) fl_RX8_7 rfl ?_
      refine aw_iconst (v := 1) X dX8_text_79 (by decide) ?_
      refine aw_dup2 X dX8_text_80 rfl rfl ?_
      refine aw_iald X dX8_text_81 (X.lt (by decide)) (sh_ia 3108 (rfl : tp 75 = 4108) _) (by unfold vp_in; decide) ?_
      refine aw_iconst (v := 1) X dX8_text_82 (by decide) ?_
      refine aw_iadd X dX8_text_83 ?_
      refine aw_iast X dX8_text_84 (X.lt (by decide)) (sh_ia 3108 (rfl : tp 75 = 4108) _) (sh_ia 3108 (rfl : tp 75 = 4108) _) (by unfold vp_in; decide) (fun M8 eM8 => ?_)
      have h := h M8 eM8
      refine aw_aload_n X dX8_text_85 2 rfl ?_
      refine aw_get X dX8_text_86 (X.lt (by decide)) (sh_12 (rfl : tp 74 = 12) _) fl_RX8_7 rfl ?_
      refine aw_iconst (v := 1) X dX8_text_89 (by decide) ?_
      refine aw_iald X dX8_text_90 (X.lt (by decide)) (sh_ia 3108 (rfl : tp 75 = 4108) _) (by unfold vp_in; decide) ?_
      refine aw_iconst (v := 1) X dX8_text_91 (by decide) ?_
      refine aw_isub X dX8_text_92 ?_
      exact aw_iret X dX8_text_93 h
    · have h := h.2 c
      refine aw_ldc (v := (-1000000003)) X dX8_text_28 kw1085 ?_
      exact aw_iret X dX8_text_30 h
  · have h := h.2 c
    refine aw_bipush (v := (-100)) X dX8_text_9 (by decide) ?_
    refine aw_aload_n X dX8_text_11 1 rfl ?_
    refine aw_get X dX8_text_12 (X.lt (by decide)) (sh_12 (rfl : tp 74 = 12) _) fl_RX8_223 rfl ?_
    refine aw_isub X dX8_text_15 ?_
    exact aw_iret X dX8_text_16 h
def wl_X1_readsLevel_29 (n : Nat) (PL : Mm → Int32 → Int32 → Int32 → (Mm → Int32 → Prop) → Prop) (PP : Mm → Int32 → Int32 → (Mm → Int32 → Prop) → Prop) (p1 : Int32) (p2 : Int32) (p3 : Int32)  (K : Mm → Int32 → Prop) : Nat → Mm → Int32 → Prop
  | 0, _, _ => False
  | k + 1, M, x4 => (96 ≤ x4 → K M 1) ∧ (¬ 96 ≤ x4 → wp_X1_levelHere n M (fun M5 r6 => (¬ r6 = p1 → K M5 1) ∧ (r6 = p1 → wp_X2_at n M5 38 (M5 37 2) (fun M7 r8 => wp_X1_next n M7 (fun M9 => PL M9 (p1 + 1) p2 p3 (fun M11 r12 => (¬ r12 = 0 → wp_X2_add n M11 40 (-r8) (fun M13 => (¬ p1 = 2 → ∀ v15 : Int32, v15 = x4 + 1 → wl_X1_readsLevel_29 n PL PP p1 p2 p3 K k M13 v15) ∧ (p1 = 2 → K M13 1))) ∧ (r12 = 0 → K M11 0)))))))
set_option maxHeartbeats 4000000 in
set_option maxRecDepth 100000 in
theorem lw_X1_readsLevel_29 {d : Nat} {g : Gm} {E : En} {A : Nat → Prop} {K : Mm → Int32 → Prop} (X : CX g cX1_readsLevel RX1 (some .boolean) (d + 1) E A 6) (PL : Mm → Int32 → Int32 → Int32 → (Mm → Int32 → Prop) → Prop) (PP : Mm → Int32 → Int32 → (Mm → Int32 → Prop) → Prop) (p1 : Int32) (p2 : Int32) (p3 : Int32) (hd0 : 10 ≤ d) (hPL : ∀ (M : Mm) (p1 p2 p3 : Int32) (K : Mm → Int32 → Prop), PL M p1 p2 p3 K → Ctr (gL g) E yX1_readsLevel cX1_readsLevel 6 (some .boolean) d [.ref (eA E 37), .int p1, .int p2, .int p3] M (QI E K)) (hPP : ∀ (M : Mm) (p1 p2 : Int32) (K : Mm → Int32 → Prop), PP M p1 p2 K → Ctr (gL g) E yX1_readsPiece cX1_readsPiece 3 (some .boolean) d [.ref (eA E 37), .int p1, .int p2] M (QI E K))  : ∀ (k : Nat) (M : Mm) (x4 : Int32), wl_X1_readsLevel_29 (eN E) PL PP p1 p2 p3  K k M x4 → AW g E A 6 (MQ (gB g) (QI E K A) (gA g) (gS g) (gk g) (gn g) A) 29 [(0, .ref (eA E 37)), (1, .int p1), (2, .int p2), (3, .int p3), (4, .int x4)] [] M := by
  intro k
  induction k with
  | zero => intro M x4 h; exact h.elim
  | succ k ih =>
    intro M x4 h
    rw [wl_X1_readsLevel_29] at h
    refine aw_iload X dX1_readsLevel_29 4 rfl ?_
    refine aw_bipush (v := 96) X dX1_readsLevel_31 (by decide) ?_
    refine aw_icmp_ge (tgt := 99) X dX1_readsLevel_33 (by decide) (fun c => ?_) (fun c => ?_)
    · have h := h.1 c
      refine aw_iconst (v := 1) X dX1_readsLevel_99 (by decide) ?_
      exact aw_zret X dX1_readsLevel_100 (by decide) h
    · have h := h.2 c
      refine aw_aload_n X dX1_readsLevel_36 0 rfl ?_
      refine ca_i X (rn_v X [] [] (X.lt (by decide)) (sh_6 (rfl : tp 37 = 6) _) rfl rfl kw803 kw43 (c_X1_levelHere h) cal_yX1_levelHere kw801 (by omega) rfl rfl (Nat.le_of_ble_eq_true rfl) dX1_readsLevel_37) (fun M5 r6 h => ?_)
      refine aw_iload_n X dX1_readsLevel_40 1 rfl ?_
      refine aw_icmp_ne (tgt := 99) X dX1_readsLevel_41 (by decide) (fun c => ?_) (fun c => ?_)
      · have h := h.1 c
        refine aw_iconst (v := 1) X dX1_readsLevel_99 (by decide) ?_
        exact aw_zret X dX1_readsLevel_100 (by decide) h
      · have h := h.2 c
        refine aw_aload_n X dX1_readsLevel_44 0 rfl ?_
        refine aw_get X dX1_readsLevel_45 (X.lt (by decide)) (sh_6 (rfl : tp 37 = 6) _) fl_RX1_14 rfl ?_
        refine aw_aload_n X dX1_readsLevel_48 0 rfl ?_
        refine aw_get X dX1_readsLevel_49 (X.lt (by decide)) (sh_6 (rfl : tp 37 = 6) _) fl_RX1_65 rfl ?_
        refine ca_i X (rn_vn X [.int (M5 37 2)] [] (X.lt (by decide)) (sh_7 (rfl : tp 38 = 7) _) rfl rfl kw651 kw34 (c_X2_at h) cal_yX2_at kw649 (by omega) rfl rfl (Nat.le_of_ble_eq_true rfl) dX1_readsLevel_52) (fun M7 r8 h => ?_)
        refine aw_istore (lv' := [(5, .int r8), (0, .ref (eA E 37)), (1, .int p1), (2, .int p2), (3, .int p3), (4, .int x4)]) X dX1_readsLevel_55 (by decide) rfl ?_
        refine aw_aload_n X dX1_readsLevel_57 1 rfl ?_
        refine ca_v X (rn_v X [] [] (X.lt (by decide)) (sh_6 (rfl : tp 37 = 6) _) rfl rfl kw647 kw33 (c_X1_next h) cal_yX1_next kw645 (by omega) rfl rfl (Nat.le_of_ble_eq_true rfl) dX1_readsLevel_58) (fun M9 h => ?_)
        refine aw_aload_n X dX1_readsLevel_61 1 rfl ?_
        refine aw_iload_n X dX1_readsLevel_62 2 rfl ?_
        refine aw_iconst (v := 1) X dX1_readsLevel_63 (by decide) ?_
        refine aw_iadd X dX1_readsLevel_64 ?_
        refine aw_iload_n X dX1_readsLevel_65 3 rfl ?_
        refine aw_iload_n X dX1_readsLevel_66 4 rfl ?_
        refine ca_i X (rn_v X [.int (p1 + 1), .int p2, .int p3] [] (X.lt (by decide)) (sh_6 (rfl : tp 37 = 6) _) rfl rfl kw717 kw37 (hPL _ _ _ _ _ h) cal_yX1_readsLevel kw715 (by omega) rfl rfl (Nat.le_of_ble_eq_true rfl) dX1_readsLevel_67) (fun M11 r12 h => ?_)
        refine aw_if_ne (tgt := 75) X dX1_readsLevel_70 (by decide) (fun c => ?_) (fun c => ?_)
        · have h := h.1 c
          refine aw_aload_n X dX1_readsLevel_75 1 rfl ?_
          refine aw_get X dX1_readsLevel_76 (X.lt (by decide)) (sh_6 (rfl : tp 37 = 6) _) fl_RX1_20 rfl ?_
          refine aw_iload X dX1_readsLevel_79 0 rfl ?_
          refine aw_ineg X dX1_readsLevel_81 ?_
          refine ca_v X (rn_vn X [.int (-r8)] [] (X.lt (by decide)) (sh_7 (rfl : tp 40 = 7) _) rfl rfl kw631 kw31 (c_X2_add h) cal_yX2_add kw731 (by omega) rfl rfl (Nat.le_of_ble_eq_true rfl) dX1_readsLevel_82) (fun M13 h => ?_)
          refine aw_iload_n X dX1_readsLevel_85 2 rfl ?_
          refine aw_iconst (v := 2) X dX1_readsLevel_86 (by decide) ?_
          refine aw_icmp_ne (tgt := 93) X dX1_readsLevel_87 (by decide) (fun c => ?_) (fun c => ?_)
          · have h := h.1 c
            obtain ⟨v15, ev15⟩ : ∃ y : Int32, y = x4 + 1 := ⟨_, rfl⟩
            have h := h v15 ev15
            refine aw_iinc (v := v15) (lv' := [(4, .int v15), (5, .int r8), (0, .ref (eA E 37)), (1, .int p1), (2, .int p2), (3, .int p3)]) X dX1_readsLevel_93 5 rfl (by rw [ev15]; rfl) (by decide) rfl ?_
            refine aw_goto (tgt := 29) X dX1_readsLevel_96 (by decide) ?_
            exact aw_sub [2, 3, 4, 5, 0] rfl (ih _ _ h)
          · have h := h.2 c
            refine aw_goto (tgt := 99) X dX1_readsLevel_90 (by decide) ?_
            refine aw_iconst (v := 1) X dX1_readsLevel_99 (by decide) ?_
            exact aw_zret X dX1_readsLevel_100 (by decide) h
        · have h := h.2 c
          refine aw_iconst (v := 0) X dX1_readsLevel_73 (by decide) ?_
          exact aw_zret X dX1_readsLevel_74 (by decide) h
def wq_X1_readsLevel (n : Nat) (PL : Mm → Int32 → Int32 → Int32 → (Mm → Int32 → Prop) → Prop) (PP : Mm → Int32 → Int32 → (Mm → Int32 → Prop) → Prop) (M : Mm) (p1 : Int32) (p2 : Int32) (p3 : Int32) (K : Mm → Int32 → Prop) : Prop := (p1 < 5 → PL M (p1 + 1) p2 p3 (fun M1 r2 => (¬ r2 = 0 → ∃ kf : Nat, wl_X1_readsLevel_29 n PL PP p1 p2 p3 K kf M1 0) ∧ (r2 = 0 → K M1 0))) ∧ (¬ p1 < 5 → PP M p2 p3 (fun M3 r4 => (r4 = 0 ∨ r4 = 1) ∧ K M3 r4))
set_option maxHeartbeats 4000000 in
set_option maxRecDepth 100000 in
theorem c_X1_readsLevel {d : Nat} {l : Launch} {E : En} {M : Mm} {PL : Mm → Int32 → Int32 → Int32 → (Mm → Int32 → Prop) → Prop} {PP : Mm → Int32 → Int32 → (Mm → Int32 → Prop) → Prop} {p1 : Int32} {p2 : Int32} {p3 : Int32} {K : Mm → Int32 → Prop} (hd0 : 10 ≤ d) (hPL : ∀ (M : Mm) (p1 p2 p3 : Int32) (K : Mm → Int32 → Prop), PL M p1 p2 p3 K → Ctr l E yX1_readsLevel cX1_readsLevel 6 (some .boolean) d [.ref (eA E 37), .int p1, .int p2, .int p3] M (QI E K)) (hPP : ∀ (M : Mm) (p1 p2 : Int32) (K : Mm → Int32 → Prop), PP M p1 p2 K → Ctr l E yX1_readsPiece cX1_readsPiece 3 (some .boolean) d [.ref (eA E 37), .int p1, .int p2] M (QI E K)) (h : wq_X1_readsLevel (eN E) PL PP M p1 p2 p3 K) : Ctr l E yX1_readsLevel cX1_readsLevel 6 (some .boolean) (d + 1) [.ref (eA E 37), .int p1, .int p2, .int p3] M (QI E K) := by
  refine Ctr.of (by decide +kernel) (Nat.le_of_ble_eq_true rfl) (fun g A hgl X => ?_)
  subst hgl
  have X : CX g cX1_readsLevel RX1 (some .boolean) (d + 1) E A 6 := X
  show AW g E A 6 _ 0 [(0, .ref (eA E 37)), (1, .int p1), (2, .int p2), (3, .int p3)] [] M
  unfold wq_X1_readsLevel at h
  refine aw_iload_n X dX1_readsLevel_0 1 rfl ?_
  refine aw_iconst (v := 5) X dX1_readsLevel_1 (by decide) ?_
  refine aw_icmp_lt (tgt := 12) X dX1_readsLevel_2 (by decide) (fun c => ?_) (fun c => ?_)
  · have h := h.1 c
    refine aw_aload_n X dX1_readsLevel_12 0 rfl ?_
    refine aw_iload_n X dX1_readsLevel_13 1 rfl ?_
    refine aw_iconst (v := 1) X dX1_readsLevel_14 (by decide) ?_
    refine aw_iadd X dX1_readsLevel_15 ?_
    refine aw_iload_n X dX1_readsLevel_16 2 rfl ?_
    refine aw_iload_n X dX1_readsLevel_17 3 rfl ?_
    refine ca_i X (rn_v X [.int (p1 + 1), .int p2, .int p3] [] (X.lt (by decide)) (sh_6 (rfl : tp 37 = 6) _) rfl rfl kw717 kw37 (hPL _ _ _ _ _ h) cal_yX1_readsLevel kw715 (by omega) rfl rfl (Nat.le_of_ble_eq_true rfl) dX1_readsLevel_18) (fun M1 r2 h => ?_)
    refine aw_if_ne (tgt := 26) X dX1_readsLevel_21 (by decide) (fun c => ?_) (fun c => ?_)
    · have h := h.1 c
      refine aw_iconst (v := 0) X dX1_readsLevel_26 (by decide) ?_
      refine aw_istore (lv' := [(4, .int 0), (0, .ref (eA E 37)), (1, .int p1), (2, .int p2), (3, .int p3)]) X dX1_readsLevel_27 (by decide) rfl ?_
      obtain ⟨kf, h⟩ := h
      exact aw_sub [1, 2, 3, 4, 0] rfl (lw_X1_readsLevel_29 X PL PP p1 p2 p3 hd0 hPL hPP  kf _ _ h)
    · have h := h.2 c
      refine aw_iconst (v := 0) X dX1_readsLevel_24 (by decide) ?_
      exact aw_zret X dX1_readsLevel_25 (by decide) h
  · have h := h.2 c
    refine aw_aload_n X dX1_readsLevel_5 0 rfl ?_
    refine aw_iload_n X dX1_readsLevel_6 2 rfl ?_
    refine aw_iload_n X dX1_readsLevel_7 3 rfl ?_
    refine ca_i X (rn_v X [.int p2, .int p3] [] (X.lt (by decide)) (sh_6 (rfl : tp 37 = 6) _) rfl rfl kw721 kw38 (hPP _ _ _ _ h) cal_yX1_readsPiece kw719 (by omega) rfl rfl (Nat.le_of_ble_eq_true rfl) dX1_readsLevel_8) (fun M3 r4 h => ?_)
    exact aw_zret X dX1_readsLevel_11 (nar_z h.1) h.2
def wq_X1_readsPiece (n : Nat) (PL : Mm → Int32 → Int32 → Int32 → (Mm → Int32 → Prop) → Prop) (PP : Mm → Int32 → Int32 → (Mm → Int32 → Prop) → Prop) (M : Mm) (p1 : Int32) (p2 : Int32) (K : Mm → Int32 → Prop) : Prop := (¬ (M 37 4) = 2 → (¬ (M 37 4) = 1 → wp_X1_isSign n M 33 (fun M1 r2 => (r2 = 0 → wp_X1_isSign n M1 40 (fun M3 r4 => (r4 = 0 → K M3 0) ∧ (¬ r4 = 0 → (p1 < 8 → wp_X1_next n M3 (fun M5 => PL M5 0 (p1 + 1) p2 (fun M7 r8 => (r8 = 0 → K M7 0) ∧ (¬ r8 = 0 → wp_X1_isSign n M7 41 (fun M9 r10 => (¬ r10 = 0 → wp_X1_next n M9 (fun M11 => K M11 1)) ∧ (r10 = 0 → K M9 0)))))) ∧ (¬ p1 < 8 → K M3 0)))) ∧ (¬ r2 = 0 → (p2 < 8 → wp_X1_next n M1 (fun M13 => PP M13 p1 (p2 + 1) (fun M15 r16 => (¬ r16 = 0 → wp_X2_add n M15 40 (-33) (fun M17 => K M17 1)) ∧ (r16 = 0 → K M15 0)))) ∧ (¬ p2 < 8 → K M1 0)))) ∧ ((M 37 4) = 1 → wp_X1_readsName n M (fun M19 r20 => (r20 = 0 ∨ r20 = 1) ∧ K M19 r20))) ∧ ((M 37 4) = 2 → wp_X1_readsNumber n M (fun M21 r22 => (r22 = 0 ∨ r22 = 1) ∧ K M21 r22))
set_option maxHeartbeats 4000000 in
set_option maxRecDepth 100000 in
theorem c_X1_readsPiece {d : Nat} {l : Launch} {E : En} {M : Mm} {PL : Mm → Int32 → Int32 → Int32 → (Mm → Int32 → Prop) → Prop} {PP : Mm → Int32 → Int32 → (Mm → Int32 → Prop) → Prop} {p1 : Int32} {p2 : Int32} {K : Mm → Int32 → Prop} (hd0 : 10 ≤ d) (hPL : ∀ (M : Mm) (p1 p2 p3 : Int32) (K : Mm → Int32 → Prop), PL M p1 p2 p3 K → Ctr l E yX1_readsLevel cX1_readsLevel 6 (some .boolean) d [.ref (eA E 37), .int p1, .int p2, .int p3] M (QI E K)) (hPP : ∀ (M : Mm) (p1 p2 : Int32) (K : Mm → Int32 → Prop), PP M p1 p2 K → Ctr l E yX1_readsPiece cX1_readsPiece 3 (some .boolean) d [.ref (eA E 37), .int p1, .int p2] M (QI E K)) (h : wq_X1_readsPiece (eN E) PL PP M p1 p2 K) : Ctr l E yX1_readsPiece cX1_readsPiece 3 (some .boolean) (d + 1) [.ref (eA E 37), .int p1, .int p2] M (QI E K) := by
  refine Ctr.of (by decide +kernel) (Nat.le_of_ble_eq_true rfl) (fun g A hgl X => ?_)
  subst hgl
  have X : CX g cX1_readsPiece RX1 (some .boolean) (d + 1) E A 3 := X
  show AW g E A 3 _ 0 [(0, .ref (eA E 37)), (1, .int p1), (2, .int p2)] [] M
  unfold wq_X1_readsPiece at h
  refine aw_aload_n X dX1_readsPiece_0 0 rfl ?_
  refine aw_get X dX1_readsPiece_1 (X.lt (by decide)) (sh_6 (rfl : tp 37 = 6) _) fl_RX1_33 rfl ?_
  refine aw_iconst (v := 2) X dX1_readsPiece_4 (by decide) ?_
  refine aw_icmp_ne (tgt := 13) X dX1_readsPiece_5 (by decide) (fun c => ?_) (fun c => ?_)
  · have h := h.1 c
    refine aw_aload_n X dX1_readsPiece_13 0 rfl ?_
    refine aw_get X dX1_readsPiece_14 (X.lt (by decide)) (sh_6 (rfl : tp 37 = 6) _) fl_RX1_33 rfl ?_
    refine aw_iconst (v := 1) X dX1_readsPiece_17 (by decide) ?_
    refine aw_icmp_ne (tgt := 26) X dX1_readsPiece_18 (by decide) (fun c => ?_) (fun c => ?_)
    · have h := h.1 c
      refine aw_aload_n X dX1_readsPiece_26 0 rfl ?_
      refine aw_bipush (v := 33) X dX1_readsPiece_27 (by decide) ?_
      refine ca_i X (rn_v X [.int 33] [] (X.lt (by decide)) (sh_6 (rfl : tp 37 = 6) _) rfl rfl kw799 kw42 (c_X1_isSign h) cal_yX1_isSign kw797 (by omega) rfl rfl (Nat.le_of_ble_eq_true rfl) dX1_readsPiece_29) (fun M1 r2 h => ?_)
      refine aw_if_eq (tgt := 71) X dX1_readsPiece_32 (by decide) (fun c => ?_) (fun c => ?_)
      · have h := h.1 c
        refine aw_aload_n X dX1_readsPiece_71 0 rfl ?_
        refine aw_bipush (v := 40) X dX1_readsPiece_72 (by decide) ?_
        refine ca_i X (rn_v X [.int 40] [] (X.lt (by decide)) (sh_6 (rfl : tp 37 = 6) _) rfl rfl kw799 kw42 (c_X1_isSign h) cal_yX1_isSign kw797 (by omega) rfl rfl (Nat.le_of_ble_eq_true rfl) dX1_readsPiece_74) (fun M3 r4 h => ?_)
        refine aw_if_eq (tgt := 86) X dX1_readsPiece_77 (by decide) (fun c => ?_) (fun c => ?_)
        · have h := h.1 c
          refine aw_iconst (v := 0) X dX1_readsPiece_86 (by decide) ?_
          exact aw_zret X dX1_readsPiece_87 (by decide) h
        · have h := h.2 c
          refine aw_iload_n X dX1_readsPiece_80 1 rfl ?_
          refine aw_bipush (v := 8) X dX1_readsPiece_81 (by decide) ?_
          refine aw_icmp_lt (tgt := 88) X dX1_readsPiece_83 (by decide) (fun c => ?_) (fun c => ?_)
          · have h := h.1 c
            refine aw_aload_n X dX1_readsPiece_88 0 rfl ?_
            refine ca_v X (rn_v X [] [] (X.lt (by decide)) (sh_6 (rfl : tp 37 = 6) _) rfl rfl kw647 kw33 (c_X1_next h) cal_yX1_next kw645 (by omega) rfl rfl (Nat.le_of_ble_eq_true rfl) dX1_readsPiece_89) (fun M5 h => ?_)
            refine aw_aload_n X dX1_readsPiece_92 0 rfl ?_
            refine aw_iconst (v := 0) X dX1_readsPiece_93 (by decide) ?_
            refine aw_iload_n X dX1_readsPiece_94 1 rfl ?_
            refine aw_iconst (v := 1) X dX1_readsPiece_95 (by decide) ?_
            refine aw_iadd X dX1_readsPiece_96 ?_
            refine aw_iload_n X dX1_readsPiece_97 2 rfl ?_
            refine ca_i X (rn_v X [.int 0, .int (p1 + 1), .int p2] [] (X.lt (by decide)) (sh_6 (rfl : tp 37 = 6) _) rfl rfl kw717 kw37 (hPL _ _ _ _ _ h) cal_yX1_readsLevel kw715 (by omega) rfl rfl (Nat.le_of_ble_eq_true rfl) dX1_readsPiece_98) (fun M7 r8 h => ?_)
            refine aw_if_eq (tgt := 113) X dX1_readsPiece_101 (by decide) (fun c => ?_) (fun c => ?_)
            · have h := h.1 c
              refine aw_iconst (v := 0) X dX1_readsPiece_113 (by decide) ?_
              exact aw_zret X dX1_readsPiece_114 (by decide) h
            · have h := h.2 c
              refine aw_aload_n X dX1_readsPiece_104 0 rfl ?_
              refine aw_bipush (v := 41) X dX1_readsPiece_105 (by decide) ?_
              refine ca_i X (rn_v X [.int 41] [] (X.lt (by decide)) (sh_6 (rfl : tp 37 = 6) _) rfl rfl kw799 kw42 (c_X1_isSign h) cal_yX1_isSign kw797 (by omega) rfl rfl (Nat.le_of_ble_eq_true rfl) dX1_readsPiece_107) (fun M9 r10 h => ?_)
              refine aw_if_ne (tgt := 115) X dX1_readsPiece_110 (by decide) (fun c => ?_) (fun c => ?_)
              · have h := h.1 c
                refine aw_aload_n X dX1_readsPiece_115 0 rfl ?_
                refine ca_v X (rn_v X [] [] (X.lt (by decide)) (sh_6 (rfl : tp 37 = 6) _) rfl rfl kw647 kw33 (c_X1_next h) cal_yX1_next kw645 (by omega) rfl rfl (Nat.le_of_ble_eq_true rfl) dX1_readsPiece_116) (fun M11 h => ?_)
                refine aw_iconst (v := 1) X dX1_readsPiece_119 (by decide) ?_
                exact aw_zret X dX1_readsPiece_120 (by decide) h
              · have h := h.2 c
                refine aw_iconst (v := 0) X dX1_readsPiece_113 (by decide) ?_
                exact aw_zret X dX1_readsPiece_114 (by decide) h
          · have h := h.2 c
            refine aw_iconst (v := 0) X dX1_readsPiece_86 (by decide) ?_
            exact aw_zret X dX1_readsPiece_87 (by decide) h
      · have h := h.2 c
        refine aw_iload_n X dX1_readsPiece_35 2 rfl ?_
        refine aw_bipush (v := 8) X dX1_readsPiece_36 (by decide) ?_
        refine aw_icmp_lt (tgt := 43) X dX1_readsPiece_38 (by decide) (fun c => ?_) (fun c => ?_)
        · have h := h.1 c
          refine aw_aload_n X dX1_readsPiece_43 0 rfl ?_
          refine ca_v X (rn_v X [] [] (X.lt (by decide)) (sh_6 (rfl : tp 37 = 6) _) rfl rfl kw647 kw33 (c_X1_next h) cal_yX1_next kw645 (by omega) rfl rfl (Nat.le_of_ble_eq_true rfl) dX1_readsPiece_44) (fun M13 h => ?_)
          refine aw_aload_n X dX1_readsPiece_47 0 rfl ?_
          refine aw_iload_n X dX1_readsPiece_48 1 rfl ?_
          refine aw_iload_n X dX1_readsPiece_49 2 rfl ?_
          refine aw_iconst (v := 1) X dX1_readsPiece_50 (by decide) ?_
          refine aw_iadd X dX1_readsPiece_51 ?_
          refine ca_i X (rn_v X [.int p1, .int (p2 + 1)] [] (X.lt (by decide)) (sh_6 (rfl : tp 37 = 6) _) rfl rfl kw721 kw38 (hPP _ _ _ _ h) cal_yX1_readsPiece kw719 (by omega) rfl rfl (Nat.le_of_ble_eq_true rfl) dX1_readsPiece_52) (fun M15 r16 h => ?_)
          refine aw_if_ne (tgt := 60) X dX1_readsPiece_55 (by decide) (fun c => ?_) (fun c => ?_)
          · have h := h.1 c
            refine aw_aload_n X dX1_readsPiece_60 0 rfl ?_
            refine aw_get X dX1_readsPiece_61 (X.lt (by decide)) (sh_6 (rfl : tp 37 = 6) _) fl_RX1_20 rfl ?_
            refine aw_bipush (v := (-33)) X dX1_readsPiece_64 (by decide) ?_
            refine ca_v X (rn_vn X [.int (-33)] [] (X.lt (by decide)) (sh_7 (rfl : tp 40 = 7) _) rfl rfl kw631 kw31 (c_X2_add h) cal_yX2_add kw731 (by omega) rfl rfl (Nat.le_of_ble_eq_true rfl) dX1_readsPiece_66) (fun M17 h => ?_)
            refine aw_iconst (v := 1) X dX1_readsPiece_69 (by decide) ?_
            exact aw_zret X dX1_readsPiece_70 (by decide) h
          · have h := h.2 c
            refine aw_iconst (v := 0) X dX1_readsPiece_58 (by decide) ?_
            exact aw_zret X dX1_readsPiece_59 (by decide) h
        · have h := h.2 c
          refine aw_iconst (v := 0) X dX1_readsPiece_41 (by decide) ?_
          exact aw_zret X dX1_readsPiece_42 (by decide) h
    · have h := h.2 c
      refine aw_aload_n X dX1_readsPiece_21 0 rfl ?_
      refine ca_i X (rn_v X [] [] (X.lt (by decide)) (sh_6 (rfl : tp 37 = 6) _) rfl rfl kw734 kw41 (c_X1_readsName h) cal_yX1_readsName kw732 (by omega) rfl rfl (Nat.le_of_ble_eq_true rfl) dX1_readsPiece_22) (fun M19 r20 h => ?_)
      exact aw_zret X dX1_readsPiece_25 (nar_z h.1) h.2
  · have h := h.2 c
    refine aw_aload_n X dX1_readsPiece_8 0 rfl ?_
    refine ca_i X (rn_v X [] [] (X.lt (by decide)) (sh_6 (rfl : tp 37 = 6) _) rfl rfl kw725 kw39 (c_X1_readsNumber h) cal_yX1_readsNumber kw723 (by omega) rfl rfl (Nat.le_of_ble_eq_true rfl) dX1_readsPiece_9) (fun M21 r22 h => ?_)
    exact aw_zret X dX1_readsPiece_12 (nar_z h.1) h.2
def wp_rd (n : Nat) : Nat → (Mm → Int32 → Int32 → Int32 → (Mm → Int32 → Prop) → Prop) × (Mm → Int32 → Int32 → (Mm → Int32 → Prop) → Prop)
  | 0 => (fun _ _ _ _ _ => False, fun _ _ _ _ => False)
  | k + 1 => (wq_X1_readsLevel n (wp_rd n k).1 (wp_rd n k).2, wq_X1_readsPiece n (wp_rd n k).1 (wp_rd n k).2)
theorem c_rd {l : Launch} {E : En} : ∀ k : Nat, (∀ (M : Mm) (p1 p2 p3 : Int32) (K : Mm → Int32 → Prop), (wp_rd (eN E) k).1 M p1 p2 p3 K → Ctr l E yX1_readsLevel cX1_readsLevel 6 (some .boolean) (10 + k) [.ref (eA E 37), .int p1, .int p2, .int p3] M (QI E K)) ∧ (∀ (M : Mm) (p1 p2 : Int32) (K : Mm → Int32 → Prop), (wp_rd (eN E) k).2 M p1 p2 K → Ctr l E yX1_readsPiece cX1_readsPiece 3 (some .boolean) (10 + k) [.ref (eA E 37), .int p1, .int p2] M (QI E K))
  | 0 => ⟨fun _ _ _ _ _ h => h.elim, fun _ _ _ _ h => h.elim⟩
  | k + 1 => ⟨fun _ _ _ _ _ h => c_X1_readsLevel (d := 10 + k) (by omega) (c_rd k).1 (c_rd k).2 h, fun _ _ _ _ h => c_X1_readsPiece (d := 10 + k) (by omega) (c_rd k).1 (c_rd k).2 h⟩
def wp_X1_reads (n : Nat)  (M : Mm)  (K : Mm → Int32 → Prop) : Prop := ∀ M1 : Mm, M1 = wr M 40 1 0 → ∀ M2 : Mm, M2 = wr M1 37 6 0 → ∀ M3 : Mm, M3 = wr M2 37 3 0 → ∀ M4 : Mm, M4 = wr M3 37 4 0 → wp_X1_next n M4 (fun M5 => wp_X1_keyHere n M5 (fun M7 r8 => ∀ M9 : Mm, M9 = wr M7 37 5 r8 → (0 ≤ (M9 37 5) → wp_X1_next n M9 (fun M10 => (wp_rd n 100).1 M10 0 0 0 (fun M12 r13 => (r13 = 0 → K M12 0) ∧ (¬ r13 = 0 → (¬ (M12 37 4) = 0 → K M12 0) ∧ ((M12 37 4) = 0 → K M12 1))))) ∧ (¬ 0 ≤ (M9 37 5) → K M9 0)))
set_option maxHeartbeats 4000000 in
set_option maxRecDepth 100000 in
theorem c_X1_reads {l : Launch} {E : En} {M : Mm}  {K : Mm → Int32 → Prop}  (h : wp_X1_reads (eN E)  M  K) : Ctr l E yX1_reads cX1_reads 1 (some .boolean) 111 [.ref (eA E 37)] M (QI E K) := by
  refine Ctr.of (by decide +kernel) (Nat.le_of_ble_eq_true rfl) (fun g A hgl X => ?_)
  subst hgl
  have X : CX g cX1_reads RX1 (some .boolean) 111 E A 1 := X
  show AW g E A 1 _ 0 [(0, .ref (eA E 37))] [] M
  unfold wp_X1_reads at h
  refine aw_aload_n X dX1_reads_0 0 rfl ?_
  refine aw_get X dX1_reads_1 (X.lt (by decide)) (sh_6 (rfl : tp 37 = 6) _) fl_RX1_20 rfl ?_
  refine aw_iconst (v := 0) X dX1_reads_4 (by decide) ?_
  refine aw_put X dX1_reads_5 (X.lt (by decide)) (sh_7 (rfl : tp 40 = 7) _) fl_RX1_23 fw_2_1 (Nat.le_of_ble_eq_true rfl) (sp_7_1 (rfl : tp 40 = 7) _ _) (fun M1 eM1 => ?_)
  have h := h M1 eM1
  refine aw_aload_n X dX1_reads_8 0 rfl ?_
  refine aw_iconst (v := 0) X dX1_reads_9 (by decide) ?_
  refine aw_put X dX1_reads_10 (X.lt (by decide)) (sh_6 (rfl : tp 37 = 6) _) fl_RX1_27 fw_1_6 (Nat.le_of_ble_eq_true rfl) (sp_6_6 (rfl : tp 37 = 6) _ _) (fun M2 eM2 => ?_)
  have h := h M2 eM2
  refine aw_aload_n X dX1_reads_13 0 rfl ?_
  refine aw_iconst (v := 0) X dX1_reads_14 (by decide) ?_
  refine aw_put X dX1_reads_15 (X.lt (by decide)) (sh_6 (rfl : tp 37 = 6) _) fl_RX1_30 fw_1_3 (Nat.le_of_ble_eq_true rfl) (sp_6_3 (rfl : tp 37 = 6) _ _) (fun M3 eM3 => ?_)
  have h := h M3 eM3
  refine aw_aload_n X dX1_reads_18 0 rfl ?_
  refine aw_iconst (v := 0) X dX1_reads_19 (by decide) ?_
  refine aw_put X dX1_reads_20 (X.lt (by decide)) (sh_6 (rfl : tp 37 = 6) _) fl_RX1_33 fw_1_4 (Nat.le_of_ble_eq_true rfl) (sp_6_4 (rfl : tp 37 = 6) _ _) (fun M4 eM4 => ?_)
  have h := h M4 eM4
  refine aw_aload_n X dX1_reads_23 0 rfl ?_
  refine ca_v X (rn_v X [] [] (X.lt (by decide)) (sh_6 (rfl : tp 37 = 6) _) rfl rfl kw647 kw33 (c_X1_next h) cal_yX1_next kw645 (Nat.le_of_ble_eq_true rfl) rfl rfl (Nat.le_of_ble_eq_true rfl) dX1_reads_24) (fun M5 h => ?_)
  refine aw_aload_n X dX1_reads_27 0 rfl ?_
  refine aw_aload_n X dX1_reads_28 0 rfl ?_
  refine ca_i X (rn_v X [] [.ref (eA E 37)] (X.lt (by decide)) (sh_6 (rfl : tp 37 = 6) _) rfl rfl kw658 kw35 (c_X1_keyHere h) cal_yX1_keyHere kw656 (Nat.le_of_ble_eq_true rfl) rfl rfl (Nat.le_of_ble_eq_true rfl) dX1_reads_29) (fun M7 r8 h => ?_)
  refine aw_put X dX1_reads_32 (X.lt (by decide)) (sh_6 (rfl : tp 37 = 6) _) fl_RX1_43 fw_1_5 (Nat.le_of_ble_eq_true rfl) (sp_6_5 (rfl : tp 37 = 6) _ _) (fun M9 eM9 => ?_)
  have h := h M9 eM9
  refine aw_aload_n X dX1_reads_35 0 rfl ?_
  refine aw_get X dX1_reads_36 (X.lt (by decide)) (sh_6 (rfl : tp 37 = 6) _) fl_RX1_43 rfl ?_
  refine aw_if_ge (tgt := 44) X dX1_reads_39 (by decide) (fun c => ?_) (fun c => ?_)
  · have h := h.1 c
    refine aw_aload_n X dX1_reads_44 0 rfl ?_
    refine ca_v X (rn_v X [] [] (X.lt (by decide)) (sh_6 (rfl : tp 37 = 6) _) rfl rfl kw647 kw33 (c_X1_next h) cal_yX1_next kw645 (Nat.le_of_ble_eq_true rfl) rfl rfl (Nat.le_of_ble_eq_true rfl) dX1_reads_45) (fun M10 h => ?_)
    refine aw_aload_n X dX1_reads_48 0 rfl ?_
    refine aw_iconst (v := 0) X dX1_reads_49 (by decide) ?_
    refine aw_iconst (v := 0) X dX1_reads_50 (by decide) ?_
    refine aw_iconst (v := 0) X dX1_reads_51 (by decide) ?_
    refine ca_i X (rn_v X [.int 0, .int 0, .int 0] [] (X.lt (by decide)) (sh_6 (rfl : tp 37 = 6) _) rfl rfl kw717 kw37 ((c_rd 100).1 _ _ _ _ _ h) cal_yX1_readsLevel kw715 (Nat.le_of_ble_eq_true rfl) rfl rfl (Nat.le_of_ble_eq_true rfl) dX1_reads_52) (fun M12 r13 h => ?_)
    refine aw_if_eq (tgt := 69) X dX1_reads_55 (by decide) (fun c => ?_) (fun c => ?_)
    · have h := h.1 c
      refine aw_iconst (v := 0) X dX1_reads_69 (by decide) ?_
      exact aw_zret X dX1_reads_70 (by decide) h
    · have h := h.2 c
      refine aw_aload_n X dX1_reads_58 0 rfl ?_
      refine aw_get X dX1_reads_59 (X.lt (by decide)) (sh_6 (rfl : tp 37 = 6) _) fl_RX1_33 rfl ?_
      refine aw_if_ne (tgt := 69) X dX1_reads_62 (by decide) (fun c => ?_) (fun c => ?_)
      · have h := h.1 c
        refine aw_iconst (v := 0) X dX1_reads_69 (by decide) ?_
        exact aw_zret X dX1_reads_70 (by decide) h
      · have h := h.2 c
        refine aw_iconst (v := 1) X dX1_reads_65 (by decide) ?_
        refine aw_goto (tgt := 70) X dX1_reads_66 (by decide) ?_
        exact aw_zret X dX1_reads_70 (by decide) h
  · have h := h.2 c
    refine aw_iconst (v := 0) X dX1_reads_42 (by decide) ?_
    exact aw_zret X dX1_reads_43 (by decide) h
