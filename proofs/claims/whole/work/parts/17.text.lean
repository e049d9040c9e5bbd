/-! Arrays.copyOf, a text's maker, written(), text() -/
set_option maxHeartbeats 4000000 in
set_option maxRecDepth 100000 in
/-- Arrays.copyOf to fewer: a new row with the first N -/
theorem v_copyOf {l : Launch} {D : va_G} {C : Nat → ClassId} {ws : va_W} {a0 i0 n0 N : Nat} {f0 : Nat → Int32} {p1 : Int32} (he : ws[i0]? = some (a0, .inl (C 0, n0, .inl f0))) (h0 : ¬ p1 < 0) (hN : p1.toNatClampNeg = N) (hlt : p1 < Int32.ofNat n0) (hne : ¬ p1 = Int32.ofNat n0) (hb : N ≤ 96) (hn0 : N ≤ n0) : CtrW l D C yJ7_copyOf_59c91 cJ7_copyOf_59c91 3 (some (.array .int)) 1 1 96 [.ref a0, .int p1] ws (WR D (fun u => (u 0, .inl (C 0, N, .inl (va_cpy f0 (fun _ => 0) 0 0 N))) :: ws)) := by
  refine CtrW.of (by decide +kernel) (Nat.le_of_ble_eq_true rfl) (fun g A hgl X => ?_)
  subst hgl
  have X : CV g cJ7_copyOf_59c91 RJ7 (some (.array .int)) "copyOf" 1 1 96 D C A 3 := X
  show AV g D A 3 _ 0 [(0, .ref a0), (1, .int p1)] [] ws 0 0
  refine av_iload_n X dJ7_copyOf_59c91_0 1 rfl ?_
  refine av_aload_n X dJ7_copyOf_59c91_1 0 rfl ?_
  refine av_alen (q0 := i0) (t := 0) (v := Int32.ofNat n0) X dJ7_copyOf_59c91_2 he rfl rfl ?_
  refine av_icmp_ne (tgt := 14) X dJ7_copyOf_59c91_3 (by decide) (fun _ => ?_) (fun c => absurd c hne)
  refine av_iload_n X dJ7_copyOf_59c91_14 1 rfl ?_
  refine av_newa (N := N) X dJ7_copyOf_59c91_15 kwAI h0 hN (by omega) (by decide) (by omega) (fun q => ?_)
  refine av_astore_n (lv' := [(2, .ref q), (0, .ref a0), (1, .int p1)]) X dJ7_copyOf_59c91_17 (by decide) rfl ?_
  refine av_aload_n X dJ7_copyOf_59c91_18 1 rfl ?_
  refine av_iconst (v := 0) X dJ7_copyOf_59c91_19 (by decide) ?_
  refine av_aload_n X dJ7_copyOf_59c91_20 0 rfl ?_
  refine av_iconst (v := 0) X dJ7_copyOf_59c91_21 (by decide) ?_
  refine av_aload_n X dJ7_copyOf_59c91_22 1 rfl ?_
  refine av_alen (q0 := i0 + 1) (t := 0) (v := Int32.ofNat n0) X dJ7_copyOf_59c91_23 he rfl rfl ?_
  refine av_iload_n X dJ7_copyOf_59c91_24 2 rfl ?_
  refine av_mmin (v := p1) X dJ7_copyOf_59c91_25 kw820 kw458 kw103 kw459 (by decide) ⟨by decide, by omega⟩ (Nat.le_of_ble_eq_true rfl) (if_pos hlt) ?_
  refine av_copy (i0 := i0 + 1) (i1 := 0) (n0 := n0) (n1 := N) (f0 := f0) (f1 := fun _ => 0) (ws' := (q, .inl (C 0, N, .inl (va_cpy f0 (fun _ => 0) 0 0 N))) :: ws) X dJ7_copyOf_59c91_28 kw821 kw569 kw568 kw108 he rfl (by decide) (by decide) h0 (by rw [hN]; show 0 + N ≤ n0; omega) (by rw [hN]; show 0 + N ≤ N; omega) (by decide) (Nat.le_of_ble_eq_true rfl) (by rw [hN]; rfl) ?_
  refine av_aload_n X dJ7_copyOf_59c91_31 0 rfl ?_
  exact av_aret X (Or.inr ⟨_, rfl⟩) _ (fun _ => q) dJ7_copyOf_59c91_32 (by decide) (by omega) rfl rfl
set_option maxHeartbeats 4000000 in
set_option maxRecDepth 100000 in
theorem v_X6_init {l : Launch} {D : va_G} {C : Nat → ClassId} {pre : va_W} {h0 q2 P : Nat} {e2 : va_E} {p1 p2 : Int32} (hp : ¬ p2 < 0) (hP : p2.toNatClampNeg = P) (hb : P ≤ 96) : CtrW l D C yX6_init cX6_init 4 none 1 1 96 [.ref h0, .int p1, .int p2, .ref q2] ((q2, e2) :: (h0, .inr (6, [.int 0, .int 0, .null, .null])) :: pre) (WV D (fun u => (u 0, .inl (C 0, P, .inl (fun _ => 0))) :: (q2, e2) :: (h0, .inr (6, [.int p1, .int p2, .ref q2, .ref (u 0)])) :: pre)) := by
  refine CtrW.of (by decide +kernel) (Nat.le_of_ble_eq_true rfl) (fun g A hgl X => ?_)
  subst hgl
  have X : CV g cX6_init RX6 none "<init>" 1 1 96 D C A 4 := X
  show AV g D A 4 _ 0 [(0, .ref h0), (1, .int p1), (2, .int p2), (3, .ref q2)] [] _ 0 0
  refine av_aload_n X dX6_init_0 0 rfl ?_
  refine av_obj X dX6_init_1 kw825 kwOI kwOC (by decide) (Nat.le_of_ble_eq_true rfl) ?_
  refine av_aload_n X dX6_init_4 0 rfl ?_
  refine av_iload_n X dX6_init_5 1 rfl ?_
  refine av_putF (q0 := 1) (ws' := (q2, e2) :: (h0, .inr (6, [.int p1, .int 0, .null, .null])) :: pre) X dX6_init_6 rfl fp_RX6_7 rfl rfl (Nat.le_of_ble_eq_true rfl) rfl ?_
  refine av_aload_n X dX6_init_9 0 rfl ?_
  refine av_iload_n X dX6_init_10 2 rfl ?_
  refine av_putF (q0 := 1) (ws' := (q2, e2) :: (h0, .inr (6, [.int p1, .int p2, .null, .null])) :: pre) X dX6_init_11 rfl fp_RX6_13 rfl rfl (Nat.le_of_ble_eq_true rfl) rfl ?_
  refine av_aload_n X dX6_init_14 0 rfl ?_
  refine av_aload_n X dX6_init_15 3 rfl ?_
  refine av_putF (q0 := 1) (ws' := (q2, e2) :: (h0, .inr (6, [.int p1, .int p2, .ref q2, .null])) :: pre) X dX6_init_16 rfl fp_RX6_16 rfl rfl (Nat.le_of_ble_eq_true rfl) rfl ?_
  refine av_aload_n X dX6_init_19 0 rfl ?_
  refine av_iconst (v := 0) X dX6_init_20 (by decide) ?_
  refine av_iload_n X dX6_init_21 2 rfl ?_
  refine av_mmax (v := p2) X dX6_init_22 kw826 kw267 kw103 kw268 (by decide) (by decide) (Nat.le_of_ble_eq_true rfl) (by
    by_cases c : (0 : Int32) < p2
    · exact if_pos c
    · rw [if_neg c]
      exact Int32.le_antisymm (Int32.not_lt.mp hp) (Int32.not_lt.mp c)) ?_
  refine av_newa (N := P) X dX6_init_25 kwAI hp hP (by omega) (by decide) (by omega) (fun q => ?_)
  refine av_putF (q0 := 2) (ws' := (q, .inl (C 0, P, .inl (fun _ => 0))) :: (q2, e2) :: (h0, .inr (6, [.int p1, .int p2, .ref q2, .ref q])) :: pre) X dX6_init_27 rfl fp_RX6_26 rfl rfl (Nat.le_of_ble_eq_true rfl) rfl ?_
  exact av_vret X _ (fun _ => q) dX6_init_30 (by decide) (by omega) rfl
/-- a new text's cells, as written() leaves them -/
def F_wr (C : Nat → ClassId) (pre : va_W) (f0 : Nat → Int32) (key pcs : Int32) (N P : Nat) (u : Nat → Nat) : va_W :=
  (u 2, .inl (C 0, P, .inl (fun _ => 0))) :: (u 1, .inl (C 0, N, .inl (va_cpy f0 (fun _ => 0) 0 0 N))) :: (u 0, .inr (6, [.int key, .int pcs, .ref (u 1), .ref (u 2)])) :: pre
set_option maxHeartbeats 4000000 in
set_option maxRecDepth 100000 in
theorem v_X1_written {l : Launch} {E : En} {M : Mm} (hlo : 94 ≤ eN E) (h0 : ¬ M 40 1 < 0) (hlt : M 40 1 < 96) (hp : ¬ M 37 6 < 0) (hb : (M 37 6).toNatClampNeg ≤ 96) : CtrW l (eD E) (eC E) yX1_written cX1_written 1 (some (.object "ShyWell$Text")) 2 3 196 [.ref (eA E 37)] (wd E M) (WR (eD E) (F_wr (eC E) (wd E M) (M 41) (M 37 5) (M 37 6) (M 40 1).toNatClampNeg (M 37 6).toNatClampNeg)) := by
  have hN : (M 40 1).toNatClampNeg < 96 := by
    have h1 := Int32.lt_iff_toInt_lt.mp hlt
    have h2 : (96 : Int32).toInt = 96 := by decide
    show (M 40 1).toInt.toNat < 96
    omega
  refine CtrW.of (by decide +kernel) (Nat.le_of_ble_eq_true rfl) (fun g A hgl X => ?_)
  subst hgl
  have X : CV g cX1_written RX1 (some (.object "ShyWell$Text")) "written" 2 3 196 (eD E) (eC E) A 1 := X
  show AV g (eD E) A 1 _ 0 [(0, .ref (eA E 37))] [] (wd E M) 0 0
  refine av_new (ci := 6) (fs := [.int 0, .int 0, .null, .null]) X dX1_written_0 kw809 kw445 kw107 rfl iw_6 tyX6 tyX6_ok (by decide +kernel) (by decide) (by decide) (fun q1 => ?_)
  have g37 : ((q1, (.inr (6, [.int 0, .int 0, .null, .null]) : va_E)) :: wd E M)[38]? = some (eA E 37, _) := wd_at (i := 37) (by omega) (sh_6 rfl _)
  have g40 : ((q1, (.inr (6, [.int 0, .int 0, .null, .null]) : va_E)) :: wd E M)[41]? = some (eA E 40, _) := wd_at (i := 40) (by omega) (sh_7 rfl _)
  have g41 : ((q1, (.inr (6, [.int 0, .int 0, .null, .null]) : va_E)) :: wd E M)[42]? = some (eA E 41, _) := wd_at (i := 41) (by omega) (sh_ia 96 rfl _)
  refine av_dup X dX1_written_3 rfl ?_
  refine av_aload_n X dX1_written_4 0 rfl ?_
  refine av_get (q0 := 38) X dX1_written_5 g37 fl_RX1_43 rfl ?_
  refine av_aload_n X dX1_written_8 0 rfl ?_
  refine av_get (q0 := 38) X dX1_written_9 g37 fl_RX1_27 rfl ?_
  refine av_aload_n X dX1_written_12 0 rfl ?_
  refine av_get (q0 := 38) X dX1_written_13 g37 fl_RX1_20 rfl ?_
  refine av_get (q0 := 41) X dX1_written_16 g40 fl_RX1_52 rfl ?_
  refine av_aload_n X dX1_written_19 0 rfl ?_
  refine av_get (q0 := 38) X dX1_written_20 g37 fl_RX1_20 rfl ?_
  refine av_get (q0 := 41) X dX1_written_23 g40 fl_RX1_23 rfl ?_
  refine av_cs X [.ref (eA E 41), .int (M 40 1)] [.int (M 37 6), .int (M 37 5), .ref q1, .ref q1] (v_copyOf (N := (M 40 1).toNatClampNeg) g41 h0 rfl hlt (fun e => by rw [e] at hlt; exact absurd hlt (by decide)) (by omega) (by omega)) cal_yJ7_copyOf_59c91 kw810 kw811 (by decide) rfl rfl (Nat.le_of_ble_eq_true rfl) dX1_written_26 (by decide) (by decide) (fun u2 => ?_)
  refine av_cin X [.int (M 37 5), .int (M 37 6), .ref (u2 0)] [.ref q1] (v_X6_init (P := (M 37 6).toNatClampNeg) hp rfl hb) cal_yX6_init kw822 kw823 rfl (by decide) rfl rfl (Nat.le_of_ble_eq_true rfl) dX1_written_29 (by decide) (by decide) (fun u3 => ?_)
  exact av_aret X (Or.inl ⟨_, rfl⟩) (F_wr (eC E) (wd E M) (M 41) (M 37 5) (M 37 6) (M 40 1).toNatClampNeg (M 37 6).toNatClampNeg) (fun i => ([q1, u2 0, u3 0] : List Nat).getD i 0) dX1_written_32 (by decide) (by decide) rfl rfl
/-! the world with one text more -/
def tO (key pcs : Int32) : Nat → Int32 := fun k => if k = 0 then key else if k = 1 then pcs else 0
def tS1 (f0 : Nat → Int32) (sz : Int32) : Nat → Int32 := upd (va_cpy f0 (fun _ => 0) 0 0 sz.toNatClampNeg) LEN sz
def tP1 (pcs : Int32) : Nat → Int32 := upd (fun _ => 0) LEN pcs
def newT (M : Mm) (n : Nat) (key pcs : Int32) (f0 : Nat → Int32) (sz : Int32) : Mm := va_up (va_up (va_up M n (tO key pcs)) (n + 1) (tS1 f0 sz)) (n + 2) (tP1 pcs)
def exE (E : En) (u : Nat → Nat) : En := (eD E, eC E, va_up (va_up (va_up (eA E) (eN E) (u 0)) (eN E + 1) (u 1)) (eN E + 2) (u 2), eS E, eN E + 3)
theorem exE_old {E : En} {u : Nat → Nat} {i : Nat} (h : i < eN E) : eA (exE E u) i = eA E i := by
  show va_up _ _ _ i = _
  unfold va_up
  rw [if_neg (by omega), if_neg (by omega), if_neg (by omega)]
theorem exE_0 {E : En} {u : Nat → Nat} : eA (exE E u) (eN E) = u 0 := by
  show va_up _ _ _ _ = _
  unfold va_up
  rw [if_neg (by omega), if_neg (by omega), if_pos rfl]
theorem exE_1 {E : En} {u : Nat → Nat} : eA (exE E u) (eN E + 1) = u 1 := by
  show va_up _ _ _ _ = _
  unfold va_up
  rw [if_neg (by omega), if_pos rfl]
theorem exE_2 {E : En} {u : Nat → Nat} : eA (exE E u) (eN E + 2) = u 2 := by
  show va_up _ _ _ _ = _
  unfold va_up
  rw [if_pos rfl]
/-- the laws' rows name texts that are there -/
def lawsOk (n : Nat) (M : Mm) : Prop := ∀ j : Nat, (M 2 j).toNatClampNeg < n ∧ (M 14 j).toNatClampNeg < n ∧ (M 26 j).toNatClampNeg < n
theorem tp_hi {i : Nat} (h : 94 ≤ i) : tp i = 20 + (i - 94) % 3 := by unfold tp; rw [if_neg (by omega)]
theorem cell_q {cA : ClassId} {n : Nat} {f g : Nat → Option Nat} (h : ∀ j : Nat, j < n → f j = g j) : vp_cell cA (n, qa f) = vp_cell cA (n, qa g) := by
  rw [vp_cell_q, vp_cell_q]
  unfold arrV
  congr 2
  funext j
  show va_rf (f j.val) = va_rf (g j.val)
  rw [h j.val j.isLt]
theorem cell_i {cA : ClassId} {n : Nat} {f g : Nat → Int32} (h : ∀ j : Nat, j < n → f j = g j) : vp_cell cA (n, .inl f) = vp_cell cA (n, .inl g) := by
  rw [vp_cell_i, vp_cell_i]
  unfold arrV
  congr 2
  funext j
  show Value.int (f j.val) = Value.int (g j.val)
  rw [h j.val j.isLt]
theorem at_e {D : va_G} {a b : Nat} {e f : va_E} {H : Heap} (hab : a = b) (hef : e = f) (h : va_at D cls (a, e) H) : va_at D cls (b, f) H := by subst hab; subst hef; exact h
theorem at_q {D : va_G} {a b n : Nat} {cA : ClassId} {f g : Nat → Option Nat} {H : Heap} (hab : a = b) (hfg : ∀ j : Nat, j < n → f j = g j) (h : va_at D cls (a, .inl (cA, n, qa f)) H) : va_at D cls (b, .inl (cA, n, qa g)) H := by
  subst hab
  have h1 : H[a]? = some (vp_cell cA (n, qa f)) := h
  show H[a]? = some (vp_cell cA (n, qa g))
  rw [h1, cell_q hfg]
theorem at_i {D : va_G} {a b n : Nat} {cA : ClassId} {f g : Nat → Int32} {H : Heap} (hab : a = b) (hfg : ∀ j : Nat, j < n → f j = g j) (h : va_at D cls (a, .inl (cA, n, .inl f)) H) : va_at D cls (b, .inl (cA, n, .inl g)) H := by
  subst hab
  have h1 : H[a]? = some (vp_cell cA (n, .inl f)) := h
  show H[a]? = some (vp_cell cA (n, .inl g))
  rw [h1, cell_i hfg]
set_option maxRecDepth 10000 in
theorem at_ex {E : En} {u : Nat → Nat} {M : Mm} {D : va_G} {H : Heap} (hlo : 94 ≤ eN E) (hm : (eN E - 94) % 3 = 0) (hL : lawsOk (eN E) M) {i : Nat} (hi : i < eN E) (h0 : va_at D cls (eA E i, sh E i (M i)) H) : va_at D cls (eA (exE E u) i, sh (exE E u) i (M i)) H := by
  have hlow : ∀ j : Nat, j < 94 → eA (exE E u) j = eA E j := fun j hj => exE_old (by omega)
  have hlaw : ∀ x : Int32, x.toNatClampNeg < eN E → lawR (eA (exE E u)) x = lawR (eA E) x := fun x hx => by
    unfold lawR
    rw [exE_old hx]
  have hii : eA E i = eA (exE E u) i := (exE_old hi).symm
  by_cases h94 : i < 94
  · have hall : ∀ i : Nat, i < 94 → (tp i = 1 ∨ tp i = 12 ∨ (tp i = 2 ∧ i + 3 < 94) ∨ (tp i = 3 ∧ (i = 2 ∨ i = 14 ∨ i = 26)) ∨ (tp i = 4 ∧ i + 8 < 94) ∨ tp i = 5 ∨ (tp i = 6 ∧ i + 3 < 94) ∨ (tp i = 7 ∧ i + 1 < 94) ∨ (tp i = 8 ∧ i + 7 < 94) ∨ (tp i = 9 ∧ i + 1 < 94) ∨ (tp i = 10 ∧ i + 17 < 94) ∨ (tp i = 11 ∧ i + 2 < 94) ∨ tp i = 1000 + (tp i - 1000)) := by decide +kernel
    rcases hall i h94 with h | h | ⟨h, hb⟩ | ⟨h, hb⟩ | ⟨h, hb⟩ | h | ⟨h, hb⟩ | ⟨h, hb⟩ | ⟨h, hb⟩ | ⟨h, hb⟩ | ⟨h, hb⟩ | ⟨h, hb⟩ | h
    · refine at_e hii ?_ h0
      rw [sh_1 h, sh_1 h]
      simp only [hlow 1 (by omega), hlow 13 (by omega), hlow 25 (by omega), hlow 37 (by omega), hlow 38 (by omega), hlow 42 (by omega), hlow 44 (by omega), hlow 53 (by omega)]
    · refine at_e hii ?_ h0
      rw [sh_12 h, sh_12 h]
      simp only [hlow 75 (by omega), hlow 76 (by omega), hlow 77 (by omega), hlow 78 (by omega), hlow 79 (by omega), hlow 80 (by omega), hlow 81 (by omega), hlow 82 (by omega), hlow 83 (by omega), hlow 84 (by omega), hlow 85 (by omega), hlow 86 (by omega), hlow 87 (by omega), hlow 88 (by omega), hlow 89 (by omega), hlow 90 (by omega), hlow 91 (by omega), hlow 92 (by omega), hlow 93 (by omega)]
    · refine at_e hii ?_ h0
      rw [sh_2 h, sh_2 h, hlow (i + 1) (by omega), hlow (i + 2) (by omega), hlow (i + 3) (by omega)]
    · refine at_e hii ?_ h0
      rw [sh_3 h, sh_3 h]
      have : (fun j => lawR (eA (exE E u)) (M i j)) = fun j => lawR (eA E) (M i j) := by
        funext j
        obtain ⟨l1, l2, l3⟩ := hL j
        rcases hb with rfl | rfl | rfl
        · exact hlaw _ l1
        · exact hlaw _ l2
        · exact hlaw _ l3
      rw [this]
      rfl
    · rw [sh_4 h] at h0 ⊢
      exact at_q hii (fun j hj => by rw [hlow (i + 1 + j) (by omega)]) h0
    · refine at_e hii ?_ h0
      rw [sh_5 h, sh_5 h]
    · refine at_e hii ?_ h0
      rw [sh_6 h, sh_6 h, hlow (i + 1) (by omega), hlow (i + 3) (by omega)]
    · refine at_e hii ?_ h0
      rw [sh_7 h, sh_7 h, hlow (i + 1) (by omega)]
    · rw [sh_8 h] at h0 ⊢
      exact at_q hii (fun j hj => by rw [hlow (i + 1 + 2 * j) (by omega)]) h0
    · refine at_e hii ?_ h0
      rw [sh_9 h, sh_9 h, hlow (i + 1) (by omega)]
    · rw [sh_10 h] at h0 ⊢
      exact at_q hii (fun j hj => by rw [hlow (i + 1 + 4 * j) (by omega)]) h0
    · refine at_e hii ?_ h0
      rw [sh_11 h, sh_11 h, hlow (i + 1) (by omega), hlow (i + 2) (by omega)]
    · refine at_e hii ?_ h0
      rw [sh_ia _ h, sh_ia _ h]
      rfl
  · have h1 := tp_hi (i := i) (by omega)
    have h2 : (i - 94) % 3 = 0 ∨ (i - 94) % 3 = 1 ∨ (i - 94) % 3 = 2 := by omega
    rcases h2 with h2 | h2 | h2
    · have h : tp i = 20 := by omega
      refine at_e hii ?_ h0
      rw [sh_20 h, sh_20 h, exE_old (i := i + 1) (by omega), exE_old (i := i + 2) (by omega)]
    · have h : tp i = 21 := by omega
      refine at_e hii ?_ h0
      rw [sh_tx (Or.inl h), sh_tx (Or.inl h)]
      rfl
    · have h : tp i = 22 := by omega
      refine at_e hii ?_ h0
      rw [sh_tx (Or.inr h), sh_tx (Or.inr h)]
      rfl
theorem newT_old {M : Mm} {n : Nat} {key pcs : Int32} {f0 : Nat → Int32} {sz : Int32} {i : Nat} (h : i < n) : newT M n key pcs f0 sz i = M i := by
  unfold newT va_up
  rw [if_neg (by omega), if_neg (by omega), if_neg (by omega)]
theorem newT_0 {M : Mm} {n : Nat} {key pcs : Int32} {f0 : Nat → Int32} {sz : Int32} : newT M n key pcs f0 sz n = tO key pcs := by
  unfold newT va_up
  rw [if_neg (by omega), if_neg (by omega), if_pos rfl]
theorem newT_1 {M : Mm} {n : Nat} {key pcs : Int32} {f0 : Nat → Int32} {sz : Int32} : newT M n key pcs f0 sz (n + 1) = tS1 f0 sz := by
  unfold newT va_up
  rw [if_neg (by omega), if_pos rfl]
theorem newT_2 {M : Mm} {n : Nat} {key pcs : Int32} {f0 : Nat → Int32} {sz : Int32} : newT M n key pcs f0 sz (n + 2) = tP1 pcs := by
  unfold newT va_up
  rw [if_pos rfl]
theorem LEN_big (j : Int32) : j.toNatClampNeg < LEN := by
  show j.toInt.toNat < LEN
  have := j.toInt_lt
  unfold LEN
  omega
set_option maxRecDepth 10000 in
/-- the world of written()'s end is a world of ours again -/
theorem wd_ex {E : En} {u : Nat → Nat} {M : Mm} {H : Heap} {key pcs sz : Int32} (hlo : 94 ≤ eN E) (hm : (eN E - 94) % 3 = 0) (hL : lawsOk (eN E) M) (hP : va_P (eD E) cls (F_wr (eC E) (wd E M) (M 41) key pcs sz.toNatClampNeg pcs.toNatClampNeg u) H) : va_P (eD (exE E u)) cls (wd (exE E u) (newT M (eN E) key pcs (M 41) sz)) H := by
  intro k q hk
  have hkl : k < eN E + 3 := by
    have := (List.getElem?_eq_some_iff.mp hk).1
    rw [wd_len] at this
    exact this
  rw [wd_get (by exact hkl)] at hk
  cases hk
  show va_at (eD E) cls _ H
  have b1 := tp_hi (i := eN E) hlo
  have b2 := tp_hi (i := eN E + 1) (by omega)
  have b3 := tp_hi (i := eN E + 2) (by omega)
  by_cases h : k < eN E
  · rw [newT_old h]
    exact at_ex hlo hm hL h (hP (k + 3) _ (wd_get h))
  · have h3 : k = eN E ∨ k = eN E + 1 ∨ k = eN E + 2 := by omega
    rcases h3 with rfl | rfl | rfl
    · have ht : tp (eN E) = 20 := by omega
      refine at_e (a := u 0) exE_0.symm ?_ (hP 2 _ rfl)
      rw [sh_20 ht, newT_0, exE_1, exE_2]
      rfl
    · have ht : tp (eN E + 1) = 21 := by omega
      rw [sh_tx (Or.inl ht), newT_1]
      have e : (tS1 (M 41) sz LEN).toNatClampNeg = sz.toNatClampNeg := by unfold tS1; rw [pk_us]
      rw [e]
      refine at_i (a := u 1) exE_1.symm (fun j hj => ?_) (hP 1 _ rfl)
      unfold tS1
      rw [pk_un (by have := LEN_big sz; omega)]
    · have ht : tp (eN E + 2) = 22 := by omega
      rw [sh_tx (Or.inr ht), newT_2]
      have e : (tP1 pcs LEN).toNatClampNeg = pcs.toNatClampNeg := by unfold tP1; rw [pk_us]
      rw [e]
      refine at_i (a := u 2) exE_2.symm (fun j hj => ?_) (hP 0 _ rfl)
      unfold tP1
      rw [pk_un (by have := LEN_big pcs; omega)]
theorem aD_ex {E : En} {u : Nat → Nat} {A : Nat → Prop} {M : Mm} {key pcs : Int32} {N P : Nat} (hD : va_D A (F_wr (eC E) (wd E M) (M 41) key pcs N P u)) : aD A (exE E u) := by
  have at' : ∀ i : Nat, i < eN E + 3 → ∃ (k : Nat) (e : va_E), (F_wr (eC E) (wd E M) (M 41) key pcs N P u)[k]? = some (eA (exE E u) i, e) ∧ (i < eN E → k = i + 3) ∧ (i = eN E → k = 2) ∧ (i = eN E + 1 → k = 1) ∧ (i = eN E + 2 → k = 0) := by
    intro i hi
    by_cases h : i < eN E
    · refine ⟨i + 3, sh E i (M i), ?_, fun _ => rfl, by omega, by omega, by omega⟩
      rw [exE_old h]
      exact wd_get h
    · have h3 : i = eN E ∨ i = eN E + 1 ∨ i = eN E + 2 := by omega
      rcases h3 with rfl | rfl | rfl
      · exact ⟨2, _, by rw [exE_0]; rfl, by omega, fun _ => rfl, by omega, by omega⟩
      · exact ⟨1, _, by rw [exE_1]; rfl, by omega, by omega, fun _ => rfl, by omega⟩
      · exact ⟨0, _, by rw [exE_2]; rfl, by omega, by omega, by omega, fun _ => rfl⟩
  refine ⟨fun i j hi hj e => ?_, fun i hi => ?_⟩
  · obtain ⟨k, x, a1, a2, a3, a4, a5⟩ := at' i hi
    obtain ⟨k2, y, b1, b2, b3, b4, b5⟩ := at' j hj
    have := hD.1 k k2 _ _ a1 b1 e
    have hi : i < eN E + 3 := hi
    have hj : j < eN E + 3 := hj
    by_cases c1 : i < eN E <;> by_cases c2 : j < eN E
    · have := a2 c1; have := b2 c2; omega
    · have := a2 c1
      have h3 : j = eN E ∨ j = eN E + 1 ∨ j = eN E + 2 := by omega
      rcases h3 with h | h | h
      · have := b3 h; omega
      · have := b4 h; omega
      · have := b5 h; omega
    · have := b2 c2
      have h3 : i = eN E ∨ i = eN E + 1 ∨ i = eN E + 2 := by omega
      rcases h3 with h | h | h
      · have := a3 h; omega
      · have := a4 h; omega
      · have := a5 h; omega
    · have h3 : j = eN E ∨ j = eN E + 1 ∨ j = eN E + 2 := by omega
      have h4 : i = eN E ∨ i = eN E + 1 ∨ i = eN E + 2 := by omega
      rcases h3 with h | h | h <;> rcases h4 with h5 | h5 | h5
      all_goals first | omega | (have := b3 h; have := a3 h5; omega) | (have := b3 h; have := a4 h5; omega) | (have := b3 h; have := a5 h5; omega) | (have := b4 h; have := a3 h5; omega) | (have := b4 h; have := a5 h5; omega) | (have := b5 h; have := a3 h5; omega) | (have := b5 h; have := a4 h5; omega)
  · obtain ⟨k, x, a1, -⟩ := at' i hi
    exact hD.2 k _ a1
/-- E2 is E with cells more -/
def Ext (E E2 : En) : Prop := eD E2 = eD E ∧ eC E2 = eC E ∧ eS E2 = eS E ∧ eN E ≤ eN E2 ∧ (∀ i : Nat, i < eN E → eA E2 i = eA E i) ∧ eN E2 ≤ 1000
/-- the end of text(): a world of ours, perhaps with a text more -/
def QX (E : En) (K : Nat → Mm → Int32 → Prop) (A : Nat → Prop) : Array Value → State → Outcome → State → Prop := va_Qi (fun r (u : En × Mm) => K (eN u.1) u.2 r ∧ Ext E u.1 ∧ aD A u.1) (fun u t => va_P (eD u.1) cls (wd u.1 u.2) t.heap) A
def wp_X7_text (n : Nat) (M : Mm) (K : Nat → Mm → Int32 → Prop) : Prop := wp_X1_reads n M (fun M1 r1 => ∀ M2 : Mm, M2 = wr M1 38 1 0 → (¬ r1 = 0 → (M2 1 2 < 14 → (¬ M2 40 1 < 0 ∧ M2 40 1 < 96 ∧ ¬ M2 37 6 < 0 ∧ (M2 37 6).toNatClampNeg ≤ 96 ∧ (n - 94) % 3 = 0 ∧ lawsOk n M2 ∧ n + 3 ≤ 1000) ∧ (∀ M3 : Mm, M3 = newT M2 n (M2 37 5) (M2 37 6) (M2 41) (M2 40 1) → wp_X3_addLaw (n + 3) M3 1 n (fun M4 => K (n + 3) M4 (M4 1 2 - 1)))) ∧ (¬ M2 1 2 < 14 → K n M2 (-1000000003))) ∧ (r1 = 0 → K n M2 (-100 - M2 37 2)))
def CtrX (l : Launch) (E : En) (d : Nat) (M : Mm) (K : Nat → Mm → Int32 → Prop) : Prop := ∀ sz : Nat, Met l yX7_text (.code yX7_text cX7_text 2 (some .int) :: tbG) (rmV d 3 196) (va_Pc [.ref (eA E 0)] (fun U => Pre E M sz U ∧ AO4 U)) (QX E K (aA E sz)) 3 196 (aA E sz)
section TXX
variable {g : Gm} {cc : ByteArray} {own : String} {ret : Option FieldType} {d : Nat} {E : En} {A : Nat → Prop} {nL : Nat} {pc : Nat} {lv : List (Nat × Value)} {st : List Value} {M : Mm}
theorem ax_iret {E0 : En} {mc ms : Nat} {K : Nat → Mm → Int32 → Prop} (X : CX g cc own (some .int) d E A nL) {v : Int32} (hd : decode cc pc = .ok (.ireturn, 1)) (hk : gk g ≤ mc) (hn : gn g ≤ ms) (hE : Ext E0 E) (h : K (eN E) M v) : AW g E A nL (MQ (gB g) (QX E0 K A) (gA g) (gS g) mc ms A) pc lv [.int v] M := fun H locs ls hP hS hl => W.widen hk hn (W.iret (v := v) X.hx X.hb X.hr (fun t ht hW => ⟨⟨v, (E, M), rfl, ⟨h, hE, X.aD⟩, by show va_P _ _ _ _; rw [ht]; exact hP⟩, hS.F ht⟩) hS.2.2 hd X.lk)
/-- the call of written(), and the world behind it -/
theorem ax_written {Q : State → Prop} (X : CX g cc own ret d E A nL) (hao : AO4 (gS g)) {index : Nat} {host : String} (rest : List Value) (hst : st = .ref (eA E 37) :: rest) (hcat : (rest.map fun v => v.category).sum ≤ 8) (hd : decode cc pc = .ok (.invokevirtual index, 3)) (hw : Cond.methodLinkNest own index yX1_written host ∈ tbN) (hdd : 3 ≤ d) (hk : gk g + 3 ≤ (gR g).cells) (hn : gn g + 196 ≤ (gR g).slots)
    (h0 : ¬ M 40 1 < 0) (hlt : M 40 1 < 96) (hp : ¬ M 37 6 < 0) (hb : (M 37 6).toNatClampNeg ≤ 96) (hm : (eN E - 94) % 3 = 0) (hL : lawsOk (eN E) M) (hN : eN E + 3 ≤ 1000)
    (k : ∀ (E2 : En) (g2 : Gm), Ext E E2 → eN E2 = eN E + 3 → CX g2 cc own ret d E2 A nL → gB g2 = gB g → gA g2 = gA g → gS g2 = gS g → gL g2 = gL g → gk g2 = gk g + 3 → gn g2 = gn g + 196 → AW g2 E2 A nL Q (pc + 3) lv (.ref (eA E2 (eN E)) :: rest) (newT M (eN E) (M 37 5) (M 37 6) (M 41) (M 40 1))) : AW g E A nL Q pc lv st M := fun H locs ls hP hS hl => by
  have hr := va_runVN (e := gE g) (below := gB g) (meth := gT g) (g := F0 (gM g) pc ls st) (H := H) (locs := locs) (cells := gk g) (slots := gn g) (C := RX1) (As := []) (rest := rest) (Ts := tbG) (n := 0) ⟨X.hx, X.hb, X.hml, X.hown, X.hts⟩ (v_X1_written (l := gL g) X.lo h0 hlt hp hb H.size) ⟨va_cnB 0 X.hts (good_code cal_yX1_written.1.1) rfl rfl rfl (X.nw hw) (X.w cal_yX1_written.1.2) cal_yX1_written.2.1 (by
    have h1 := X.rm.1
    have h2 := X.rm.2
    refine ⟨by show 2 + 1 ≤ _; omega, ?_⟩
    show 8 + (1 + 11) + 40 * 2 ≤ _
    omega), X.w kw807, X.w kw44⟩ ⟨preW_blind, va_recv X.hK hP (ci := 1) (q := (RX1, TX1, 7)) rfl (wd_at (i := 37) (by have := X.lo; omega) (sh_6 rfl _)), fun U hU hW => by
      subst hU
      exact ⟨rfl, rfl, hP, X.hK.moved hW.alike, (X.D M).weaken (fun _ _ _ _ => trivial), X.nst.warm hW, hao.moved hW.alike⟩⟩ rfl rfl hl.1 hst (lv_room hcat) hd ⟨hk, hn⟩
  have hsub : ∀ q, va_A (wd E M) H.size q → A q := by
    intro q h
    rcases h with ⟨i, e, hi⟩ | h
    · exact (X.D M).2 i _ hi
    · exact X.hA q (Nat.le_trans hS.1 h)
  refine va_callr hr hS (fun q _ h => hsub q h) hsub (fun u a t H1 l1 ht _ _ hB _ _ hS1 => ?_)
  obtain ⟨ha, hB1, hB2⟩ := hB
  subst ha
  have hD2 : aD A (exE E u) := aD_ex (wB_up ⟨hB1, hB2⟩ hsub)
  have hx := k (exE E u) (gP g, gL g, gE g, gR g, gS g, gM g, gA g, gB g, gT g, gC g, gk g + 3, gn g + 196) ⟨rfl, rfl, rfl, Nat.le_add_right _ _, fun i hi => exE_old hi, hN⟩ rfl
    ⟨X.hx, X.hb, X.hml, X.hown, X.hts, X.nst, X.hK, hD2, X.sta, X.str, ⟨Nat.le_trans X.lo (Nat.le_add_right _ 3), hN⟩, X.hA, ⟨X.hr, X.lk⟩, X.rm, ⟨hk, hn⟩⟩ rfl rfl rfl rfl rfl rfl
  have hP2 := wd_ex (sz := M 40 1) X.lo hm hL hB1
  have e0 : eA (exE E u) (eN E) = u 0 := exE_0
  rw [e0] at hx
  exact hx H1 l1 ls (by rw [← ht]; exact hP2) hS1 hl
end TXX
set_option maxHeartbeats 4000000 in
set_option maxRecDepth 100000 in
theorem c_X7_text {l : Launch} {E : En} {M : Mm} {K : Nat → Mm → Int32 → Prop} (h : wp_X7_text (eN E) M K) : CtrX l E 112 M K := by
  intro sz
  refine Met.ofW (cc := cX7_text) (maxL := 2) (ret := some .int) (by decide +kernel) rfl ?_
  intro p e s m args below meth c s₁ B hml hv
  obtain ⟨rfl, ⟨hsz, hP, hK, hD, hSt, hSr, hN, hlo, hhi⟩, hao⟩ := hv
  subst hsz
  have hts := atoms_spec (ws := .code yX7_text cX7_text 2 (some .int) :: tbG) B.pre
  suffices hh : ∀ (g : Gm) (A : Nat → Prop), gk g = 0 → gn g = 0 → (3 ≤ (gR g).cells ∧ 196 ≤ (gR g).slots) → AO4 (gS g) → CX g cX7_text RX7 (some .int) 112 E A 2 → AW g E A 2 (MQ (gB g) (QX E K A) (gA g) (gS g) 3 196 A) 0 [(0, .ref (eA E 0))] [] M by
    have h2 := hh (p, l, e, (headSpec (.code yX7_text cX7_text 2 (some .int) :: tbG) (rmV 112 3 196)).room, s, m, ([.ref (eA E 0)] : List Value).toArray, below, meth, c, 0, 0) (aA E s.heap.size) rfl rfl ⟨Nat.le_refl _, Nat.le_refl _⟩ hao
      ⟨B.exec, B.bytes, hml, findClass_of_methodNamed B.named, fun w hw => hts w (List.mem_cons_of_mem _ hw), hN, hK, hD, hSt, hSr, ⟨hlo, hhi⟩, fun q hq => Or.inr hq, ⟨B.returns, B.notSynchronized⟩, ⟨Nat.le_refl _, Nat.le_refl _⟩, ⟨Nat.zero_le _, Nat.zero_le _⟩⟩
    rw [lg_entry_eq]
    exact h2 s.heap [] _ hP va_S.rf (lv_entry [.ref (eA E 0)] (n := 2) (Nat.le_of_ble_eq_true rfl))
  clear hts hml B hP hK hD hSt hSr hN hlo hhi hao
  intro g A gk0 gn0 hroom hao X
  have hrf : Ext E E := ⟨rfl, rfl, rfl, Nat.le_refl _, fun _ _ => rfl, X.hi⟩
  unfold wp_X7_text at h
  refine aw_aload_n X dX7_text_0 0 rfl ?_
  refine aw_get X dX7_text_1 (X.lt (by decide)) (sh_1 rfl _) fl_RX7_29 rfl ?_
  refine ca_i X (rn_vn X [] [] (i := 37) (X.lt (by decide)) (sh_6 rfl _) rfl rfl kw643 kw32 (c_X1_reads h) cal_yX1_reads kw641 (by decide) rfl rfl (Nat.le_of_ble_eq_true rfl) dX7_text_4) (fun M1 r1 h => ?_)
  refine aw_istore_n (lv' := [(1, .int r1), (0, .ref (eA E 0))]) X dX7_text_7 (by decide) rfl ?_
  refine aw_aload_n X dX7_text_8 1 rfl ?_
  refine aw_get X dX7_text_9 (X.lt (by decide)) (sh_1 rfl _) fl_RX7_37 rfl ?_
  refine aw_iconst (v := 0) X dX7_text_12 (by decide) ?_
  refine aw_put (i := 38) X dX7_text_13 (X.lt (by decide)) (sh_7 rfl _) fl_RX7_227 fw_2_1 (Nat.le_of_ble_eq_true rfl) (sp_7_1 rfl _ _) (fun M2 eM2 => ?_)
  have h := h M2 eM2
  refine aw_iload_n X dX7_text_16 0 rfl ?_
  refine aw_if_ne (tgt := 31) X dX7_text_17 (by decide) (fun c => ?_) (fun c => ?_)
  · have h := h.1 c
    refine aw_aload_n X dX7_text_31 1 rfl ?_
    refine aw_get X dX7_text_32 (X.lt (by decide)) (sh_1 rfl _) fl_RX7_10 rfl ?_
    refine aw_get (i := 1) X dX7_text_35 (X.lt (by decide)) (sh_2 rfl _) fl_RX7_238 rfl ?_
    refine aw_bipush (v := 14) X dX7_text_38 (by decide) ?_
    refine aw_icmp_lt (tgt := 46) X dX7_text_40 (by decide) (fun c2 => ?_) (fun c2 => ?_)
    · obtain ⟨⟨a1, a2, a3, a4, a5, a6, a7⟩, h⟩ := h.1 c2
      refine aw_aload_n X dX7_text_46 1 rfl ?_
      refine aw_get X dX7_text_47 (X.lt (by decide)) (sh_1 rfl _) fl_RX7_10 rfl ?_
      refine aw_aload_n X dX7_text_50 1 rfl ?_
      refine aw_get X dX7_text_51 (X.lt (by decide)) (sh_1 rfl _) fl_RX7_29 rfl ?_
      refine ax_written X hao [.ref (eA E 1)] rfl (Nat.le_of_ble_eq_true rfl) dX7_text_54 kw805 (by decide) (by rw [gk0]; exact hroom.1) (by rw [gn0]; exact hroom.2) a1 a2 a3 a4 a5 a6 a7 (fun E2 g2 hE hn2 X2 b1 b2 b3 b4 b5 b6 => ?_)
      have h := h _ rfl
      rw [← hn2] at h
      have e0 : eA E2 0 = eA E 0 := hE.2.2.2.2.1 0 (X.lt (by decide))
      have e1 : eA E2 1 = eA E 1 := hE.2.2.2.2.1 1 (X.lt (by decide))
      rw [← e0, ← e1, ← b1, ← b2, ← b3]
      refine ca_v X2 (rn_vn X2 [.ref (eA E2 (eN E))] [] (i := 1) (X2.lt (by decide)) (sh_2 rfl _) rfl rfl kw846 kw45 (c_X3_addLaw h) cal_yX3_addLaw kw844 (by decide) rfl rfl (Nat.le_of_ble_eq_true rfl) dX7_text_57) (fun M4 h => ?_)
      refine aw_aload_n X2 dX7_text_60 1 rfl ?_
      refine aw_get X2 dX7_text_61 (X2.lt (by decide)) (sh_1 rfl _) fl_RX7_10 rfl ?_
      refine aw_get (i := 1) X2 dX7_text_64 (X2.lt (by decide)) (sh_2 rfl _) fl_RX7_238 rfl ?_
      refine aw_iconst (v := 1) X2 dX7_text_67 (by decide) ?_
      refine aw_isub X2 dX7_text_68 ?_
      exact ax_iret X2 dX7_text_69 (by rw [b5, gk0]; decide) (by rw [b6, gn0]; decide) hE h
    · have h := h.2 c2
      refine aw_ldc (v := (-1000000003)) X dX7_text_43 kw404 ?_
      exact ax_iret X dX7_text_45 (by rw [gk0]; decide) (by rw [gn0]; decide) hrf h
  · have h := h.2 c
    refine aw_bipush (v := (-100)) X dX7_text_20 (by decide) ?_
    refine aw_aload_n X dX7_text_22 1 rfl ?_
    refine aw_get X dX7_text_23 (X.lt (by decide)) (sh_1 rfl _) fl_RX7_29 rfl ?_
    refine aw_get (i := 37) X dX7_text_26 (X.lt (by decide)) (sh_6 rfl _) fl_RX7_235 rfl ?_
    refine aw_isub X dX7_text_29 ?_
    exact ax_iret X dX7_text_30 (by rw [gk0]; decide) (by rw [gn0]; decide) hrf h
