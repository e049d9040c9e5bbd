/-! ranges that stay -/
def bd (x : Int32) (k : Nat) : Prop := ∃ w : Nat, w ≤ k ∧ x = nI w
theorem bd.mono {x : Int32} {a b : Nat} (h : bd x a) (hab : a ≤ b) : bd x b := by
  obtain ⟨w, h1, h2⟩ := h
  exact ⟨w, by omega, h2⟩
theorem bd.add {x y : Int32} {a b : Nat} (h : bd x a) (g : bd y b) : bd (x + y) (a + b) := by
  obtain ⟨w, h1, rfl⟩ := h
  obtain ⟨v, h3, rfl⟩ := g
  exact ⟨w + v, by omega, nI_add w v⟩
theorem bd_1 {x : Int32} {a : Nat} (h : bd x a) : bd (x + 1) (a + 1) := h.add ⟨1, Nat.le_refl _, rfl⟩
theorem bd_0 (a : Nat) : bd 0 a := ⟨0, Nat.zero_le _, rfl⟩
theorem bd_mn3 {a b c : Int32} (ha : bd a 9) (hb : bd b 9) (hc : bd c 99) : bd (mn3 a b c) 9 ∧ bd (b - mn3 a b c) 9 ∧ bd (c - mn3 a b c) 99 := by
  obtain ⟨i, hi, rfl⟩ := ha
  obtain ⟨j, hj, rfl⟩ := hb
  obtain ⟨k, hk, rfl⟩ := hc
  have e : ∃ r : Nat, mn3 (nI i) (nI j) (nI k) = nI r ∧ r ≤ i ∧ r ≤ j ∧ r ≤ k := by
    unfold mn3
    by_cases h1 : j < i
    · rw [if_pos (nI_lt h1 (by omega))]
      by_cases h2 : k < j
      · rw [if_pos (nI_lt h2 (by omega))]; exact ⟨k, rfl, by omega, by omega, by omega⟩
      · rw [if_neg (nI_nlt (by omega) (by omega))]; exact ⟨j, rfl, by omega, by omega, by omega⟩
    · rw [if_neg (nI_nlt (by omega) (by omega))]
      by_cases h2 : k < i
      · rw [if_pos (nI_lt h2 (by omega))]; exact ⟨k, rfl, by omega, by omega, by omega⟩
      · rw [if_neg (nI_nlt (by omega) (by omega))]; exact ⟨i, rfl, by omega, by omega, by omega⟩
  obtain ⟨r, e, h1, h2, h3⟩ := e
  rw [e, pk_sub h2, pk_sub h3]
  exact ⟨⟨r, by omega, rfl⟩, ⟨_, by omega, rfl⟩, ⟨_, by omega, rfl⟩⟩
def RG (S : Sc) (m W : Nat) : Prop := bd (S 2) m ∧ bd (S 4) 99 ∧ bd (S 5) 99 ∧ bd (S 6) 9 ∧ bd (S 9) W
def RC (S : Sc) (c g v : Nat) : Prop := bd (S (cx c 0)) 5 ∧ bd (S (cx c 3)) 9 ∧ bd (S (cx c 4)) 9 ∧ bd (S (cx c 9)) g ∧ bd (S (cx c 11)) v
def RI (S : Sc) (m : Nat) : Prop := RG S m (8 * m) ∧ ∀ c : Nat, c < nCo S → RC S c (9 * m) m
theorem RI.mono {S : Sc} {m k : Nat} (h : RI S m) (hk : m ≤ k) : RI S k := by
  obtain ⟨⟨a, b, c, d, e⟩, h⟩ := h
  refine ⟨⟨a.mono hk, b, c, d, e.mono (by omega)⟩, fun q hq => ?_⟩
  obtain ⟨a, b, c, d, e⟩ := h q hq
  exact ⟨a, b, c, d.mono (by omega), e.mono hk⟩
/-- the ranged places alike -/
def RK (S T : Sc) : Prop := (∀ k : Nat, (k = 2 ∨ k = 4 ∨ k = 5 ∨ k = 6 ∨ k = 9) → T k = S k) ∧ ∀ c w : Nat, (w = 0 ∨ w = 3 ∨ w = 4 ∨ w = 9 ∨ w = 11) → T (cx c w) = S (cx c w)
theorem RK.rf (S : Sc) : RK S S := ⟨fun _ _ => rfl, fun _ _ _ => rfl⟩
theorem RK.tr {S T U : Sc} (h : RK S T) (g : RK T U) : RK S U := ⟨fun k hk => (g.1 k hk).trans (h.1 k hk), fun c w hw => (g.2 c w hw).trans (h.2 c w hw)⟩
theorem RK.uc {S T : Sc} {c w : Nat} {x : Int32} (h : RK S T) (hw : w = 5 ∨ w = 6 ∨ w = 7 ∨ w = 8 ∨ w = 10) : RK S (upd T (cx c w) x) :=
  ⟨fun k hk => by rw [pk_un (Ne.symm (cx_lo (by omega)))]; exact h.1 k hk, fun d v hv => by rw [pk_un (cx_ne (by omega) (by omega) (Or.inr (by omega)))]; exact h.2 d v hv⟩
theorem RK.ug {S T : Sc} {k : Nat} {x : Int32} (h : RK S T) (hw : k = 8 ∨ k = 10) : RK S (upd T k x) :=
  ⟨fun q hq => by rw [pk_un (by omega)]; exact h.1 q hq, fun d v hv => by rw [pk_un (cx_lo (by omega))]; exact h.2 d v hv⟩
theorem RK.g {S T : Sc} {m W : Nat} (h : RK S T) (g : RG S m W) : RG T m W := by
  unfold RG at *
  rw [h.1 2 (by decide), h.1 4 (by decide), h.1 5 (by decide), h.1 6 (by decide), h.1 9 (by decide)]; exact g
theorem RK.c {S T : Sc} {c g v : Nat} (h : RK S T) (k : RC S c g v) : RC T c g v := by
  unfold RC at *
  rw [h.2 c 0 (by decide), h.2 c 3 (by decide), h.2 c 4 (by decide), h.2 c 9 (by decide), h.2 c 11 (by decide)]; exact k
theorem RC.o {S T : Sc} {d g v : Nat} (h : ∀ w : Nat, w < 12 → T (cx d w) = S (cx d w)) (k : RC S d g v) : RC T d g v := by
  unfold RC at *
  rw [h 0 (by decide), h 3 (by decide), h 4 (by decide), h 9 (by decide), h 11 (by decide)]; exact k
theorem rk_goB {S T : Sc} {c : Nat} (h : RK S T) : RK S (goB T c) := (h.uc (by decide)).uc (by decide)
theorem rk_emp {S T : Sc} {c : Nat} (h : RK S T) : RK S (emp T c) := h.uc (by decide)
theorem rk_stn {S T : Sc} {c : Nat} (h : RK S T) : RK S (stn T c) := (h.uc (by decide)).uc (by decide)
theorem rk_lv1 {S : Sc} {c : Nat} : RK S (lv1 S c) := by
  have h := RK.rf S
  unfold lv1 sinc goO drw
  repeat' split
  · exact h.uc (by decide)
  · exact h.uc (by decide)
  · exact (h.ug (by decide)).uc (by decide)
  · exact ((h.ug (by decide)).uc (by decide)).uc (by decide)
  · exact h
theorem rk_lvK {S : Sc} : ∀ c : Nat, RK S (lvK S c)
  | 0 => RK.rf S
  | c + 1 => (rk_lvK c).tr rk_lv1
theorem rk_hm1 {B : Nat → Int32} {S : Sc} {c : Nat} : RK S (hm1 B S c) := by
  have h := RK.rf S
  unfold hm1 les
  repeat' split
  · exact ((h.uc (by decide)).uc (by decide)).uc (by decide)
  · exact h.uc (by decide)
  · exact h
theorem rg_9 {S : Sc} {m W : Nat} {x : Int32} (h : RG S m W) (hx : bd x (W + 1)) : RG (upd S 9 x) m (W + 1) := by
  obtain ⟨a, b, c, d, e⟩ := h
  exact ⟨a, b, c, d, by rw [pk_us]; exact hx⟩
theorem rg_wt1 {B : Nat → Int32} {S : Sc} {c m W : Nat} (h : RG S m W) : RG (wt1 B S c) m (W + 1) := by
  have hw : RG (wai S c) m (W + 1) := by
    have h1 : RG (upd S (cx c 7) (S (cx c 7) + 1)) m W := ((RK.rf S).uc (by decide)).g h
    exact rg_9 h1 (bd_1 h1.2.2.2.2)
  unfold wt1
  repeat' split
  · exact hw
  · exact (rk_emp (rk_goB (RK.rf _))).g hw
  · exact ⟨h.1, h.2.1, h.2.2.1, h.2.2.2.1, h.2.2.2.2.mono (by omega)⟩
theorem rc_wt1 {B : Nat → Int32} {S : Sc} {c d g v : Nat} (h : RC S d g v) : RC (wt1 B S c) d g v := by
  have hw : RC (wai S c) d g v := by
    have h1 : RC (upd S (cx c 7) (S (cx c 7) + 1)) d g v := ((RK.rf S).uc (by decide)).c h
    exact RC.o (fun w hw => pk_un (cx_lo (by decide))) h1
  unfold wt1
  repeat' split
  · exact hw
  · exact (rk_emp (rk_goB (RK.rf _))).c hw
  · exact h
theorem r_wgK {B : Nat → Int32} {S : Sc} {m W : Nat} (h : RG S m W) : ∀ c : Nat, RG (wgK B S c) m (W + c) ∧ ∀ d g v : Nat, RC S d g v → RC (wgK B S c) d g v
  | 0 => ⟨h, fun _ _ _ k => k⟩
  | c + 1 => by
    have ih := r_wgK (B := B) h c
    exact ⟨rk_hm1.g (rg_wt1 ih.1), fun d g v k => rk_hm1.c (rc_wt1 (ih.2 d g v k))⟩
theorem r_tke {S : Sc} {c m W g v : Nat} (h : RG S m W) (k : RC S c g v) : RG (tke S c (mn3 (S 6) (S (cx c 4)) (S 5))) m W ∧ RC (tke S c (mn3 (S 6) (S (cx c 4)) (S 5))) c (g + 9) v := by
  obtain ⟨a, b, w, q, e⟩ := h
  obtain ⟨k0, k3, k4, k9, k11⟩ := k
  obtain ⟨x1, x2, x3⟩ := bd_mn3 q k4 w
  generalize mn3 (S 6) (S (cx c 4)) (S 5) = r at x1 x2 x3 ⊢
  have n1 : ∀ v k : Nat, k < 12 → k ≠ cx c v := fun v k hk => Ne.symm (cx_lo hk)
  unfold tke
  refine ⟨(rk_goB (RK.rf _)).g ⟨?_, ?_, ?_, ?_, ?_⟩, (rk_goB (RK.rf _)).c ⟨?_, ?_, ?_, ?_, ?_⟩⟩
  · rw [pk_un (n1 _ _ (by decide)), pk_un (n1 _ _ (by decide)), pk_un (by decide)]; exact a
  · rw [pk_un (n1 _ _ (by decide)), pk_un (n1 _ _ (by decide)), pk_un (by decide)]; exact b
  · rw [pk_un (n1 _ _ (by decide)), pk_un (n1 _ _ (by decide)), pk_us]; exact x3
  · rw [pk_un (n1 _ _ (by decide)), pk_un (n1 _ _ (by decide)), pk_un (by decide)]; exact q
  · rw [pk_un (n1 _ _ (by decide)), pk_un (n1 _ _ (by decide)), pk_un (by decide)]; exact e
  · rw [pk_un (cx_ne (by decide) (by decide) (Or.inr (by decide))), pk_un (cx_ne (by decide) (by decide) (Or.inr (by decide))), pk_un (cx_lo (by decide))]; exact k0
  · rw [pk_un (cx_ne (by decide) (by decide) (Or.inr (by decide))), pk_un (cx_ne (by decide) (by decide) (Or.inr (by decide))), pk_un (cx_lo (by decide))]; exact k3
  · rw [pk_un (cx_ne (by decide) (by decide) (Or.inr (by decide))), pk_us]; exact x2
  · rw [pk_us]; exact k9.add x1
  · rw [pk_un (cx_ne (by decide) (by decide) (Or.inr (by decide))), pk_un (cx_ne (by decide) (by decide) (Or.inr (by decide))), pk_un (cx_lo (by decide))]; exact k11
theorem r_arr {S : Sc} {c m W g v : Nat} (h : RG S m W) (k : RC S c g v) : RG (arr S c) m W ∧ RC (arr S c) c (g + 9) (v + 1) := by
  have h1 : RG (upd S (cx c 11) (S (cx c 11) + 1)) m W := by
    obtain ⟨a, b, w, q, e⟩ := h
    have n1 : ∀ k : Nat, k < 12 → k ≠ cx c 11 := fun k hk => Ne.symm (cx_lo hk)
    exact ⟨by rw [pk_un (n1 _ (by decide))]; exact a, by rw [pk_un (n1 _ (by decide))]; exact b, by rw [pk_un (n1 _ (by decide))]; exact w, by rw [pk_un (n1 _ (by decide))]; exact q, by rw [pk_un (n1 _ (by decide))]; exact e⟩
  have k1 : RC (upd S (cx c 11) (S (cx c 11) + 1)) c g (v + 1) := by
    obtain ⟨k0, k3, k4, k9, k11⟩ := k
    exact ⟨by rw [pk_un (cx_ne (by decide) (by decide) (Or.inr (by decide)))]; exact k0, by rw [pk_un (cx_ne (by decide) (by decide) (Or.inr (by decide)))]; exact k3, by rw [pk_un (cx_ne (by decide) (by decide) (Or.inr (by decide)))]; exact k4, by rw [pk_un (cx_ne (by decide) (by decide) (Or.inr (by decide)))]; exact k9, by rw [pk_us]; exact bd_1 k11⟩
  unfold arr
  generalize upd S (cx c 11) (S (cx c 11) + 1) = T at h1 k1 ⊢
  unfold ar1
  split
  · exact r_tke h1 k1
  · have h0 : RK T (ar0 T c) := by
      unfold ar0
      split
      · exact rk_emp (rk_goB (RK.rf T))
      · exact rk_stn (RK.rf T)
    obtain ⟨k0, k3, k4, k9, k11⟩ := k1
    exact ⟨h0.g h1, h0.c ⟨k0, k3, k4, k9.mono (by omega), k11⟩⟩
theorem r_cm1 {S : Sc} {c m W g v : Nat} (h : RG S m W) (k : RC S c g v) : RG (cm1 S c) m W ∧ RC (cm1 S c) c (g + 9) (v + 1) := by
  have hl : RK S (les S c) := (RK.rf S).uc (by decide)
  have km : ∀ {T : Sc}, RC T c g v → RC T c (g + 9) (v + 1) := fun k => ⟨k.1, k.2.1, k.2.2.1, k.2.2.2.1.mono (by omega), k.2.2.2.2.mono (by omega)⟩
  unfold cm1
  repeat' split
  · exact r_arr (hl.g h) (hl.c k)
  · exact ⟨hl.g h, km (hl.c k)⟩
  · exact ⟨h, km k⟩
theorem r_cmK {S : Sc} {m W z g v : Nat} (h : RG S m W) (k : ∀ c : Nat, c < z → RC S c g v) : ∀ c : Nat, c ≤ z → RG (cmK S c) m W ∧ (∀ d : Nat, d < c → RC (cmK S c) d (g + 9) (v + 1)) ∧ ∀ d : Nat, c ≤ d → d < z → RC (cmK S c) d g v
  | 0, _ => ⟨h, fun d hd => absurd hd (by omega), fun d _ hd => k d hd⟩
  | c + 1, hc => by
    obtain ⟨i1, i2, i3⟩ := r_cmK h k c (by omega)
    have := r_cm1 i1 (i3 c (Nat.le_refl _) (by omega))
    refine ⟨this.1, fun d hd => ?_, fun d hd hz => ?_⟩
    · by_cases e : d = c
      · subst e; exact this.2
      · exact RC.o (fun w hw => cm1_o hw e) (i2 d (by omega))
    · exact RC.o (fun w hw => cm1_o hw (by omega)) (i3 d (by omega) hz)
theorem bd_lt {x y : Int32} {a b : Nat} (hb : b < 2 ^ 30) (ha : a < 2 ^ 30) (hx : bd x a) (hy : bd y b) (h : ¬ y ≤ x) : bd (x + 1) b := by
  obtain ⟨w, h1, rfl⟩ := hx
  obtain ⟨v, h2, rfl⟩ := hy
  rw [nI_leI (by omega) (by omega)] at h
  exact ⟨w + 1, by omega, nI_s w⟩
theorem r_qui {S : Sc} {x : Int32} {y m W : Nat} (h : RG S m W) : RG (qui S x y) m W ∧ ∀ c g v : Nat, RC S c g v → RC (qui S x y) c g v := by
  have h8 : ∀ q : Int32, RK S (upd S 8 q) := fun q => (RK.rf S).ug (by decide)
  unfold qui
  repeat' split
  · exact ⟨(h8 _).g h, fun c g v k => (h8 _).c k⟩
  · refine ⟨?_, fun c g v k => RC.o (fun w hw => pk_un (cx_lo (by decide))) ((h8 0).c k)⟩
    obtain ⟨a, b, w, q, e⟩ := (h8 0).g h
    refine ⟨a, b, ?_, q, e⟩
    rw [pk_us]
    by_cases hq : S 4 ≤ S 5
    · rw [bi_f (fun z => z hq), Int32.add_zero]; exact h.2.2.1
    · rw [bi_t hq]; exact bd_lt (by decide) (by decide) h.2.2.1 h.2.1 hq
  · exact ⟨(h8 _).g h, fun c g v k => (h8 _).c k⟩
theorem wnt_o {o : Int32} {S : Sc} {c d w : Nat} (hw : w < 12) (h : d ≠ c ∨ w ≠ 4) : wnt o S c (cx d w) = S (cx d w) := pk_un (cx_ne hw (by decide) h)
theorem r_wnK {o : Int32} {S : Sc} {m W : Nat} (h : RG S m W) : ∀ c : Nat, RG (wnK o S c) m W ∧ ∀ d g v : Nat, RC S d g v → RC (wnK o S c) d g v
  | 0 => ⟨h, fun _ _ _ k => k⟩
  | c + 1 => by
    obtain ⟨⟨a, b, w, q, e⟩, i2⟩ := r_wnK (o := o) h c
    have n1 : ∀ k : Nat, k < 12 → k ≠ cx c 4 := fun k hk => Ne.symm (cx_lo hk)
    refine ⟨⟨by rw [wnK, wnt, pk_un (n1 _ (by decide))]; exact a, by rw [wnK, wnt, pk_un (n1 _ (by decide))]; exact b, by rw [wnK, wnt, pk_un (n1 _ (by decide))]; exact w, by rw [wnK, wnt, pk_un (n1 _ (by decide))]; exact q, by rw [wnK, wnt, pk_un (n1 _ (by decide))]; exact e⟩, fun d g v k => ?_⟩
    obtain ⟨k0, k3, k4, k9, k11⟩ := i2 d g v k
    rw [wnK]
    refine ⟨by rw [wnt_o (by decide) (Or.inr (by decide))]; exact k0, by rw [wnt_o (by decide) (Or.inr (by decide))]; exact k3, ?_, by rw [wnt_o (by decide) (Or.inr (by decide))]; exact k9, by rw [wnt_o (by decide) (Or.inr (by decide))]; exact k11⟩
    by_cases e : d = c
    · subst e
      rw [wnt, pk_us]
      split
      · exact k3
      · exact bd_0 9
    · rw [wnt_o (by decide) (Or.inl e)]; exact k4
theorem ri_mi1 {o : Int32} {S : Sc} {m : Nat} (hz : nCo S ≤ 8) (h : RI S m) : RI (mi1 o S) (m + 1) := by
  have hk := kp_mi1 (o := o) hz
  obtain ⟨hG, hC⟩ := h
  have l1 := (rk_lvK (S := S) (nCo S)).g hG
  have l2 : ∀ c : Nat, c < nCo S → RC (lvK S (nCo S)) c (9 * m) m := fun c hc => (rk_lvK (nCo S)).c (hC c hc)
  obtain ⟨c1, c2, -⟩ := r_cmK l1 l2 (nCo S) (Nat.le_refl _)
  have w := r_wgK (B := fun c => S (cx c 5)) c1 (nCo S)
  have q := r_qui (x := cbK (lvK S (nCo S)) (nCo S)) (y := cnt (pt2 S) (nCo S)) w.1
  have mm : ∀ {T : Sc} {W : Nat}, RG T m W → RG (mnt T) (m + 1) W ∧ ∀ c g v : Nat, RC T c g v → RC (mnt T) c g v := by
    intro T W g
    obtain ⟨a, b, w, q, e⟩ := g
    exact ⟨⟨by unfold mnt; rw [pk_us]; exact bd_1 a, b, w, q, e⟩, fun c g v k => RC.o (fun w hw => pk_un (cx_lo (by decide))) k⟩
  have e1 := mm q.1
  have key : RG (mi1 o S) (m + 1) (8 * m + nCo S) ∧ ∀ c : Nat, c < nCo S → RC (mi1 o S) c (9 * m + 9) (m + 1) := by
    unfold mi1 eod
    split
    · have r := r_wnK (o := o) e1.1 (nCo (qui (pt2 S) (cbK (lvK S (nCo S)) (nCo S)) (cnt (pt2 S) (nCo S))))
      exact ⟨r.1, fun c hc => r.2 _ _ _ (e1.2 _ _ _ (q.2 _ _ _ (w.2 _ _ _ (c2 c hc))))⟩
    · exact ⟨e1.1, fun c hc => e1.2 _ _ _ (q.2 _ _ _ (w.2 _ _ _ (c2 c hc)))⟩
  obtain ⟨⟨a, b, w, q, e⟩, key⟩ := key
  refine ⟨⟨a, b, w, q, e.mono (by omega)⟩, fun c hc => ?_⟩
  rw [hk.co] at hc
  obtain ⟨k0, k3, k4, k9, k11⟩ := key c hc
  exact ⟨k0, k3, k4, k9.mono (by omega), k11⟩
theorem ri_miK {o : Int32} {S : Sc} {m : Nat} (hz : nCo S ≤ 8) (h : RI S m) : ∀ k : Nat, RI (miK o S k) (m + k)
  | 0 => h
  | k + 1 => ri_mi1 (by rw [(kp_miK hz k).co]; exact hz) (ri_miK hz h k)
