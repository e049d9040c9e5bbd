theorem ushr8 (x : Int32) : ∃ k : Nat, k < 2 ^ 24 ∧ jushr x 8 = nI k := by
  refine ⟨x.toBitVec.toNat / 256, ?_, ?_⟩
  · have := x.toBitVec.isLt; omega
  · have hlt := x.toBitVec.isLt
    apply Int32.toBitVec_inj.mp
    apply BitVec.eq_of_toNat_eq
    rw [pk_tn (by omega)]
    show (x.toBitVec >>> (8 % 32)).toNat = _
    rw [BitVec.toNat_ushiftRight, Nat.shiftRight_eq_div_pow]
theorem rem_bd {x : Int32} {d : Nat} (h0 : 0 < d) (hd : d < 2 ^ 31) : ∃ k : Nat, k < d ∧ jrem (jushr x 8) (nI d) = nI k := by
  obtain ⟨k, hk, e⟩ := ushr8 x
  rw [e]
  unfold jrem
  rw [pk_rem (by omega) h0 hd]
  exact ⟨k % d, Nat.mod_lt _ h0, rfl⟩
def dl1 (S : Sc) : Sc := adT (drw (drw (drw (drw S)))) (jrem (drv (drw S)) 6) (jrem (drv (drw (drw S))) 60) (1 + jrem (drv (drw (drw (drw S)))) 30) (jrem (drv (drw (drw (drw (drw S))))) 10)
def dlK (S : Sc) : Nat → Sc
  | 0 => S
  | c + 1 => dl1 (dlK S c)
theorem dr_ri {S : Sc} {m : Nat} (h : RI S m) : RI (drw S) m := h.ug (by decide) (by decide) (fun h => absurd h (by decide)) (fun h => absurd h (by decide)) (fun h => absurd h (by decide)) (fun h => absurd h (by decide)) (fun h => absurd h (by decide))
theorem dl_z {S : Sc} : nCo (drw (drw (drw (drw S)))) = nCo S := by rw [kp_drw.co, kp_drw.co, kp_drw.co, kp_drw.co]
theorem dl_ok {S : Sc} (h : SOK S) (hz : nCo S < 8) : SOK (dl1 S) := adT_ok ((((h.kp kp_drw).kp kp_drw).kp kp_drw).kp kp_drw) (by rw [dl_z]; exact hz)
theorem dl_ri {S : Sc} {m : Nat} (h : RI S m) (hz : nCo S < 8) : RI (dl1 S) m := by
  refine adT_ri (dr_ri (dr_ri (dr_ri (dr_ri h)))) (by rw [dl_z]; exact hz) ?_ ?_
  · obtain ⟨k, hk, e⟩ := rem_bd (x := (drw S) 10) (d := 6) (by decide) (by decide)
    exact ⟨k, by omega, e⟩
  · obtain ⟨k, hk, e⟩ := rem_bd (x := (drw (drw (drw (drw S)))) 10) (d := 10) (by decide) (by decide)
    exact ⟨k, by omega, e⟩
theorem dl_co {S : Sc} (hz : nCo S < 8) : nCo (dl1 S) = nCo S + 1 := by
  have h4 : nCo (drw (drw (drw (drw S)))) < 8 := by rw [dl_z]; exact hz
  unfold dl1
  rw [adT_co h4, dl_z]
theorem dlK_all {S : Sc} {m : Nat} (h : SOK S) (hI : RI S m) : ∀ c : Nat, nCo S + c ≤ 8 → nCo (dlK S c) = nCo S + c ∧ SOK (dlK S c) ∧ RI (dlK S c) m
  | 0, _ => ⟨rfl, h, hI⟩
  | c + 1, hc => by
    obtain ⟨a, b, d⟩ := dlK_all h hI c (by omega)
    exact ⟨by rw [dlK, dl_co (by omega), a]; omega, dl_ok b (by omega), dl_ri d (by omega)⟩
section OPSA
variable {n j : Nat} {M : Mm} {Z : Mm → Prop} {R : Mm → Int32 → Prop} {K : Mm → Int32 → Prop}
theorem e3_draw {S : Sc} (hR : SR n M 1 S) (hK : ∀ M' : Mm, SR n M' 1 (drw S) → FrA 1 M M' → K M' (drv (drw S))) : wp_X3_draw n M 1 K := by
  refine ⟨rfl, ?_⟩
  rintro M1 rfl
  have e : M 1 13 = S 10 := hR.1.2.2.2.2.2.2.2.2.2.2
  have h := hK (wr M 1 13 (M 1 13 * 1103515245 + 12345)) (by rw [e]; exact hR.wg (k := 10) (Or.inl rfl) (by decide) (by decide)) (FrB.A (FrB.wb (Or.inl rfl)))
  rw [wr_at, e]
  rw [e] at h
  unfold drv drw at h
  rw [pk_us] at h
  exact h
theorem e8_drawn (hK : ∀ M' : Mm, M' 75 = drw (M 75) → (∀ i : Nat, i ≠ 75 → M' i = M i) → K M' (drv (drw (M 75)))) : wp_X8_drawn n M K := by
  rintro M1 rfl
  rw [wr_at]
  have h := hK (wr M 75 10 (M 75 10 * 1103515245 + 12345)) (wr_row _ _ _ _) (fun i hi => wr_oth hi)
  unfold drv drw at h
  rw [pk_us] at h
  exact h
theorem op_deal {p1 : Int32} (I : Inv n j M) (hZ : ∀ M' : Mm, Inv n (j + 1) M' → Z M') (hR : ∀ (M1 : Mm) (r : Int32), wp_X8_deal n M1 p1 (fun M3 r4 => (r = r4 → Z M3) ∧ (¬ r = r4 → False)) → R M1 r) : wp_X7_deal n M p1 R := by
  obtain ⟨hS, hO, hI⟩ := I.a
  obtain ⟨hz, h0⟩ := hO.co
  have hsk := hZ _ I.sk
  by_cases hp : 1 ≤ p1 ∧ p1 ≤ 8
  · obtain ⟨p, hp8, rfl⟩ := bd_of (k := 8) (by decide) (by decide) hp
    obtain ⟨cm, hcm, hcm2, ecm⟩ : ∃ cm : Nat, nCo (M 75) + cm ≤ 8 ∧ (cm = p ∨ (cm ≤ p ∧ nCo (M 75) + cm = 8)) ∧ jmin (nI p) (8 - M 1 4) = nI cm := by
      rw [hS.1.1, h0, show (8 : Int32) = nI 8 from rfl, pk_sub hz]
      show ∃ cm : Nat, _ ∧ _ ∧ (if nI (8 - nCo (M 75)) < nI p then nI (8 - nCo (M 75)) else nI p) = nI cm
      by_cases h : 8 - nCo (M 75) < p
      · rw [if_pos (nI_lt h (by omega))]; exact ⟨8 - nCo (M 75), by omega, by omega, rfl⟩
      · rw [if_neg (nI_nlt (by omega) (by omega))]; exact ⟨p, by omega, by omega, rfl⟩
    refine e7_y hp ⟨fun _ => ?_, fun h => absurd h i1⟩
    rw [ecm]
    rintro v3 rfl
    refine ⟨cm + 1, ?_⟩
    have fin : ∀ M1 : Mm, SR n M1 1 (dlK (M 75) cm) → FrA 1 M M1 → R M1 (nI cm) := by
      intro M1 h1 F1
      refine hR _ _ (e8_y (lo := 1) (hi := 8) rfl (by decide) (by decide) hp ⟨fun _ => ⟨cm + 1, ?_⟩, fun h => absurd h i1⟩)
      obtain ⟨az, aO, aI⟩ := dlK_all hO hI cm hcm
      have e5 : M1 75 = M 75 := F1.1 75 (by omega) (notP_lt (by decide))
      suffices h : ∀ (q c : Nat) (M2 : Mm), c + q = cm → M2 75 = dlK (M 75) c → (∀ i : Nat, i ≠ 75 → M2 i = M1 i) → wl_X8_deal_17 n (nI p) (fun M3 r4 => (nI cm = r4 → Z M3) ∧ (¬ nI cm = r4 → False)) (q + 1) M2 (nI c) by
        exact h _ 0 M1 (by omega) e5 (fun _ _ => rfl)
      intro q
      induction q with
      | zero =>
        intro c M2 hc b5 bF
        have : c = cm := by omega
        subst this
        have hi := hZ _ (I.cs (by omega) F1 h1 aO (aI.mono (by omega)) (FQ.of5 bF) b5)
        rw [wl_X8_deal_17]
        refine ⟨fun _ => en rfl hi, fun h => ⟨fun _ => en rfl hi, fun h2 => ?_⟩⟩
        exfalso
        rw [nI_leI (by omega) (by omega)] at h
        rw [b5, aO.co.2, az, show (8 : Int32) = nI 8 from rfl, nI_leI (by decide) (by omega)] at h2
        omega
      | succ q ih =>
        intro c M2 hc b5 bF
        obtain ⟨cz, cO, cI⟩ := dlK_all hO hI c (by omega)
        rw [wl_X8_deal_17]
        refine ⟨fun h => absurd h (nI_ge (by omega) (by omega)), fun _ => ⟨fun h => absurd h ?_, fun _ => e8_drawn (fun M3 d1 f1 => ?_)⟩⟩
        · rw [b5, cO.co.2, cz, show (8 : Int32) = nI 8 from rfl]; exact nI_ge (by omega) (by decide)
        · rintro v5 rfl
          refine e8_drawn (fun M4 d2 f2 => ?_)
          rintro v8 rfl
          refine e8_drawn (fun M5 d3 f3 => ?_)
          rintro v11 rfl
          refine e8_drawn (fun M6 d4 f4 => ?_)
          rw [d3, d2, d1, b5] at d4
          refine e8_comes (S := drw (drw (drw (drw (dlK (M 75) c))))) ((((cO.kp kp_drw).kp kp_drw).kp kp_drw).kp kp_drw) (by rw [dl_z]; omega) d4 (fun M7 d5 f5 => ?_)
          rintro v16 rfl
          rw [nI_s]
          refine ih (c + 1) M7 (by omega) ?_ (fun i hi => by rw [f5 i hi, f4 i hi, f3 i hi, f2 i hi, f1 i hi]; exact bF i hi)
          rw [d5, d3, d2, d1, b5]; rfl
    suffices h : ∀ (q c : Nat) (M2 : Mm), c + q = cm → SR n M2 1 (dlK (M 75) c) → FrA 1 M M2 → wl_X7_deal_30 n (nI p) R (q + 1) M2 (nI cm) (nI c) by
      exact h _ 0 M (by omega) hS (FrA.rf 1 M)
    intro q
    induction q with
    | zero =>
      intro c M2 hc b5 bF
      have : c = cm := by omega
      subst this
      rw [wl_X7_deal_30]
      exact ⟨fun _ => fin M2 b5 bF, fun h => absurd (nI_le (Nat.le_refl _) (by omega)) h⟩
    | succ q ih =>
      intro c M2 hc b5 bF
      obtain ⟨cz, cO, cI⟩ := dlK_all hO hI c (by omega)
      rw [wl_X7_deal_30]
      refine ⟨fun h => absurd h (nI_ge (by omega) (by omega)), fun _ => e3_draw b5 (fun M3 d1 f1 => ?_)⟩
      rintro v5 rfl
      refine e3_draw d1 (fun M4 d2 f2 => ?_)
      rintro v8 rfl
      refine e3_draw d2 (fun M5 d3 f3 => ?_)
      rintro v11 rfl
      refine e3_draw d3 (fun M6 d4 f4 => ?_)
      rintro v15 rfl
      refine e3_admit ((((cO.kp kp_drw).kp kp_drw).kp kp_drw).kp kp_drw) (by rw [dl_z]; omega) d4 (fun M7 d5 f5 => ?_)
      rintro v18 rfl
      rw [nI_s]
      exact ih (c + 1) M7 (by omega) d5 (bF.tr (f1.tr (f2.tr (f3.tr (f4.tr f5)))))
  · exact e7_n hp ⟨fun h => absurd rfl h, fun _ => hR _ _ (e8_n (lo := 1) (hi := 8) rfl (by decide) (by decide) hp ⟨fun h => absurd rfl h, fun _ => en rfl hsk⟩)⟩
/-! the mean -/
theorem half_rem {b r : Nat} (h0 : 0 < r) (hr : r ≤ b) : b % r ≤ b / 2 := by
  rcases Nat.lt_or_ge (b / 2) r with h | h
  · have h1 : b % r = b - r := by rw [Nat.mod_eq_sub_mod hr, Nat.mod_eq_of_lt (by omega)]
    omega
  · have := Nat.mod_lt b h0; omega
theorem k7_gcd {K : Mm → Int64 → Prop} {p0 p2 : Int64} : ∀ (k a b i f : Nat), a < 2 ^ 31 → b < 2 ^ 31 → b < 2 ^ k → i + 2 * k ≤ 128 → K M (lN (Nat.gcd a b)) → wl_X7_greatestShared_9 n p0 p2 K (f + 2 * k + 1) M (lN a) (lN b) (nI i) := by
  have hz : ∀ (a b i f : Nat), a < 2 ^ 31 → b = 0 → K M (lN (Nat.gcd a b)) → wl_X7_greatestShared_9 n p0 p2 K (f + 1) M (lN a) (lN b) (nI i) := by
    intro a b i f ha hb hK
    subst hb
    rw [Nat.gcd_zero_right] at hK
    rw [wl_X7_greatestShared_9]
    exact ⟨fun _ => hK, fun _ => ⟨fun _ => hK, fun h => absurd ((lg_cmp_eq _ _).mpr rfl) h⟩⟩
  have hs : ∀ (a b i f : Nat), a < 2 ^ 31 → b < 2 ^ 31 → 0 < b → i < 128 → wl_X7_greatestShared_9 n p0 p2 K f M (lN b) (lN (a % b)) (nI (i + 1)) → wl_X7_greatestShared_9 n p0 p2 K (f + 1) M (lN a) (lN b) (nI i) := by
    intro a b i f ha hb h0 hi h
    have hne : ¬ lN b = 0 := fun e => by
      have := (pk_lEQ (a := b) (b := 0) (by omega) (by decide)).mp e
      omega
    rw [wl_X7_greatestShared_9]
    refine ⟨fun q => absurd q (by rw [show (128 : Int32) = nI 128 from rfl]; exact nI_ge hi (by decide)), fun _ => ⟨fun q => absurd ((lg_cmp_eq _ _).mp q) hne, fun _ => ⟨hne, ?_⟩⟩⟩
    rintro v1 rfl v2 rfl
    rw [pk_lRem (by omega) h0 (by omega), nI_s]
    exact h
  intro k
  induction k with
  | zero =>
    intro a b i f ha hb hk hi hK
    exact hz a b i _ ha (by omega) hK
  | succ k ih =>
    intro a b i f ha hb hk hi hK
    rcases Nat.eq_zero_or_pos b with h | h
    · exact hz a b i _ ha h hK
    · have hr := Nat.mod_lt a h
      have g1 : Nat.gcd a b = Nat.gcd b (a % b) := by rw [Nat.gcd_comm a b, Nat.gcd_rec, Nat.gcd_comm]
      rw [g1] at hK
      rw [show f + 2 * (k + 1) + 1 = (f + 2 * k + 1) + 1 + 1 by omega]
      refine hs a b i _ ha hb h (by omega) ?_
      rcases Nat.eq_zero_or_pos (a % b) with h2 | h2
      · exact hz b (a % b) (i + 1) _ hb h2 hK
      · have g2 : Nat.gcd b (a % b) = Nat.gcd (a % b) (b % (a % b)) := by rw [Nat.gcd_comm b, Nat.gcd_rec, Nat.gcd_comm]
        rw [g2] at hK
        have := half_rem h2 (Nat.le_of_lt hr)
        have hp : 2 ^ (k + 1) = 2 * 2 ^ k := by rw [Nat.pow_succ]; omega
        refine hs b (a % b) (i + 1) _ hb (by omega) h2 (by omega) ?_
        exact ih (a % b) (b % (a % b)) (i + 1 + 1) f (by omega) (by omega) (by omega) (by omega) hK
theorem k8_gcd {K : Mm → Int64 → Prop} {p1 x2 : Int32} : ∀ (k a b f : Nat), a < 2 ^ 31 → b < 2 ^ 31 → b < 2 ^ k → 0 < Nat.gcd a b → ((¬ p1 = 0 → K M ((x2 / nI (Nat.gcd a b)).toInt64)) ∧ (p1 = 0 → K M ((M 75 9 / nI (Nat.gcd a b)).toInt64))) → wl_X8_mean_39 n p1 K (f + 2 * k + 1) M x2 (nI a) (nI b) := by
  have hz : ∀ (a b f : Nat), a < 2 ^ 31 → b = 0 → 0 < Nat.gcd a b → ((¬ p1 = 0 → K M ((x2 / nI (Nat.gcd a b)).toInt64)) ∧ (p1 = 0 → K M ((M 75 9 / nI (Nat.gcd a b)).toInt64))) → wl_X8_mean_39 n p1 K (f + 1) M x2 (nI a) (nI b) := by
    intro a b f ha hb hg hK
    subst hb
    rw [Nat.gcd_zero_right] at hK hg
    rw [wl_X8_mean_39]
    exact ⟨fun _ => ⟨fun h => ⟨nI_ne0 hg ha, hK.1 h⟩, fun h => ⟨nI_ne0 hg ha, hK.2 h⟩⟩, fun h => absurd (by decide) h⟩
  have hs : ∀ (a b f : Nat), a < 2 ^ 31 → b < 2 ^ 31 → 0 < b → wl_X8_mean_39 n p1 K f M x2 (nI b) (nI (a % b)) → wl_X8_mean_39 n p1 K (f + 1) M x2 (nI a) (nI b) := by
    intro a b f ha hb h0 h
    rw [wl_X8_mean_39]
    refine ⟨fun q => absurd q (nI_nle h0 hb), fun _ => ⟨nI_ne0 h0 hb, ?_⟩⟩
    rintro v6 rfl
    unfold jrem
    rw [pk_rem ha h0 hb]
    exact h
  intro k
  induction k with
  | zero =>
    intro a b f ha hb hk hg hK
    exact hz a b _ ha (by omega) hg hK
  | succ k ih =>
    intro a b f ha hb hk hg hK
    rcases Nat.eq_zero_or_pos b with h | h
    · exact hz a b _ ha h hg hK
    · have hr := Nat.mod_lt a h
      have g1 : Nat.gcd a b = Nat.gcd b (a % b) := by rw [Nat.gcd_comm a b, Nat.gcd_rec, Nat.gcd_comm]
      rw [g1] at hK hg
      rw [show f + 2 * (k + 1) + 1 = (f + 2 * k + 1) + 1 + 1 by omega]
      refine hs a b _ ha hb h ?_
      rcases Nat.eq_zero_or_pos (a % b) with h2 | h2
      · exact hz b (a % b) _ hb h2 hg hK
      · have g2 : Nat.gcd b (a % b) = Nat.gcd (a % b) (b % (a % b)) := by rw [Nat.gcd_comm b, Nat.gcd_rec, Nat.gcd_comm]
        rw [g2] at hK hg
        have := half_rem h2 (Nat.le_of_lt hr)
        have hp : 2 ^ (k + 1) = 2 * 2 ^ k := by rw [Nat.pow_succ]; omega
        refine hs b (a % b) _ hb (by omega) h2 ?_
        exact ih (a % b) (b % (a % b)) f (by omega) (by omega) (by omega) hg hK
theorem sum_bd {S : Sc} {m : Nat} (hI : RI S m) : ∀ z : Nat, z ≤ nCo S → bd (sumT S 11 z) (z * m)
  | 0, _ => bd_0 _
  | z + 1, h => by
    have := (sum_bd hI z (by omega)).add (hI.2 z (by omega)).2.2.2.2
    rw [Nat.succ_mul]
    exact this
theorem op_mean {R : Mm → Int64 → Prop} {p1 : Int32} (I : Inv n j M) (hj : j ≤ 64) (hZ : ∀ M' : Mm, Inv n (j + 1) M' → Z M') (hR : ∀ (M1 : Mm) (r : Int64), wp_X8_mean n M1 p1 (fun M3 r4 => (lg_cmp r r4 = 0 → Z M3) ∧ (¬ lg_cmp r r4 = 0 → False)) → R M1 r) : wp_X7_mean n M p1 R := by
  obtain ⟨hS, hO, hI⟩ := I.a
  obtain ⟨hz, h0⟩ := hO.co
  have hsk := hZ _ I.sk
  have en' : ∀ {r s : Int64}, r = s → (lg_cmp r s = 0 → Z M) ∧ (¬ lg_cmp r s = 0 → False) := fun e => ⟨fun _ => hsk, fun q => q ((lg_cmp_eq _ _).mpr e)⟩
  by_cases hp : 0 ≤ p1 ∧ p1 ≤ 1
  · refine e7_y hp ⟨fun _ => (e3_sum (K := fun M3 r4 => ∀ v5 : Int64, v5 = r4.toInt64 → _) (Or.inl rfl) hO hS).2.2 ?_, fun h => absurd h i1⟩
    obtain ⟨v, hv, ev⟩ := sum_bd hI (nCo (M 75)) (Nat.le_refl _)
    obtain ⟨w, hw, ew⟩ := hI.1.2.2.2.2
    have hv2 : v < 2 ^ 31 := by
      have : nCo (M 75) * (300 * j) ≤ 8 * (300 * j) := Nat.mul_le_mul_right _ hz
      omega
    have hw2 : w < 2 ^ 31 := by omega
    have e12 : M 1 12 = nI w := by rw [hS.1.2.2.2.2.2.2.2.2.2.1, ew]
    have hgo : ∀ r : Int64, _ → R M r := fun r h => hR M r (e8_y (lo := 0) (hi := 1) rfl (by decide) (by decide) hp ⟨fun _ => e8_ofAll (w := 11) rfl (by decide) hz h0 h, fun h => absurd h i1⟩)
    rw [ev]
    rintro v5 rfl
    rw [nI_l hv2]
    by_cases hv0 : v = 0
    · subst hv0
      refine ⟨fun h => absurd ((lg_cmp_eq _ _).mpr rfl) h, fun _ => hgo _ ?_⟩
      rw [ev]
      exact ⟨fun h => absurd rfl h, fun _ => en' rfl⟩
    · have hv1 : 0 < v := by omega
      have hne : ¬ lN v = 0 := fun e => by
        have := (pk_lEQ (a := v) (b := 0) (by omega) (by decide)).mp e
        omega
      have hg : 0 < Nat.gcd w v := Nat.gcd_pos_of_pos_right w hv1
      have hgv : Nat.gcd w v ≤ v := Nat.le_of_dvd hv1 (Nat.gcd_dvd_right w v)
      refine ⟨fun _ => ⟨0 + 2 * 31 + 1, ?_⟩, fun h => absurd ((lg_cmp_eq _ _).mp h) hne⟩
      rw [e12, nI_l hw2]
      refine k7_gcd 31 w v 0 0 hw2 hv2 hv2 (by decide) ?_
      have hgn : ¬ lN (Nat.gcd w v) = 0 := fun e => by
        have := (pk_lEQ (a := Nat.gcd w v) (b := 0) (by omega) (by decide)).mp e
        omega
      have hend : ∀ r : Int64, (¬ p1 = 0 → r = lN (v / Nat.gcd w v)) → (p1 = 0 → r = lN (w / Nat.gcd w v)) → R M r := by
        intro r h1 h2
        refine hgo r ?_
        rw [ev]
        refine ⟨fun _ => ?_, fun h => absurd h (nI_ne0 hv1 hv2)⟩
        rintro v5 rfl
        refine ⟨0 + 2 * 31 + 1, ?_⟩
        rw [ew]
        refine k8_gcd 31 w v 0 hw2 hv2 hv2 hg ⟨fun h => en' ?_, fun h => en' ?_⟩
        · rw [h1 h, pk_div hv2 hg (by omega), nI_l (Nat.lt_of_le_of_lt (Nat.div_le_self _ _) hv2)]
        · rw [h2 h, ew, pk_div hw2 hg (by omega), nI_l (Nat.lt_of_le_of_lt (Nat.div_le_self _ _) hw2)]
      refine ⟨fun _ => ⟨fun h => ⟨hgn, hend _ (fun _ => ?_) (fun q => absurd q h)⟩, fun h => ⟨hgn, hend _ (fun q => absurd h q) (fun _ => ?_)⟩⟩, fun h => absurd ((lg_cmp_eq _ _).mp h) hgn⟩
      · exact pk_lDiv (by omega) hg (by omega)
      · rw [e12, nI_l hw2]; exact pk_lDiv (by omega) hg (by omega)
  · exact e7_n hp ⟨fun h => absurd rfl h, fun _ => hR _ _ (e8_n (K := fun M1 r2 => (¬ r2 = 0 → _) ∧ (r2 = 0 → (lg_cmp (-1000000001) (-1000000001) = 0 → Z M1) ∧ (¬ lg_cmp (-1000000001) (-1000000001) = 0 → False))) (lo := 0) (hi := 1) rfl (by decide) (by decide) hp ⟨fun h => absurd rfl h, fun _ => en' rfl⟩)⟩
end OPSA
