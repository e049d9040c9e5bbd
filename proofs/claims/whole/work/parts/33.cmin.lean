theorem goB_emp {S : Sc} {c : Nat} : goB (emp S c) c = emp (goB S c) c := by
  unfold goB emp
  have n1 : cx c 10 ≠ cx c 5 := cx_ne (by decide) (by decide) (Or.inr (by decide))
  have n2 : cx c 10 ≠ cx c 6 := cx_ne (by decide) (by decide) (Or.inr (by decide))
  have n3 : cx c 2 ≠ cx c 10 := cx_ne (by decide) (by decide) (Or.inr (by decide))
  rw [pk_un n3, pk_un n2, pk_un n1, upd_comm n1, upd_comm n2]
section C3m
variable {n : Nat} {M : Mm}
theorem e0_turnBack {K : Mm → Prop} {b c : Nat} {S : Sc} (hb : isB b) (hz : nCo S ≤ 8) (hc : c < nCo S) (hR : SR n M b S) (hK : ∀ M' : Mm, SR n M' b (goB S c) → FrB b M M' → K M') : wp_X0_turnBack n M (b + 3 + 1 + c) K := by
  refine ⟨hb.c (by omega), ?_⟩
  rintro M1 rfl M2 rfl
  have h1 := hR.wc (w := 5) (x := 3) hb hc hz (by decide)
  have k1 : Kp S (upd S (cx c 5) 3) := (Kp.rf S).up cx_1 (cx_108 (by omega) (by decide))
  have e : wr M (b + 3 + 1 + c) 5 3 (b + 3 + 1 + c) 2 = S (cx c 2) := by rw [wr_idx (by decide)]; exact hR.2.1 c hc 2 (by decide)
  rw [e]
  refine hK _ (h1.wc (w := 6) hb (by rw [k1.co]; exact hc) (by rw [k1.co]; exact hz) (by decide)) ((FrB.wc hb (by omega) (by decide)).tr (FrB.wc hb (by omega) (by decide)))
theorem mn3_j (a b c : Int32) : jmin a (jmin b c) = mn3 a b c := by
  unfold mn3
  show (if (if c < b then c else b) < a then (if c < b then c else b) else a) = _
  by_cases h1 : b < a
  · rw [if_pos h1]
    by_cases h2 : c < b
    · rw [if_pos h2, if_pos (Int32.lt_trans h2 h1)]
    · rw [if_neg h2, if_pos h1]
  · rw [if_neg h1]
    by_cases h2 : c < b
    · rw [if_pos h2]
    · rw [if_neg h2, if_neg h1]
      have h3 : ¬ c < a := fun q => by
        have h1 := Int32.not_lt.mp h1
        have h2 := Int32.not_lt.mp h2
        exact Int32.lt_irrefl (Int32.lt_of_lt_of_le q (Int32.le_trans h1 h2))
      rw [if_neg h3]
theorem e3_arrive {K : Mm → Prop} {b c : Nat} {S : Sc} (hb : isB b) (hn : n ≤ 1000) (hc : c < nCo S) (hS : SOK S) (hR : SR n M b S) (hK : ∀ M' : Mm, SR n M' b (arr S c) → FrB b M M' → K M') : wp_X3_arrive n M b (b + 3 + 1 + c) K := by
  obtain ⟨hz, h0⟩ := hS.co
  have hbl := hb.lt
  refine ⟨hb.t, hb.c (by omega), ?_⟩
  rintro M1 rfl
  rw [hR.2.1 c hc 11 (by decide)]
  have h1 := hR.wc (w := 11) (x := S (cx c 11) + 1) hb hc hz (by decide)
  have f1 : FrB b M (wr M (b + 3 + 1 + c) 11 (S (cx c 11) + 1)) := FrB.wc hb (by omega) (by decide)
  have k1 : Kp S (upd S (cx c 11) (S (cx c 11) + 1)) := (Kp.rf S).up cx_1 (cx_108 (by omega) (by decide))
  have e : arr S c = ar1 (upd S (cx c 11) (S (cx c 11) + 1)) c := rfl
  rw [e] at hK
  generalize upd S (cx c 11) (S (cx c 11) + 1) = T at h1 k1 hK
  generalize wr M (b + 3 + 1 + c) 11 (S (cx c 11) + 1) = M1 at h1 f1 ⊢
  have hT : SOK T := hS.kp k1
  rw [← k1.co] at hc
  obtain ⟨hz, h0⟩ := hT.co
  have hle := cnt_le T (nCo T)
  have hw : M1 b 7 = T 5 := h1.1.2.2.2.2.2.1
  have h80 : (¬ (cnt T (nCo T) = 0 ∧ ¬ T 5 ≤ 0)) → wb_X3_arrive_80 n b (b + 3 + 1 + c) K M1 := by
    intro hno
    have e : ar1 T c = ar0 T c := by unfold ar1; rw [if_neg hno]
    rw [e] at hK
    refine e3_staysOf hb hn hc hT h1 (fun M10 f10 => ?_)
    have h10 := h1.frp hb hz f10
    have F10 : FrB b M M10 := f1.tr (f10.B hb)
    refine ⟨fun h => ?_, fun h => ?_⟩
    · rintro M12 rfl
      rw [h10.2.1 c hc 10 (by decide)]
      have h12 := h10.wc (w := 10) (x := T (cx c 10) + 1) hb hc hz (by decide)
      have k12 : Kp T (emp T c) := kp_emp (by omega)
      refine e0_turnBack (S := emp T c) hb (by rw [k12.co]; exact hz) (by rw [k12.co]; exact hc) h12 (fun M13 h13 f13 => hK M13 ?_ ((F10.tr (FrB.wc hb (by omega) (by decide))).tr f13))
      unfold ar0
      rw [if_pos h, ← goB_emp]
      exact h13
    · rintro M15 rfl M16 rfl
      have h15 := h10.wc (w := 5) (x := 2) hb hc hz (by decide)
      have k15 : Kp T (upd T (cx c 5) 2) := (Kp.rf T).up cx_1 (cx_108 (by omega) (by decide))
      have h16 := h15.wc (w := 7) (x := 0) hb (by rw [k15.co]; exact hc) (by rw [k15.co]; exact hz) (by decide)
      refine hK _ ?_ ((F10.tr (FrB.wc hb (by omega) (by decide))).tr (FrB.wc hb (by omega) (by decide)))
      unfold ar0
      rw [if_neg h]
      exact h16
  rw [hw]
  refine ⟨fun h => h80 (fun q => q.2 h), fun h => e3_standing hb hz h0 h1 ⟨fun q => h80 (fun z => q (by rw [z.1]; rfl)), fun q => ?_⟩⟩
  have hc0 : cnt T (nCo T) = 0 := (nI_eq (b := 0) (by omega) (by decide)).mp q
  have e : ar1 T c = tke T c (mn3 (T 6) (T (cx c 4)) (T 5)) := by unfold ar1; rw [if_pos ⟨hc0, h⟩]
  rw [e] at hK
  rintro v4 hv4
  have hv4 : v4 = mn3 (T 6) (T (cx c 4)) (T 5) := by rw [hv4, mn3_j, h1.1.2.2.2.2.2.2.1, h1.2.1 c hc 4 (by decide), hw]
  rw [← hv4] at hK
  rintro M5 rfl M6 rfl M7 rfl
  rw [hw]
  have h5 := h1.wg (k := 5) (x := T 5 - v4) hb (by decide) (by decide)
  have h5 : SR n (wr M1 b 7 (T 5 - v4)) b (upd T 5 (T 5 - v4)) := h5
  have F5 : FrB b M (wr M1 b 7 (T 5 - v4)) := f1.tr (FrB.wb hb)
  have k5 : Kp T (upd T 5 (T 5 - v4)) := (Kp.rf T).up (by decide) (by decide)
  have e4 : wr M1 b 7 (T 5 - v4) (b + 3 + 1 + c) 4 = T (cx c 4) := by rw [wr_oth (by omega)]; exact h1.2.1 c hc 4 (by decide)
  rw [e4]
  have h6 := h5.wc (w := 4) (x := T (cx c 4) - v4) hb (by rw [k5.co]; exact hc) (by rw [k5.co]; exact hz) (by decide)
  have F6 : FrB b M (wr (wr M1 b 7 (T 5 - v4)) (b + 3 + 1 + c) 4 (T (cx c 4) - v4)) := F5.tr (FrB.wc hb (by omega) (by decide))
  have k6 : Kp T (upd (upd T 5 (T 5 - v4)) (cx c 4) (T (cx c 4) - v4)) := k5.up cx_1 (cx_108 (by omega) (by decide))
  have e9 : wr (wr M1 b 7 (T 5 - v4)) (b + 3 + 1 + c) 4 (T (cx c 4) - v4) (b + 3 + 1 + c) 9 = T (cx c 9) := by rw [wr_idx (by decide), wr_oth (by omega)]; exact h1.2.1 c hc 9 (by decide)
  rw [e9]
  have h7 := h6.wc (w := 9) (x := T (cx c 9) + v4) hb (by rw [k6.co]; exact hc) (by rw [k6.co]; exact hz) (by decide)
  have k7 : Kp T (upd (upd (upd T 5 (T 5 - v4)) (cx c 4) (T (cx c 4) - v4)) (cx c 9) (T (cx c 9) + v4)) := k6.up cx_1 (cx_108 (by omega) (by decide))
  refine e0_turnBack hb (by rw [k7.co]; exact hz) (by rw [k7.co]; exact hc) h7 (fun M13 h13 f13 => hK M13 h13 ((F6.tr (FrB.wc hb (by omega) (by decide))).tr f13))
theorem SR.n0 {n b : Nat} {M : Mm} {S T : Sc} (hS : SOK S) (k : Kp S T) (h : SR n M b T) : M b 4 = nI (nCo S) := by
  rw [h.1.1, k.1]; exact hS.co.2
theorem e3_letLeave {K : Mm → Prop} {b : Nat} {S : Sc} (hb : isB b) (hn : n ≤ 1000) (hS : SOK S) (hR : SR n M b S) (hK : ∀ M' : Mm, SR n M' b (lvK S (nCo S)) → FrB b M M' → K M') : wp_X3_letLeave n M b K := by
  obtain ⟨hz, h0⟩ := hS.co
  refine ⟨hb.t, nCo S + 1, ?_⟩
  suffices h : ∀ (j c : Nat) (M1 : Mm), c + j = nCo S → SR n M1 b (lvK S c) → FrB b M M1 → wl_X3_letLeave_2 n b K (j + 1) M1 (nI c) by
    exact h _ 0 M (by omega) hR (FrB.rf b M)
  intro j
  induction j with
  | zero =>
    intro c M1 hc h1 hF
    have hcz : c = nCo S := by omega
    have e4 := h1.n0 hS (kp_lvK c (by omega))
    rw [wl_X3_letLeave_2]
    exact ⟨fun _ => hK M1 (by rw [← hcz]; exact h1) hF, fun h => absurd (by rw [e4, hcz]; exact nI_le (Nat.le_refl _) (by omega)) h⟩
  | succ j ih =>
    intro c M1 hc h1 hF
    have hc8 : c < 8 := by omega
    have k1 : Kp S (lvK S c) := kp_lvK c (by omega)
    have e4 := h1.n0 hS k1
    have hT : SOK (lvK S c) := hS.kp k1
    have hcT : c < nCo (lvK S c) := by rw [k1.co]; omega
    have hzT : nCo (lvK S c) ≤ 8 := hT.co.1
    have hlv : lvK S (c + 1) = lv1 (lvK S c) c := rfl
    generalize lvK S c = T at h1 k1 hT hcT hzT hlv
    have h72 : ∀ (M4 : Mm) (U : Sc), SR n M4 b U → Kp T U → FrB b M M4 → lvK S (c + 1) = sinc U c → wb_X3_letLeave_72 n b (fun M x1 => wl_X3_letLeave_2 n b K (j + 1) M x1) K M4 (nI c) (b + 3 + 1 + c) := by
      intro M4 U hU kU f4 e4
      refine ⟨hb.c hc8, ?_⟩
      rintro M10 rfl v11 rfl
      rw [nI_s, hU.2.1 c (by rw [kU.co]; exact hcT) 8 (by decide)]
      refine ih (c + 1) _ (by omega) ?_ (f4.tr (FrB.wc hb hc8 (by decide)))
      rw [e4]
      exact hU.wc hb (by rw [kU.co]; exact hcT) (by rw [kU.co]; exact hzT) (by decide)
    rw [wl_X3_letLeave_2]
    refine ⟨fun h => absurd h (by rw [e4]; exact nI_ge (by omega) (by omega)), fun _ => ⟨in8 hc8, ?_⟩⟩
    rw [nI_clamp (by omega), h1.2.1 c hcT 5 (by decide), h1.2.1 c hcT 4 (by decide)]
    refine ⟨fun h => ⟨fun h2 => h72 M1 T h1 (Kp.rf T) hF (by rw [hlv]; unfold lv1; rw [if_pos h, if_pos h2]), fun h2 => e3_wouldLeave hb hn hcT hT h1 (fun M2 f2 => ?_)⟩, fun h => ?_⟩
    · have hR2 := h1.frp hb hzT f2
      have F2 : FrB b M M2 := hF.tr (f2.B hb)
      refine ⟨fun h3 => h72 M2 T hR2 (Kp.rf T) F2 (by rw [hlv]; unfold lv1; rw [if_pos h, if_neg h2, if_pos h3]), fun h3 => ⟨hb.t, ?_⟩⟩
      rintro M4 rfl
      have ez : M2 b 13 = T 10 := hR2.1.2.2.2.2.2.2.2.2.2.2
      rw [ez]
      have h4 : SR n (wr M2 b 13 (T 10 * 1103515245 + 12345)) b (drw T) := hR2.wg (k := 10) hb (by decide) (by decide)
      have F4 : FrB b M (wr M2 b 13 (T 10 * 1103515245 + 12345)) := F2.tr (FrB.wb hb)
      generalize wr M2 b 13 (T 10 * 1103515245 + 12345) = M4 at h4 F4 ⊢
      have kd : Kp T (drw T) := kp_drw
      rw [h4.1.2.2.2.2.2.2.2.2.2.2, h4.1.2.2.2.2.2.2.2.1]
      refine ⟨fun h4' => h72 M4 (drw T) h4 kd F4 (by rw [hlv]; unfold lv1; rw [if_pos h, if_neg h2, if_neg h3]; exact if_pos h4'), fun h4' => ?_⟩
      rintro M6 rfl M7 rfl v8 rfl
      have e2 : wr M4 (b + 3 + 1 + c) 5 1 (b + 3 + 1 + c) 2 = drw T (cx c 2) := by rw [wr_idx (by decide)]; exact h4.2.1 c (by rw [kd.co]; exact hcT) 2 (by decide)
      rw [nI_s, e2]
      have h6 := h4.wc (w := 5) (x := 1) hb (by rw [kd.co]; exact hcT) (by rw [kd.co]; exact hzT) (by decide)
      have k6 : Kp T (upd (drw T) (cx c 5) 1) := kd.up cx_1 (cx_108 hc8 (by decide))
      have h7 := h6.wc (w := 6) (x := drw T (cx c 2)) hb (by rw [k6.co]; exact hcT) (by rw [k6.co]; exact hzT) (by decide)
      refine ih (c + 1) _ (by omega) ?_ ((F4.tr (FrB.wc hb hc8 (by decide))).tr (FrB.wc hb hc8 (by decide)))
      rw [hlv]
      unfold lv1
      have h4' : ¬ jrem (drv (drw T)) 100 < drw T 7 := h4'
      rw [if_pos h, if_neg h2, if_neg h3, if_neg h4']
      exact h7
    · rintro v9 rfl
      rw [nI_s]
      exact ih (c + 1) M1 (by omega) (by rw [hlv]; unfold lv1; rw [if_neg h]; exact h1) hF
theorem e3_letCome {K : Mm → Int32 → Prop} {b : Nat} {S : Sc} (hb : isB b) (hn : n ≤ 1000) (hS : SOK S) (hR : SR n M b S) (hK : ∀ M' : Mm, SR n M' b (cmK S (nCo S)) → FrB b M M' → K M' (cbK S (nCo S))) : wp_X3_letCome n M b K := by
  obtain ⟨hz, h0⟩ := hS.co
  have h01 : ∀ c : Nat, cbK S c = 0 ∨ cbK S c = 1 := by
    intro c
    induction c with
    | zero => exact Or.inl rfl
    | succ c ih =>
      unfold cbK cmb
      repeat' split
      all_goals first | exact Or.inr rfl | exact ih
  refine ⟨hb.t, nCo S + 1, ?_⟩
  suffices h : ∀ (j c : Nat) (M1 : Mm), c + j = nCo S → SR n M1 b (cmK S c) → FrB b M M1 → wl_X3_letCome_4 n b K (j + 1) M1 (cbK S c) (nI c) by
    exact h _ 0 M (by omega) hR (FrB.rf b M)
  intro j
  induction j with
  | zero =>
    intro c M1 hc h1 hF
    have hcz : c = nCo S := by omega
    have e4 := h1.n0 hS (kp_cmK c (by omega))
    rw [wl_X3_letCome_4]
    exact ⟨fun _ => ⟨h01 c, by rw [hcz]; exact hK M1 (by rw [← hcz]; exact h1) hF⟩, fun h => absurd (by rw [e4, hcz]; exact nI_le (Nat.le_refl _) (by omega)) h⟩
  | succ j ih =>
    intro c M1 hc h1 hF
    have hc8 : c < 8 := by omega
    have k1 : Kp S (cmK S c) := kp_cmK c (by omega)
    have e4 := h1.n0 hS k1
    have hT : SOK (cmK S c) := hS.kp k1
    have hcT : c < nCo (cmK S c) := by rw [k1.co]; omega
    have hzT : nCo (cmK S c) ≤ 8 := hT.co.1
    have hlv : cmK S (c + 1) = cm1 (cmK S c) c := rfl
    have hlb : cbK S (c + 1) = cmb (cmK S c) c (cbK S c) := rfl
    generalize cmK S c = T at h1 k1 hT hcT hzT hlv hlb
    rw [wl_X3_letCome_4]
    refine ⟨fun h => absurd h (by rw [e4]; exact nI_ge (by omega) (by omega)), fun _ => ⟨in8 hc8, ?_⟩⟩
    rw [nI_clamp (by omega), h1.2.1 c hcT 5 (by decide), h1.2.1 c hcT 6 (by decide)]
    refine ⟨fun h => ?_, fun h => ?_⟩
    · rintro M2 rfl
      have h2 : SR n (wr M1 (b + 3 + 1 + c) 6 (T (cx c 6) - 1)) b (les T c) := h1.wc hb hcT hzT (by decide)
      have F2 : FrB b M (wr M1 (b + 3 + 1 + c) 6 (T (cx c 6) - 1)) := hF.tr (FrB.wc hb hc8 (by decide))
      have kl : Kp T (les T c) := kp_les hc8
      generalize wr M1 (b + 3 + 1 + c) 6 (T (cx c 6) - 1) = M2 at h2 F2 ⊢
      rw [h2.2.1 c (by rw [kl.co]; exact hcT) 6 (by decide)]
      refine ⟨fun q => ?_, fun q => e3_arrive hb hn (by rw [kl.co]; exact hcT) (hT.kp kl) h2 (fun M4 h4 f4 => ?_)⟩
      · rintro v3 rfl
        rw [nI_s]
        have hx := ih (c + 1) M2 (by omega) (by rw [hlv]; unfold cm1; rw [if_pos h, if_neg q]; exact h2) F2
        rw [hlb] at hx
        unfold cmb at hx
        rw [if_pos h, if_neg q] at hx
        exact hx
      · rintro v6 rfl
        rw [nI_s]
        have hx := ih (c + 1) M4 (by omega) (by rw [hlv]; unfold cm1; rw [if_pos h, if_pos q]; exact h4) (F2.tr f4)
        rw [hlb] at hx
        unfold cmb at hx
        rw [if_pos h, if_pos q] at hx
        exact hx
    · rintro v7 rfl
      rw [nI_s]
      have hx := ih (c + 1) M1 (by omega) (by rw [hlv]; unfold cm1; rw [if_neg h]; exact h1) hF
      rw [hlb] at hx
      unfold cmb at hx
      rw [if_neg h] at hx
      exact hx
end C3m
