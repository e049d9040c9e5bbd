/-- a scene's cells and piles; nothing is said of where a comer began -/
def FrA (b : Nat) (M M' : Mm) : Prop := (∀ i : Nat, ¬ (b ≤ i ∧ i ≤ b + 11) → ¬ isP i → M' i = M i) ∧ (∀ i : Nat, isP i → M' i LEN = M i LEN) ∧ M' (b + 1) = M (b + 1) ∧ M' (b + 2) = M (b + 2)
theorem FrA.rf (b : Nat) (M : Mm) : FrA b M M := ⟨fun _ _ _ => rfl, fun _ _ => rfl, rfl, rfl⟩
theorem FrA.tr {b : Nat} {A B C : Mm} (h : FrA b A B) (g : FrA b B C) : FrA b A C := ⟨fun i x y => (g.1 i x y).trans (h.1 i x y), fun i x => (g.2.1 i x).trans (h.2.1 i x), g.2.2.1.trans h.2.2.1, g.2.2.2.trans h.2.2.2⟩
theorem FrB.A {b : Nat} {M M' : Mm} (h : FrB b M M') : FrA b M M' := ⟨h.1, h.2.1, h.2.2.1, h.2.2.2.1⟩
section C3n
variable {n : Nat} {M : Mm}
theorem e3_letWait {K : Mm → Prop} {b : Nat} {S : Sc} {B : Nat → Int32} (hb : isB b) (hn : n ≤ 1000) (hS : SOK S) (hR : SR n M b S) (hB : ∀ c : Nat, c < nCo S → M (b + 3 + 1 + c) 12 = B c) (hK : ∀ M' : Mm, SR n M' b (wtK B S (nCo S)) → FrB b M M' → K M') : wp_X3_letWait n M b K := by
  obtain ⟨hz, h0⟩ := hS.co
  refine ⟨hb.t, nCo S + 1, ?_⟩
  suffices h : ∀ (j c : Nat) (M1 : Mm), c + j = nCo S → SR n M1 b (wtK B S c) → FrB b M M1 → wl_X3_letWait_2 n b K (j + 1) M1 (nI c) by
    exact h _ 0 M (by omega) hR (FrB.rf b M)
  intro j
  induction j with
  | zero =>
    intro c M1 hc h1 hF
    have hcz : c = nCo S := by omega
    have e4 := h1.n0 hS (kp_wtK c (by omega))
    rw [wl_X3_letWait_2]
    exact ⟨fun _ => hK M1 (by rw [← hcz]; exact h1) hF, fun h => absurd (by rw [e4, hcz]; exact nI_le (Nat.le_refl _) (by omega)) h⟩
  | succ j ih =>
    intro c M1 hc h1 hF
    have hc8 : c < 8 := by omega
    have k1 : Kp S (wtK B S c) := kp_wtK c (by omega)
    have e4 := h1.n0 hS k1
    have hT : SOK (wtK B S c) := hS.kp k1
    have hcT : c < nCo (wtK B S c) := by rw [k1.co]; omega
    have hzT : nCo (wtK B S c) ≤ 8 := hT.co.1
    have hlv : wtK B S (c + 1) = wt1 B (wtK B S c) c := rfl
    generalize wtK B S c = T at h1 k1 hT hcT hzT hlv
    have hBc : M1 (b + 3 + 1 + c) 12 = B c := by rw [hF.2.2.2.2 c hc8]; exact hB c (by omega)
    rw [wl_X3_letWait_2]
    refine ⟨fun h => absurd h (by rw [e4]; exact nI_ge (by omega) (by omega)), fun _ => ⟨in8 hc8, ?_⟩⟩
    rw [nI_clamp (by omega), hBc, h1.2.1 c hcT 7 (by decide)]
    refine ⟨fun h => ?_, fun h => ?_⟩
    · rintro M2 rfl M3 rfl
      have h2 := h1.wc (w := 7) (x := T (cx c 7) + 1) hb hcT hzT (by decide)
      have F2 : FrB b M (wr M1 (b + 3 + 1 + c) 7 (T (cx c 7) + 1)) := hF.tr (FrB.wc hb hc8 (by decide))
      generalize wr M1 (b + 3 + 1 + c) 7 (T (cx c 7) + 1) = M2 at h2 F2 ⊢
      rw [h2.1.2.2.2.2.2.2.2.2.2.1]
      have h3 : SR n (wr M2 b 12 (upd T (cx c 7) (T (cx c 7) + 1) 9 + 1)) b (wai T c) := h2.wg (k := 9) hb (by decide) (by decide)
      have F3 : FrB b M (wr M2 b 12 (upd T (cx c 7) (T (cx c 7) + 1) 9 + 1)) := F2.tr (FrB.wb hb)
      generalize wr M2 b 12 (upd T (cx c 7) (T (cx c 7) + 1) 9 + 1) = M3 at h3 F3 ⊢
      have kw : Kp T (wai T c) := kp_wai hc8
      have hcW : c < nCo (wai T c) := by rw [kw.co]; exact hcT
      have hzW : nCo (wai T c) ≤ 8 := by rw [kw.co]; exact hzT
      have hlv : wtK B S (c + 1) = if wai T c (cx c 7) < stv (wai T c) c then wai T c else emp (goB (wai T c) c) c := by rw [hlv]; unfold wt1; rw [if_pos h]
      have hTW : SOK (wai T c) := hT.kp kw
      generalize wai T c = W at h3 kw hcW hzW hlv hTW
      refine e3_staysOf hb hn hcW hTW h3 (fun M4 f4 => ?_)
      have h4 := h3.frp hb hzW f4
      have F4 : FrB b M M4 := F3.tr (f4.B hb)
      rw [h3.2.1 c hcW 7 (by decide)]
      refine ⟨fun q => ?_, fun q => ?_⟩
      · rintro v6 rfl
        rw [nI_s]
        exact ih (c + 1) M4 (by omega) (by rw [hlv, if_pos q]; exact h4) F4
      · rintro M7 rfl
        rw [h4.2.1 c hcW 10 (by decide)]
        have h7 : SR n (wr M4 (b + 3 + 1 + c) 10 (W (cx c 10) + 1)) b (emp W c) := h4.wc hb hcW hzW (by decide)
        have ke : Kp W (emp W c) := kp_emp hc8
        refine e0_turnBack hb (by rw [ke.co]; exact hzW) (by rw [ke.co]; exact hcW) h7 (fun M8 h8 f8 => ?_)
        rintro v10 rfl
        rw [nI_s]
        refine ih (c + 1) M8 (by omega) ?_ ((F4.tr (FrB.wc hb hc8 (by decide))).tr f8)
        rw [hlv, if_neg q, ← goB_emp]
        exact h8
    · rintro v11 rfl
      rw [nI_s]
      exact ih (c + 1) M1 (by omega) (by rw [hlv]; unfold wt1; rw [if_neg h]; exact h1) hF
theorem e3_letReachHome {K : Mm → Prop} {b : Nat} {S : Sc} {B : Nat → Int32} (hb : isB b) (hS : SOK S) (hR : SR n M b S) (hB : ∀ c : Nat, c < nCo S → M (b + 3 + 1 + c) 12 = B c) (hK : ∀ M' : Mm, SR n M' b (hmK B S (nCo S)) → FrB b M M' → K M') : wp_X3_letReachHome n M b K := by
  obtain ⟨hz, h0⟩ := hS.co
  refine ⟨hb.t, nCo S + 1, ?_⟩
  suffices h : ∀ (j c : Nat) (M1 : Mm), c + j = nCo S → SR n M1 b (hmK B S c) → FrB b M M1 → wl_X3_letReachHome_2 n b K (j + 1) M1 (nI c) by
    exact h _ 0 M (by omega) hR (FrB.rf b M)
  intro j
  induction j with
  | zero =>
    intro c M1 hc h1 hF
    have hcz : c = nCo S := by omega
    have e4 := h1.n0 hS (kp_hmK c (by omega))
    rw [wl_X3_letReachHome_2]
    exact ⟨fun _ => hK M1 (by rw [← hcz]; exact h1) hF, fun h => absurd (by rw [e4, hcz]; exact nI_le (Nat.le_refl _) (by omega)) h⟩
  | succ j ih =>
    intro c M1 hc h1 hF
    have hc8 : c < 8 := by omega
    have k1 : Kp S (hmK B S c) := kp_hmK c (by omega)
    have e4 := h1.n0 hS k1
    have hcT : c < nCo (hmK B S c) := by rw [k1.co]; omega
    have hzT : nCo (hmK B S c) ≤ 8 := by rw [k1.co]; exact hz
    have hlv : hmK B S (c + 1) = hm1 B (hmK B S c) c := rfl
    generalize hmK B S c = T at h1 k1 hcT hzT hlv
    have hBc : M1 (b + 3 + 1 + c) 12 = B c := by rw [hF.2.2.2.2 c hc8]; exact hB c (by omega)
    rw [wl_X3_letReachHome_2]
    refine ⟨fun h => absurd h (by rw [e4]; exact nI_ge (by omega) (by omega)), fun _ => ⟨in8 hc8, ?_⟩⟩
    rw [nI_clamp (by omega), hBc, h1.2.1 c hcT 6 (by decide)]
    refine ⟨fun h => ?_, fun h => ?_⟩
    · rintro M2 rfl
      have h2 : SR n (wr M1 (b + 3 + 1 + c) 6 (T (cx c 6) - 1)) b (les T c) := h1.wc hb hcT hzT (by decide)
      have F2 : FrB b M (wr M1 (b + 3 + 1 + c) 6 (T (cx c 6) - 1)) := hF.tr (FrB.wc hb hc8 (by decide))
      have kl : Kp T (les T c) := kp_les hc8
      generalize wr M1 (b + 3 + 1 + c) 6 (T (cx c 6) - 1) = M2 at h2 F2 ⊢
      rw [h2.2.1 c (by rw [kl.co]; exact hcT) 6 (by decide)]
      refine ⟨fun q => ?_, fun q => ?_⟩
      · rintro v3 rfl
        rw [nI_s]
        exact ih (c + 1) M2 (by omega) (by rw [hlv]; unfold hm1; rw [if_pos h, if_neg q]; exact h2) F2
      · rintro M4 rfl M5 rfl v6 rfl
        rw [nI_s]
        have h4 := h2.wc (w := 5) (x := 0) hb (by rw [kl.co]; exact hcT) (by rw [kl.co]; exact hzT) (by decide)
        have k4 : Kp T (upd (les T c) (cx c 5) 0) := kl.up cx_1 (cx_108 hc8 (by decide))
        have h5 := h4.wc (w := 8) (x := 0) hb (by rw [k4.co]; exact hcT) (by rw [k4.co]; exact hzT) (by decide)
        exact ih (c + 1) _ (by omega) (by rw [hlv]; unfold hm1; rw [if_pos h, if_pos q]; exact h5) ((F2.tr (FrB.wc hb hc8 (by decide))).tr (FrB.wc hb hc8 (by decide)))
    · rintro v7 rfl
      rw [nI_s]
      exact ih (c + 1) M1 (by omega) (by rw [hlv]; unfold hm1; rw [if_neg h]; exact h1) hF
theorem e3_fill {K : Mm → Prop} {b : Nat} {S : Sc} {x came : Int32} {st : Nat} (hb : isB b) (hx : x = bi (came = 0 ∧ st = 0)) (hR : SR n M b S) (hK : ∀ M' : Mm, SR n M' b (qui S came st) → FrB b M M' → K M') : wp_X3_fill n M b x K := by
  refine ⟨hb.t, fun h => ?_, fun h => ?_⟩
  · rw [hx, bi_ne] at h
    rintro M1 rfl
    rw [hR.1.2.2.2.2.2.2.2.2.1]
    have h1 : SR n (wr M b 10 (S 8 + 1)) b (upd S 8 (S 8 + 1)) := hR.wg (k := 8) hb (by decide) (by decide)
    have F1 : FrB b M (wr M b 10 (S 8 + 1)) := FrB.wb hb
    generalize wr M b 10 (S 8 + 1) = M1 at h1 F1 ⊢
    have e8 : M1 b 10 = S 8 + 1 := by rw [h1.1.2.2.2.2.2.2.2.2.1, pk_us]
    have e3 : M1 b 5 = S 3 := by rw [h1.1.2.2.2.1, pk_un (by decide)]
    rw [e8, e3]
    refine ⟨fun q => hK M1 (by unfold qui; rw [if_pos h, if_pos q]; exact h1) F1, fun q => ?_⟩
    rintro M2 rfl
    have h2 : SR n (wr M1 b 10 0) b (upd S 8 0) := by
      have := h1.wg (k := 8) (x := 0) hb (by decide) (by decide)
      rw [upd_upd] at this
      exact this
    have F2 : FrB b M (wr M1 b 10 0) := F1.tr (FrB.wb hb)
    generalize wr M1 b 10 0 = M2 at h2 F2 ⊢
    have e6 : M2 b 6 = S 4 := by rw [h2.1.2.2.2.2.1, pk_un (by decide)]
    have e7 : M2 b 7 = S 5 := by rw [h2.1.2.2.2.2.2.1, pk_un (by decide)]
    have hq : qui S came st = upd (upd S 8 0) 5 (S 5 + bi (¬ S 4 ≤ S 5)) := by unfold qui; rw [if_pos h, if_neg q]
    rw [e6, e7]
    refine ⟨fun w => hK M2 ?_ F2, fun w => ?_⟩
    · rw [hq, bi_f (fun z => z w), Int32.add_zero, show upd (upd S 8 0) 5 (S 5) = upd S 8 0 from by
        have : upd S 8 0 5 = S 5 := pk_un (by decide)
        rw [← this]; exact upd_self]
      exact h2
    · rintro M3 rfl
      refine hK _ ?_ (F2.tr (FrB.wb hb))
      rw [hq, bi_t w]
      exact h2.wg (k := 5) hb (by decide) (by decide)
  · rw [hx, bi_eq] at h
    rintro M4 rfl
    refine hK _ ?_ (FrB.wb hb)
    unfold qui
    rw [if_neg h]
    exact hR.wg (k := 8) hb (by decide) (by decide)
theorem e3_endMinute {K : Mm → Prop} {b : Nat} {S : Sc} (hb : isB b) (hS : SOK S) (hR : SR n M b S) (hK : ∀ M' : Mm, SR n M' b (eod (-1) S) → FrB b M M' → K M') : wp_X3_endMinute n M b K := by
  obtain ⟨hz, h0⟩ := hS.co
  refine ⟨hb.t, ?_⟩
  rintro M1 rfl
  rw [hR.1.2.2.1]
  have h1 : SR n (wr M b 11 (S 2 + 1)) b (mnt S) := hR.wg (k := 2) hb (by decide) (by decide)
  have F1 : FrB b M (wr M b 11 (S 2 + 1)) := FrB.wb hb
  have km : Kp S (mnt S) := kp_mnt
  generalize wr M b 11 (S 2 + 1) = M1 at h1 F1 ⊢
  rw [h1.1.2.2.1]
  refine ⟨fun hd => ?_, fun hd => hK M1 (by unfold eod; rw [if_neg hd]; exact h1) F1⟩
  have he : eod (-1) S = wnK (-1) (mnt S) (nCo S) := by unfold eod; rw [if_pos hd]
  refine ⟨nCo S + 1, ?_⟩
  suffices h : ∀ (j c : Nat) (M2 : Mm), c + j = nCo S → SR n M2 b (wnK (-1) (mnt S) c) → FrB b M M2 → wl_X3_endMinute_24 n b K (j + 1) M2 (nI c) by
    exact h _ 0 M1 (by omega) h1 F1
  intro j
  induction j with
  | zero =>
    intro c M2 hc h2 hF
    have hcz : c = nCo S := by omega
    have e4 := h2.n0 hS (km.tr (kp_wnK c (by omega)))
    rw [wl_X3_endMinute_24]
    exact ⟨fun _ => hK M2 (by rw [he, ← hcz]; exact h2) hF, fun h => absurd (by rw [e4, hcz]; exact nI_le (Nat.le_refl _) (by omega)) h⟩
  | succ j ih =>
    intro c M2 hc h2 hF
    have hc8 : c < 8 := by omega
    have k2 : Kp S (wnK (-1) (mnt S) c) := km.tr (kp_wnK c (by omega))
    have e4 := h2.n0 hS k2
    have hcT : c < nCo (wnK (-1) (mnt S) c) := by rw [k2.co]; omega
    rw [wl_X3_endMinute_24]
    refine ⟨fun h => absurd h (by rw [e4]; exact nI_ge (by omega) (by omega)), fun _ => ⟨in8 hc8, in8 hc8, ?_⟩⟩
    rintro M4 rfl v5 rfl
    rw [nI_s, nI_clamp (by omega), h2.2.1 c hcT 3 (by decide)]
    refine ih (c + 1) _ (by omega) ?_ (hF.tr (FrB.wc hb hc8 (by decide)))
    have := h2.wc (w := 4) (x := wnK (-1) (mnt S) c (cx c 3)) hb hcT (by rw [k2.co]; exact hz) (by decide)
    rw [wnK]
    unfold wnt
    rw [if_pos (Or.inl (by decide))]
    exact this
end C3n
