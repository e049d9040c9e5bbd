/-- only piles, not their lengths -/
def FrP (M M' : Mm) : Prop := (∀ i : Nat, ¬ isP i → M' i = M i) ∧ ∀ i : Nat, isP i → M' i LEN = M i LEN
theorem FrP.rf (M : Mm) : FrP M M := ⟨fun _ _ => rfl, fun _ _ => rfl⟩
theorem FrP.tr {A B C : Mm} (h : FrP A B) (g : FrP B C) : FrP A C := ⟨fun i x => (g.1 i x).trans (h.1 i x), fun i x => (g.2 i x).trans (h.2 i x)⟩
theorem tx_lo {id : Nat} (hid : tp id = 20) : 94 ≤ id ∧ (id - 94) % 3 = 0 := by
  rcases Nat.lt_or_ge id 94 with h | h
  · exfalso
    have hall : ∀ i : Nat, i < 94 → tp i ≠ 20 := by decide +kernel
    exact hall id h hid
  · have := tp_hi (i := id) h
    omega
theorem FrP.one {id : Nat} {M M' : Mm} (hid : tp id = 20) (h1 : ∀ i : Nat, i ≠ id + 2 → M' i = M i) (h2 : M' (id + 2) LEN = M (id + 2) LEN) : FrP M M' := by
  obtain ⟨h3, h4⟩ := tx_lo hid
  have hP : isP (id + 2) := by unfold isP; omega
  refine ⟨fun i hi => h1 i (fun e => hi (by rw [e]; exact hP)), fun i hi => ?_⟩
  by_cases e : i = id + 2
  · rw [e]; exact h2
  · rw [h1 i e]
theorem FrP.lo {M M' : Mm} (h : FrP M M') {i : Nat} (hi : i < 94) : M' i = M i := h.1 i (notP_lt hi)
theorem FrP.B {b : Nat} {M M' : Mm} (hb : isB b) (h : FrP M M') : FrB b M M' := by
  have := hb.lt
  exact ⟨fun i _ hi => h.1 i hi, h.2, h.lo (by omega), h.lo (by omega), fun c hc => by rw [h.lo (by omega)]⟩
theorem SR.frp {n b : Nat} {M M' : Mm} {S : Sc} (hb : isB b) (hz : nCo S ≤ 8) (hF : FrP M M') (h : SR n M b S) : SR n M' b S := by
  obtain ⟨a1, a2⟩ := h.keep hb (Kp.rf S) (hF.B hb)
  have := hb.lt
  refine ⟨?_, fun c hc w hw => ?_, a1, a2⟩
  · unfold SRg; rw [hF.lo (by omega)]; exact h.1
  · rw [hF.lo (by omega)]; exact h.2.1 c hc w hw
section C3
variable {n : Nat} {M : Mm}
theorem e7_within {K : Mm → Int32 → Prop} {x lo hi : Int32} (h : K M (bi (lo ≤ x ∧ x ≤ hi))) : wp_X7_within n M x lo hi K := by
  refine ⟨fun h1 => ?_, fun h1 => ⟨fun h2 => ?_, fun h2 => ?_⟩⟩
  · rw [bi_f (fun q => absurd q.1 (Int32.not_le.mpr h1))] at h; exact h
  · rw [bi_f (fun q => absurd q.2 (Int32.not_le.mpr h2))] at h; exact h
  · rw [bi_t ⟨Int32.not_lt.mp h1, Int32.not_lt.mp h2⟩] at h; exact h
theorem bi_ne {p : Prop} [Decidable p] : ¬ bi p = 0 ↔ p := by
  by_cases h : p
  · rw [bi_t h]; exact ⟨fun _ => h, fun _ => by decide⟩
  · rw [bi_f h]; exact ⟨fun q => absurd rfl q, fun q => absurd q h⟩
theorem bi_eq {p : Prop} [Decidable p] : bi p = 0 ↔ ¬ p := by
  by_cases h : p
  · rw [bi_t h]; exact ⟨fun q => absurd q (by decide), fun q => absurd h q⟩
  · rw [bi_f h]; exact ⟨fun _ => h, fun _ => rfl⟩
theorem le_pred {x : Int32} {z : Nat} (hz : z ≤ 1000) : (0 ≤ x ∧ x ≤ nI z - 1) ↔ ∃ c : Nat, c < z ∧ x = nI c := by
  constructor
  · rintro ⟨h1, h2⟩
    obtain ⟨c, hc, rfl⟩ := nI_of (Int32.not_lt.mpr h1)
    refine ⟨c, ?_, rfl⟩
    cases z with
    | zero => exact absurd h2 (by rw [show nI 0 - 1 = (-1 : Int32) from by decide]; exact fun q => absurd (Int32.le_trans h1 q) (by decide))
    | succ z =>
      rw [nI_pred, nI_leI hc (by omega)] at h2
      omega
  · rintro ⟨c, hc, rfl⟩
    cases z with
    | zero => omega
    | succ z =>
      rw [nI_pred, nI_leI (by omega) (by omega)]
      exact ⟨nI_pos' (by omega), by omega⟩
theorem e3_comerAt {K : Mm → Option Nat → Prop} {b z : Nat} {x : Int32} (hb : isB b) (hz : z ≤ 8) (h4 : M b 4 = nI z) (hN : (¬ ∃ c : Nat, c < z ∧ x = nI c) → K M none) (hS : ∀ c : Nat, c < z → x = nI c → K M (some (b + 3 + 1 + c))) : wp_X3_comerAt n M b x K := by
  refine ⟨hb.t, e7_within ⟨fun h => ?_, fun h => ?_⟩⟩
  · rw [bi_eq, h4, le_pred (by omega)] at h
    exact hN h
  · rw [bi_ne, h4, le_pred (by omega)] at h
    obtain ⟨c, hc, rfl⟩ := h
    refine ⟨in8 (by omega), ?_⟩
    rw [nI_clamp (by omega)]
    exact hS c hc rfl
theorem e3_standing {K : Mm → Int32 → Prop} {b : Nat} {S : Sc} (hb : isB b) (hz : nCo S ≤ 8) (h0 : S 0 = nI (nCo S)) (hR : SR n M b S) (hK : K M (nI (cnt S (nCo S)))) : wp_X3_standing n M b K := by
  refine ⟨hb.t, nCo S + 1, ?_⟩
  have h4 : M b 4 = nI (nCo S) := by rw [hR.1.1, h0]
  suffices h : ∀ (j c : Nat), c + j = nCo S → wl_X3_standing_4 n b K (j + 1) M (nI (cnt S c)) (nI c) by
    exact h _ 0 (by omega)
  intro j
  induction j with
  | zero =>
    intro c hc
    have hcz : c = nCo S := by omega
    rw [wl_X3_standing_4]
    exact ⟨fun _ => by rw [hcz]; exact hK, fun h => absurd (by rw [h4, hcz]; exact nI_le (Nat.le_refl _) (by omega)) h⟩
  | succ j ih =>
    intro c hc
    rw [wl_X3_standing_4]
    refine ⟨fun h => absurd h (by rw [h4]; exact nI_ge (by omega) (by omega)), fun _ => ⟨in8 (by omega), ?_⟩⟩
    have ih := ih (c + 1) (by omega)
    rw [nI_clamp (by omega), hR.2.1 c (by omega) 5 (by decide)]
    refine ⟨fun h => ?_, fun h => ?_⟩
    · rintro v2 rfl
      rw [cnt, if_neg h, Nat.add_zero] at ih
      rw [nI_s]; exact ih
    · rintro v3 rfl v4 rfl
      rw [cnt, if_pos h] at ih
      rw [nI_s, nI_s]; exact ih
/-- the text that counts for a key -/
theorem e3_lawOf {K : Mm → Option Nat → Prop} {b q : Nat} {x : Int32} {S : Sc} (hb : isB b) (hn : n ≤ 1000) (hq : q < 3) (hx : x = nI q) (hS : SOK S) (hR : SR n M b S) (hN : lastT S (nI q) (nTx S) < 0 → K M none) (hY : ∀ (t id : Nat), t < nTx S → lastT S (nI q) (nTx S) = nI t → S (108 + 200 * t) = nI q → TR n M id S t → K M (some id)) : wp_X3_lawOf n M b x K := by
  subst hx
  obtain ⟨hx14, e1, -⟩ := hS.tx
  have h2 : M b 2 = nI (nTx S) := by rw [hR.1.2.1, e1]
  refine ⟨hb.t, fun h => absurd h (nI_pos (by omega)), fun _ => ⟨fun h => absurd h (by rw [show (3 : Int32) = nI 3 from rfl]; exact nI_ge hq (by decide)), fun _ => ⟨vp_in_nI hq (by decide), ?_⟩⟩⟩
  rw [nI_clamp (by omega), hR.2.2.1 q hq]
  unfold wb_X3_lawOf_19
  rw [h2]
  rcases lastT_cases S (nI q) (nTx S) with hl | ⟨t, ht, hl, hk⟩
  · have h3 := hN (by rw [hl]; decide)
    rw [hl]
    exact ⟨fun _ => h3, fun h => absurd (by decide) h⟩
  · obtain ⟨id, hid, hT⟩ := hR.2.2.2 t ht
    have hlo := (tx_lo hT.1.1).1
    have hidn := hT.1.2
    have h3 := hY t id ht hl hk hT
    rw [hl]
    refine ⟨fun h => absurd h (nI_pos (by omega)), fun _ => ⟨fun h => absurd h (nI_ge ht (by omega)), fun _ => ⟨vp_in_nI (by omega) (by decide), ?_⟩⟩⟩
    rw [nI_clamp (by omega), hid]
    refine ⟨fun h0 => absurd h0 (nI_ne0 (by omega) (by omega)), fun _ => ?_⟩
    rintro t3 rfl
    rw [nI_clamp (by omega)]
    exact ⟨hT.1, h3⟩
theorem e3_leaveHolds {K : Mm → Int32 → Prop} {b c : Nat} {S : Sc} (hb : isB b) (hn : n ≤ 1000) (hc : c < nCo S) (hS : SOK S) (hR : SR n M b S) (hK : ∀ M' : Mm, FrP M M' → K M' (plv S c)) : wp_X3_leaveHolds n M b (b + 3 + 1 + c) K := by
  obtain ⟨hz, h0⟩ := hS.co
  have e1 : M (b + 3 + 1 + c) 1 = S (cx c 1) := hR.2.1 c hc 1 (by decide)
  have e8 : M (b + 3 + 1 + c) 8 = S (cx c 8) := hR.2.1 c hc 8 (by decide)
  have em : M b 11 = S 2 := hR.1.2.2.1
  refine ⟨hb.t, hb.c (by omega), e3_lawOf (q := 0) hb hn (by decide) rfl hS hR (fun hl => ⟨fun _ => ?_, fun t h => absurd h (by simp)⟩) (fun t id ht hl hk hT => ⟨fun h => absurd h (by simp), fun t3 h3 => ?_⟩)⟩
  · have h2 := hK M (FrP.rf M)
    unfold plv at h2
    rw [show nI 0 = (0 : Int32) from rfl] at hl
    rw [if_pos hl] at h2
    rw [em, e1]
    exact ⟨fun q => by rw [bi_f q] at h2; exact h2, fun q => by rw [bi_t q] at h2; exact h2⟩
  · cases h3
    refine ⟨hT.1, k6_value (env := envL S c) hT (hS.tx.2.2 t ht) ⟨fun _ => ⟨?_, ?_, ?_⟩, fun z => absurd (hk.symm.trans z) (by decide), fun z => absurd (hk.symm.trans z) (by decide)⟩ (fun M' h1 h2 => ?_)⟩
    · rw [em]; rfl
    · rw [e8]; rfl
    · rw [e1]; rfl
    · have h3 := hK M' (FrP.one hT.1.1 h1 h2)
      unfold plv at h3
      rw [show nI 0 = (0 : Int32) from rfl] at hl
      rw [hl, if_neg (nI_pos (by have := hS.tx.1; omega)), nI_clamp (by have := hS.tx.1; omega)] at h3
      exact ⟨fun q => by rw [bi_f (fun z => z q)] at h3; exact h3, fun q => by rw [bi_t q] at h3; exact h3⟩
theorem e3_wouldLeave {K : Mm → Int32 → Prop} {b c : Nat} {S : Sc} (hb : isB b) (hn : n ≤ 1000) (hc : c < nCo S) (hS : SOK S) (hR : SR n M b S) (hK : ∀ M' : Mm, FrP M M' → K M' (wlv S c)) : wp_X3_wouldLeave n M b (b + 3 + 1 + c) K := by
  obtain ⟨hz, h0⟩ := hS.co
  have f0 : M (b + 3 + 1 + c) 0 = S (cx c 0) := hR.2.1 c hc 0 (by decide)
  have f1 : M (b + 3 + 1 + c) 1 = S (cx c 1) := hR.2.1 c hc 1 (by decide)
  have f8 : M (b + 3 + 1 + c) 8 = S (cx c 8) := hR.2.1 c hc 8 (by decide)
  have fw : M b 7 = S 5 := hR.1.2.2.2.2.2.1
  have hdef : (¬ S (cx c 0) = 1) → (¬ S (cx c 0) = 3) → (¬ S (cx c 0) = 5) → wb_X3_wouldLeave_102 n b (b + 3 + 1 + c) K M := by
    intro h1 h3 h5
    refine e3_leaveHolds hb hn hc hS hR (fun M' hF => ⟨plv_01 _ _, ?_⟩)
    have h := hK M' hF
    unfold wlv at h
    rw [if_neg h1, if_neg h3, if_neg h5] at h
    exact h
  refine ⟨hb.t, hb.c (by omega), ?_⟩
  rw [f0, f1, f8, fw]
  refine ⟨fun h => ?_, fun h => hdef (by rw [h]; decide) (by rw [h]; decide) (by rw [h]; decide), fun h => ?_, fun h => hdef (by rw [h]; decide) (by rw [h]; decide) (by rw [h]; decide), fun h => ?_, fun h1 _ h3 _ h5 => hdef h1 h3 h5⟩
  · have h2 := hK M (FrP.rf M)
    unfold wlv at h2
    rw [if_pos h] at h2
    exact ⟨fun q => by rw [bi_f (fun z => z q)] at h2; exact h2, fun q => by rw [bi_t q] at h2; exact h2⟩
  · have h2 := hK M (FrP.rf M)
    unfold wlv at h2
    rw [if_neg (by rw [h]; decide), if_pos h] at h2
    exact ⟨fun q => by rw [bi_f (fun z => z.1 q)] at h2; exact h2, fun q => ⟨fun r => by rw [bi_f (fun z => z.2 r)] at h2; exact h2, fun r => by rw [bi_t ⟨q, r⟩] at h2; exact h2⟩⟩
  · have e : wlv S c = bi (¬ plv S c = 0 ∧ cnt S (nCo S) = 0) := by
      unfold wlv
      rw [if_neg (by rw [h]; decide), if_neg (by rw [h]; decide), if_pos h]
    have hle := cnt_le S (nCo S)
    refine e3_standing hb hz h0 hR ⟨fun q => ?_, fun q => e3_leaveHolds hb hn hc hS hR (fun M' hF => ?_)⟩
    · have h2 := hK M (FrP.rf M)
      rw [e, bi_f (fun z => q (by rw [z.2]; rfl))] at h2
      exact h2
    · have h2 := hK M' hF
      rw [e] at h2
      exact ⟨fun r => by rw [bi_f (fun z => z.1 r)] at h2; exact h2, fun r => by rw [bi_t ⟨r, (nI_eq (b := 0) (by omega) (by decide)).mp q⟩] at h2; exact h2⟩
theorem hld_e (x : Int32) : jmax 0 (jmin 99 x) = hld x := by
  unfold hld
  show (if (0 : Int32) < (if x < 99 then x else 99) then (if x < 99 then x else 99) else 0) = _
  by_cases h1 : x < 99
  · rw [if_pos h1]
    by_cases h2 : 0 ≤ x
    · rw [if_pos h2, if_pos (Int32.le_of_lt h1)]
      by_cases h3 : 0 < x
      · rw [if_pos h3]
      · rw [if_neg h3]; exact Int32.le_antisymm h2 (Int32.not_lt.mp h3)
    · rw [if_neg h2, if_neg (fun q => h2 (Int32.le_of_lt q))]
  · have h1 := Int32.not_lt.mp h1
    rw [if_neg (Int32.not_lt.mpr h1), if_pos (by decide), if_pos (Int32.le_trans (by decide) h1)]
    by_cases h3 : x ≤ 99
    · rw [if_pos h3]; exact Int32.le_antisymm h1 h3
    · rw [if_neg h3]
theorem e3_stayGives {K : Mm → Int32 → Prop} {b c : Nat} {S : Sc} (hb : isB b) (hn : n ≤ 1000) (hc : c < nCo S) (hS : SOK S) (hR : SR n M b S) (hK : ∀ M' : Mm, FrP M M' → K M' (stg S c)) : wp_X3_lawOf n M b 1 (fun M1 r2 => (r2 = none → K M1 0) ∧ (∀ t3 : Nat, r2 = some t3 → (tp t3 = 20 ∧ t3 + 2 < n) ∧ (wp_X3_standing n M1 b (fun M5 r6 => wp_X6_value n M5 t3 (M1 (b + 3 + 1 + c) 1) (M1 b 7) r6 (fun M7 r8 => wp_X7_held n M7 r8 0 99 (fun M9 r10 => K M9 r10)))))) := by
  obtain ⟨hz, h0⟩ := hS.co
  have e1 : M (b + 3 + 1 + c) 1 = S (cx c 1) := hR.2.1 c hc 1 (by decide)
  have fw : M b 7 = S 5 := hR.1.2.2.2.2.2.1
  refine e3_lawOf (q := 1) hb hn (by decide) rfl hS hR (fun hl => ⟨fun _ => ?_, fun t h => absurd h (by simp)⟩) (fun t id ht hl hk hT => ⟨fun h => absurd h (by simp), fun t3 h3 => ?_⟩)
  · have h2 := hK M (FrP.rf M)
    unfold stg at h2
    rw [show nI 1 = (1 : Int32) from rfl] at hl
    rw [if_pos hl] at h2
    exact h2
  · cases h3
    refine ⟨hT.1, e3_standing hb hz h0 hR (k6_value (env := envS S c) hT (hS.tx.2.2 t ht) ⟨fun z => absurd (hk.symm.trans z) (by decide), fun _ => ⟨?_, ?_, ?_⟩, fun z => absurd (hk.symm.trans z) (by decide)⟩ (fun M' h1 h2 => ?_))⟩
    · rw [e1]; rfl
    · rw [fw]; rfl
    · rfl
    · have h3 := hK M' (FrP.one hT.1.1 h1 h2)
      unfold stg at h3
      rw [show nI 1 = (1 : Int32) from rfl] at hl
      rw [hl, if_neg (nI_pos (by have := hS.tx.1; omega)), nI_clamp (by have := hS.tx.1; omega), ← hld_e] at h3
      exact h3
theorem e3_staysOf {K : Mm → Int32 → Prop} {b c : Nat} {S : Sc} (hb : isB b) (hn : n ≤ 1000) (hc : c < nCo S) (hS : SOK S) (hR : SR n M b S) (hK : ∀ M' : Mm, FrP M M' → K M' (stv S c)) : wp_X3_staysOf n M b (b + 3 + 1 + c) K := by
  obtain ⟨hz, h0⟩ := hS.co
  have hbl := hb.lt
  have f0 : ∀ M' : Mm, FrP M M' → M' (b + 3 + 1 + c) 0 = S (cx c 0) := fun M' hF => by rw [hF.lo (by omega)]; exact hR.2.1 c hc 0 (by decide)
  have f1 : ∀ M' : Mm, FrP M M' → M' (b + 3 + 1 + c) 1 = S (cx c 1) := fun M' hF => by rw [hF.lo (by omega)]; exact hR.2.1 c hc 1 (by decide)
  refine ⟨hb.t, hb.c (by omega), e3_stayGives (K := wb_X3_staysOf_36 n b (b + 3 + 1 + c) K) hb hn hc hS hR (fun M' hF => ?_)⟩
  unfold wb_X3_staysOf_36
  have h2 := hK M' hF
  unfold stv at h2
  rw [f0 M' hF, f1 M' hF]
  refine ⟨fun h => ?_, fun h => ?_, fun h h' => ?_⟩
  · rw [if_pos h] at h2
    exact h2
  · rw [if_neg (by rw [h]; decide), if_pos h] at h2
    exact h2
  · rw [if_neg h, if_neg h'] at h2
    exact h2
end C3
