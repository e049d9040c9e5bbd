def wors (S : Sc) (c d : Nat) : Prop := if S (cx c 10) = S (cx d 10) then S (cx c 9) < S (cx d 9) else S (cx d 10) < S (cx c 10)
noncomputable def lsT (S : Sc) : Nat → Option Nat
  | 0 => none
  | c + 1 => match lsT S c with
    | none => some c
    | some d => @ite _ (wors S c d) (Classical.propDecidable _) (some c) (some d)
theorem lsT_lt {S : Sc} {d : Nat} : ∀ c : Nat, lsT S c = some d → d < c
  | 0, h => by simp [lsT] at h
  | c + 1, h => by
    unfold lsT at h
    cases e : lsT S c with
    | none => rw [e] at h; cases h; omega
    | some q =>
      rw [e] at h
      have := lsT_lt c e
      simp only at h
      split at h
      · cases h; omega
      · cases h; omega
theorem lsT_none {S : Sc} : ∀ c : Nat, lsT S c = none → c = 0
  | 0, _ => rfl
  | c + 1, h => by
    exfalso
    unfold lsT at h
    cases e : lsT S c with
    | none => rw [e] at h; cases h
    | some q =>
      rw [e] at h
      simp only at h
      split at h <;> cases h
section OPS4
variable {n j : Nat} {M : Mm} {Z : Mm → Prop} {R : Mm → Int32 → Prop} {K : Mm → Int32 → Prop}
theorem op_tell {p1 : Int32} (I : Inv n j M) (hZ : ∀ M' : Mm, Inv n (j + 1) M' → Z M') (hR : ∀ (M1 : Mm) (r : Int32), wp_X8_tell n M1 p1 (fun M3 r4 => (r = r4 → Z M3) ∧ (¬ r = r4 → False)) → R M1 r) : wp_X7_tell n M p1 R := by
  obtain ⟨s, s60, w1, w2, w3⟩ := I.w
  unfold wp_X7_tell
  rw [w1]
  refine ⟨fun h => ?_, fun h => ?_⟩
  · rw [show (60 : Int32) = nI 60 from rfl, nI_ltI (by omega) (by decide)] at h
    refine ⟨rfl, fun hh => absurd hh ?_, fun _ => ⟨?_, ?_⟩⟩
    · rw [w1, show Int32.ofNat (tp (42 + 1) - 1000) = nI 60 from by decide]; exact nI_ge h (by decide)
    · rw [w1, show tp (42 + 1) - 1000 = 60 from by decide]; exact vp_in_nI h (by decide)
    · rintro M1 rfl M2 rfl
      rw [w1, nI_clamp (by omega), wr_oth (show (42 : Nat) ≠ 42 + 1 by decide), w1, wr_at, nI_s]
      have e74 : wr (wr M (42 + 1) s p1) 42 1 (nI (s + 1)) 74 = M 74 := by rw [wr_oth (by decide), wr_oth (by decide)]
      refine hR _ _ ⟨fun _ => ⟨?_, ?_⟩, fun hh => absurd hh ?_⟩
      · rw [e74, w2]; exact vp_in_nI h (by decide)
      · rintro M3 rfl M4 rfl
        rw [e74, w2, nI_clamp (by omega), wr_oth (show (74 : Nat) ≠ 92 by decide), e74, w2, wr_at, nI_s]
        refine en rfl (hZ _ (I.fi (X := [42, 43, 92, 1032]) (by omega) ?_ (w := Or.inl ⟨s + 1, by omega, ?_, ?_, fun i hi => ?_⟩)))
        · refine ⟨fun i h9 hx hs => ?_, fun q hq hx => ?_, fun q => Or.inl ?_, fun i h9 hp => ?_, fun i hp => ?_⟩
          · have h1 : i ≠ 42 ∧ i ≠ 43 ∧ i ≠ 92 := ⟨fun e => hx (by subst e; decide), fun e => hx (by subst e; decide), fun e => hx (by subst e; decide)⟩
            have h74 : i ≠ 74 := fun e => hs (by subst e; unfold scr; decide)
            rw [wr_oth h74, wr_oth h1.2.2, wr_oth h1.1, wr_oth h1.2.1]
          · have : q ≠ 32 := fun e => hx (by subst e; decide)
            rw [wr_idx this, wr_oth (by decide), e74]
          · rw [wr_oth (by decide), wr_oth (by decide), wr_oth (by decide), wr_oth (by decide)]
          · rw [wr_oth (by omega), wr_oth (by omega), wr_oth (by omega), wr_oth (by omega)]
          · have := hiP hp
            rw [wr_oth (by omega), wr_oth (by omega), wr_oth (by omega), wr_oth (by omega)]
        · rw [wr_oth (by decide), wr_oth (by decide), wr_at]
        · rw [wr_at]
        · rw [wr_oth (by decide), wr_oth (by decide), wr_oth (by decide), wr_oth (show (92 : Nat) ≠ 74 by decide)]
          by_cases e : i = s
          · subst e; rw [wr_at, wr_at]
          · rw [wr_idx e, wr_idx e, wr_oth (by decide), wr_oth (by decide)]; exact w3 i (by omega)
      · rw [e74, w2, show (60 : Int32) = nI 60 from rfl, nI_eq (by omega) (by decide)]; omega
  · rw [show (60 : Int32) = nI 60 from rfl, nI_ltI (by omega) (by decide)] at h
    have : s = 60 := by omega
    subst this
    exact hR _ _ ⟨fun hh => absurd w2 hh, fun _ => en rfl (hZ _ I.sk)⟩
theorem op_trim {p1 : Int32} (I : Inv n j M) (hZ : ∀ M' : Mm, Inv n (j + 1) M' → Z M') (hR : ∀ (M1 : Mm) (r : Int32), wp_X8_trim n M1 p1 (fun M3 r4 => (r = r4 → Z M3) ∧ (¬ r = r4 → False)) → R M1 r) : wp_X7_trim n M p1 R := by
  obtain ⟨s, s96, w1, w2, w3⟩ := I.t
  unfold wp_X7_trim
  rw [w1]
  by_cases hp : 0 ≤ p1 ∧ p1 ≤ nI s
  · refine e7_y hp ⟨fun _ => ?_, fun h => absurd h i1⟩
    rintro M3 rfl
    have e74 : wr M 38 1 p1 74 = M 74 := wr_oth (by decide)
    refine hR _ _ ?_
    unfold wp_X8_trim
    rw [e74, w2]
    refine e8_y rfl rfl rfl hp ⟨fun _ => ?_, fun h => absurd h i1⟩
    rintro M4 rfl
    obtain ⟨k, hk, rfl⟩ := bd_of (k := s) (lo := 0) (hi := nI s) (by decide) (nI_toInt (by omega)) hp
    refine en rfl (hZ _ (I.fi (X := [38, 1017]) (by omega) ?_ (t := Or.inl ⟨k, by omega, ?_, ?_, fun i hi => ?_⟩)))
    · refine ⟨fun i h9 hx hs => ?_, fun q hq hx => ?_, fun q => Or.inl ?_, fun i h9 hp => ?_, fun i hp => ?_⟩
      · have h1 : i ≠ 38 := fun e => hx (by subst e; decide)
        have h74 : i ≠ 74 := fun e => hs (by subst e; unfold scr; decide)
        rw [wr_oth h74, wr_oth h1]
      · have : q ≠ 17 := fun e => hx (by subst e; decide)
        rw [wr_idx this, e74]
      · rw [wr_oth (by decide), wr_oth (by decide)]
      · rw [wr_oth (by omega), wr_oth (by omega)]
      · have := hiP hp
        rw [wr_oth (by omega), wr_oth (by omega)]
    · rw [wr_oth (by decide), wr_at]
    · rw [wr_at]
    · rw [wr_oth (by decide), wr_oth (by decide), wr_oth (by decide), wr_oth (by decide)]; exact w3 i (by omega)
  · refine e7_n hp ⟨fun h => absurd rfl h, fun _ => hR _ _ ?_⟩
    unfold wp_X8_trim
    rw [w2]
    exact e8_n rfl rfl rfl hp ⟨fun h => absurd rfl h, fun _ => en rfl (hZ _ I.sk)⟩
theorem e3_lawAt {K : Mm → Option Nat → Prop} {b : Nat} {x : Int32} {S : Sc} (hb : isB b) (hn : n ≤ 1000) (hS : SOK S) (hR : SR n M b S) (hN : (¬ ∃ t : Nat, t < nTx S ∧ x = nI t) → K M none) (hY : ∀ t id : Nat, t < nTx S → x = nI t → TR n M id S t → K M (some id)) : wp_X3_lawAt n M b x K := by
  obtain ⟨hx14, e1, -⟩ := hS.tx
  have h2 : M b 2 = nI (nTx S) := by rw [hR.1.2.1, e1]
  refine ⟨hb.t, e7_within ?_⟩
  rw [h2]
  refine ⟨fun h => hN (fun q => ?_), fun h => ?_⟩
  · rw [bi_eq, le_pred (by omega)] at h; exact h q
  · rw [bi_ne, le_pred (by omega)] at h
    obtain ⟨t, ht, rfl⟩ := h
    obtain ⟨id, hid, hT⟩ := hR.2.2.2 t ht
    have hlo := (tx_lo hT.1.1).1
    have hidn := hT.1.2
    rw [nI_clamp (by omega)]
    refine ⟨vp_in_nI (by omega) (by decide), fun h0 => absurd h0 (by rw [hid]; exact nI_ne0 (by omega) (by omega)), fun _ => ?_⟩
    rintro t3 rfl
    rw [hid, nI_clamp (by omega)]
    exact ⟨hT.1, hY t id ht rfl hT⟩
theorem e8_ty {t : Nat} (hO : SOK (M 75)) (ht : t < nTx (M 75)) (k : K M 1) : wp_X8_isText n M (nI t) K := e8_y (K := fun M1 r2 => (r2 = 0 ∨ r2 = 1) ∧ K M1 r2) (x := nI t) (lo := 0) (hi := M 75 1 - 1) rfl (by decide) rfl (by rw [hO.tx.2.1, le_pred (by have := hO.tx.1; omega)]; exact ⟨t, ht, rfl⟩) ⟨Or.inr rfl, k⟩
theorem e8_tn {x : Int32} (hO : SOK (M 75)) (ht : ¬ ∃ t : Nat, t < nTx (M 75) ∧ x = nI t) (k : K M 0) : wp_X8_isText n M x K := e8_n (K := fun M1 r2 => (r2 = 0 ∨ r2 = 1) ∧ K M1 r2) (x := x) (lo := 0) (hi := M 75 1 - 1) rfl (by decide) rfl (fun h => by rw [hO.tx.2.1, le_pred (by have := hO.tx.1; omega)] at h; exact ht h) ⟨Or.inl rfl, k⟩
theorem op_textTold {p1 p2 : Int32} (I : Inv n j M) (hj : j ≤ 64) (hZ : ∀ M' : Mm, Inv n (j + 1) M' → Z M') (hR : ∀ (M1 : Mm) (r : Int32), wp_X8_textTold n M1 p1 p2 (fun M3 r4 => (r = r4 → Z M3) ∧ (¬ r = r4 → False)) → R M1 r) : wp_X7_textTold n M p1 p2 R := by
  obtain ⟨hS, hO, hI⟩ := I.a
  obtain ⟨hx14, e1, -⟩ := hO.tx
  have hz := hZ _ I.sk
  refine e3_lawAt (Or.inl rfl) (I.n1k hj) hO hS (fun hN => ⟨fun _ => hR _ _ ?_, fun t ht => absurd ht (by simp)⟩) (fun t id ht hx hT => ⟨fun h => absurd h (by simp), fun t3 h3 => ?_⟩)
  · exact e8_tn hO hN ⟨fun _ => en rfl hz, fun h => absurd rfl h⟩
  · cases h3
    subst hx
    refine ⟨hT.1, ?_⟩
    have hY : ∀ r : Int32, _ → R M r := fun r h => hR M r (e8_ty hO ht ⟨fun h => absurd h i1, fun _ => h⟩)
    by_cases hp : 0 ≤ p2 ∧ p2 ≤ 1
    · obtain ⟨w, hw, rfl⟩ := bd_of (k := 1) (by decide) (by decide) hp
      have hgo : ∀ r : Int32, r = M 75 (108 + 200 * t + w) → R M r := by
        intro r er
        refine hY r (e8_y (lo := 0) (hi := 1) rfl (by decide) (by decide) hp ⟨fun _ => ?_, fun h => absurd h i1⟩)
        show vp_in ((108 + 200 * nI t) + nI w) 3108 ∧ _
        rw [ixt, nI_add, nI_lt31 (by omega)]
        exact ⟨inS (by omega), en er hz⟩
      refine e7_y hp ⟨fun _ => ⟨fun h => ?_, fun h => ?_⟩, fun h => absurd h i1⟩
      · have : w = 1 := by
          have : w ≠ 0 := fun e => h (by subst e; rfl)
          omega
        subst this
        exact hgo _ (by rw [hT.2.2.1]; congr 1; omega)
      · have : w = 0 := by rw [show (0 : Int32) = nI 0 from rfl, nI_eq (by omega) (by decide)] at h; exact h
        subst this
        exact hgo _ hT.2.1
    · exact e7_n hp ⟨fun h => absurd rfl h, fun _ => hY _ (e8_n (lo := 0) (hi := 1) rfl (by decide) (by decide) hp ⟨fun h => absurd rfl h, fun _ => en rfl hz⟩)⟩
theorem op_why {p1 : Int32} (I : Inv n j M) (hZ : ∀ M' : Mm, Inv n (j + 1) M' → Z M') (hR : ∀ (M1 : Mm) (r : Int32), wp_X8_why n M1 p1 (fun M3 r4 => (r = r4 → Z M3) ∧ (¬ r = r4 → False)) → R M1 r) : wp_X7_why n M p1 R := by
  obtain ⟨hS, hO, hI⟩ := I.a
  obtain ⟨hx14, e1, -⟩ := hO.tx
  have hz := hZ _ I.sk
  by_cases hp : 0 ≤ p1 ∧ p1 ≤ 2
  · obtain ⟨w, hw, rfl⟩ := bd_of (k := 2) (by decide) (by decide) hp
    refine e7_y hp ⟨fun _ => ⟨vp_in_nI (by omega) (by decide), ?_⟩, fun h => absurd h i1⟩
    rintro v3 rfl
    rw [nI_clamp (by omega), hS.2.2.1 w (by omega)]
    have hgo : ∀ r : Int32, (0 ≤ lastT (M 75) (nI w) (nTx (M 75)) → r = lastT (M 75) (nI w) (nTx (M 75))) → (¬ 0 ≤ lastT (M 75) (nI w) (nTx (M 75)) → r = -1000000005) → R M r := by
      intro r h1 h2
      exact hR M r (e8_y (lo := 0) (hi := 2) rfl (by decide) (by decide) hp ⟨fun h => absurd h i1, fun _ => e8_counts hx14 e1 ⟨fun h => en (h1 h) hz, fun h => en (h2 h) hz⟩⟩)
    exact ⟨fun h => hgo _ (fun _ => rfl) (fun q => absurd h q), fun h => hgo _ (fun q => absurd q h) (fun _ => rfl)⟩
  · exact e7_n hp ⟨fun h => absurd rfl h, fun _ => hR _ _ (e8_n (lo := 0) (hi := 2) rfl (by decide) (by decide) hp ⟨fun _ => en rfl hz, fun h => absurd rfl h⟩)⟩
theorem op_fine {p1 : Int32} (I : Inv n j M) (hj : j ≤ 64) (hZ : ∀ M' : Mm, Inv n (j + 1) M' → Z M') (hR : ∀ (M1 : Mm) (r : Int32), wp_X8_fine n M1 p1 (fun M3 r4 => (r = r4 → Z M3) ∧ (¬ r = r4 → False)) → R M1 r) : wp_X7_fine n M p1 R := by
  obtain ⟨hS, hO, hI⟩ := I.a
  obtain ⟨hx14, e1, hTT⟩ := hO.tx
  have hz := hZ _ I.sk
  refine e7_com I (fun hN => ⟨fun _ => hR _ _ (e8_cn hO rfl hN ⟨fun h => absurd rfl h, fun _ => en rfl hz⟩), fun t ht => absurd ht (by simp)⟩) (fun c hc hc8 hx => ⟨fun h => absurd h (by simp), fun t3 ht => ?_⟩)
  subst hx
  have ht : 1 + 3 + 1 + c = t3 := Option.some.inj ht
  subst ht
  refine ⟨isB.c (b := 1) (Or.inl rfl) hc8, e3_lawOf (q := 2) (Or.inl rfl) (I.n1k hj) (by decide) rfl hO hS (fun hl => ⟨fun _ => ?_, fun t h => absurd h (by simp)⟩) (fun t id ht hl hk hT => ⟨fun h => absurd h (by simp), fun t3 h3 => ?_⟩)⟩
  · rw [hS.2.1 c hc 10 (by decide)]
    refine hR _ _ (e8_cy hO rfl hc ⟨fun _ => e8_counts hx14 e1 ⟨fun h => absurd hl (Int32.not_lt.mpr h), fun _ => e8_of (w := 10) rfl (by omega) (by decide) (en rfl hz)⟩, fun h => absurd h i1⟩)
  · cases h3
    rw [hS.2.1 c hc 10 (by decide), hS.2.1 c hc 9 (by decide)]
    refine ⟨hT.1, k6_value (env := envF (M 75) c) hT (hTT t ht) ⟨fun z => absurd (hk.symm.trans z) (by decide), fun z => absurd (hk.symm.trans z) (by decide), fun _ => ⟨rfl, rfl⟩⟩ (fun M' h1 h2 => ?_)⟩
    have hF := FrP.one hT.1.1 h1 h2
    have e5 : M' 75 = M 75 := hF.lo (by decide)
    refine hR _ _ (e8_cy hO e5 hc ⟨fun _ => e8_counts (by rw [e5] at *; exact hx14) (by rw [e5]; exact e1) ?_, fun h => absurd h i1⟩)
    rw [e5]
    have hl' : lastT (M 75) 2 (nTx (M 75)) = nI t := hl
    rw [hl']
    refine ⟨fun _ => e8_of (w := 9) rfl (by omega) (by decide) ?_, fun h => absurd (nI_pos' (by omega)) h⟩
    rintro M7 rfl
    refine e8_of (w := 10) rfl (by omega) (by decide) ?_
    rintro M10 rfl
    have e75 : ∀ x y : Int32, wr (wr M' 89 103 x) 89 101 y 75 = M 75 := fun x y => by rw [wr_oth (by decide), wr_oth (by decide), e5]
    refine e8_worked (t := t) (env := envF (M 75) c) (by omega) (by rw [e75]; exact hTT t ht) (fun v hv => ?_) (fun M9 h9 => ?_)
    · rw [e75, hk] at hv
      simp only [wr_oth (show (75 : Nat) ≠ 89 by decide), e5]
      rcases hv with ⟨h, -⟩ | ⟨h, -⟩ | ⟨-, rfl | rfl⟩
      · exact absurd h (by decide)
      · exact absurd h (by decide)
      · rw [show (103 : Int32).toNatClampNeg = 103 from rfl, wr_idx (by decide), wr_at]; rfl
      · rw [show (101 : Int32).toNatClampNeg = 101 from rfl, wr_at]; rfl
    · rw [e75]
      refine en rfl (hZ _ (I.rd (M1 := M') hF ?_ (by rw [h9 75 (by decide), e75, e5])))
      refine FQ.of8 (fun i a b => by rw [h9 i b, wr_oth a, wr_oth a])
theorem l_least {S : Sc} (I : Inv n j M) (hE : M 75 = S) (hK : K M (match lsT S (nCo S) with | none => -1000000005 | some d => nI d)) : wp_X7_least n M K := by
  obtain ⟨hS, hO, hI⟩ := I.a
  rw [hE] at hS hO
  obtain ⟨hz, h0⟩ := hO.co
  have e4 : M 1 4 = nI (nCo S) := by rw [hS.1.1, h0]
  refine ⟨nCo S + 1, ?_⟩
  suffices h : ∀ (q c : Nat), c + q = nCo S → wl_X7_least_7 n K (q + 1) M (match lsT S c with | none => -1000000005 | some d => nI d) ((lsT S c).map (fun d => 1 + 3 + 1 + d)) (nI c) by
    exact h _ 0 (by omega)
  intro q
  induction q with
  | zero =>
    intro c hc
    have : c = nCo S := by omega
    subst this
    rw [wl_X7_least_7, e4]
    refine ⟨fun _ => ⟨fun _ => hK, fun h => absurd (nI_le (Nat.le_refl _) (by omega)) h⟩, fun x2 hx2 => ⟨?_, fun _ => hK, fun h => absurd (nI_le (Nat.le_refl _) (by omega)) h⟩⟩
    cases e : lsT S (nCo S) with
    | none => rw [e] at hx2; cases hx2
    | some d =>
      rw [e] at hx2
      have : 1 + 3 + 1 + d = x2 := Option.some.inj hx2
      subst this
      exact isB.c (b := 1) (Or.inl rfl) (by have := lsT_lt _ e; omega)
  | succ q ih =>
    intro c hc
    rw [wl_X7_least_7, e4]
    have hcz : c < nCo S := by omega
    have hn1 := ih (c + 1) (by omega)
    cases e : lsT S c with
    | none =>
      have e2 : lsT S (c + 1) = some c := by rw [lsT, e]
      rw [e2] at hn1
      refine ⟨fun _ => ⟨fun h => absurd h (nI_ge (by omega) (by omega)), fun _ => e3_comerAt (Or.inl rfl) hz e4 (fun hN => absurd ⟨c, hcz, rfl⟩ hN) (fun c' hc' hx => ⟨fun h => absurd h (by simp), fun t4 h4 => ?_⟩)⟩, fun x2 hx2 => absurd hx2 (by simp)⟩
      have : c' = c := by rw [nI_eq (by omega) (by omega)] at hx; exact hx.symm
      subst this
      cases h4
      refine ⟨isB.c (b := 1) (Or.inl rfl) (by omega), ?_⟩
      rintro v6 rfl
      rw [nI_s]; exact hn1
    | some d =>
      have hd := lsT_lt _ e
      have ht := isB.c (b := 1) (c := d) (Or.inl rfl) (by omega)
      refine ⟨fun h => absurd h (by simp), fun x2 hx2 => ?_⟩
      have : 1 + 3 + 1 + d = x2 := Option.some.inj hx2
      subst this
      refine ⟨ht, fun h => absurd h (nI_ge (by omega) (by omega)), fun _ => e3_comerAt (Or.inl rfl) hz e4 (fun hN => absurd ⟨c, hcz, rfl⟩ hN) (fun c' hc' hx => ⟨fun h => absurd h (by simp), fun t4 h4 => ?_⟩)⟩
      have : c' = c := by rw [nI_eq (by omega) (by omega)] at hx; exact hx.symm
      subst this
      cases h4
      refine ⟨isB.c (b := 1) (Or.inl rfl) (by omega), isB.c (b := 1) (Or.inl rfl) (by omega), ht, ?_⟩
      rw [hS.2.1 c' hcz 10 (by decide), hS.2.1 d (by omega) 10 (by decide), hS.2.1 c' hcz 9 (by decide), hS.2.1 d (by omega) 9 (by decide)]
      have hyes : wors S c' d → ((1 : Int32) = 0 → ∀ v14 : Int32, v14 = nI c' + 1 → wl_X7_least_7 n K (q + 1) M (nI d) (some (1 + 3 + 1 + d)) v14) ∧ (¬ (1 : Int32) = 0 → ∀ v15 : Int32, v15 = nI c' + 1 → wl_X7_least_7 n K (q + 1) M (nI c') (some (1 + 3 + 1 + c')) v15) := by
        intro hw
        refine ⟨fun h => absurd h i1, fun _ => ?_⟩
        rintro v rfl
        have e2 : lsT S (c' + 1) = some c' := by rw [lsT, e]; simp only; rw [if_pos hw]
        rw [e2] at hn1
        rw [nI_s]; exact hn1
      have hno : ¬ wors S c' d → ((0 : Int32) = 0 → ∀ v14 : Int32, v14 = nI c' + 1 → wl_X7_least_7 n K (q + 1) M (nI d) (some (1 + 3 + 1 + d)) v14) ∧ (¬ (0 : Int32) = 0 → ∀ v15 : Int32, v15 = nI c' + 1 → wl_X7_least_7 n K (q + 1) M (nI c') (some (1 + 3 + 1 + c')) v15) := by
        intro hw
        refine ⟨fun _ => ?_, fun h => absurd rfl h⟩
        rintro v rfl
        have e2 : lsT S (c' + 1) = some d := by rw [lsT, e]; simp only; rw [if_neg hw]
        rw [e2] at hn1
        rw [nI_s]; exact hn1
      refine ⟨fun h1 => ⟨fun h2 => hno ?_, fun h2 => hyes ?_⟩, fun h1 => ⟨fun h2 => hno ?_, fun h2 => hyes ?_⟩⟩
      · unfold wors; rw [if_pos h1]; exact Int32.not_lt.mpr h2
      · unfold wors; rw [if_pos h1]; exact Int32.not_le.mp h2
      · unfold wors; rw [if_neg h1]; exact Int32.not_lt.mpr h2
      · unfold wors; rw [if_neg h1]; exact Int32.not_le.mp h2
theorem l8_least {S : Sc} (hO : SOK S) (hS : M 75 = S) (hK : K M (match lsT S (nCo S) with | none => -1000000005 | some d => nI d)) : wp_X8_least n M K := by
  obtain ⟨hz, h0⟩ := hO.co
  refine ⟨nCo S + 1, ?_⟩
  suffices h : ∀ (q c : Nat), c + q = nCo S → wl_X8_least_4 n K (q + 1) M (match lsT S c with | none => -1 | some d => nI d) (nI c) by
    exact h _ 0 (by omega)
  intro q
  induction q with
  | zero =>
    intro c hc
    have : c = nCo S := by omega
    subst this
    rw [wl_X8_least_4, hS, h0]
    refine ⟨fun _ => ?_, fun h => absurd (nI_le (Nat.le_refl _) (by omega)) h⟩
    cases e : lsT S (nCo S) with
    | none => rw [e] at hK; exact ⟨fun h => absurd h (by decide), fun _ => hK⟩
    | some d =>
      rw [e] at hK
      have := lsT_lt _ e
      exact ⟨fun _ => hK, fun h => absurd (nI_pos' (by omega)) h⟩
  | succ q ih =>
    intro c hc
    rw [wl_X8_least_4, hS, h0]
    have hcz : c < nCo S := by omega
    have hn1 := ih (c + 1) (by omega)
    refine ⟨fun h => absurd h (nI_ge (by omega) (by omega)), fun _ => ?_⟩
    cases e : lsT S c with
    | none =>
      have e2 : lsT S (c + 1) = some c := by rw [lsT, e]
      rw [e2] at hn1
      refine ⟨fun _ => ⟨fun h => absurd h i1, fun _ => ?_⟩, fun h => absurd (by decide) h⟩
      rintro v rfl
      rw [nI_s]; exact hn1
    | some d =>
      have hd := lsT_lt _ e
      have hyes : wors S c d → wb_X8_least_69 n (fun M x1 x2 => wl_X8_least_4 n K (q + 1) M x1 x2) K M (nI d) (nI c) := by
        intro hw
        refine ⟨fun h => absurd h i1, fun _ => ?_⟩
        rintro v rfl
        have e2 : lsT S (c + 1) = some c := by rw [lsT, e]; simp only; rw [if_pos hw]
        rw [e2] at hn1
        rw [nI_s]; exact hn1
      have hno : ¬ wors S c d → wb_X8_least_73 n (fun M x1 x2 => wl_X8_least_4 n K (q + 1) M x1 x2) K M (nI d) (nI c) := by
        intro hw
        refine ⟨fun _ => ?_, fun h => absurd rfl h⟩
        rintro v rfl
        have e2 : lsT S (c + 1) = some d := by rw [lsT, e]; simp only; rw [if_neg hw]
        rw [e2] at hn1
        rw [nI_s]; exact hn1
      refine ⟨fun h => absurd h (nI_pos (by omega)), fun _ => e8_of (w := 10) rfl (by omega) (by decide) (e8_of (w := 10) rfl (by omega) (by decide) ?_)⟩
      rw [hS]
      refine ⟨fun h1 => hyes ?_, fun h1 => e8_of (w := 10) rfl (by omega) (by decide) (e8_of (w := 10) rfl (by omega) (by decide) ?_)⟩
      · unfold wors; rw [if_neg (fun e => by rw [e] at h1; exact Int32.lt_irrefl h1)]; exact h1
      · rw [hS]
        refine ⟨fun h2 => hno ?_, fun h2 => e8_of (w := 9) rfl (by omega) (by decide) (e8_of (w := 9) rfl (by omega) (by decide) ?_)⟩
        · unfold wors; rw [if_neg h2]; exact h1
        · rw [hS]
          refine ⟨fun h3 => hno ?_, fun h3 => hyes ?_⟩
          · unfold wors; rw [if_pos h2]; exact Int32.not_lt.mpr h3
          · unfold wors; rw [if_pos h2]; exact Int32.not_le.mp h3
theorem op_least (I : Inv n j M) (hZ : ∀ M' : Mm, Inv n (j + 1) M' → Z M') (hR : ∀ (M1 : Mm) (r : Int32), wp_X8_least n M1 (fun M3 r4 => (r = r4 → Z M3) ∧ (¬ r = r4 → False)) → R M1 r) : wp_X7_least n M R := l_least I rfl (hR _ _ (l8_least I.a.2.1 rfl (en rfl (hZ _ I.sk))))
theorem op_run {p1 : Int32} (I : Inv n j M) (hj : j ≤ 64) (hZ : ∀ M' : Mm, Inv n (j + 1) M' → Z M') (hR : ∀ (M1 : Mm) (r : Int32), wp_X8_run n M1 p1 (fun M3 r4 => (r = r4 → Z M3) ∧ (¬ r = r4 → False)) → R M1 r) : wp_X7_run n M p1 R := by
  obtain ⟨hS, hO, hI⟩ := I.a
  obtain ⟨hz, h0⟩ := hO.co
  by_cases hp : 1 ≤ p1 ∧ p1 ≤ 300
  · obtain ⟨p, hp3, rfl⟩ := bd_of (k := 300) (by decide) (by decide) hp
    obtain ⟨m, hm, em⟩ := hI.1.1
    refine e7_y hp ⟨fun _ => e3_advance (Or.inl rfl) (I.n1k hj) hO rfl hp3 em (by omega) hS (fun M1 h1 f1 => ?_), fun h => absurd h i1⟩
    have kp := kp_miK (o := -1) hz p
    refine (e3_sum (Or.inl rfl) (hO.kp kp) h1).1 (hR _ _ ?_)
    rw [kp.co]
    have e5 : M1 75 = M 75 := f1.1 75 (by omega) (notP_lt (by decide))
    have e74 : M1 74 = M 74 := f1.1 74 (by omega) (notP_lt (by decide))
    have eo : M1 74 13 = -1 := by rw [e74]; exact I.o
    refine e8_y (lo := 1) (hi := 300) rfl (by decide) (by decide) hp ⟨fun _ => ⟨p + 1, ?_⟩, fun h => absurd h i1⟩
    suffices h : ∀ (q k : Nat) (M2 : Mm), k + q = p → M2 75 = miK (-1) (M 75) k → (∃ x : Int32, M2 74 = upd (M1 74) 14 x) → FrG M1 M2 → wl_X8_run_17 n (nI p) (fun M3 r4 => (sumT (miK (-1) (M 75) p) 9 (nCo (M 75)) = r4 → Z M3) ∧ (¬ sumT (miK (-1) (M 75) p) 9 (nCo (M 75)) = r4 → False)) (q + 1) M2 (nI k) by
      exact h _ 0 M1 (by omega) e5 ⟨M1 74 14, upd_self.symm⟩ (FrG.rf M1)
    intro q
    induction q with
    | zero =>
      intro k M2 hk a5 a4 aF
      have : k = p := by omega
      subst this
      rw [wl_X8_run_17]
      refine ⟨fun _ => ?_, fun h => absurd (nI_le (Nat.le_refl _) (by omega)) h⟩
      refine e8_ofAll (w := 9) (z := nCo (M 75)) rfl (by decide) hz (by rw [a5, kp.1, h0]) ?_
      rw [a5]
      obtain ⟨x, a4⟩ := a4
      exact en rfl (hZ _ (I.cs (by omega) f1 h1 (hO.kp kp) ((ri_miK hz hI k).mono (by omega)) (FQ.ofG aF a4) a5))
    | succ q ih =>
      intro k M2 hk a5 a4 aF
      rw [wl_X8_run_17]
      refine ⟨fun h => absurd h (nI_ge (by omega) (by omega)), fun _ => ⟨fun h => absurd h ?_, fun _ => e8_goesOn (by rw [a5]; exact hO.kp (kp_miK hz k)) (fun M3 b5 b4 bF => ?_)⟩⟩
      · rw [a5, miK2 em, show (99999 : Int32) = nI 99999 from rfl]; exact nI_ge (by omega) (by decide)
      · rintro v5 rfl
        rw [nI_s]
        obtain ⟨x, a4⟩ := a4
        refine ih (k + 1) M3 (by omega) ?_ ⟨_, by rw [b4, a4, upd_upd]⟩ (aF.tr bF)
        rw [b5, a4, pk_un (by decide), eo, a5]; rfl
  · exact e7_n hp ⟨fun h => absurd rfl h, fun _ => hR _ _ (e8_n (lo := 1) (hi := 300) rfl (by decide) (by decide) hp ⟨fun h => absurd rfl h, fun _ => en rfl (hZ _ I.sk)⟩)⟩
end OPS4
