/-- what image and minutes make due at place k -/
def du (T : Sc) (k : Nat) : Int32 := if k % 2 = 0 then miK (-1) T (k / 2 + 1) 5 else nI (cnt (miK (-1) T (k / 2 + 1)) (nCo T))
theorem du_e (T : Sc) (i : Nat) : du T (2 * i) = miK (-1) T (i + 1) 5 := by
  unfold du
  rw [if_pos (by omega), show 2 * i / 2 + 1 = i + 1 by omega]
theorem du_o (T : Sc) (i : Nat) : du T (2 * i + 1) = nI (cnt (miK (-1) T (i + 1)) (nCo T)) := by
  unfold du
  rw [if_neg (by omega), show (2 * i + 1) / 2 + 1 = i + 1 by omega]
def chk (s p : Nat) (w : Nat → Int32) (T : Sc) (r : Int32) : Prop := (∃ k : Nat, k < 2 * p ∧ (∀ i : Nat, i < k → i < s ∧ w i = du T i) ∧ ¬ (k < s ∧ w k = du T k) ∧ r = nI (k + 1)) ∨ ((∀ i : Nat, i < 2 * p → i < s ∧ w i = du T i) ∧ ((2 * p < s ∧ r = nI (2 * p + 1)) ∨ (s ≤ 2 * p ∧ r = 0)))
theorem chk_u {s p : Nat} {w : Nat → Int32} {T : Sc} {r r' : Int32} (h : chk s p w T r) (g : chk s p w T r') : r = r' := by
  rcases h with ⟨k, h1, h2, h3, rfl⟩ | ⟨h1, h2⟩
  · rcases g with ⟨k', g1, g2, g3, rfl⟩ | ⟨g1, g2⟩
    · have : k = k' := by
        rcases Nat.lt_trichotomy k k' with q | q | q
        · exact absurd (g2 k q) h3
        · exact q
        · exact absurd (h2 k' q) g3
      rw [this]
    · exact absurd (g1 k h1) h3
  · rcases g with ⟨k', g1, g2, g3, rfl⟩ | ⟨g1, g2⟩
    · exact absurd (h1 k' g1) g3
    · rcases h2 with ⟨a, rfl⟩ | ⟨a, rfl⟩ <;> rcases g2 with ⟨b, rfl⟩ | ⟨b, rfl⟩
      · rfl
      · omega
      · omega
      · rfl
section OPS6
variable {n j : Nat} {M : Mm} {Z : Mm → Prop} {R : Mm → Int32 → Prop} {K : Mm → Int32 → Prop}
theorem n_cI {i : Nat} (h : i ∉ cI) (h9 : i < 94) : i ≠ 0 ∧ ¬ (25 ≤ i ∧ i ≤ 36) ∧ i ≠ 76 := by
  have : ∀ i : Nat, i < 94 → i ∉ cI → i ≠ 0 ∧ ¬ (25 ≤ i ∧ i ≤ 36) ∧ i ≠ 76 := by decide +kernel
  exact this i h9 h
theorem n_cA {i : Nat} (h : i ∉ cA) (h9 : i < 94) : ¬ (1 ≤ i ∧ i ≤ 12) ∧ i ≠ 75 := by
  have : ∀ i : Nat, i < 94 → i ∉ cA → ¬ (1 ≤ i ∧ i ≤ 12) ∧ i ≠ 75 := by decide +kernel
  exact this i h9 h
theorem op_keep (I : Inv n j M) (hj : j ≤ 64) (hZ : ∀ M' : Mm, Inv n (j + 1) M' → Z M') (hR : ∀ (M1 : Mm) (r : Int32), wp_X8_keep n M1 (fun M3 r4 => (r = r4 → Z M3) ∧ (¬ r = r4 → False)) → R M1 r) : wp_X7_keep n M R := by
  obtain ⟨hS, hO, hI⟩ := I.a
  refine e3_become (Or.inr (Or.inr rfl)) (Or.inl rfl) (by decide) (I.n1k hj) hO hS (fun M1 h1 f1 q1 => ?_)
  rintro M3 rfl
  refine hR _ _ ?_
  rintro M4 rfl
  have e75 : wr (wr M1 0 3 1) 74 3 1 75 = M 75 := by rw [wr_oth (by decide), wr_oth (by decide), f1 75 (by omega)]
  refine e8_setAside (a := 75) (b := 76) rfl rfl (by decide) (fun M5 a1 a2 => ?_)
  rw [e75] at a1
  have e5 : M5 75 = M 75 := by rw [a2 75 (by decide), e75]
  have hM : ∀ i : Nat, i ≠ 0 → i ≠ 74 → i ≠ 76 → M5 i = M1 i := fun i x y z => by rw [a2 i z, wr_oth y, wr_oth x]
  refine en ?_ (hZ _ (I.fi (X := cI) (by omega) ?_ (i := Or.inl (Or.inr ⟨?_, ?_, ?_, ?_, ?_⟩)) (q := Or.inl (fun q => ?_))))
  · rw [wr_oth (by decide), e5, f1 1 (by omega)]; exact hS.1.1
  · refine ⟨fun i h9 hx hs => ?_, fun q hq hx => ?_, fun q => Or.inl ?_, fun i h9 hp => ?_, fun i hp => ?_⟩
    · obtain ⟨x0, x1, x2⟩ := n_cI hx h9
      rw [hM i x0 (fun e => hs (by subst e; unfold scr; decide)) x2, f1 i (by omega)]
    · have : q ≠ 3 := fun e => hx (by subst e; decide)
      rw [a2 74 (by decide), wr_idx this, wr_oth (by decide), f1 74 (by omega)]
    · rw [hM 14 (by decide) (by decide) (by decide), f1 14 (by omega)]
    · rw [hM i (by omega) (by omega) (by omega), f1 i (by omega)]
    · have := hiP hp
      rw [hM i (by omega) (by omega) (by omega), f1 i (by omega)]
  · rw [a2 0 (by decide), wr_oth (by decide), wr_at]
  · rw [a2 74 (by decide), wr_at]
  · rw [a1]
    refine (e29.mix (M 75) _).sr hO (h1.fi hO.co.1 (fun i x y => hM i (by omega) (by omega) (by omega)) (fun i x y => hM i (by omega) (by omega) (by omega)) (fun i x => by have := hiP x; rw [hM i (by omega) (by omega) (by omega)]))
  · rw [a1]; exact (e29.mix (M 75) _).ok hO
  · rw [a1]; exact (e29.mix (M 75) _).ri hO.co.1 (hI.mono (by omega))
  · obtain ⟨l1, l2, l3⟩ := I.q q
    refine ⟨by rw [hM 2 (by decide) (by decide) (by decide), f1 2 (by omega)]; exact l1, by rw [hM 14 (by decide) (by decide) (by decide), f1 14 (by omega)]; exact l2, ?_⟩
    rw [hM 26 (by decide) (by decide) (by decide)]
    rcases q1 q with e | e
    · rw [show M1 26 q = M 26 q from e]; exact l3
    · rw [show M1 26 q = M 2 q from e]; exact l1
theorem op_back (I : Inv n j M) (hj : j ≤ 64) (hZ : ∀ M' : Mm, Inv n (j + 1) M' → Z M') (hR : ∀ (M1 : Mm) (r : Int32), wp_X8_back n M1 (fun M3 r4 => (r = r4 → Z M3) ∧ (¬ r = r4 → False)) → R M1 r) : wp_X7_back n M R := by
  rcases I.i with ⟨g0, g1⟩ | ⟨g0, g1, hS, hO, hI⟩
  · exact ⟨fun h => absurd g0 h, fun _ => hR _ _ ⟨fun h => absurd g1 h, fun _ => en rfl (hZ _ I.sk)⟩⟩
  · refine ⟨fun _ => e3_become (Or.inl rfl) (Or.inr (Or.inr rfl)) (by decide) (I.n1k hj) hO hS (fun M1 h1 f1 q1 => hR _ _ ⟨fun _ => ?_, fun h => absurd h ?_⟩), fun h => absurd h (by rw [g0]; decide)⟩
    · refine e8_setAside (a := 76) (b := 75) rfl rfl (by decide) (fun M5 a1 a2 => ?_)
      rw [f1 76 (by omega)] at a1
      refine en ?_ (hZ _ (I.fi (X := cA) (by omega) ?_ (a := Or.inl ⟨?_, ?_, ?_⟩) (q := Or.inl (fun q => ?_))))
      · rw [a1, h1.1.1]; exact (if_pos (by decide)).symm
      · refine ⟨fun i h9 hx hs => ?_, fun q hq hx => ?_, fun q => Or.inl ?_, fun i h9 hp => ?_, fun i hp => ?_⟩
        · obtain ⟨x0, x1⟩ := n_cA hx h9
          rw [a2 i x1, f1 i (by omega)]
        · rw [a2 74 (by decide), f1 74 (by omega)]
        · rw [a2 14 (by decide), f1 14 (by omega)]
        · rw [a2 i (by omega), f1 i (by omega)]
        · have := hiP hp
          rw [a2 i (by omega), f1 i (by omega)]
      · rw [a1]
        exact (e29.mix (M 76) _).sr hO (h1.fi hO.co.1 (fun i x y => a2 i (by omega)) (fun i x y => a2 i (by omega)) (fun i x => by have := hiP x; rw [a2 i (by omega)]))
      · rw [a1]; exact (e29.mix (M 76) _).ok hO
      · rw [a1]; exact (e29.mix (M 76) _).ri hO.co.1 (hI.mono (by omega))
      · obtain ⟨l1, l2, l3⟩ := I.q q
        refine ⟨?_, by rw [a2 14 (by decide), f1 14 (by omega)]; exact l2, by rw [a2 26 (by decide), f1 26 (by omega)]; exact l3⟩
        rw [a2 2 (by decide)]
        rcases q1 q with e | e
        · rw [show M1 2 q = M 2 q from e]; exact l1
        · rw [show M1 2 q = M 26 q from e]; exact l3
    · rw [f1 74 (by omega), g1]; decide
theorem e7_told {s k : Nat} {v : Int32} (hs : s ≤ 60) (hk : k < 100) (hK : K M (bi (k < s ∧ M 43 k = v))) : wp_X7_wasTold n M (nI k) (nI s) v K := by
  unfold wp_X7_wasTold
  refine ⟨fun q => absurd q (nI_pos (by omega)), fun _ => ?_⟩
  by_cases h : k < s
  · refine ⟨fun q => absurd q (nI_ge h (by omega)), fun _ => ⟨fun q => absurd q ?_, fun _ => ⟨vp_in_nI (by omega) (by decide), ?_⟩⟩⟩
    · rw [show (60 : Int32) = nI 60 from rfl]; exact nI_ge (by omega) (by decide)
    · rw [nI_clamp (by omega)]
      refine ⟨fun q => ?_, fun q => ?_⟩
      · rw [bi_f (fun z => q z.2)] at hK; exact hK
      · rw [bi_t ⟨h, q⟩] at hK; exact hK
  · rw [bi_f (fun z => h z.1)] at hK
    exact ⟨fun _ => hK, fun q => absurd (nI_le (by omega) (by omega)) q⟩
theorem k7_check {s p : Nat} {T : Sc} {M0 : Mm} (I : Inv n j M0) (hj : j ≤ 64) (hp : p ≤ 30) (hs : s ≤ 60) (hS : SR n M 25 T) (hO : SOK T) (hI : RI T (300 * j)) (hK : ∀ (M' : Mm) (r : Int32), FI [] M M' → chk s p (M 43) T r → K M' r) : wp_X3_become n M 13 25 (fun M5 => ∀ v7 : Int32, v7 = jmin (nI p) (99999 - (M5 13 11)) → ∃ kf : Nat, wl_X7_check_70 n (nI p) K kf M5 (nI s) v7 0) := by
  obtain ⟨hz, h0⟩ := hO.co
  obtain ⟨m, hm, em⟩ := hI.1.1
  refine e3_become (Or.inr (Or.inl rfl)) (Or.inr (Or.inr rfl)) (by decide) (I.n1k hj) hO hS (fun M1 s1 f1 q1 => ?_)
  have F1 := FI.th25 f1 q1
  rintro v3 hv
  have hv3 : v3 = nI p := by
    rw [hv, s1.1.2.2.1, em, show (99999 : Int32) = nI 99999 from rfl, pk_sub (by omega)]
    show (if nI (99999 - m) < nI p then nI (99999 - m) else nI p) = nI p
    rw [if_neg (nI_nlt (by omega) (by omega))]
  subst hv3
  clear hv
  refine ⟨p + 1, ?_⟩
  suffices h : ∀ (q i : Nat) (M2 : Mm), i + q = p → SR n M2 13 (miK (-1) T i) → FI [] M M2 → (∀ k : Nat, k < 2 * i → k < s ∧ M 43 k = du T k) → wl_X7_check_70 n (nI p) K (q + 1) M2 (nI s) (nI p) (nI i) by
    exact h _ 0 M1 (by omega) s1 F1 (fun k hk => absurd hk (by omega))
  intro q
  induction q with
  | zero =>
    intro i M2 hi a1 aF aW
    have : i = p := by omega
    subst this
    rw [wl_X7_check_70, show (2 : Int32) = nI 2 from rfl, pk_mul]
    refine ⟨fun _ => ⟨fun h => ?_, fun h => ?_⟩, fun h => absurd (nI_le (Nat.le_refl _) (by omega)) h⟩
    · rw [nI_leI (by omega) (by omega)] at h
      exact hK M2 _ aF (Or.inr ⟨aW, Or.inr ⟨h, rfl⟩⟩)
    · rw [nI_leI (by omega) (by omega)] at h
      rw [nI_s]
      exact hK M2 _ aF (Or.inr ⟨aW, Or.inl ⟨by omega, rfl⟩⟩)
  | succ q ih =>
    intro i M2 hi a1 aF aW
    have kp := kp_miK (o := -1) hz i
    have kp1 := kp_miK (o := -1) hz (i + 1)
    rw [wl_X7_check_70]
    refine ⟨fun h => absurd h (nI_ge (by omega) (by omega)), fun _ => e3_advance (p := 1) (Or.inr (Or.inl rfl)) (I.n1k hj) (hO.kp kp) rfl (by decide) (miK2 em i) (by omega) a1 (fun M4 a4 f4 => ?_)⟩
    have a4 : SR n M4 13 (miK (-1) T (i + 1)) := a4
    have F4 : FI [] M M4 := aF.t0 (FI.A13 f4)
    have e43 : M4 43 = M 43 := F4.1 43 (by decide) (by decide) (nscr (by decide))
    rw [show (2 : Int32) = nI 2 from rfl, pk_mul]
    refine e7_told hs (by omega) ?_
    rw [e43, a4.1.2.2.2.2.2.1, ← du_e]
    refine ⟨fun h => ?_, fun h => ?_⟩
    · rw [bi_ne] at h
      refine e3_standing (Or.inr (Or.inl rfl)) (by rw [kp1.co]; exact hz) (hO.kp kp1).co.2 a4 ?_
      rw [kp1.co, nI_s]
      refine e7_told hs (by omega) ?_
      rw [e43, ← du_o]
      refine ⟨fun h2 => ?_, fun h2 => ?_⟩
      · rw [bi_ne] at h2
        rintro v rfl
        rw [nI_s]
        refine ih (i + 1) M4 (by omega) a4 F4 (fun k hk => ?_)
        have : k < 2 * i ∨ k = 2 * i ∨ k = 2 * i + 1 := by omega
        rcases this with h' | rfl | rfl
        · exact aW k h'
        · exact h
        · exact h2
      · rw [bi_eq] at h2
        rw [nI_add]
        refine hK M4 _ F4 (Or.inl ⟨2 * i + 1, by omega, fun k hk => ?_, h2, rfl⟩)
        have : k < 2 * i ∨ k = 2 * i := by omega
        rcases this with h' | rfl
        · exact aW k h'
        · exact h
    · rw [bi_eq] at h
      rw [nI_s]
      exact hK M4 _ F4 (Or.inl ⟨2 * i, by omega, aW, h, rfl⟩)
theorem k8_cmp {s p : Nat} {T : Sc} {w : Nat → Int32} (hs : s ≤ 60) (hp : p ≤ 30) (hw : ∀ k : Nat, k < s → M 92 k = w k) (hd : ∀ k : Nat, k < 2 * p → M 93 k = du T k) (hK : ∀ r : Int32, chk s p w T r → K M r) : ∃ kf : Nat, wl_X8_check_134 n (nI p) K kf M (nI s) (nI (2 * p)) 0 := by
  refine ⟨2 * p + 1, ?_⟩
  suffices h : ∀ (q k : Nat), k + q = 2 * p → (∀ i : Nat, i < k → i < s ∧ w i = du T i) → wl_X8_check_134 n (nI p) K (q + 1) M (nI s) (nI (2 * p)) (nI k) by
    exact h _ 0 (by omega) (fun i hi => absurd hi (by omega))
  have hend : ∀ k : Nat, k ≤ 2 * p → (∀ i : Nat, i < k → i < s ∧ w i = du T i) → ¬ (k < s ∧ k < 2 * p ∧ w k = du T k) → wb_X8_check_169 n (nI p) K M (nI s) (nI (2 * p)) (nI k) := by
    intro k hk hall hno
    have hks : k ≤ s := by
      cases k with
      | zero => omega
      | succ k => have := (hall k (by omega)).1; omega
    have fin : (k = s → ¬ k = 2 * p) → K M (1 + nI k) := by
      intro hne
      rw [show (1 : Int32) = nI 1 from rfl, nI_add, Nat.add_comm 1 k]
      refine hK _ ?_
      by_cases hk2 : k < 2 * p
      · exact Or.inl ⟨k, hk2, hall, fun z => hno ⟨z.1, hk2, z.2⟩, rfl⟩
      · have : k = 2 * p := by omega
        subst this
        exact Or.inr ⟨hall, Or.inl ⟨by omega, rfl⟩⟩
    refine ⟨fun h => fin (fun e => absurd (by rw [e]) h), fun h => ⟨fun h2 => fin (fun _ e => absurd (by rw [e]) h2), fun h2 => ?_⟩⟩
    rw [nI_eq (by omega) (by omega)] at h h2
    refine hK _ (Or.inr ⟨by rw [← h2]; exact hall, Or.inr ⟨by omega, rfl⟩⟩)
  intro q
  induction q with
  | zero =>
    intro k hk hall
    rw [wl_X8_check_134]
    have h169 := hend k (by omega) hall (by omega)
    refine ⟨fun _ => h169, fun _ => ⟨fun _ => h169, fun h => absurd (nI_le (by omega) (by omega)) h⟩⟩
  | succ q ih =>
    intro k hk hall
    rw [wl_X8_check_134]
    refine ⟨fun h => ?_, fun h => ⟨fun h2 => absurd h2 (nI_ge (by omega) (by omega)), fun _ => ⟨vp_in_nI (by omega) (by decide), vp_in_nI (by omega) (by decide), ?_⟩⟩⟩
    · rw [nI_leI (by omega) (by omega)] at h
      exact hend k (by omega) hall (by omega)
    · rw [nI_leI (by omega) (by omega)] at h
      rw [nI_clamp (by omega), hw k (by omega), hd k (by omega)]
      refine ⟨fun h3 => hend k (by omega) hall (fun z => h3 z.2.2), fun h3 => ?_⟩
      rintro v rfl
      rw [nI_s]
      refine ih (k + 1) (by omega) (fun i hi => ?_)
      by_cases e : i = k
      · subst e; exact ⟨by omega, h3⟩
      · exact hall i (by omega)
theorem k8_due {p s m : Nat} {T : Sc} (hp : p ≤ 30) (hO : SOK T) (em : T 2 = nI m) (hm : m + p ≤ 99999) (eT : M 75 = T) (eo : M 74 13 = -1) (hK : ∀ M' : Mm, (∀ k : Nat, k < 2 * p → M' 93 k = du T k) → (∀ i : Nat, i ≠ 74 → i ≠ 75 → i ≠ 86 → i ≠ 89 → i ≠ 90 → i ≠ 93 → M' i = M i) → (∃ x : Int32, M' 74 = upd (M 74) 14 x) → wb_X8_check_119 n (nI p) K M' (nI s) (nI (2 * p))) : ∃ kf : Nat, wl_X8_check_65 n (nI p) K kf M (nI s) 0 0 := by
  obtain ⟨hz, h0⟩ := hO.co
  refine ⟨p + 1, ?_⟩
  suffices h : ∀ (q i : Nat) (M1 : Mm), i + q = p → M1 75 = miK (-1) T i → (∀ k : Nat, k < 2 * i → M1 93 k = du T k) → (∀ q : Nat, q ≠ 74 → q ≠ 75 → q ≠ 86 → q ≠ 89 → q ≠ 90 → q ≠ 93 → M1 q = M q) → (∃ x : Int32, M1 74 = upd (M 74) 14 x) → wl_X8_check_65 n (nI p) K (q + 1) M1 (nI s) (nI (2 * i)) (nI i) by
    exact h _ 0 M (by omega) eT (fun k hk => absurd hk (by omega)) (fun _ _ _ _ _ _ _ => rfl) ⟨M 74 14, upd_self.symm⟩
  intro q
  induction q with
  | zero =>
    intro i M1 hi a5 aD aF a4
    have : i = p := by omega
    subst this
    rw [wl_X8_check_65]
    exact ⟨fun _ => hK M1 aD aF a4, fun h => absurd (nI_le (Nat.le_refl _) (by omega)) h⟩
  | succ q ih =>
    intro i M1 hi a5 aD aF a4
    obtain ⟨x, a4⟩ := a4
    have kp := kp_miK (o := -1) hz i
    have kp1 := kp_miK (o := -1) hz (i + 1)
    rw [wl_X8_check_65]
    refine ⟨fun h => absurd h (nI_ge (by omega) (by omega)), fun _ => ⟨fun h => absurd h ?_, fun _ => e8_goesOn (by rw [a5]; exact hO.kp kp) (fun M2 b5 b4 bF => ⟨vp_in_nI (by omega) (by decide), ?_⟩)⟩⟩
    · rw [a5, miK2 em, show (99999 : Int32) = nI 99999 from rfl]; exact nI_ge (by omega) (by decide)
    · have eo1 : M1 74 13 = -1 := by rw [a4, pk_un (by decide), eo]
      have c5 : M2 75 = miK (-1) T (i + 1) := by rw [b5, eo1, a5]; rfl
      rintro M3 rfl
      rw [nI_clamp (by omega)]
      have d5 : wr M2 93 (2 * i) (M2 75 5) 75 = miK (-1) T (i + 1) := by rw [wr_oth (by decide), c5]
      refine e8_standing (z := nCo T) hz (by rw [d5, kp1.1, h0]) ?_
      rw [nI_s]
      refine ⟨vp_in_nI (by omega) (by decide), ?_⟩
      rintro M4 rfl v15 rfl v16 rfl
      rw [nI_clamp (by omega), nI_s, show (2 : Int32) = nI 2 from rfl, nI_add, show 2 * i + 2 = 2 * (i + 1) by omega, d5]
      refine ih (i + 1) _ (by omega) (by rw [wr_oth (by decide), d5]) (fun k hk => ?_) (fun q h1 h2 h3 h4 h5 h6 => by rw [wr_oth h6, wr_oth h6, bF q h1 h2 h3 h4 h5]; exact aF q h1 h2 h3 h4 h5 h6) ⟨_, by rw [wr_oth (by decide), wr_oth (by decide), b4, a4, upd_upd]⟩
      have : k < 2 * i ∨ k = 2 * i ∨ k = 2 * i + 1 := by omega
      rcases this with h' | rfl | rfl
      · rw [wr_idx (by omega), wr_idx (by omega), bF 93 (by decide) (by decide) (by decide) (by decide) (by decide)]; exact aD k h'
      · rw [wr_idx (by omega), wr_at, c5, du_e]
      · rw [wr_at, du_o]
end OPS6
