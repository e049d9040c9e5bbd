section OPS3
variable {n j : Nat} {M : Mm} {Z : Mm → Prop} {R : Mm → Int32 → Prop} {K : Mm → Int32 → Prop}
theorem e0_habit {t w : Nat} (ht : tp t = 5) (h1 : 1 ≤ w) (h4 : w ≤ 4) (hK : K M (M t w)) : wp_X0_habit n M t (nI w) K := by
  have : w = 1 ∨ w = 2 ∨ w = 3 ∨ w = 4 := by omega
  rcases this with rfl | rfl | rfl | rfl
  · exact ⟨ht, fun _ => hK, fun h => absurd h (by decide), fun h => absurd h (by decide), fun h => absurd rfl h⟩
  · exact ⟨ht, fun h => absurd h (by decide), fun _ => hK, fun h => absurd h (by decide), fun _ h => absurd rfl h⟩
  · exact ⟨ht, fun h => absurd h (by decide), fun h => absurd h (by decide), fun _ => hK, fun _ _ h => absurd rfl h⟩
  · exact ⟨ht, fun h => absurd h (by decide), fun h => absurd h (by decide), fun h => absurd h (by decide), fun _ _ _ => hK⟩
theorem e0_change {K : Mm → Prop} {t w : Nat} {x : Int32} (ht : tp t = 5) (h1 : 1 ≤ w) (h4 : w ≤ 4) (hK : K (wr M t w x)) : wp_X0_changeHabit n M t (nI w) x K := by
  have : w = 1 ∨ w = 2 ∨ w = 3 ∨ w = 4 := by omega
  rcases this with rfl | rfl | rfl | rfl
  · exact ⟨ht, fun _ _ e => by subst e; exact hK, fun h => absurd h (by decide), fun h => absurd h (by decide), fun h => absurd rfl h⟩
  · exact ⟨ht, fun h => absurd h (by decide), fun _ _ e => by subst e; exact hK, fun h => absurd h (by decide), fun _ h => absurd rfl h⟩
  · exact ⟨ht, fun h => absurd h (by decide), fun h => absurd h (by decide), fun _ _ e => by subst e; exact hK, fun _ _ h => absurd rfl h⟩
  · exact ⟨ht, fun h => absurd h (by decide), fun h => absurd h (by decide), fun h => absurd h (by decide), fun _ _ _ _ e => by subst e; exact hK⟩
def hlo (w : Nat) : Int32 := if w = 2 then 1 else 0
def hhi (w : Nat) : Int32 := if w = 1 then 59 else if w = 2 then 30 else 9
theorem h14 {w : Nat} (h1 : 1 ≤ w) (h4 : w ≤ 4) : 1 ≤ nI w ∧ nI w ≤ 4 := ⟨by rw [show (1 : Int32) = nI 1 from rfl]; exact nI_le h1 (by omega), by rw [show (4 : Int32) = nI 4 from rfl]; exact nI_le h4 (by decide)⟩
theorem e7_fit {w : Nat} {x : Int32} (h1 : 1 ≤ w) (h4 : w ≤ 4) (hK : K M (bi (hlo w ≤ x ∧ x ≤ hhi w))) : wp_X7_fitsHabit n M (nI w) x K := by
  refine e7_y (h14 h1 h4) ⟨fun h => absurd h i1, fun _ => ⟨vp_in_nI (by omega) (by decide), vp_in_nI (by omega) (by decide), ?_⟩⟩
  have e : ([0, 0, 1, 0, 0] : List Int32).getD (nI w).toNatClampNeg 0 = hlo w ∧ ([5, 59, 30, 9, 9] : List Int32).getD (nI w).toNatClampNeg 0 = hhi w := by
    rw [nI_clamp (by omega)]
    have : w = 1 ∨ w = 2 ∨ w = 3 ∨ w = 4 := by omega
    rcases this with rfl | rfl | rfl | rfl <;> exact ⟨rfl, rfl⟩
  rw [e.1, e.2]
  by_cases h : hlo w ≤ x ∧ x ≤ hhi w
  · rw [bi_t h] at hK; exact e7_y h ⟨fun h => absurd h i1, fun _ => hK⟩
  · rw [bi_f h] at hK; exact e7_n h ⟨fun _ => hK, fun h => absurd rfl h⟩
theorem e8_setb {w : Nat} {p1 x : Int32} (h1 : 1 ≤ w) (h4 : w ≤ 4) (hK : wp_X8_isIn n M x.toInt64 (hlo w).toInt64 (hhi w).toInt64 (fun M5 r6 => (¬ r6 = 0 → wp_X8_becomes n M5 ((12 + (12 * p1)) + nI w) x (fun M7 r8 => K M7 r8)) ∧ (r6 = 0 → K M5 (-1000000001)))) : (¬ nI w = 2 → wb_X8_set_32 n p1 (nI w) x K M 0 x.toInt64) ∧ (nI w = 2 → wb_X8_set_32 n p1 (nI w) x K M 1 x.toInt64) := by
  have : w = 1 ∨ w = 2 ∨ w = 3 ∨ w = 4 := by omega
  rcases this with rfl | rfl | rfl | rfl
  · exact ⟨fun _ => ⟨fun h => absurd rfl h, fun _ => hK⟩, fun h => absurd h (by decide)⟩
  · exact ⟨fun h => absurd rfl h, fun _ => ⟨fun _ => ⟨fun h => absurd rfl h, fun _ => hK⟩, fun h => absurd h (by decide)⟩⟩
  · exact ⟨fun _ => ⟨fun _ => ⟨fun _ => hK, fun h => absurd h (by decide)⟩, fun h => absurd h (by decide)⟩, fun h => absurd h (by decide)⟩
  · exact ⟨fun _ => ⟨fun _ => ⟨fun _ => hK, fun h => absurd h (by decide)⟩, fun h => absurd h (by decide)⟩, fun h => absurd h (by decide)⟩
theorem op_set {p1 p2 p3 : Int32} (I : Inv n j M) (hZ : ∀ M' : Mm, Inv n (j + 1) M' → Z M') (hR : ∀ (M1 : Mm) (r : Int32), wp_X8_set n M1 p1 p2 p3 (fun M3 r4 => (r = r4 → Z M3) ∧ (¬ r = r4 → False)) → R M1 r) : wp_X7_set n M p1 p2 p3 R := by
  obtain ⟨hS, hO, hI⟩ := I.a
  have hz := hZ _ I.sk
  refine e7_com I (fun hN => ⟨fun _ => ?_, fun t ht => absurd ht (by simp)⟩) (fun c hc hc8 hx => ⟨fun h => absurd h (by simp), fun t3 ht => ?_⟩)
  · exact hR _ _ (e8_cn hO rfl hN ⟨fun _ => en rfl hz, fun h => absurd rfl h⟩)
  · subst hx
    have ht : 1 + 3 + 1 + c = t3 := Option.some.inj ht
    subst ht
    have ht5 := isB.c (b := 1) (Or.inl rfl) hc8
    refine ⟨ht5, ?_⟩
    by_cases hp : 1 ≤ p2 ∧ p2 ≤ 4
    · obtain ⟨w, hw, rfl⟩ := bd_of (k := 4) (by decide) (by decide) hp
      have h1 : 1 ≤ w := by
        have := hp.1
        rw [show (1 : Int32) = nI 1 from rfl, nI_leI (by decide) (by omega)] at this
        exact this
      refine e7_y hp ⟨fun h => absurd h i1, fun _ => e7_fit h1 hw ?_⟩
      by_cases hf : hlo w ≤ p3 ∧ p3 ≤ hhi w
      · rw [bi_t hf]
        refine ⟨fun _ => e0_habit ht5 h1 hw (e0_change ht5 h1 hw ?_), fun h => absurd h i1⟩
        have e8 : wr M (1 + 3 + 1 + c) w p3 75 = M 75 := wr_oth (by omega)
        refine hR _ _ (e8_cy hO e8 hc ⟨fun h => absurd h i1, fun _ => e8_y (lo := 1) (hi := 4) rfl (by decide) (by decide) hp ⟨fun h => absurd h i1, fun _ => e8_setb h1 hw (e8_y rfl rfl rfl hf ⟨fun _ => e8_bec (k := cx c w) (ixc c w) (cx_lt (by omega) (by omega)) ?_, fun h => absurd h i1⟩)⟩⟩)
        have h9 : w = 3 ∨ w = 4 → bd p3 9 := by
          rintro (rfl | rfl)
          · exact bd_of (lo := hlo 3) (hi := hhi 3) (by decide) (by decide) hf
          · exact bd_of (lo := hlo 4) (hi := hhi 4) (by decide) (by decide) hf
        exact en (by rw [e8]; exact hS.2.1 c hc w (by omega)) (hZ _ (I.wc hc (by omega) (fun h => absurd h (by omega)) (fun h => h9 (Or.inl h)) (fun h => h9 (Or.inr h)) (by omega)))
      · rw [bi_f hf]
        refine ⟨fun h => absurd rfl h, fun _ => hR _ _ (e8_cy hO rfl hc ⟨fun h => absurd h i1, fun _ => e8_y (lo := 1) (hi := 4) rfl (by decide) (by decide) hp ⟨fun h => absurd h i1, fun _ => e8_setb h1 hw (e8_n rfl rfl rfl hf ⟨fun h => absurd rfl h, fun _ => en rfl hz⟩)⟩⟩)⟩
    · exact e7_n hp ⟨fun _ => hR _ _ (e8_cy hO rfl hc ⟨fun h => absurd h i1, fun _ => e8_n (lo := 1) (hi := 4) rfl (by decide) (by decide) hp ⟨fun _ => en rfl hz, fun h => absurd rfl h⟩⟩), fun h => absurd rfl h⟩
def wlo (w : Nat) : Int32 := if w = 0 ∨ w = 3 then 1 else 0
def whi (w : Nat) : Int32 := if w = 0 then 60 else if w = 3 then 9 else if w = 4 then 100 else 99
theorem e3_change {b w : Nat} {x : Int32} (hb : isB b) (hw : w ≤ 4) (hK : K (wr M b (gx (3 + w)) x) (M b (gx (3 + w)))) : wp_X3_change n M b (nI w) x K := by
  have : w = 0 ∨ w = 1 ∨ w = 2 ∨ w = 3 ∨ w = 4 := by omega
  rcases this with rfl | rfl | rfl | rfl | rfl
  · exact ⟨hb.t, fun _ v1 e M2 e2 => by subst e; subst e2; exact hK, fun h => absurd h (by decide), fun h => absurd h (by decide), fun h => absurd h (by decide), fun h => absurd rfl h⟩
  · exact ⟨hb.t, fun h => absurd h (by decide), fun _ v1 e M2 e2 => by subst e; subst e2; exact hK, fun h => absurd h (by decide), fun h => absurd h (by decide), fun _ h => absurd rfl h⟩
  · exact ⟨hb.t, fun h => absurd h (by decide), fun h => absurd h (by decide), fun _ v1 e M2 e2 => by subst e; subst e2; exact hK, fun h => absurd h (by decide), fun _ _ h => absurd rfl h⟩
  · exact ⟨hb.t, fun h => absurd h (by decide), fun h => absurd h (by decide), fun h => absurd h (by decide), fun _ v1 e M2 e2 => by subst e; subst e2; exact hK, fun _ _ _ h => absurd rfl h⟩
  · exact ⟨hb.t, fun h => absurd h (by decide), fun h => absurd h (by decide), fun h => absurd h (by decide), fun h => absurd h (by decide), fun _ _ _ _ v1 e M2 e2 => by subst e; subst e2; exact hK⟩
theorem e8_mayBe {w : Nat} {x : Int32} (hw : w ≤ 4) (hK : K M (bi (wlo w ≤ x ∧ x ≤ whi w))) : wp_X8_mayBe n M (nI w) x K := by
  have : w = 0 ∨ w = 1 ∨ w = 2 ∨ w = 3 ∨ w = 4 := by omega
  rcases this with rfl | rfl | rfl | rfl | rfl
  · exact ⟨fun _ => e8_isIn (lo := 1) (hi := 60) rfl (by decide) (by decide) ⟨bi_01 _, hK⟩, fun h => absurd h (by decide), fun h => absurd h (by decide), fun h => absurd h (by decide), fun h => absurd h (by decide), fun h => absurd rfl h⟩
  · exact ⟨fun h => absurd h (by decide), fun _ => e8_isIn (lo := 0) (hi := 99) rfl (by decide) (by decide) ⟨bi_01 _, hK⟩, fun h => absurd h (by decide), fun h => absurd h (by decide), fun h => absurd h (by decide), fun _ h => absurd rfl h⟩
  · exact ⟨fun h => absurd h (by decide), fun h => absurd h (by decide), fun _ => e8_isIn (lo := 0) (hi := 99) rfl (by decide) (by decide) ⟨bi_01 _, hK⟩, fun h => absurd h (by decide), fun h => absurd h (by decide), fun _ _ h => absurd rfl h⟩
  · exact ⟨fun h => absurd h (by decide), fun h => absurd h (by decide), fun h => absurd h (by decide), fun _ => e8_isIn (lo := 1) (hi := 9) rfl (by decide) (by decide) ⟨bi_01 _, hK⟩, fun h => absurd h (by decide), fun _ _ _ h => absurd rfl h⟩
  · exact ⟨fun h => absurd h (by decide), fun h => absurd h (by decide), fun h => absurd h (by decide), fun h => absurd h (by decide), fun _ => e8_isIn (lo := 0) (hi := 100) rfl (by decide) (by decide) ⟨bi_01 _, hK⟩, fun _ _ _ _ h => absurd rfl h⟩
theorem SRg.at {b k : Nat} {S : Sc} (h : SRg M b S) (hk : k ≤ 10) : M b (gx k) = S k := by
  obtain ⟨g0, g1, g2, g3, g4, g5, g6, g7, g8, g9, g10⟩ := h
  have : k = 0 ∨ k = 1 ∨ k = 2 ∨ k = 3 ∨ k = 4 ∨ k = 5 ∨ k = 6 ∨ k = 7 ∨ k = 8 ∨ k = 9 ∨ k = 10 := by omega
  rcases this with rfl | rfl | rfl | rfl | rfl | rfl | rfl | rfl | rfl | rfl | rfl <;> assumption
theorem op_well {p1 p2 : Int32} (I : Inv n j M) (hZ : ∀ M' : Mm, Inv n (j + 1) M' → Z M') (hR : ∀ (M1 : Mm) (r : Int32), wp_X8_well n M1 p1 p2 (fun M3 r4 => (r = r4 → Z M3) ∧ (¬ r = r4 → False)) → R M1 r) : wp_X7_well n M p1 p2 R := by
  obtain ⟨hS, hO, hI⟩ := I.a
  have hz := hZ _ I.sk
  by_cases hp : 0 ≤ p1 ∧ p1 ≤ 4
  · obtain ⟨w, hw, rfl⟩ := bd_of (k := 4) (by decide) (by decide) hp
    refine e7_y (lo := 0) (hi := 5 - 1) hp ⟨fun h => absurd h i1, fun _ => ⟨vp_in_nI (by omega) (by decide), vp_in_nI (by omega) (by decide), ?_⟩⟩
    have e : ([1, 0, 0, 1, 0] : List Int32).getD (nI w).toNatClampNeg 0 = wlo w ∧ ([60, 99, 99, 9, 100] : List Int32).getD (nI w).toNatClampNeg 0 = whi w := by
      rw [nI_clamp (by omega)]
      have : w = 0 ∨ w = 1 ∨ w = 2 ∨ w = 3 ∨ w = 4 := by omega
      rcases this with rfl | rfl | rfl | rfl | rfl <;> exact ⟨rfl, rfl⟩
    rw [e.1, e.2]
    by_cases hf : wlo w ≤ p2 ∧ p2 ≤ whi w
    · refine e7_y hf ⟨fun _ => e3_change (Or.inl rfl) hw (hR _ _ (e8_mayBe hw ?_)), fun h => absurd h i1⟩
      rw [bi_t hf]
      have e8 : wr M 1 (gx (3 + w)) p2 75 = M 75 := wr_oth (by decide)
      refine ⟨fun h => absurd h i1, fun _ => e8_bec (k := 3 + w) (by rw [show (3 : Int32) = nI 3 from rfl, nI_add]) (by omega) (en ?_ (hZ _ (I.cs (by omega) (FrB.A (FrB.wb (Or.inl rfl))) (hS.wg (k := 3 + w) (x := p2) (Or.inl rfl) (by omega) (by omega)) (hO.kp ((Kp.rf _).up (by omega) (by omega))) ?_ (FQ.of5 (fun i hi => wr_oth hi)) ?_)))⟩
      · rw [e8]; exact hS.1.at (by omega)
      · refine (hI.ug (k := 3 + w) (by omega) (by omega) (fun h => absurd h (by omega)) (fun h => ?_) (fun h => ?_) (fun h => ?_) (fun h => absurd h (by omega))).mono (by omega)
        · have : w = 1 := by omega
          subst this; exact bd_of (lo := wlo 1) (hi := whi 1) (by decide) (by decide) hf
        · have : w = 2 := by omega
          subst this; exact bd_of (lo := wlo 2) (hi := whi 2) (by decide) (by decide) hf
        · have : w = 3 := by omega
          subst this; exact bd_of (lo := wlo 3) (hi := whi 3) (by decide) (by decide) hf
      · rw [wr_row, e8]
    · refine e7_n hf ⟨fun h => absurd rfl h, fun _ => hR _ _ (e8_mayBe hw ?_)⟩
      rw [bi_f hf]
      exact ⟨fun _ => en rfl hz, fun h => absurd rfl h⟩
  · refine e7_n (lo := 0) (hi := 5 - 1) hp ⟨fun _ => hR _ _ ?_, fun h => absurd rfl h⟩
    refine ⟨fun h => absurd (by rw [h]; decide) hp, fun h => absurd (by rw [h]; decide) hp, fun h => absurd (by rw [h]; decide) hp, fun h => absurd (by rw [h]; decide) hp, fun h => absurd (by rw [h]; decide) hp, fun _ _ _ _ _ => ⟨fun _ => en rfl hz, fun h => absurd rfl h⟩⟩
theorem op_fullIn {p1 : Int32} (I : Inv n j M) (hZ : ∀ M' : Mm, Inv n (j + 1) M' → Z M') (hR : ∀ (M1 : Mm) (r : Int32), wp_X8_fullIn n M1 p1 (fun M3 r4 => (r = r4 → Z M3) ∧ (¬ r = r4 → False)) → R M1 r) : wp_X7_fullIn n M p1 R := by
  obtain ⟨hS, hO, hI⟩ := I.a
  have hz := hZ _ I.sk
  obtain ⟨g0, g1, g2, g3, g4, g5, g6, g7, g8, g9, g10⟩ := hS.1
  by_cases hp : 0 ≤ p1 ∧ p1 ≤ 99
  · have hr : ∀ r : Int32, _ → R M r := fun r h => hR M r (e8_y (lo := 0) (hi := 99) rfl (by decide) (by decide) hp ⟨fun _ => h, fun h => absurd h i1⟩)
    refine e7_y hp ?_
    rw [g5, g4, g3, g8]
    refine ⟨fun _ => ⟨fun h1 => ⟨fun h2 => ?_, fun h2 => ?_⟩, fun h1 => ?_⟩, fun h => absurd h i1⟩
    · rintro v3 rfl
      refine hr _ ⟨fun _ => ⟨fun _ => ?_, fun h => absurd h2 h⟩, fun h => absurd h1 h⟩
      rintro v4 rfl
      refine ⟨fun h => en ?_ hz, fun h => en ?_ hz⟩
      · congr 1
        unfold jmax
        by_cases q : (1 : Int32) < M 75 3 - M 75 8
        · simp [q]
        · have := Int32.le_antisymm h (Int32.not_lt.mp q)
          simp [← this]
      · congr 1
        unfold jmax
        have : M 75 3 - M 75 8 ≤ 1 := Int32.le_of_lt (Int32.not_le.mp h)
        simp [Int32.not_lt.mpr this]
        first | done | (intro q; exact absurd q h)
    · exact hr _ ⟨fun _ => ⟨fun h => absurd h h2, fun _ => en rfl hz⟩, fun h => absurd h1 h⟩
    · exact hr _ ⟨fun h => absurd h h1, fun _ => en rfl hz⟩
  · exact e7_n hp ⟨fun h => absurd rfl h, fun _ => hR _ _ (e8_n (lo := 0) (hi := 99) rfl (by decide) (by decide) hp ⟨fun h => absurd rfl h, fun _ => en rfl hz⟩)⟩
theorem op_count {p1 : Int32} (I : Inv n j M) (hZ : ∀ M' : Mm, Inv n (j + 1) M' → Z M') (hR : ∀ (M1 : Mm) (r : Int32), wp_X8_count n M1 p1 (fun M3 r4 => (r = r4 → Z M3) ∧ (¬ r = r4 → False)) → R M1 r) : wp_X7_count n M p1 R := by
  obtain ⟨hS, hO, hI⟩ := I.a
  have hz := hZ _ I.sk
  obtain ⟨c8, c0⟩ := hO.co
  obtain ⟨g0, g1, g2, g3, g4, g5, g6, g7, g8, g9, g10⟩ := hS.1
  obtain ⟨st, s96, s1, s2, -⟩ := I.t
  obtain ⟨sw, s60, w1, w2, -⟩ := I.w
  have hall : ∀ r : Int32, (p1 = 0 → r = M 75 0) → (p1 = 1 → r = nI (cnt (M 75) (nCo (M 75)))) → (p1 = 2 → r = M 75 2) → (p1 = 3 → r = M 75 5) → (p1 = 4 → r = M 75 8) → (p1 = 5 → r = M 75 9) → (p1 = 6 → r = sumT (M 75) 9 (nCo (M 75))) → (p1 = 7 → r = sumT (M 75) 10 (nCo (M 75))) → (p1 = 8 → r = M 75 1) → (p1 = 9 → r = nI sw) → (p1 = 10 → r = nI st) → (p1 = 11 → r = M 75 10) → (¬ p1 = 0 → ¬ p1 = 1 → ¬ p1 = 2 → ¬ p1 = 3 → ¬ p1 = 4 → ¬ p1 = 5 → ¬ p1 = 6 → ¬ p1 = 7 → ¬ p1 = 8 → ¬ p1 = 9 → ¬ p1 = 10 → ¬ p1 = 11 → r = -1000000001) → R M r := by
    intro r a0 a1 a2 a3 a4 a5 a6 a7 a8 a9 a10 a11 a12
    refine hR M r ⟨fun h => en (a0 h) hz, fun h => e8_standing c8 c0 (en (a1 h) hz), fun h => en (a2 h) hz, fun h => en (a3 h) hz, fun h => en (a4 h) hz, fun h => en (a5 h) hz, fun h => e8_ofAll (w := 9) rfl (by decide) c8 c0 (en (a6 h) hz), fun h => e8_ofAll (w := 10) rfl (by decide) c8 c0 (en (a7 h) hz), fun h => en (a8 h) hz, fun h => en ((a9 h).trans w2.symm) hz, fun h => en ((a10 h).trans s2.symm) hz, fun h => en (a11 h) hz, fun b0 b1 b2 b3 b4 b5 b6 b7 b8 b9 b10 b11 => en (a12 b0 b1 b2 b3 b4 b5 b6 b7 b8 b9 b10 b11) hz⟩
  have sums := e3_sum (n := n) (M := M) (K := R) (b := 1) (Or.inl rfl) hO hS
  refine ⟨fun h => ?_, fun h => e3_standing (Or.inl rfl) c8 c0 hS ?_, fun h => ?_, fun h => ?_, fun h => ?_, fun h => ?_, fun h => sums.1 ?_, fun h => sums.2.1 ?_, fun h => ?_, fun h => ?_, fun h => ?_, fun h => ?_, fun b0 b1 b2 b3 b4 b5 b6 b7 b8 b9 b10 b11 => ?_⟩
  all_goals try subst h
  · exact hall _ (fun _ => g0) (fun h => absurd h (by decide)) (fun h => absurd h (by decide)) (fun h => absurd h (by decide)) (fun h => absurd h (by decide)) (fun h => absurd h (by decide)) (fun h => absurd h (by decide)) (fun h => absurd h (by decide)) (fun h => absurd h (by decide)) (fun h => absurd h (by decide)) (fun h => absurd h (by decide)) (fun h => absurd h (by decide)) (fun h => absurd rfl h)
  · exact hall _ (fun h => absurd h (by decide)) (fun _ => rfl) (fun h => absurd h (by decide)) (fun h => absurd h (by decide)) (fun h => absurd h (by decide)) (fun h => absurd h (by decide)) (fun h => absurd h (by decide)) (fun h => absurd h (by decide)) (fun h => absurd h (by decide)) (fun h => absurd h (by decide)) (fun h => absurd h (by decide)) (fun h => absurd h (by decide)) (fun _ h => absurd rfl h)
  · exact hall _ (fun h => absurd h (by decide)) (fun h => absurd h (by decide)) (fun _ => g2) (fun h => absurd h (by decide)) (fun h => absurd h (by decide)) (fun h => absurd h (by decide)) (fun h => absurd h (by decide)) (fun h => absurd h (by decide)) (fun h => absurd h (by decide)) (fun h => absurd h (by decide)) (fun h => absurd h (by decide)) (fun h => absurd h (by decide)) (fun _ _ h => absurd rfl h)
  · exact hall _ (fun h => absurd h (by decide)) (fun h => absurd h (by decide)) (fun h => absurd h (by decide)) (fun _ => g5) (fun h => absurd h (by decide)) (fun h => absurd h (by decide)) (fun h => absurd h (by decide)) (fun h => absurd h (by decide)) (fun h => absurd h (by decide)) (fun h => absurd h (by decide)) (fun h => absurd h (by decide)) (fun h => absurd h (by decide)) (fun _ _ _ h => absurd rfl h)
  · exact hall _ (fun h => absurd h (by decide)) (fun h => absurd h (by decide)) (fun h => absurd h (by decide)) (fun h => absurd h (by decide)) (fun _ => g8) (fun h => absurd h (by decide)) (fun h => absurd h (by decide)) (fun h => absurd h (by decide)) (fun h => absurd h (by decide)) (fun h => absurd h (by decide)) (fun h => absurd h (by decide)) (fun h => absurd h (by decide)) (fun _ _ _ _ h => absurd rfl h)
  · exact hall _ (fun h => absurd h (by decide)) (fun h => absurd h (by decide)) (fun h => absurd h (by decide)) (fun h => absurd h (by decide)) (fun h => absurd h (by decide)) (fun _ => g9) (fun h => absurd h (by decide)) (fun h => absurd h (by decide)) (fun h => absurd h (by decide)) (fun h => absurd h (by decide)) (fun h => absurd h (by decide)) (fun h => absurd h (by decide)) (fun _ _ _ _ _ h => absurd rfl h)
  · exact hall _ (fun h => absurd h (by decide)) (fun h => absurd h (by decide)) (fun h => absurd h (by decide)) (fun h => absurd h (by decide)) (fun h => absurd h (by decide)) (fun h => absurd h (by decide)) (fun _ => rfl) (fun h => absurd h (by decide)) (fun h => absurd h (by decide)) (fun h => absurd h (by decide)) (fun h => absurd h (by decide)) (fun h => absurd h (by decide)) (fun _ _ _ _ _ _ h => absurd rfl h)
  · exact hall _ (fun h => absurd h (by decide)) (fun h => absurd h (by decide)) (fun h => absurd h (by decide)) (fun h => absurd h (by decide)) (fun h => absurd h (by decide)) (fun h => absurd h (by decide)) (fun h => absurd h (by decide)) (fun _ => rfl) (fun h => absurd h (by decide)) (fun h => absurd h (by decide)) (fun h => absurd h (by decide)) (fun h => absurd h (by decide)) (fun _ _ _ _ _ _ _ h => absurd rfl h)
  · exact hall _ (fun h => absurd h (by decide)) (fun h => absurd h (by decide)) (fun h => absurd h (by decide)) (fun h => absurd h (by decide)) (fun h => absurd h (by decide)) (fun h => absurd h (by decide)) (fun h => absurd h (by decide)) (fun h => absurd h (by decide)) (fun _ => g1) (fun h => absurd h (by decide)) (fun h => absurd h (by decide)) (fun h => absurd h (by decide)) (fun _ _ _ _ _ _ _ _ h => absurd rfl h)
  · exact hall _ (fun h => absurd h (by decide)) (fun h => absurd h (by decide)) (fun h => absurd h (by decide)) (fun h => absurd h (by decide)) (fun h => absurd h (by decide)) (fun h => absurd h (by decide)) (fun h => absurd h (by decide)) (fun h => absurd h (by decide)) (fun h => absurd h (by decide)) (fun _ => w1) (fun h => absurd h (by decide)) (fun h => absurd h (by decide)) (fun _ _ _ _ _ _ _ _ _ h => absurd rfl h)
  · exact hall _ (fun h => absurd h (by decide)) (fun h => absurd h (by decide)) (fun h => absurd h (by decide)) (fun h => absurd h (by decide)) (fun h => absurd h (by decide)) (fun h => absurd h (by decide)) (fun h => absurd h (by decide)) (fun h => absurd h (by decide)) (fun h => absurd h (by decide)) (fun h => absurd h (by decide)) (fun _ => s1) (fun h => absurd h (by decide)) (fun _ _ _ _ _ _ _ _ _ _ h => absurd rfl h)
  · exact hall _ (fun h => absurd h (by decide)) (fun h => absurd h (by decide)) (fun h => absurd h (by decide)) (fun h => absurd h (by decide)) (fun h => absurd h (by decide)) (fun h => absurd h (by decide)) (fun h => absurd h (by decide)) (fun h => absurd h (by decide)) (fun h => absurd h (by decide)) (fun h => absurd h (by decide)) (fun h => absurd h (by decide)) (fun _ => g10) (fun _ _ _ _ _ _ _ _ _ _ _ h => absurd rfl h)
  · exact hall _ (fun h => absurd h b0) (fun h => absurd h b1) (fun h => absurd h b2) (fun h => absurd h b3) (fun h => absurd h b4) (fun h => absurd h b5) (fun h => absurd h b6) (fun h => absurd h b7) (fun h => absurd h b8) (fun h => absurd h b9) (fun h => absurd h b10) (fun h => absurd h b11) (fun _ _ _ _ _ _ _ _ _ _ _ _ => rfl)
end OPS3
