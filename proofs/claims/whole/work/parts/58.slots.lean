theorem tp_sl {k : Nat} (h : k < 5) : tp (54 + 4 * k) = 11 ∧ tp (54 + 4 * k + 1) = 5 ∧ tp (54 + 4 * k + 2) = 9 := by
  have : ∀ k : Nat, k < 5 → tp (54 + 4 * k) = 11 ∧ tp (54 + 4 * k + 1) = 5 ∧ tp (54 + 4 * k + 2) = 9 := by decide +kernel
  exact this k h
theorem n_cL {i : Nat} (h : i ∉ cL) (h9 : i < 94) : ¬ (54 ≤ i ∧ i ≤ 73) ∧ ¬ (81 ≤ i ∧ i ≤ 85) := by
  have : ∀ i : Nat, i < 94 → i ∉ cL → ¬ (54 ≤ i ∧ i ≤ 73) ∧ ¬ (81 ≤ i ∧ i ≤ 85) := by decide +kernel
  exact this i h9 h
section SLT
variable {n j : Nat} {M : Mm} {Z : Mm → Prop} {R : Mm → Int32 → Prop} {K : Mm → Int32 → Prop}
theorem FI.sl {M' : Mm} (h : ∀ i : Nat, ¬ (54 ≤ i ∧ i ≤ 73) → ¬ (81 ≤ i ∧ i ≤ 85) → M' i = M i) : FI cL M M' :=
  ⟨fun i h9 hx hs => h i (n_cL hx h9).1 (n_cL hx h9).2, fun q _ _ => by rw [h 74 (by omega) (by omega)], fun q => Or.inl (by rw [h 14 (by omega) (by omega)]), fun i h9 _ => h i (by omega) (by omega), fun i hp => by have := hiP hp; rw [h i (by omega) (by omega)]⟩
theorem GL.one {k : Nat} {M' : Mm} (g : GL M) (hk : SL M' k) (h1 : ∀ q : Nat, q < 5 → q ≠ k → (∀ i : Nat, 54 + 4 * q ≤ i → i ≤ 57 + 4 * q → M' i = M i) ∧ M' 81 q = M 81 q ∧ M' 82 q = M 82 q ∧ M' 83 q = M 83 q ∧ M' 84 q = M 84 q ∧ ∀ i : Nat, i < 24 → M' 85 (24 * q + i) = M 85 (24 * q + i)) : GL M' := by
  intro q hq
  by_cases e : q = k
  · subst e; exact hk
  · obtain ⟨a, b, c, d, f, r⟩ := h1 q hq e
    obtain ⟨s1, s2, s3, s4, s5⟩ := g q hq
    unfold SL
    rw [a (54 + 4 * q) (by omega) (by omega), a (55 + 4 * q) (by omega) (by omega), a (56 + 4 * q) (by omega) (by omega), a (57 + 4 * q) (by omega) (by omega), b, c, d, f]
    exact ⟨s1, s2, s3, fun h => ⟨(s4 h).1, (s4 h).2.1, fun i hi => by rw [r i hi]; exact (s4 h).2.2 i hi⟩, s5⟩
theorem e7_sly {K : Mm → Option Nat → Prop} {k : Nat} (hk : k < 5) (h : K M (some (54 + 4 * k))) : wp_X7_slotAt n M (nI k) K := by
  refine e7_y (lo := 0) (hi := 5 - 1) ⟨nI_pos' (by omega), by rw [show (5 - 1 : Int32) = nI 4 from by decide]; exact nI_le (by omega) (by decide)⟩ ⟨fun h => absurd h i1, fun _ => ⟨vp_in_nI hk (by decide), ?_⟩⟩
  rw [nI_clamp (by omega)]; exact h
theorem e7_sln {K : Mm → Option Nat → Prop} {x : Int32} (hp : ¬ (0 ≤ x ∧ x ≤ 4)) (h : K M none) : wp_X7_slotAt n M x K := e7_n (lo := 0) (hi := 5 - 1) hp ⟨fun _ => h, fun q => absurd rfl q⟩
theorem e8_sly {k : Nat} (hk : k < 5) (h : K M 1) : wp_X8_isSlot n M (nI k) K := e8_y (K := fun M1 r2 => (r2 = 0 ∨ r2 = 1) ∧ K M1 r2) (lo := 0) (hi := 4) rfl (by decide) (by decide) ⟨nI_pos' (by omega), by rw [show (4 : Int32) = nI 4 from rfl]; exact nI_le (by omega) (by decide)⟩ ⟨Or.inr rfl, h⟩
theorem e8_sln {x : Int32} (hp : ¬ (0 ≤ x ∧ x ≤ 4)) (h : K M 0) : wp_X8_isSlot n M x K := e8_n (K := fun M1 r2 => (r2 = 0 ∨ r2 = 1) ∧ K M1 r2) (lo := 0) (hi := 4) rfl (by decide) (by decide) hp ⟨Or.inl rfl, h⟩
theorem op_ask {p1 p2 : Int32} (I : Inv n j M) (hZ : ∀ M' : Mm, Inv n (j + 1) M' → Z M') (hR : ∀ (M1 : Mm) (r : Int32), wp_X8_ask n M1 p1 p2 (fun M3 r4 => (r = r4 → Z M3) ∧ (¬ r = r4 → False)) → R M1 r) : wp_X7_ask n M p1 p2 R := by
  have hsk := hZ _ I.sk
  by_cases hp : 0 ≤ p1 ∧ p1 ≤ 4
  · obtain ⟨k, hk, rfl⟩ := bd_of (k := 4) (by decide) (by decide) hp
    have hk5 : k < 5 := by omega
    obtain ⟨s1, s2, s3, s4, s5⟩ := I.l k hk5
    refine e7_sly hk5 ⟨fun h => absurd h (by simp), fun t3 h3 => ?_⟩
    cases h3
    refine ⟨(tp_sl hk5).1, ?_⟩
    have vk : vp_in (nI k) 5 := vp_in_nI hk5 (by decide)
    have ck : (nI k).toNatClampNeg = k := nI_clamp (by omega)
    by_cases hw : 0 ≤ p2 ∧ p2 ≤ 5
    · obtain ⟨w, hw5, rfl⟩ := bd_of (k := 5) (by decide) (by decide) hw
      have gr : ∀ r : Int32, _ → R M r := fun r h => hR M r (e8_sly hk5 ⟨fun h => absurd h i1, fun _ => e8_y (lo := 0) (hi := 5) rfl (by decide) (by decide) hw ⟨fun _ => ⟨vk, h⟩, fun h => absurd h i1⟩⟩)
      refine kind_y hw ?_
      rw [s1]
      refine ⟨fun _ => ⟨fun h0 => ⟨fun h1 => gr _ ?_, fun h1 => ?_⟩, fun h0 => gr _ ?_⟩, fun h => absurd h i1⟩
      · rw [ck]
        exact ⟨fun _ => ⟨vk, fun _ => en rfl hsk, fun q => absurd q h1⟩, fun q => absurd q h0⟩
      · obtain ⟨t1, ⟨kk, hkk, t2⟩, t3⟩ := s3 h1
        have hgo : ∀ r : Int32, (und kk w = 0 → r = -1000000012) → (¬ und kk w = 0 → r = M 83 k) → R M r := by
          intro r a b
          refine gr r ?_
          rw [ck, t2]
          exact ⟨fun _ => ⟨vk, fun q => absurd h1 q, fun _ => ⟨vk, e8_isOf hkk hw5 ⟨fun q => en (a q) hsk, fun q => ⟨vk, en (b q) hsk⟩⟩⟩⟩, fun q => absurd q h0⟩
        rw [show 54 + 4 * k + 1 = 55 + 4 * k by omega, t1, t2]
        refine e7_under hkk hw5 ⟨fun h => ?_, fun h => hgo _ (fun _ => rfl) (fun q => absurd h q)⟩
        refine e0_worth (b := 55) (c := 4 * k) (by rw [show 55 + 4 * k = 54 + 4 * k + 1 by omega]; exact (tp_sl hk5).2.1) rfl rfl (hgo _ (fun q => absurd q h) (fun _ => t3))
      · rw [ck]
        exact ⟨fun q => absurd h0 q, fun _ => en rfl hsk⟩
    · exact kind_n hw ⟨fun h => absurd rfl h, fun _ => hR _ _ (e8_sly hk5 ⟨fun h => absurd h i1, fun _ => e8_n (lo := 0) (hi := 5) rfl (by decide) (by decide) hw ⟨fun h => absurd rfl h, fun _ => en rfl hsk⟩⟩)⟩
  · exact e7_sln hp ⟨fun _ => hR _ _ (e8_sln hp ⟨fun _ => en rfl hsk, fun h => absurd rfl h⟩), fun t h => absurd h (by simp)⟩
theorem op_rest {p1 p2 : Int32} (I : Inv n j M) (hZ : ∀ M' : Mm, Inv n (j + 1) M' → Z M') (hR : ∀ (M1 : Mm) (r : Int32), wp_X8_rest n M1 p1 p2 (fun M3 r4 => (r = r4 → Z M3) ∧ (¬ r = r4 → False)) → R M1 r) : wp_X7_rest n M p1 p2 R := by
  have hsk := hZ _ I.sk
  by_cases hp : 0 ≤ p1 ∧ p1 ≤ 4
  · obtain ⟨k, hk, rfl⟩ := bd_of (k := 4) (by decide) (by decide) hp
    have hk5 : k < 5 := by omega
    obtain ⟨s1, s2, s3, s4, s5⟩ := I.l k hk5
    refine e7_sly hk5 ⟨fun h => absurd h (by simp), fun t3 h3 => ?_⟩
    cases h3
    refine ⟨(tp_sl hk5).1, ?_⟩
    have vk : vp_in (nI k) 5 := vp_in_nI hk5 (by decide)
    have ck : (nI k).toNatClampNeg = k := nI_clamp (by omega)
    have gr : ∀ r : Int32, _ → R M r := fun r h => hR M r (e8_sly hk5 ⟨fun _ => ⟨vk, h⟩, fun h => absurd h i1⟩)
    rw [s1]
    refine ⟨fun h0 => ⟨fun h3 => ⟨fun hp2 => ⟨hp2, gr _ ?_⟩, fun hp2 => gr _ ?_⟩, fun h3 => gr _ ?_⟩, fun h0 => gr _ ?_⟩
    · rw [ck, s5 h3]
      exact ⟨fun _ => ⟨fun _ => ⟨vk, hp2, en rfl hsk⟩, fun q => absurd q hp2⟩, fun q => absurd h3 q⟩
    · rw [ck]
      exact ⟨fun _ => ⟨fun q => absurd hp2 q, fun _ => en rfl hsk⟩, fun q => absurd h3 q⟩
    · rw [ck]
      exact ⟨fun q => absurd q h3, fun _ => ⟨vk, fun _ => en rfl hsk, fun q => absurd q h0⟩⟩
    · rw [ck]
      exact ⟨fun q => absurd (h0.symm.trans q) (by decide), fun _ => ⟨vk, fun q => absurd h0 q, fun _ => en rfl hsk⟩⟩
  · exact e7_sln hp ⟨fun _ => hR _ _ (e8_sln hp ⟨fun h => absurd rfl h, fun _ => en rfl hsk⟩), fun t h => absurd h (by simp)⟩
theorem op_item {p1 p2 : Int32} (I : Inv n j M) (hZ : ∀ M' : Mm, Inv n (j + 1) M' → Z M') (hR : ∀ (M1 : Mm) (r : Int32), wp_X8_item n M1 p1 p2 (fun M3 r4 => (r = r4 → Z M3) ∧ (¬ r = r4 → False)) → R M1 r) : wp_X7_item n M p1 p2 R := by
  have hsk := hZ _ I.sk
  by_cases hp : 0 ≤ p1 ∧ p1 ≤ 4
  · obtain ⟨k, hk, rfl⟩ := bd_of (k := 4) (by decide) (by decide) hp
    have hk5 : k < 5 := by omega
    obtain ⟨s1, s2, s3, s4, s5⟩ := I.l k hk5
    refine e7_sly hk5 ⟨fun h => absurd h (by simp), fun t3 h3 => ?_⟩
    cases h3
    refine ⟨(tp_sl hk5).1, ?_⟩
    have vk : vp_in (nI k) 5 := vp_in_nI hk5 (by decide)
    have ck : (nI k).toNatClampNeg = k := nI_clamp (by omega)
    have gr : ∀ r : Int32, _ → R M r := fun r h => hR M r (e8_sly hk5 ⟨fun _ => ⟨vk, h⟩, fun h => absurd h i1⟩)
    rw [s1]
    refine ⟨fun h0 => ⟨fun h2 => ?_, fun h2 => gr _ ?_⟩, fun h0 => gr _ ?_⟩
    · obtain ⟨t1, ⟨m, hm, t2⟩, t3⟩ := s4 h2
      rw [show 54 + 4 * k + 2 = 56 + 4 * k by omega, t1, t2]
      by_cases hi : 0 ≤ p2 ∧ p2 ≤ nI m - 1
      · obtain ⟨i, hi', rfl⟩ := (le_pred (by omega)).mp hi
        refine e7_y hi ⟨fun _ => ⟨vp_in_nI (by omega) (by decide), ?_⟩, fun h => absurd h i1⟩
        rintro v7 rfl
        rw [nI_clamp (by omega), show 56 + 4 * k + 1 = 57 + 4 * k by omega, t3 i (by omega)]
        have hgo : ∀ r : Int32, (¬ M 85 (24 * k + i) = -1000000005 → r = M 85 (24 * k + i)) → (M 85 (24 * k + i) = -1000000005 → r = -1000000012) → R M r := by
          intro r a b
          refine gr r ?_
          rw [ck, t2, show (24 : Int32) = nI 24 from rfl, pk_mul, nI_add]
          refine ⟨fun _ => ⟨vk, e8_y (lo := 0) rfl (by decide) rfl hi ⟨fun _ => ⟨vp_in_nI (by omega) (by decide), ?_⟩, fun h => absurd h i1⟩⟩, fun q => absurd h2 q⟩
          rintro v5 rfl
          rw [nI_clamp (by omega)]
          exact ⟨fun q => en (a q) hsk, fun q => en (b q) hsk⟩
        exact ⟨fun q => hgo _ (fun _ => rfl) (fun z => absurd z q), fun q => hgo _ (fun z => absurd q z) (fun _ => rfl)⟩
      · refine e7_n hi ⟨fun h => absurd rfl h, fun _ => gr _ ?_⟩
        rw [ck, t2]
        exact ⟨fun _ => ⟨vk, e8_n (lo := 0) rfl (by decide) rfl hi ⟨fun h => absurd rfl h, fun _ => en rfl hsk⟩⟩, fun q => absurd h2 q⟩
    · rw [ck]
      exact ⟨fun q => absurd q h2, fun _ => ⟨vk, fun _ => en rfl hsk, fun q => absurd q h0⟩⟩
    · rw [ck]
      exact ⟨fun q => absurd (h0.symm.trans q) (by decide), fun _ => ⟨vk, fun q => absurd h0 q, fun _ => en rfl hsk⟩⟩
  · exact e7_sln hp ⟨fun _ => hR _ _ (e8_sln hp ⟨fun h => absurd rfl h, fun _ => en rfl hsk⟩), fun t h => absurd h (by simp)⟩
/-- a slot anew: class cells A, reference rows B -/
theorem sl_new {k : Nat} {th nu wo : Int32} {A B : Mm} (I : Inv n j M) (hk : k < 5) (hth : bd th 3) (a1 : ∀ i : Nat, ¬ (54 + 4 * k ≤ i ∧ i ≤ 57 + 4 * k) → A i = M i) (a2 : A (54 + 4 * k) 2 = th) (b0 : ∀ i : Nat, ¬ (81 ≤ i ∧ i ≤ 85) → B i = A i) (b1 : B 81 = upd (A 81) k th) (b2 : B 82 = upd (A 82) k nu) (b3 : B 83 = upd (A 83) k wo) (b4 : ∀ q : Nat, q ≠ k → B 84 q = A 84 q ∧ ∀ i : Nat, i < 24 → B 85 (24 * q + i) = A 85 (24 * q + i)) (c1 : th = 1 → A (55 + 4 * k) 0 = nu ∧ bd nu 5 ∧ wth (A (55 + 4 * k) 0) (A (55 + 4 * k) 1) = wo) (c2 : th = 2 → A (56 + 4 * k) 2 = B 84 k ∧ bd (B 84 k) 24 ∧ ∀ i : Nat, i < 24 → A (57 + 4 * k) i = B 85 (24 * k + i)) (c3 : th = 3 → A (54 + 4 * k) 3 = nu) : Inv n (j + 1) B := by
  refine I.fi (X := cL) (by omega) (FI.sl (fun i x y => by rw [b0 i y, a1 i (by omega)])) (l := Or.inl (I.l.one (k := k) ?_ (fun q hq hne => ⟨fun i x y => by rw [b0 i (by omega), a1 i (by omega)], ?_, ?_, ?_, ?_, fun i hi => ?_⟩)))
  · unfold SL
    rw [b0 (54 + 4 * k) (by omega), b0 (55 + 4 * k) (by omega), b0 (56 + 4 * k) (by omega), b0 (57 + 4 * k) (by omega), b1, b2, b3, pk_us, pk_us, pk_us]
    exact ⟨a2, hth, c1, c2, c3⟩
  · rw [b1, pk_un hne, a1 81 (by omega)]
  · rw [b2, pk_un hne, a1 82 (by omega)]
  · rw [b3, pk_un hne, a1 83 (by omega)]
  · rw [(b4 q hne).1, a1 84 (by omega)]
  · rw [(b4 q hne).2 i hi, a1 85 (by omega)]
theorem k8_lay {k l : Nat} {p2 x5 : Int32} (hk : k < 5) (hl : l < 4) (hK : ∀ M' : Mm, (∀ i : Nat, i < 24 → M' 85 (24 * k + i) = M 80 (24 * l + i)) → (∀ q : Nat, q ≠ k → ∀ i : Nat, i < 24 → M' 85 (24 * q + i) = M 85 (24 * q + i)) → (∀ i : Nat, i ≠ 85 → M' i = M i) → K M' x5) : ∃ kf : Nat, wl_X8_lay_150 n (nI k) p2 (nI l) K kf M x5 0 := by
  refine ⟨25, ?_⟩
  suffices h : ∀ (r i : Nat) (M1 : Mm), i + r = 24 → (∀ q : Nat, q < i → M1 85 (24 * k + q) = M 80 (24 * l + q)) → (∀ q : Nat, q ≠ k → ∀ i : Nat, i < 24 → M1 85 (24 * q + i) = M 85 (24 * q + i)) → (∀ i : Nat, i ≠ 85 → M1 i = M i) → wl_X8_lay_150 n (nI k) p2 (nI l) K (r + 1) M1 x5 (nI i) by
    exact h 24 0 M (by omega) (fun q hq => absurd hq (by omega)) (fun _ _ _ _ => rfl) (fun _ _ => rfl)
  intro r
  induction r with
  | zero =>
    intro i M1 hi a1 a2 a3
    have : i = 24 := by omega
    subst this
    rw [wl_X8_lay_150]
    exact ⟨fun _ => hK M1 a1 a2 a3, fun h => absurd (by decide) h⟩
  | succ r ih =>
    intro i M1 hi a1 a2 a3
    rw [wl_X8_lay_150, show (24 : Int32) = nI 24 from rfl, pk_mul, pk_mul, nI_add, nI_add]
    refine ⟨fun h => absurd h (nI_ge (by omega) (by decide)), fun _ => ⟨vp_in_nI (by omega) (by decide), vp_in_nI (by omega) (by decide), ?_⟩⟩
    rintro M2 rfl v rfl
    rw [nI_s, nI_clamp (by omega), nI_clamp (by omega), a3 80 (by decide)]
    refine ih (i + 1) _ (by omega) (fun q hq => ?_) (fun q hq s hs => ?_) (fun q hq => by rw [wr_oth hq]; exact a3 q hq)
    · by_cases e : q = i
      · subst e; rw [wr_at]
      · rw [wr_idx (by omega)]; exact a1 q (by omega)
    · rw [wr_idx (by omega)]; exact a2 q hq s hs
theorem e4_become {K : Mm → Prop} {k l : Nat} (hk : k < 5) (hl : l < 4) (hK : ∀ M' : Mm, M' (56 + 4 * k) 2 = M (45 + 2 * l) 2 → (∀ i : Nat, i < 24 → M' (57 + 4 * k) i = M (46 + 2 * l) i) → (∀ i : Nat, i ≠ 56 + 4 * k → i ≠ 57 + 4 * k → M' i = M i) → K M') : wp_X4_become n M (54 + 4 * k + 2) (45 + 2 * l) K := by
  refine ⟨(tp_sl hk).2.2, (tp_sh hl).1, ?_⟩
  rintro M1 rfl M2 rfl
  refine ⟨⟨by decide, by decide, by decide, by decide, by decide⟩, ?_⟩
  rintro M3 rfl
  refine hK _ ?_ (fun i hi => ?_) (fun i x y => ?_)
  · unfold va_up
    rw [if_neg (by omega), show 54 + 4 * k + 2 = 56 + 4 * k by omega, wr_at, wr_oth (by omega)]
  · unfold va_up
    rw [if_pos (by omega)]
    show va_cpy _ _ 0 0 24 i = _
    rw [pk_cpy_in (by omega) (by omega), wr_oth (by omega), wr_oth (by omega), show 45 + 2 * l + 1 = 46 + 2 * l by omega]
    congr 1; omega
  · unfold va_up
    rw [if_neg (by omega), wr_oth (by omega), wr_oth (by omega)]
theorem op_lay {p1 p2 p3 : Int32} (I : Inv n j M) (hZ : ∀ M' : Mm, Inv n (j + 1) M' → Z M') (hR : ∀ (M1 : Mm) (r : Int32), wp_X8_lay n M1 p1 p2 p3 (fun M3 r4 => (r = r4 → Z M3) ∧ (¬ r = r4 → False)) → R M1 r) : wp_X7_lay n M p1 p2 p3 R := by
  have hsk := hZ _ I.sk
  obtain ⟨hS, hO, hI⟩ := I.a
  by_cases hp : 0 ≤ p1 ∧ p1 ≤ 4
  · obtain ⟨k, hk, rfl⟩ := bd_of (k := 4) (by decide) (by decide) hp
    have hk5 : k < 5 := by omega
    obtain ⟨s1, s2, s3, s4, s5⟩ := I.l k hk5
    refine e7_sly hk5 ⟨fun h => absurd h (by simp), fun t3 h3 => ?_⟩
    cases h3
    refine ⟨(tp_sl hk5).1, ?_⟩
    have vk : vp_in (nI k) 5 := vp_in_nI hk5 (by decide)
    have ck : (nI k).toNatClampNeg = k := nI_clamp (by omega)
    by_cases hw : 0 ≤ p2 ∧ p2 ≤ 3
    · obtain ⟨w, hw3, rfl⟩ := bd_of (k := 3) (by decide) (by decide) hw
      refine e7_y hw ⟨fun _ => ?_, fun h => absurd h i1⟩
      rintro v7 rfl
      rw [s1]
      have hth : bd (nI w) 3 := ⟨w, hw3, rfl⟩
      have g39 : ∀ (A : Mm) (r : Int32), (¬ nI w = 2 → wb_X8_lay_74 n (nI k) (nI w) p3 (fun M3 r4 => (r = r4 → Z M3) ∧ (¬ r = r4 → False)) A) → (nI w = 2 → vp_in p3 4 ∧ ((0 ≤ (A 78 p3.toNatClampNeg) → wb_X8_lay_74 n (nI k) (nI w) p3 (fun M3 r4 => (r = r4 → Z M3) ∧ (¬ r = r4 → False)) A ) ∧ (¬ 0 ≤ (A 78 p3.toNatClampNeg) → (r = -1000000011 → Z A) ∧ (¬ r = -1000000011 → False)))) → wb_X8_lay_39 n (nI k) (nI w) p3 (fun M3 r4 => (r = r4 → Z M3) ∧ (¬ r = r4 → False)) A 1 := by
        intro A r h1 h2
        exact e8_sly hk5 ⟨fun h => absurd h i1, fun _ => ⟨fun _ => ⟨h1, h2⟩, fun h => absurd h i1⟩⟩
      have gbad : wb_X8_lay_39 n (nI k) (nI w) p3 (fun M3 r4 => (-1000000001 = r4 → Z M3) ∧ (¬ -1000000001 = r4 → False)) M 0 := e8_sly hk5 ⟨fun h => absurd h i1, fun _ => ⟨fun h => absurd rfl h, fun _ => en rfl hsk⟩⟩
      /- the reference's writes, up to the row -/
      have g74 : ∀ (A : Mm) (r nu wo : Int32), A 81 k = r → (nI w = 1 → ∃ c : Nat, c < 8 ∧ p3 = nI c ∧ A 75 (cx c 0) = nu ∧ wrt (A 75) c = wo) → (¬ nI w = 1 → p3 = nu ∧ wo = 0) → (∀ B : Mm, B = wr (wr (wr A 81 k (nI w)) 82 k nu) 83 k wo → (¬ nI w = 2 → (r = A 81 k → Z B) ∧ (¬ r = A 81 k → False)) ∧ (nI w = 2 → vp_in p3 4 ∧ (vp_in (nI k) 5 ∧ (∀ C : Mm, C = wr B 84 k (B 79 p3.toNatClampNeg) → ∃ kf : Nat, wl_X8_lay_150 n (nI k) (nI w) p3 (fun M3 r4 => (r = r4 → Z M3) ∧ (¬ r = r4 → False)) kf C (A 81 k) 0)))) → wb_X8_lay_74 n (nI k) (nI w) p3 (fun M3 r4 => (r = r4 → Z M3) ∧ (¬ r = r4 → False)) A := by
        intro A r nu wo er h1 h2 hB
        refine ⟨vk, ?_⟩
        rintro v7 rfl
        refine ⟨vk, ?_⟩
        rintro M8 rfl
        rw [ck]
        have h129 : wb_X8_lay_129 n (nI k) (nI w) p3 (fun M3 r4 => (r = r4 → Z M3) ∧ (¬ r = r4 → False)) (wr (wr A 81 k (nI w)) 82 k nu) (A 81 k) wo (nI k) := by
          refine ⟨vk, ?_⟩
          rintro M14 rfl
          rw [ck]
          exact hB _ rfl
        have h109 : wb_X8_lay_109 n (nI k) (nI w) p3 (fun M3 r4 => (r = r4 → Z M3) ∧ (¬ r = r4 → False)) (wr A 81 k (nI w)) (A 81 k) nu (nI k) := by
          refine ⟨vk, ?_⟩
          rintro M11 rfl
          rw [ck]
          refine ⟨fun q => ?_, fun q => ?_⟩
          · rw [(h2 q).2] at h129; exact h129
          · obtain ⟨c, hc, e1, e2, e3⟩ := h1 q
            subst e1
            refine e8_worth hc ?_
            rw [wr_oth (by decide), wr_oth (by decide), e3]
            exact h129
        refine ⟨fun q => ?_, fun q => ?_⟩
        · rw [(h2 q).1]; rw [(h2 q).1] at h109; exact h109
        · obtain ⟨c, hc, e1, e2, e3⟩ := h1 q
          subst e1
          refine e8_of (w := 0) rfl (by omega) (by decide) ?_
          rw [wr_oth (by decide), e2]
          exact h109
      have plain : ∀ (A : Mm) (nu wo : Int32), (∀ i : Nat, ¬ (54 + 4 * k ≤ i ∧ i ≤ 57 + 4 * k) → A i = M i) → A (54 + 4 * k) 2 = nI w → (nI w = 1 → A (55 + 4 * k) 0 = nu ∧ bd nu 5 ∧ wth (A (55 + 4 * k) 0) (A (55 + 4 * k) 1) = wo) → ¬ nI w = 2 → (nI w = 3 → A (54 + 4 * k) 3 = nu) → Inv n (j + 1) (wr (wr (wr A 81 k (nI w)) 82 k nu) 83 k wo) := by
        intro A nu wo a1 a2 c1 c2 c3
        refine sl_new (A := A) I hk5 hth a1 a2 (fun i hi => by rw [wr_oth (by omega), wr_oth (by omega), wr_oth (by omega)]) ?_ ?_ ?_ (fun q hq => ⟨?_, fun i _ => ?_⟩) c1 (fun h => absurd h c2) c3
        · rw [wr_oth (by decide), wr_oth (by decide), wr_row]
        · rw [wr_oth (by decide), wr_row, wr_oth (by decide)]
        · rw [wr_row, wr_oth (by decide), wr_oth (by decide)]
        · rw [wr_oth (by decide), wr_oth (by decide), wr_oth (by decide)]
        · rw [wr_oth (by decide), wr_oth (by decide), wr_oth (by decide)]
      have hw4 : w = 0 ∨ w = 1 ∨ w = 2 ∨ w = 3 := by omega
      refine ⟨fun n1 => ⟨fun n2 => ⟨fun n3 => ?_, fun e3 => ?_⟩, fun e2 => ?_⟩, fun e1 => ?_⟩
      · have hw0 : nI w = 0 := by
          rcases hw4 with rfl | rfl | rfl | rfl
          · rfl
          · exact absurd rfl n1
          · exact absurd rfl n2
          · exact absurd rfl n3
        rintro M8 rfl
        have o : ∀ i : Nat, i ≠ 54 + 4 * k → wr M (54 + 4 * k) 2 (nI w) i = M i := fun i hi => wr_oth hi
        refine hR _ _ ⟨fun _ => g39 _ _ (fun _ => g74 _ _ p3 0 (by rw [o 81 (by omega)]) (fun q => absurd q n1) (fun _ => ⟨rfl, rfl⟩) (fun B hB => ⟨fun _ => en (by rw [o 81 (by omega)]) (hZ _ ?_), fun q => absurd q n2⟩)) (fun q => absurd q n2), fun q => absurd hw0 q⟩
        rw [hB]
        exact plain _ p3 0 (fun i hi => o i (by omega)) (wr_at _ _ _ _) (fun q => absurd q n1) n2 (fun q => absurd q n3)
      · rintro M9 rfl M10 rfl
        have o : ∀ i : Nat, i ≠ 54 + 4 * k → wr (wr M (54 + 4 * k) 3 p3) (54 + 4 * k) 2 (nI w) i = M i := fun i hi => by rw [wr_oth hi, wr_oth hi]
        refine hR _ _ ⟨fun q => absurd (q.symm.trans e3) (by decide), fun _ => ⟨fun _ => g39 _ _ (fun _ => g74 _ _ p3 0 (by rw [o 81 (by omega)]) (fun q => absurd q n1) (fun _ => ⟨rfl, rfl⟩) (fun B hB => ⟨fun _ => en (by rw [o 81 (by omega)]) (hZ _ ?_), fun q => absurd q n2⟩)) (fun q => absurd q n2), fun q => absurd e3 q⟩⟩
        rw [hB]
        exact plain _ p3 0 (fun i hi => o i (by omega)) (wr_at _ _ _ _) (fun q => absurd q n1) n2 (fun _ => by rw [wr_idx (by decide), wr_at])
      · have w0 : ¬ nI w = 0 := fun q => absurd (q.symm.trans e2) (by decide)
        have w3 : ¬ nI w = 3 := fun q => absurd (q.symm.trans e2) (by decide)
        have hgo : ∀ (A : Mm) (r : Int32), wb_X8_lay_22 n (nI k) (nI w) p3 (fun M3 r4 => (r = r4 → Z M3) ∧ (¬ r = r4 → False)) A → R A r := fun A r h => hR A r ⟨fun q => absurd q w0, fun _ => ⟨fun q => absurd q w3, fun _ => ⟨fun _ => h, fun q => absurd q n1⟩⟩⟩
        by_cases hl : 0 ≤ p3 ∧ p3 ≤ 3
        · obtain ⟨l, hl3, rfl⟩ := bd_of (k := 3) (by decide) (by decide) hl
          have hl4 : l < 4 := by omega
          obtain ⟨r1, r2, r3, ⟨m2, hm2, r4⟩, r5⟩ := I.s l hl4
          have vl : vp_in (nI l) 4 := vp_in_nI hl4 (by decide)
          have cl : (nI l).toNatClampNeg = l := nI_clamp (by omega)
          refine e7_shy hl4 ⟨fun h => absurd h (by simp), fun t13 h13 => ?_⟩
          cases h13
          refine ⟨(tp_sh hl4).1, ?_⟩
          rw [r1]
          refine ⟨fun hs => e4_become hk5 hl4 (fun A a1 a2 a3 => ?_), fun hs => hgo _ _ ⟨fun q => absurd e2 q, fun _ => e8_shy hl4 ⟨fun h => absurd h i1, fun _ => g39 _ _ (fun q => absurd e2 q) (fun _ => ⟨vl, fun q => absurd hs ((sort_ge r2).2.mp (by rw [cl] at q; exact q)), fun _ => en rfl hsk⟩)⟩⟩⟩
          rintro M17 rfl
          have o : ∀ i : Nat, ¬ (54 + 4 * k ≤ i ∧ i ≤ 57 + 4 * k) → wr A (54 + 4 * k) 2 (nI w) i = M i := fun i hi => by rw [wr_oth (by omega), a3 i (by omega) (by omega)]
          refine hgo _ _ ⟨fun q => absurd e2 q, fun _ => e8_shy hl4 ⟨fun h => absurd h i1, fun _ => g39 _ _ (fun q => absurd e2 q) (fun _ => ⟨vl, fun _ => ?_, fun q => absurd ?_ q⟩)⟩⟩
          · refine g74 _ _ (nI l) 0 (by rw [o 81 (by omega)]) (fun q => absurd q n1) (fun _ => ⟨rfl, rfl⟩) (fun B hB => ⟨fun q => absurd e2 q, fun _ => ⟨vl, vk, ?_⟩⟩)
            rintro C rfl
            have oB : ∀ i : Nat, ¬ (81 ≤ i ∧ i ≤ 83) → B i = wr A (54 + 4 * k) 2 (nI w) i := fun i hi => by rw [hB, wr_oth (by omega), wr_oth (by omega), wr_oth (by omega)]
            rw [cl, oB 79 (by omega), o 79 (by omega), r4]
            refine k8_lay hk5 hl4 (fun D d1 d2 d3 => en (by rw [o 81 (by omega)]) (hZ _ (sl_new (A := wr A (54 + 4 * k) 2 (nI w)) (th := nI w) (nu := nI l) (wo := 0) I hk5 hth o (wr_at _ _ _ _) (fun i hi => ?_) ?_ ?_ ?_ (fun q hq => ⟨?_, fun i hi => ?_⟩) (fun q => absurd q n1) (fun _ => ⟨?_, ?_, fun i hi => ?_⟩) (fun q => absurd q w3))))
            · rw [d3 i (by omega), wr_oth (by omega), oB i (by omega)]
            · rw [d3 81 (by decide), wr_oth (by decide), hB, wr_oth (by decide), wr_oth (by decide), wr_row]
            · rw [d3 82 (by decide), wr_oth (by decide), hB, wr_oth (by decide), wr_row, wr_oth (by decide)]
            · rw [d3 83 (by decide), wr_oth (by decide), hB, wr_row, wr_oth (by decide), wr_oth (by decide)]
            · rw [d3 84 (by decide), wr_idx hq, oB 84 (by omega)]
            · rw [d2 q hq i hi, wr_oth (by decide), oB 85 (by omega)]
            · rw [d3 84 (by decide), wr_at, wr_oth (by omega), a1, r3, r4]
            · rw [d3 84 (by decide), wr_at]; exact ⟨m2, hm2, rfl⟩
            · rw [d1 i hi, wr_oth (by omega), a2 i hi, wr_oth (by decide), oB 80 (by omega), o 80 (by omega)]; exact r5 i hi
          · rw [cl, o 78 (by omega)]; exact (sort_ge r2).2.mpr hs
        · refine e7_shn hl ⟨fun _ => hgo _ _ ⟨fun q => absurd e2 q, fun _ => e8_shn hl ⟨fun _ => gbad, fun h => absurd rfl h⟩⟩, fun t h => absurd h (by simp)⟩
      · have w0 : ¬ nI w = 0 := fun q => absurd (q.symm.trans e1) (by decide)
        have w3 : ¬ nI w = 3 := fun q => absurd (q.symm.trans e1) (by decide)
        have w2 : ¬ nI w = 2 := fun q => absurd (q.symm.trans e1) (by decide)
        have hgo : ∀ (A : Mm) (r : Int32), _ → R A r := fun A r h => hR A r ⟨fun q => absurd q w0, fun _ => ⟨fun q => absurd q w3, fun _ => ⟨fun q => absurd e1 q, fun _ => h⟩⟩⟩
        refine e7_com I (fun hN => ⟨fun _ => hgo _ _ (e8_cn hO rfl hN ⟨fun h => absurd rfl h, fun _ => ⟨fun _ => gbad, fun q => absurd q w2⟩⟩), fun t ht => absurd ht (by simp)⟩) (fun c hc hc8 hx => ⟨fun h => absurd h (by simp), fun t20 ht => ?_⟩)
        subst hx
        have ht : 1 + 3 + 1 + c = t20 := Option.some.inj ht
        subst ht
        refine ⟨isB.c (b := 1) (Or.inl rfl) hc8, e0_become (tp_sl hk5).2.1 (isB.c (b := 1) (Or.inl rfl) hc8) (by omega) (fun A a1 a2 => ?_)⟩
        rintro M24 rfl
        have o : ∀ i : Nat, ¬ (54 + 4 * k ≤ i ∧ i ≤ 57 + 4 * k) → wr A (54 + 4 * k) 2 (nI w) i = M i := fun i hi => by rw [wr_oth (by omega), a2 i (by omega)]
        have ew : ∀ q : Nat, q < 12 → wr A (54 + 4 * k) 2 (nI w) (55 + 4 * k) q = M 75 (cx c q) := fun q hq => by rw [wr_oth (by omega), show 55 + 4 * k = 54 + 4 * k + 1 by omega, a1 q hq]; exact hS.2.1 c hc q hq
        refine hgo _ _ (e8_cy hO (o 75 (by omega)) hc ⟨fun _ => g39 _ _ (fun _ => g74 _ _ (M 75 (cx c 0)) (wrt (M 75) c) (by rw [o 81 (by omega)]) (fun _ => ⟨c, hc8, rfl, by rw [o 75 (by omega)], by rw [o 75 (by omega)]⟩) (fun q => absurd e1 q) (fun B hB => ⟨fun _ => en (by rw [o 81 (by omega)]) (hZ _ ?_), fun q => absurd q w2⟩)) (fun q => absurd q w2), fun h => absurd h i1⟩)
        rw [hB]
        refine plain _ _ _ o (wr_at _ _ _ _) (fun _ => ⟨ew 0 (by decide), (hI.2 c hc).1, ?_⟩) w2 (fun q => absurd q w3)
        rw [ew 0 (by decide), ew 1 (by decide), wrt_e]
    · refine e7_n hw ⟨fun h => absurd rfl h, fun _ => hR _ _ ?_⟩
      have w' : ∀ x : Int32, 0 ≤ x ∧ x ≤ 3 → ¬ p2 = x := fun x hx e => hw (by rw [e]; exact hx)
      refine ⟨fun q => absurd q (w' 0 (by decide)), fun _ => ⟨fun q => absurd q (w' 3 (by decide)), fun _ => ⟨fun _ => ⟨fun _ => ?_, fun q => absurd q (w' 2 (by decide))⟩, fun q => absurd q (w' 1 (by decide))⟩⟩⟩
      unfold wb_X8_lay_38 wb_X8_lay_39
      exact e8_sly hk5 ⟨fun h => absurd h i1, fun _ => ⟨fun h => absurd rfl h, fun _ => en rfl hsk⟩⟩
  · refine e7_sln hp ⟨fun _ => hR _ _ ?_, fun t h => absurd h (by simp)⟩
    have b39 : ∀ s : Int32, wb_X8_lay_39 n p1 p2 p3 (fun M3 r4 => (-1000000001 = r4 → Z M3) ∧ (¬ -1000000001 = r4 → False)) M s := fun s => e8_sln hp ⟨fun _ => en rfl hsk, fun h => absurd rfl h⟩
    have b22 : wb_X8_lay_22 n p1 p2 p3 (fun M3 r4 => (-1000000001 = r4 → Z M3) ∧ (¬ -1000000001 = r4 → False)) M := by
      refine ⟨fun _ => b39 0, fun _ => ?_⟩
      by_cases hl : 0 ≤ p3 ∧ p3 ≤ 3
      · obtain ⟨l, hl3, rfl⟩ := bd_of (k := 3) (by decide) (by decide) hl
        exact e8_shy (by omega) ⟨fun h => absurd h i1, fun _ => b39 1⟩
      · exact e8_shn hl ⟨fun _ => b39 0, fun h => absurd rfl h⟩
    refine ⟨fun _ => b39 1, fun _ => ⟨fun _ => b39 1, fun _ => ⟨fun _ => b22, fun _ => ?_⟩⟩⟩
    by_cases hc : ∃ c : Nat, c < nCo (M 75) ∧ p3 = nI c
    · obtain ⟨c, hc, rfl⟩ := hc
      exact e8_cy hO rfl hc ⟨fun _ => b39 1, fun h => absurd h i1⟩
    · exact e8_cn hO rfl hc ⟨fun h => absurd rfl h, fun _ => b22⟩
end SLT
