theorem shr_m {x y s : Int32} {k : Nat} (hk : k ≤ 24) (hs : (s.toBitVec.smod 32).toNat = k) (hy : y.toBitVec = x.toBitVec >>> k) : (x >>> s) &&& 255 = y &&& 255 := by
  rw [pk_and (x >>> s) (m := 255) 8 (by decide), pk_and y (m := 255) 8 (by decide)]
  congr 1
  rw [← BitVec.toNat_setWidth, ← BitVec.toNat_setWidth, hy]
  congr 1
  apply BitVec.eq_of_getLsbD_eq
  intro i hi
  rw [Int32.toBitVec_shiftRight, BitVec.getLsbD_setWidth, BitVec.getLsbD_setWidth, BitVec.getLsbD_ushiftRight]
  show (decide (i < 8) && (x.toBitVec.sshiftRight (s.toBitVec.smod 32).toNat).getLsbD i) = _
  rw [hs, BitVec.getLsbD_sshiftRight]
  have h1 : ¬ 32 ≤ i := by omega
  have h2 : k + i < 32 := by omega
  simp [h1, h2]
theorem ju_24 (x : Int32) : (jushr x 24).toBitVec = x.toBitVec >>> 24 := rfl
theorem ju_16 (x : Int32) : (jushr x 16).toBitVec = x.toBitVec >>> 16 := rfl
theorem ju_8 (x : Int32) : (jushr x 8).toBitVec = x.toBitVec >>> 8 := rfl
theorem ju_0 (x : Int32) : (jushr x 0).toBitVec = x.toBitVec >>> 0 := rfl
/-- byte k of three ints -/
def bt (a b c : Int32) (k : Nat) : Int32 := (jushr (if k < 4 then a else if k < 8 then b else c) (nI (24 - 8 * (k % 4)))) &&& 255
theorem bt_255 (a b c : Int32) (k : Nat) : bd (bt a b c k) 255 := by
  obtain ⟨q, hq, e⟩ := pk_andE (jushr (if k < 4 then a else if k < 8 then b else c) (nI (24 - 8 * (k % 4)))) (m := 255) 8 (by decide)
  exact ⟨q, by omega, e⟩
theorem bt_r (a b c : Int32) {k : Nat} (hk : k < 12) : ((if k < 4 then a else if k < 8 then b else c) >>> ((24 - (8 * (jrem (nI k) 4))) &&& 31)) &&& 255 = bt a b c k := by
  have : k = 0 ∨ k = 1 ∨ k = 2 ∨ k = 3 ∨ k = 4 ∨ k = 5 ∨ k = 6 ∨ k = 7 ∨ k = 8 ∨ k = 9 ∨ k = 10 ∨ k = 11 := by omega
  unfold bt
  generalize (if k < 4 then a else if k < 8 then b else c) = x
  rcases this with rfl | rfl | rfl | rfl | rfl | rfl | rfl | rfl | rfl | rfl | rfl | rfl
  · exact shr_m (k := 24) (by decide) (by decide) (ju_24 x)
  · exact shr_m (k := 16) (by decide) (by decide) (ju_16 x)
  · exact shr_m (k := 8) (by decide) (by decide) (ju_8 x)
  · exact shr_m (k := 0) (by decide) (by decide) (ju_0 x)
  · exact shr_m (k := 24) (by decide) (by decide) (ju_24 x)
  · exact shr_m (k := 16) (by decide) (by decide) (ju_16 x)
  · exact shr_m (k := 8) (by decide) (by decide) (ju_8 x)
  · exact shr_m (k := 0) (by decide) (by decide) (ju_0 x)
  · exact shr_m (k := 24) (by decide) (by decide) (ju_24 x)
  · exact shr_m (k := 16) (by decide) (by decide) (ju_16 x)
  · exact shr_m (k := 8) (by decide) (by decide) (ju_8 x)
  · exact shr_m (k := 0) (by decide) (by decide) (ju_0 x)
section OPSB
variable {n j : Nat} {M : Mm} {Z : Mm → Prop} {R : Mm → Int32 → Prop} {K : Mm → Int32 → Prop}
/-- k bytes fed: size cell, its index, row cell -/
def Fdd (s0 i0 row : Nat) (s : Nat) (g : Nat → Int32) (M M' : Mm) (k : Nat) : Prop := M' s0 = upd (M s0) i0 (nI (s + k)) ∧ M' row = (fun i => if s ≤ i ∧ i < s + k then g (i - s) else M row i) ∧ ∀ i : Nat, i ≠ s0 → i ≠ row → M' i = M i
theorem Fdd.nx {s0 i0 row s k : Nat} {g : Nat → Int32} {M M' : Mm} (hne : s0 ≠ row) (h : Fdd s0 i0 row s g M M' k) : Fdd s0 i0 row s g M (wr (wr M' row (s + k) (g k)) s0 i0 (nI (s + k + 1))) (k + 1) := by
  obtain ⟨h1, h2, h3⟩ := h
  refine ⟨by rw [wr_row, wr_oth hne, h1, upd_upd]; rfl, ?_, fun i x y => by rw [wr_oth x, wr_oth y]; exact h3 i x y⟩
  rw [wr_oth (Ne.symm hne), wr_row, h2]
  funext i
  unfold upd
  dsimp only
  by_cases e : i = s + k
  · rw [if_pos e, if_pos (by omega), e, show s + k - s = k by omega]
  · rw [if_neg e]
    by_cases e2 : s ≤ i ∧ i < s + k
    · rw [if_pos e2, if_pos (by omega)]
    · rw [if_neg e2, if_neg (by omega)]
theorem e7_fb {K : Mm → Prop} {a b c p : Int32} {s q : Nat} {M0 : Mm} (hs : s + 12 ≤ 96) (hq : q < 3) (hp : p = if q = 0 then a else if q = 1 then b else c) (h : Fdd 38 1 39 s (bt a b c) M0 M (4 * q)) (hK : ∀ M' : Mm, Fdd 38 1 39 s (bt a b c) M0 M' (4 * q + 4) → K M') : wp_X7_feedBytesOf n M p K := by
  have add : ∀ (k : Nat) (M1 : Mm) (x : Int32) {K : Mm → Prop}, k < 12 → x = bt a b c k → Fdd 38 1 39 s (bt a b c) M0 M1 k → (∀ M2 : Mm, Fdd 38 1 39 s (bt a b c) M0 M2 (k + 1) → K M2) → wp_X2_add n M1 38 x K := by
    intro k M1 x K hk ex h1 hK
    have e1 : M1 38 1 = nI (s + k) := by rw [h1.1, pk_us]
    refine ⟨rfl, fun hh => absurd hh ?_, fun _ => ⟨?_, ?_⟩⟩
    · rw [e1, show Int32.ofNat (tp (38 + 1) - 1000) = nI 96 from by decide]; exact nI_ge (by omega) (by decide)
    · rw [e1, show tp (38 + 1) - 1000 = 96 from by decide]; exact vp_in_nI (by omega) (by decide)
    · rintro M2 rfl M3 rfl
      rw [e1, nI_clamp (by omega), wr_oth (show (38 : Nat) ≠ 38 + 1 by decide), e1, nI_s, ex]
      exact hK _ (h1.nx (by decide))
  have hx : ∀ r : Nat, r < 4 → ∀ sh : Int32, sh = nI (24 - 8 * r) → (jushr p sh) &&& 255 = bt a b c (4 * q + r) := by
    intro r hr sh e
    subst e
    unfold bt
    rw [show (4 * q + r) % 4 = r by omega, hp]
    have : q = 0 ∨ q = 1 ∨ q = 2 := by omega
    rcases this with rfl | rfl | rfl
    · rw [if_pos rfl, if_pos (by omega)]
    · rw [if_neg (by decide), if_pos rfl, if_neg (by omega), if_pos (by omega)]
    · rw [if_neg (by decide), if_neg (by decide), if_neg (by omega), if_neg (by omega)]
  refine ⟨5, ?_⟩
  rw [wl_X7_feedBytesOf_3]
  refine ⟨fun h => absurd h (by decide), fun _ => add (4 * q) _ _ (by omega) (hx 0 (by decide) _ rfl) h (fun M1 h1 => ?_)⟩
  rintro v rfl
  rw [wl_X7_feedBytesOf_3]
  refine ⟨fun h => absurd h (by decide), fun _ => add (4 * q + 1) _ _ (by omega) (hx 1 (by decide) _ (by decide)) h1 (fun M2 h2 => ?_)⟩
  rintro v rfl
  rw [wl_X7_feedBytesOf_3]
  refine ⟨fun h => absurd h (by decide), fun _ => add (4 * q + 2) _ _ (by omega) (hx 2 (by decide) _ (by decide)) h2 (fun M3 h3 => ?_)⟩
  rintro v rfl
  rw [wl_X7_feedBytesOf_3]
  refine ⟨fun h => absurd h (by decide), fun _ => add (4 * q + 3) _ _ (by omega) (hx 3 (by decide) _ (by decide)) h3 (fun M4 h4 => ?_)⟩
  rintro v rfl
  rw [wl_X7_feedBytesOf_3]
  exact ⟨fun _ => hK M4 h4, fun h => absurd (by decide) h⟩
theorem op_feed {p1 p2 p3 : Int32} (I : Inv n j M) (hZ : ∀ M' : Mm, Inv n (j + 1) M' → Z M') (hR : ∀ (M1 : Mm) (r : Int32), wp_X8_feed n M1 p1 p2 p3 (fun M3 r4 => (r = r4 → Z M3) ∧ (¬ r = r4 → False)) → R M1 r) : wp_X7_feed n M p1 p2 p3 R := by
  obtain ⟨s, s96, w1, w2, w3⟩ := I.t
  unfold wp_X7_feed
  rw [w1, show (12 : Int32) = nI 12 from rfl, nI_add, show (96 : Int32) = nI 96 from rfl, nI_leI (by omega) (by decide)]
  refine ⟨fun h => ?_, fun h => ?_⟩
  · have f0 : Fdd 38 1 39 s (bt p1 p2 p3) M M 0 := ⟨by rw [Nat.add_zero, ← w1, upd_self], by funext i; rw [if_neg (by omega)], fun _ _ _ => rfl⟩
    refine e7_fb (q := 0) h (by decide) rfl f0 (fun M1 h1 => e7_fb (q := 1) h (by decide) rfl h1 (fun M2 h2 => e7_fb (q := 2) h (by decide) rfl h2 (fun M3 h3 => hR _ _ ?_)))
    have h3 : Fdd 38 1 39 s (bt p1 p2 p3) M M3 12 := h3
    have e74 : M3 74 = M 74 := h3.2.2 74 (by decide) (by decide)
    have g0 : Fdd 74 17 88 s (bt p1 p2 p3) M3 M3 0 := ⟨by rw [e74, Nat.add_zero, ← w2, upd_self], by funext i; rw [if_neg (by omega)], fun _ _ _ => rfl⟩
    unfold wp_X8_feed
    rw [e74, w2, show (12 : Int32) = nI 12 from rfl, nI_add, show (96 : Int32) = nI 96 from rfl, nI_leI (by omega) (by decide)]
    refine ⟨fun _ => ⟨13, ?_⟩, fun hh => absurd h hh⟩
    suffices hl : ∀ (q k : Nat) (M4 : Mm), k + q = 12 → Fdd 74 17 88 s (bt p1 p2 p3) M3 M4 k → wl_X8_feed_18 n p1 p2 p3 (fun M5 r4 => (M3 38 1 = r4 → Z M5) ∧ (¬ M3 38 1 = r4 → False)) (q + 1) M4 (nI k) by
      exact hl 12 0 M3 (by omega) g0
    intro q
    induction q with
    | zero =>
      intro k M4 hk g
      have : k = 12 := by omega
      subst this
      rw [wl_X8_feed_18]
      refine ⟨fun _ => en ?_ (hZ _ (I.fi (X := cT) (by omega) ⟨fun i h9 hx hs => ?_, fun q hq hx => ?_, fun q => Or.inl ?_, fun i h9 hp => ?_, fun i hp => ?_⟩ (t := Or.inl ⟨s + 12, h, ?_, ?_, fun i hi => ?_⟩))), fun hh => absurd (by decide) hh⟩
      · rw [h3.1, pk_us, g.1, pk_us]
      · have h1 : i ≠ 38 ∧ i ≠ 39 ∧ i ≠ 88 := ⟨fun e => hx (by subst e; decide), fun e => hx (by subst e; decide), fun e => hx (by subst e; decide)⟩
        have h74 : i ≠ 74 := fun e => hs (by subst e; unfold scr; decide)
        rw [g.2.2 i h74 h1.2.2, h3.2.2 i h1.1 h1.2.1]
      · have : q ≠ 17 := fun e => hx (by subst e; decide)
        rw [g.1, pk_un this, e74]
      · rw [g.2.2 14 (by decide) (by decide), h3.2.2 14 (by decide) (by decide)]
      · rw [g.2.2 i (by omega) (by omega), h3.2.2 i (by omega) (by omega)]
      · have := hiP hp
        rw [g.2.2 i (by omega) (by omega), h3.2.2 i (by omega) (by omega)]
      · rw [g.2.2 38 (by decide) (by decide), h3.1, pk_us]
      · rw [g.1, pk_us]
      · rw [g.2.2 39 (by decide) (by decide), h3.2.1, g.2.1, h3.2.2 88 (by decide) (by decide)]
        dsimp only
        by_cases e : s ≤ i ∧ i < s + 12
        · rw [if_pos e, if_pos e]; exact ⟨rfl, bt_255 _ _ _ _⟩
        · rw [if_neg e, if_neg e]; exact w3 i (by omega)
    | succ q ih =>
      intro k M4 hk g
      have h47 : ∀ x : Int32, x = (if k < 4 then p1 else if k < 8 then p2 else p3) → wb_X8_feed_47 n p1 p2 p3 (fun M x4 => wl_X8_feed_18 n p1 p2 p3 (fun M5 r4 => (M3 38 1 = r4 → Z M5) ∧ (¬ M3 38 1 = r4 → False)) (q + 1) M x4) (fun M5 r4 => (M3 38 1 = r4 → Z M5) ∧ (¬ M3 38 1 = r4 → False)) M4 (nI k) x := by
        intro x ex
        have e17 : M4 74 17 = nI (s + k) := by rw [g.1, pk_us]
        unfold wb_X8_feed_47
        rw [e17, ex, bt_r _ _ _ (by omega), nI_clamp (by omega)]
        refine ⟨vp_in_nI (by omega) (by decide), ?_⟩
        rintro M5 rfl M6 rfl v rfl
        rw [wr_oth (show (74 : Nat) ≠ 88 by decide), e17, nI_s, nI_s]
        exact ih (k + 1) _ (by omega) (g.nx (by decide))
      rw [wl_X8_feed_18, show (12 : Int32) = nI 12 from rfl, show (4 : Int32) = nI 4 from rfl, show (8 : Int32) = nI 8 from rfl, nI_leI (by decide) (by omega), nI_leI (by decide) (by omega), nI_leI (by decide) (by omega)]
      refine ⟨fun hh => absurd hh (by omega), fun _ => ⟨fun a => ⟨fun b => h47 _ ?_, fun b => h47 _ ?_⟩, fun a => h47 _ ?_⟩⟩
      · rw [if_neg (by omega), if_neg (by omega)]
      · rw [if_neg (by omega), if_pos (by omega)]
      · rw [if_pos (by omega)]
  · refine hR _ _ ?_
    unfold wp_X8_feed
    rw [w2, show (12 : Int32) = nI 12 from rfl, nI_add, show (96 : Int32) = nI 96 from rfl, nI_leI (by omega) (by decide)]
    exact ⟨fun hh => absurd hh h, fun _ => en rfl (hZ _ I.sk)⟩
end OPSB
