theorem inv0 : Inv 94 0 M0 := by
  have e75 : M0 75 = s0 := rfl
  have n0 : nCo s0 = 0 := rfl
  have x0 : nTx s0 = 0 := rfl
  refine ⟨⟨⟨⟨rfl, rfl, rfl, rfl, rfl, rfl, rfl, rfl, rfl, rfl, rfl⟩, fun c hc => absurd hc (by rw [e75, n0]; omega), fun q hq => ?_, fun t ht => absurd ht (by rw [e75, x0]; omega)⟩, ⟨⟨0, by decide, rfl⟩, 0, by decide, rfl, fun t ht => absurd ht (by omega)⟩, ⟨⟨⟨0, by decide, rfl⟩, ⟨9, by decide, rfl⟩, ⟨3, by decide, rfl⟩, ⟨1, by decide, rfl⟩, ⟨0, by decide, rfl⟩⟩, fun c hc => absurd hc (by rw [e75, n0]; omega)⟩⟩, Or.inl ⟨rfl, rfl⟩, ⟨0, by decide, rfl, rfl, fun i hi => absurd hi (by omega)⟩, ⟨0, by decide, rfl, rfl, fun i hi => absurd hi (by omega)⟩, fun k hk => ?_, fun k hk => ?_, fun q => ⟨by show 0 < 94; decide, by show 0 < 94; decide, by show 0 < 94; decide⟩, rfl, by decide, by decide, by decide⟩
  · have : q = 0 ∨ q = 1 ∨ q = 2 := by omega
    rcases this with rfl | rfl | rfl <;> rfl
  · have : k = 0 ∨ k = 1 ∨ k = 2 ∨ k = 3 := by omega
    rcases this with rfl | rfl | rfl | rfl <;> exact ⟨rfl, Or.inl rfl, rfl, ⟨0, by decide, rfl⟩, fun i _ => rfl⟩
  · have : k = 0 ∨ k = 1 ∨ k = 2 ∨ k = 3 ∨ k = 4 := by omega
    rcases this with rfl | rfl | rfl | rfl | rfl <;> exact ⟨rfl, ⟨0, by decide, rfl⟩, fun h => absurd h (by decide), fun h => absurd h (by decide), fun h => absurd h (by decide)⟩
/-- the law from the calls, text() given -/
theorem law_go (htext : ∀ {n j : Nat} {M : Mm} {Z : Nat → Mm → Prop} {R : Nat → Mm → Int32 → Prop}, Inv n j M → j ≤ 64 → (∀ (n' : Nat) (M' : Mm), Inv n' (j + 1) M' → Z n' M') → (∀ (n1 : Nat) (M1 : Mm) (r : Int32), wp_X8_text n1 M1 (fun M3 r4 => (r = r4 → Z n1 M3) ∧ (¬ r = r4 → False)) → R n1 M1 r) → wp_X7_text n M R) {L : Nat} {xs : Nat → Int32} (hL : L ≤ 384) : ∀ (k i n : Nat) (M : Mm), i + k = 64 → Inv n i M → wl_law L xs (k + 1) n M (nI (6 * i)) := by
  intro k
  induction k with
  | zero =>
    intro i n M hi I
    rw [wl_law]
    refine ⟨fun _ => trivial, fun h => ?_⟩
    exfalso
    refine h ?_
    have : i = 64 := by omega
    subst this
    show nI L - nI 6 < _
    by_cases h6 : L < 6
    · exact Int32.lt_of_lt_of_le (pk_sneg (by decide) h6) (nI_pos' (by decide))
    · rw [pk_sub (by omega)]; exact nI_lt (by omega) (by decide)
  | succ k ih =>
    intro i n M hi I
    rw [wl_law]
    refine ⟨fun _ => trivial, fun h => ?_⟩
    have hle : 6 * i + 6 ≤ L := by
      have h : ¬ nI L - nI 6 < nI (6 * i) := h
      by_cases h6 : L < 6
      · exact absurd (Int32.lt_of_lt_of_le (pk_sneg (by decide) h6) (nI_pos' (by omega))) h
      · rw [pk_sub (by omega), nI_ltI (by omega) (by omega)] at h; omega
    have vr : ∀ r : Nat, r < 6 → vp_in (nI (6 * i) + nI r) L := fun r hr => by rw [nI_add]; exact vp_in_nI (by omega) (by omega)
    have v1 : vp_in (nI (6 * i) + 1) L := vr 1 (by decide)
    have v2 : vp_in (nI (6 * i) + 2) L := vr 2 (by decide)
    have v3 : vp_in (nI (6 * i) + 3) L := vr 3 (by decide)
    have v4 : vp_in (nI (6 * i) + 4) L := vr 4 (by decide)
    have v5 : vp_in (nI (6 * i) + 5) L := vr 5 (by decide)
    have nx : ∀ (n' : Nat) (M' : Mm), Inv n' (i + 1) M' → ∀ v : Int32, v = nI (6 * i) + 6 → wl_law L xs (k + 1) n' M' v := by
      rintro n' M' I' v rfl
      rw [show (6 : Int32) = nI 6 from rfl, nI_add, show 6 * i + 6 = 6 * (i + 1) by omega]
      exact ih (i + 1) n' M' (by omega) I'
    exact ⟨vp_in_nI (by omega) (by omega), fun _ => ⟨v1, v2, v3, v4, op_comer I (nx n) (fun M1 r h => ⟨v1, v2, v3, v4, h⟩)⟩,
      fun _ => ⟨v1, v2, op_told I (by omega) (nx n) (fun M1 r h => ⟨v1, v2, h⟩)⟩,
      fun _ => ⟨v1, v2, op_as I (nx n) (fun M1 r h => ⟨v1, v2, h⟩)⟩,
      fun _ => ⟨v1, v2, op_turns I (nx n) (fun M1 r h => ⟨v1, v2, h⟩)⟩,
      fun _ => ⟨v1, v2, v3, op_set I (nx n) (fun M1 r h => ⟨v1, v2, v3, h⟩)⟩,
      fun _ => ⟨v1, v2, op_well I (nx n) (fun M1 r h => ⟨v1, v2, h⟩)⟩,
      fun _ => ⟨v1, op_deal I (nx n) (fun M1 r h => ⟨v1, h⟩)⟩,
      fun _ => ⟨v1, op_seed I (nx n) (fun M1 r h => ⟨v1, h⟩)⟩,
      fun _ => ⟨v1, op_run I (by omega) (nx n) (fun M1 r h => ⟨v1, h⟩)⟩,
      fun _ => ⟨v1, v2, op_behind I (by omega) (nx n) (fun M1 r h => ⟨v1, v2, h⟩)⟩,
      fun _ => ⟨v1, op_fullIn I (nx n) (fun M1 r h => ⟨v1, h⟩)⟩,
      fun _ => ⟨v1, v2, v3, op_best I (by omega) (nx n) (fun M1 r h => ⟨v1, v2, v3, h⟩)⟩,
      fun _ => ⟨v1, v2, op_alone I (by omega) (nx n) (fun M1 r h => ⟨v1, v2, h⟩)⟩,
      fun _ => ⟨v1, op_mean I (by omega) (nx n) (fun M1 r h => ⟨v1, h⟩)⟩,
      fun _ => op_least I (nx n) (fun M1 r h => h),
      fun _ => ⟨v1, op_fine I (by omega) (nx n) (fun M1 r h => ⟨v1, h⟩)⟩,
      fun _ => ⟨v1, v2, v3, op_feed I (nx n) (fun M1 r h => ⟨v1, v2, v3, h⟩)⟩,
      fun _ => ⟨v1, op_trim I (nx n) (fun M1 r h => ⟨v1, h⟩)⟩,
      fun _ => htext I (by omega) nx (fun n1 M1 r h => h),
      fun _ => ⟨v1, v2, op_textTold I (by omega) (nx n) (fun M1 r h => ⟨v1, v2, h⟩)⟩,
      fun _ => ⟨v1, op_why I (nx n) (fun M1 r h => ⟨v1, h⟩)⟩,
      fun _ => ⟨v1, v2, v3, op_sheet I (nx n) (fun M1 r h => ⟨v1, v2, v3, h⟩)⟩,
      fun _ => ⟨v1, v2, v3, op_mark I (nx n) (fun M1 r h => ⟨v1, v2, v3, h⟩)⟩,
      fun _ => ⟨v1, op_pour I (nx n) (fun M1 r h => ⟨v1, h⟩)⟩,
      fun _ => ⟨v1, v2, op_explained I (nx n) (fun M1 r h => ⟨v1, v2, h⟩)⟩,
      fun _ => ⟨v1, v2, v3, v4, v5, op_copy I (nx n) (fun M1 r h => ⟨v1, v2, v3, v4, v5, h⟩)⟩,
      fun _ => ⟨v1, v2, v3, op_lay I (nx n) (fun M1 r h => ⟨v1, v2, v3, h⟩)⟩,
      fun _ => ⟨v1, v2, op_ask I (nx n) (fun M1 r h => ⟨v1, v2, h⟩)⟩,
      fun _ => ⟨v1, v2, op_item I (nx n) (fun M1 r h => ⟨v1, v2, h⟩)⟩,
      fun _ => ⟨v1, v2, op_rest I (nx n) (fun M1 r h => ⟨v1, v2, h⟩)⟩,
      fun _ => ⟨v1, op_tell I (nx n) (fun M1 r h => ⟨v1, h⟩)⟩,
      fun _ => ⟨v1, op_check I (by omega) (nx n) (fun M1 r h => ⟨v1, h⟩)⟩,
      fun _ => op_keep I (by omega) (nx n) (fun M1 r h => h),
      fun _ => op_back I (by omega) (nx n) (fun M1 r h => h),
      fun _ => ⟨v1, op_count I (nx n) (fun M1 r h => ⟨v1, h⟩)⟩,
      fun _ _ _ _ _ _ _ _ _ _ _ _ _ _ _ _ _ _ _ _ _ _ _ _ _ _ _ _ _ _ _ _ _ _ _ => nx n M I.sk⟩
