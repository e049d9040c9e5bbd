/-- all but one scene's own cells -/
def FrN (b : Nat) (M M' : Mm) : Prop := ∀ i : Nat, ¬ (b ≤ i ∧ i ≤ b + 11) → M' i = M i
theorem TR.eq {n id t : Nat} {M M' : Mm} {S : Sc} (h : TR n M id S t) (h0 : ∀ i : Nat, 94 ≤ i → M' i = M i) : TR n M' id S t := by
  obtain ⟨⟨h1, h2⟩, h3, h4, h5, h6, h7⟩ := h
  have hlo := (tx_lo h1).1
  exact ⟨⟨h1, h2⟩, by rw [h0 _ (by omega)]; exact h3, by rw [h0 _ (by omega)]; exact h4, by rw [h0 _ (by omega)]; exact h5, by rw [h0 _ (by omega)]; exact h6, fun k hk => by rw [h0 _ (by omega)]; exact h7 k hk⟩
section C3p
variable {n : Nat} {M : Mm}
theorem e0_become {K : Mm → Prop} {b o : Nat} (hb : tp b = 5) (ho : tp o = 5) (hne : b ≠ o) (hK : ∀ M' : Mm, (∀ w : Nat, w < 12 → M' b w = M o w) → (∀ i : Nat, i ≠ b → M' i = M i) → K M') : wp_X0_become n M b o K := by
  refine ⟨hb, ho, ?_⟩
  have hno : o ≠ b := Ne.symm hne
  rintro M1 rfl M2 rfl M3 rfl M4 rfl M5 rfl M6 rfl M7 rfl M8 rfl M9 rfl M10 rfl M11 rfl M12 rfl
  simp only [wr_oth hno]
  refine hK _ (fun w hw => ?_) (fun i hi => by simp only [wr_oth hi])
  have : w = 0 ∨ w = 1 ∨ w = 2 ∨ w = 3 ∨ w = 4 ∨ w = 5 ∨ w = 6 ∨ w = 7 ∨ w = 8 ∨ w = 9 ∨ w = 10 ∨ w = 11 := by omega
  rcases this with rfl | rfl | rfl | rfl | rfl | rfl | rfl | rfl | rfl | rfl | rfl | rfl <;> simp [wr_row, upd]
theorem e3_become {K : Mm → Prop} {b o : Nat} {S : Sc} (hb : isB b) (ho : isB o) (hbo : b ≠ o) (hn : n ≤ 1000) (hS : SOK S) (hR : SR n M o S) (hK : ∀ M' : Mm, SR n M' b S → FrN b M M' → (∀ q : Nat, M' (b + 1) q = M (b + 1) q ∨ M' (b + 1) q = M (o + 1) q) → K M') : wp_X3_become n M b o K := by
  obtain ⟨hz, h0⟩ := hS.co
  obtain ⟨hx, e1, -⟩ := hS.tx
  have hsep : b + 12 ≤ o ∨ o + 12 ≤ b := by unfold isB at hb ho; omega
  have hbl := hb.lt
  have hol := ho.lt
  have hin : ∀ i : Nat, o ≤ i → i ≤ o + 11 → ¬ (b ≤ i ∧ i ≤ b + 11) := fun i h1 h2 => by omega
  refine ⟨hb.t, ho.t, ⟨by decide, by decide, by decide, by decide, by decide⟩, ?_⟩
  rintro M1 hM1 M2 rfl
  have a1 : ∀ i : Nat, i ≠ b + 2 → M1 i = M i := fun i hi => by rw [hM1]; unfold va_up; rw [if_neg hi]
  have a2 : ∀ q : Nat, q < 3 → M1 (b + 2) q = M (o + 2) q := fun q hq => by
    rw [hM1]; unfold va_up; rw [if_pos rfl]
    show va_cpy (M (o + 2)) (M (b + 2)) 0 0 3 q = _
    rw [pk_cpy_in (by omega) (by omega)]
    congr 1; omega
  rw [a1 o (by omega), hR.1.2.1]
  refine ⟨nTx S + 1, ?_⟩
  suffices h : ∀ (j t : Nat) (M3 : Mm), t + j = nTx S → M3 b = upd (M b) 2 (S 1) → M3 (b + 2) = M1 (b + 2) → (∀ i : Nat, i ≠ b → i ≠ b + 1 → i ≠ b + 2 → M3 i = M i) → (∀ q : Nat, q < t → M3 (b + 1) q = M (o + 1) q) → (∀ q : Nat, M3 (b + 1) q = M (b + 1) q ∨ M3 (b + 1) q = M (o + 1) q) → wl_X3_become_24 n b o K (j + 1) M3 (nI t) by
    refine h _ 0 _ (by omega) (by rw [wr_row, a1 b (by omega)]) (wr_oth (by omega)) (fun i x y z => by rw [wr_oth x]; exact a1 i z) (fun q hq => absurd hq (by omega)) (fun q => Or.inl (by rw [wr_oth (by omega)]; rw [a1 (b + 1) (by omega)]))
  intro j
  induction j with
  | zero =>
    intro t M3 ht b0 b2 bo bq bl
    have htx : t = nTx S := by omega
    subst htx
    rw [wl_X3_become_24]
    refine ⟨fun _ => ?_, fun h => absurd (by rw [b0, pk_us, e1]; exact nI_le (Nat.le_refl _) (by omega)) h⟩
    rintro M4 rfl
    have c4 : M3 o = M o := bo o (by omega) (by omega) (by omega)
    rw [c4, hR.1.1]
    refine ⟨nCo S + 1, ?_⟩
    suffices h : ∀ (j c : Nat) (M5 : Mm), c + j = nCo S → M5 b = upd (upd (M b) 2 (S 1)) 4 (S 0) → (∀ i : Nat, ¬ (b + 3 + 1 ≤ i ∧ i ≤ b + 11) → i ≠ b → M5 i = M3 i) → (∀ q : Nat, q < c → ∀ w : Nat, w < 12 → M5 (b + 3 + 1 + q) w = M (o + 3 + 1 + q) w) → wl_X3_become_60 n b o K (j + 1) M5 (nI c) by
      exact h _ 0 _ (by omega) (by rw [wr_row, b0]) (fun i _ y => wr_oth y) (fun q hq => absurd hq (by omega))
    intro j
    induction j with
    | zero =>
      intro c M5 hc d0 dO dC
      have hcz : c = nCo S := by omega
      subst hcz
      rw [wl_X3_become_60]
      refine ⟨fun _ => ?_, fun h => absurd (by rw [d0, pk_us, h0]; exact nI_le (Nat.le_refl _) (by omega)) h⟩
      have d5 : M5 o = M o := by rw [dO o (by omega) (by omega), c4]
      rintro M8 rfl M9 rfl M10 rfl M11 rfl M12 rfl M13 rfl M14 rfl M15 rfl M16 rfl
      simp only [wr_oth (show o ≠ b by omega), d5]
      have hrow : ∀ i : Nat, i ≠ b → wr (wr (wr (wr (wr (wr (wr (wr (wr M5 b 5 (M o 5)) b 6 (M o 6)) b 7 (M o 7)) b 8 (M o 8)) b 9 (M o 9)) b 10 (M o 10)) b 11 (M o 11)) b 12 (M o 12)) b 13 (M o 13) i = M5 i := fun i hi => by simp only [wr_oth hi]
      have hbb : SRg (wr (wr (wr (wr (wr (wr (wr (wr (wr M5 b 5 (M o 5)) b 6 (M o 6)) b 7 (M o 7)) b 8 (M o 8)) b 9 (M o 9)) b 10 (M o 10)) b 11 (M o 11)) b 12 (M o 12)) b 13 (M o 13)) b S := by
        obtain ⟨g0, g1, g2, g3, g4, g5, g6, g7, g8, g9, g10⟩ := hR.1
        unfold SRg
        simp [wr_row, upd, d0, g2, g3, g4, g5, g6, g7, g8, g9, g10]
      generalize wr (wr (wr (wr (wr (wr (wr (wr (wr M5 b 5 (M o 5)) b 6 (M o 6)) b 7 (M o 7)) b 8 (M o 8)) b 9 (M o 9)) b 10 (M o 10)) b 11 (M o 11)) b 12 (M o 12)) b 13 (M o 13) = M16 at hrow hbb ⊢
      have hhi : ∀ i : Nat, 94 ≤ i → M16 i = M i := fun i hi => by rw [hrow i (by omega), dO i (by omega) (by omega), bo i (by omega) (by omega) (by omega)]
      have e1' : M16 (b + 1) = M3 (b + 1) := by rw [hrow _ (by omega), dO _ (by omega) (by omega)]
      refine hK M16 ⟨hbb, fun c hc w hw => ?_, fun q hq => ?_, fun t ht => ?_⟩ (fun i hi => ?_) (fun q => by rw [e1']; exact bl q)
      · rw [hrow _ (by omega), dC c hc w hw]; exact hR.2.1 c hc w hw
      · rw [hrow _ (by omega), dO _ (by omega) (by omega), b2, a2 q hq]; exact hR.2.2.1 q hq
      · obtain ⟨id, f1, f2⟩ := hR.2.2.2 t ht
        exact ⟨id, by rw [e1', bq t ht]; exact f1, f2.eq hhi⟩
      · rw [hrow i (by omega), dO i (by omega) (by omega), bo i (by omega) (by omega) (by omega)]
    | succ j ih2 =>
      intro c M5 hc d0 dO dC
      rw [wl_X3_become_60]
      refine ⟨fun h => absurd h (by rw [d0, pk_us, h0]; exact nI_ge (by omega) (by omega)), fun _ => ⟨in8 (by omega), in8 (by omega), ?_⟩⟩
      rw [nI_clamp (by omega)]
      refine e0_become (hb.c (by omega)) (ho.c (by omega)) (by omega) (fun M6 f1 f2 => ?_)
      rintro v21 rfl
      rw [nI_s]
      refine ih2 (c + 1) M6 (by omega) (by rw [f2 b (by omega)]; exact d0) (fun i x y => by rw [f2 i (by omega)]; exact dO i x y) (fun q hq w hw => ?_)
      by_cases e : q = c
      · subst e
        rw [f1 w hw, dO (o + 3 + 1 + q) (by omega) (by omega), bo _ (by omega) (by omega) (by omega)]
      · rw [f2 _ (by omega)]; exact dC q (by omega) w hw
  | succ j ih =>
    intro t M3 ht b0 b2 bo bq bl
    obtain ⟨id, f1, f2⟩ := hR.2.2.2 t (by omega)
    have hlo := (tx_lo f2.1.1).1
    have hid := f2.1.2
    have eo : M3 (o + 1) t = nI id := by rw [bo (o + 1) (by omega) (by omega) (by omega)]; exact f1
    rw [wl_X3_become_24]
    refine ⟨fun h => absurd h (by rw [b0, pk_us, e1]; exact nI_ge (by omega) (by omega)), fun _ => ⟨vp_in_nI (by omega) (by decide), ?_⟩⟩
    rw [nI_clamp (by omega), eo]
    refine ⟨fun h => absurd h (nI_ne0 (by omega) (by omega)), fun _ => ?_⟩
    rintro t4 rfl
    rw [nI_clamp (by omega)]
    refine ⟨f2.1, vp_in_nI (by omega) (by decide), ?_⟩
    rintro M6 rfl v7 rfl
    rw [nI_s]
    refine ih (t + 1) _ (by omega) (by rw [wr_oth (by omega)]; exact b0) (by rw [wr_oth (by omega)]; exact b2) (fun i x y z => by rw [wr_oth y]; exact bo i x y z) (fun q hq => ?_) (fun q => ?_)
    · by_cases e : q = t
      · subst e; rw [wr_at, f1]
      · rw [wr_idx e]; exact bq q (by omega)
    · by_cases e : q = t
      · subst e; rw [wr_at]; exact Or.inr f1.symm
      · rw [wr_idx e]; exact bl q
theorem e3_sum {K : Mm → Int32 → Prop} {b : Nat} {S : Sc} (hb : isB b) (hS : SOK S) (hR : SR n M b S) : (K M (sumT S 9 (nCo S)) → wp_X3_gotOfAll n M b K) ∧ (K M (sumT S 10 (nCo S)) → wp_X3_emptyOfAll n M b K) ∧ (K M (sumT S 11 (nCo S)) → wp_X3_visitsOfAll n M b K) := by
  obtain ⟨hz, h0⟩ := hS.co
  have e4 : M b 4 = nI (nCo S) := by rw [hR.1.1, h0]
  refine ⟨fun hK => ⟨hb.t, nCo S + 1, ?_⟩, fun hK => ⟨hb.t, nCo S + 1, ?_⟩, fun hK => ⟨hb.t, nCo S + 1, ?_⟩⟩
  · suffices h : ∀ (j c : Nat), c + j = nCo S → wl_X3_gotOfAll_4 n b K (j + 1) M (sumT S 9 c) (nI c) by exact h _ 0 (by omega)
    intro j
    induction j with
    | zero =>
      intro c hc
      have : c = nCo S := by omega
      rw [wl_X3_gotOfAll_4, this]
      exact ⟨fun _ => hK, fun h => absurd (by rw [e4]; exact nI_le (Nat.le_refl _) (by omega)) h⟩
    | succ j ih =>
      intro c hc
      rw [wl_X3_gotOfAll_4]
      refine ⟨fun h => absurd h (by rw [e4]; exact nI_ge (by omega) (by omega)), fun _ => ⟨in8 (by omega), ?_⟩⟩
      rintro v2 rfl v3 rfl
      rw [nI_s, nI_clamp (by omega), hR.2.1 c (by omega) 9 (by decide)]
      exact ih (c + 1) (by omega)
  · suffices h : ∀ (j c : Nat), c + j = nCo S → wl_X3_emptyOfAll_4 n b K (j + 1) M (sumT S 10 c) (nI c) by exact h _ 0 (by omega)
    intro j
    induction j with
    | zero =>
      intro c hc
      have : c = nCo S := by omega
      rw [wl_X3_emptyOfAll_4, this]
      exact ⟨fun _ => hK, fun h => absurd (by rw [e4]; exact nI_le (Nat.le_refl _) (by omega)) h⟩
    | succ j ih =>
      intro c hc
      rw [wl_X3_emptyOfAll_4]
      refine ⟨fun h => absurd h (by rw [e4]; exact nI_ge (by omega) (by omega)), fun _ => ⟨in8 (by omega), ?_⟩⟩
      rintro v2 rfl v3 rfl
      rw [nI_s, nI_clamp (by omega), hR.2.1 c (by omega) 10 (by decide)]
      exact ih (c + 1) (by omega)
  · suffices h : ∀ (j c : Nat), c + j = nCo S → wl_X3_visitsOfAll_4 n b K (j + 1) M (sumT S 11 c) (nI c) by exact h _ 0 (by omega)
    intro j
    induction j with
    | zero =>
      intro c hc
      have : c = nCo S := by omega
      rw [wl_X3_visitsOfAll_4, this]
      exact ⟨fun _ => hK, fun h => absurd (by rw [e4]; exact nI_le (Nat.le_refl _) (by omega)) h⟩
    | succ j ih =>
      intro c hc
      rw [wl_X3_visitsOfAll_4]
      refine ⟨fun h => absurd h (by rw [e4]; exact nI_ge (by omega) (by omega)), fun _ => ⟨in8 (by omega), ?_⟩⟩
      rintro v2 rfl v3 rfl
      rw [nI_s, nI_clamp (by omega), hR.2.1 c (by omega) 11 (by decide)]
      exact ih (c + 1) (by omega)
end C3p
