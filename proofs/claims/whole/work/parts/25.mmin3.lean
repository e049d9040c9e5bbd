section M8o
variable {n : Nat} {M : Mm}
theorem goO_e (S : Sc) (c : Nat) : upd (upd S (cx c 5) 1) (cx c 6) (upd S (cx c 5) 1 (cx c 2)) = goO S c := by
  rw [pk_un (cx_ne (by decide) (by decide) (Or.inr (by decide)))]; rfl
theorem e8_leaveHome {K : Mm → Prop} (hS : SOK (M 75)) (hK : ∀ M' : Mm, M' 75 = lvK (M 75) (nCo (M 75)) → FrS M M' → K M') : wp_X8_leaveHome n M K := by
  obtain ⟨hz, h0⟩ := hS.co
  refine ⟨nCo (M 75) + 1, ?_⟩
  suffices h : ∀ (j c : Nat) (M1 : Mm), c + j = nCo (M 75) → M1 75 = lvK (M 75) c → FrS M M1 → wl_X8_leaveHome_2 n K (j + 1) M1 (nI c) by
    exact h _ 0 M (by omega) rfl (FrS.rf M)
  intro j
  induction j with
  | zero =>
    intro c M1 hc h1 hF
    have hcz : c = nCo (M 75) := by omega
    rw [wl_X8_leaveHome_2]
    have e0 : M1 75 0 = nI (nCo (M 75)) := by rw [h1, (kp_lvK c (by omega)).1]; exact h0
    refine ⟨fun _ => hK M1 (by rw [h1, hcz]) hF, fun h => absurd (by rw [e0, hcz]; exact nI_le (Nat.le_refl _) (by omega)) h⟩
  | succ j ih =>
    intro c M1 hc h1 hF
    have hc8 : c < 8 := by omega
    have k1 : Kp (M 75) (M1 75) := by rw [h1]; exact kp_lvK c (by omega)
    have hS1 : SOK (M1 75) := hS.kp k1
    have e0 : M1 75 0 = nI (nCo (M 75)) := by rw [k1.1]; exact h0
    have hlv : lvK (M 75) (c + 1) = lv1 (M1 75) c := by rw [lvK, ← h1]
    have h60 : ∀ M4 : Mm, FrS M M4 → lvK (M 75) (c + 1) = sinc (M4 75) c → wb_X8_leaveHome_59 n (fun M x1 => wl_X8_leaveHome_2 n K (j + 1) M x1) K M4 (nI c) := by
      intro M4 f4 e4
      refine ⟨fun _ => e8_more' (w := 8) rfl (by omega) (by decide) (fun M5 h5 f5 => ?_), fun h => absurd rfl h⟩
      rintro v rfl
      rw [nI_s]
      exact ih (c + 1) M5 (by omega) (by rw [h5, e4]; rfl) (f4.tr (FrS.of5 f5))
    rw [wl_X8_leaveHome_2]
    refine ⟨fun h => absurd h (by rw [e0]; exact nI_ge (by omega) (by omega)), fun _ => e8_of (w := 5) rfl (by omega) (by decide) ⟨fun h => ?_, fun h => ?_⟩⟩
    · rintro v3 rfl
      rw [nI_s]
      exact ih (c + 1) M1 (by omega) (by rw [hlv]; unfold lv1; rw [if_neg h]) hF
    · refine e8_of (w := 4) rfl (by omega) (by decide) ⟨fun h2 => h60 M1 hF (by rw [hlv]; unfold lv1; rw [if_pos h, if_pos h2]), fun h2 => e8_wl hc8 hS1 (fun M6 f6 => ⟨fun h3 => h60 M6 (hF.tr (FrS.of8 f6)) (by rw [hlv, f6.s]; unfold lv1; rw [if_pos h, if_neg h2, if_pos h3]), fun h3 => ?_⟩)⟩
      rintro M8 rfl
      have e8 : wr M6 75 10 (M6 75 10 * 1103515245 + 12345) 75 = drw (M1 75) := by rw [wr_row, f6.s]; rfl
      have f8 : FrS M (wr M6 75 10 (M6 75 10 * 1103515245 + 12345)) := (hF.tr (FrS.of8 f6)).tr FrS.wr
      generalize wr M6 75 10 (M6 75 10 * 1103515245 + 12345) = M8 at e8 f8 ⊢
      rw [e8]
      refine ⟨fun h4 => h60 M8 f8 (by rw [hlv, e8]; unfold lv1; rw [if_pos h, if_neg h2, if_neg h3]; exact if_pos h4), fun h4 => ⟨fun q => absurd q (by decide), fun _ => ?_⟩⟩
      refine e8_sets' (w := 5) rfl (by omega) (by decide) (fun M13 h13 f13 => e8_of (w := 2) rfl (by omega) (by decide) (e8_sets' (w := 6) rfl (by omega) (by decide) (fun M17 h17 f17 => ?_)))
      rintro v19 rfl
      rw [nI_s]
      refine ih (c + 1) M17 (by omega) ?_ (f8.tr ((FrS.of5 f13).tr (FrS.of5 f17)))
      rw [h17, h13, goO_e, e8, hlv]
      unfold lv1
      rw [if_pos h, if_neg h2, if_neg h3]
      exact (if_neg h4).symm
theorem e8_comeThere {K : Mm → Int32 → Prop} (hS : SOK (M 75)) (hK : ∀ M' : Mm, M' 75 = cmK (M 75) (nCo (M 75)) → FrS M M' → K M' (cbK (M 75) (nCo (M 75)))) : wp_X8_comeThere n M K := by
  obtain ⟨hz, h0⟩ := hS.co
  have h01 : ∀ c : Nat, cbK (M 75) c = 0 ∨ cbK (M 75) c = 1 := by
    intro c
    induction c with
    | zero => exact Or.inl rfl
    | succ c ih =>
      unfold cbK cmb
      repeat' split
      all_goals first | exact Or.inr rfl | exact ih
  refine ⟨nCo (M 75) + 1, ?_⟩
  suffices h : ∀ (j c : Nat) (M1 : Mm), c + j = nCo (M 75) → M1 75 = cmK (M 75) c → FrS M M1 → wl_X8_comeThere_4 n K (j + 1) M1 (cbK (M 75) c) (nI c) by
    exact h _ 0 M (by omega) rfl (FrS.rf M)
  intro j
  induction j with
  | zero =>
    intro c M1 hc h1 hF
    have hcz : c = nCo (M 75) := by omega
    rw [wl_X8_comeThere_4]
    have e0 : M1 75 0 = nI (nCo (M 75)) := by rw [h1, (kp_cmK c (by omega)).1]; exact h0
    refine ⟨fun _ => ⟨h01 c, by rw [hcz]; exact hK M1 (by rw [h1, hcz]) hF⟩, fun h => absurd (by rw [e0, hcz]; exact nI_le (Nat.le_refl _) (by omega)) h⟩
  | succ j ih =>
    intro c M1 hc h1 hF
    have hc8 : c < 8 := by omega
    have k1 : Kp (M 75) (M1 75) := by rw [h1]; exact kp_cmK c (by omega)
    have hS1 : SOK (M1 75) := hS.kp k1
    have e0 : M1 75 0 = nI (nCo (M 75)) := by rw [k1.1]; exact h0
    have hlv : cmK (M 75) (c + 1) = cm1 (M1 75) c := by rw [cmK, ← h1]
    have hlb : cbK (M 75) (c + 1) = cmb (M1 75) c (cbK (M 75) c) := by rw [cbK, ← h1]
    rw [wl_X8_comeThere_4]
    refine ⟨fun h => absurd h (by rw [e0]; exact nI_ge (by omega) (by omega)), fun _ => e8_of (w := 5) rfl (by omega) (by decide) ⟨fun h => ?_, fun h => ?_⟩⟩
    · rintro v3 rfl
      rw [nI_s]
      have hx := ih (c + 1) M1 (by omega) (by rw [hlv]; unfold cm1; rw [if_neg h]) hF
      rw [hlb] at hx
      unfold cmb at hx
      rw [if_neg h] at hx
      exact hx
    · refine e8_of (w := 6) rfl (by omega) (by decide) (e8_sets' (w := 6) rfl (by omega) (by decide) (fun M6 h6 f6 => e8_of (w := 6) rfl (by omega) (by decide) ⟨fun h2 => ?_, fun h2 => ?_⟩))
      · have h6 : M6 75 = les (M1 75) c := h6
        rw [h6] at h2
        rintro v10 rfl
        rw [nI_s]
        have hx := ih (c + 1) M6 (by omega) (by rw [hlv, h6]; unfold cm1; rw [if_pos h, if_neg h2]) (hF.tr (FrS.of5 f6))
        rw [hlb] at hx
        unfold cmb at hx
        rw [if_pos h, if_neg h2] at hx
        exact hx
      · have h6 : M6 75 = les (M1 75) c := h6
        rw [h6] at h2
        refine e8_isThere hc8 (by rw [h6]; exact hS1.kp (kp_les hc8)) (fun M11 h11 f11 => ?_)
        rintro v13 rfl
        rw [nI_s]
        have hx := ih (c + 1) M11 (by omega) (by rw [hlv, h11, h6]; unfold cm1; rw [if_pos h, if_pos h2]) ((hF.tr (FrS.of5 f6)).tr f11)
        rw [hlb] at hx
        unfold cmb at hx
        rw [if_pos h, if_pos h2] at hx
        exact hx
theorem e8_waitOrGo {K : Mm → Prop} {B : Nat → Int32} (hS : SOK (M 75)) (hB : ∀ c : Nat, c < nCo (M 75) → M 86 c = B c) (hK : ∀ M' : Mm, M' 75 = wgK B (M 75) (nCo (M 75)) → FrS M M' → K M') : wp_X8_waitOrGo n M K := by
  obtain ⟨hz, h0⟩ := hS.co
  refine ⟨nCo (M 75) + 1, ?_⟩
  suffices h : ∀ (j c : Nat) (M1 : Mm), c + j = nCo (M 75) → M1 75 = wgK B (M 75) c → FrS M M1 → wl_X8_waitOrGo_2 n K (j + 1) M1 (nI c) by
    exact h _ 0 M (by omega) rfl (FrS.rf M)
  intro j
  induction j with
  | zero =>
    intro c M1 hc h1 hF
    have hcz : c = nCo (M 75) := by omega
    rw [wl_X8_waitOrGo_2]
    have e0 : M1 75 0 = nI (nCo (M 75)) := by rw [h1, (kp_wgK c (by omega)).1]; exact h0
    refine ⟨fun _ => hK M1 (by rw [h1, hcz]) hF, fun h => absurd (by rw [e0, hcz]; exact nI_le (Nat.le_refl _) (by omega)) h⟩
  | succ j ih =>
    intro c M1 hc h1 hF
    have hc8 : c < 8 := by omega
    have k1 : Kp (M 75) (M1 75) := by rw [h1]; exact kp_wgK c (by omega)
    have hS1 : SOK (M1 75) := hS.kp k1
    have e0 : M1 75 0 = nI (nCo (M 75)) := by rw [k1.1]; exact h0
    have hlv : wgK B (M 75) (c + 1) = hm1 B (wt1 B (M1 75) c) c := by rw [wgK, ← h1]
    have hcl : (nI c).toNatClampNeg = c := nI_clamp (by omega)
    have hBc : ∀ M4 : Mm, FrS M M4 → M4 86 c = B c := fun M4 f4 => by rw [f4 86 (by decide) (by decide) (by decide)]; exact hB c (by omega)
    have h67 : ∀ M4 : Mm, FrS M M4 → M4 75 = wt1 B (M1 75) c → wb_X8_waitOrGo_67 n (fun M x1 => wl_X8_waitOrGo_2 n K (j + 1) M x1) K M4 (nI c) := by
      intro M4 f4 e4
      have hlv : wgK B (M 75) (c + 1) = hm1 B (M4 75) c := by rw [e4]; exact hlv
      refine ⟨in8 hc8, ?_⟩
      rw [hcl, hBc M4 f4]
      refine ⟨fun h => ?_, fun h => ?_⟩
      · rintro v12 rfl
        rw [nI_s]
        exact ih (c + 1) M4 (by omega) (by rw [hlv]; unfold hm1; rw [if_neg h]) f4
      · refine e8_of (w := 6) rfl (by omega) (by decide) (e8_sets' (w := 6) rfl (by omega) (by decide) (fun M15 h15 f15 => e8_of (w := 6) rfl (by omega) (by decide) ⟨fun h2 => ?_, fun h2 => ?_⟩))
        · have h15 : M15 75 = les (M4 75) c := h15
          rw [h15] at h2
          rintro v19 rfl
          rw [nI_s]
          exact ih (c + 1) M15 (by omega) (by rw [hlv, h15]; unfold hm1; rw [if_pos h, if_neg h2]) (f4.tr (FrS.of5 f15))
        · have h15 : M15 75 = les (M4 75) c := h15
          rw [h15] at h2
          refine e8_sets' (w := 5) rfl (by omega) (by decide) (fun M20 h20 f20 => e8_sets' (w := 8) rfl (by omega) (by decide) (fun M22 h22 f22 => ?_))
          rintro v24 rfl
          rw [nI_s]
          exact ih (c + 1) M22 (by omega) (by rw [hlv, h22, h20, h15]; unfold hm1; rw [if_pos h, if_pos h2]) ((f4.tr (FrS.of5 f15)).tr ((FrS.of5 f20).tr (FrS.of5 f22)))
    rw [wl_X8_waitOrGo_2]
    refine ⟨fun h => absurd h (by rw [e0]; exact nI_ge (by omega) (by omega)), fun _ => ⟨in8 hc8, ?_⟩⟩
    rw [hcl, hBc M1 hF]
    refine ⟨fun h => h67 M1 hF (by unfold wt1; rw [if_neg h]), fun h => e8_more' (w := 7) rfl (by omega) (by decide) (fun M2 h2 f2 => ?_)⟩
    rintro M3 rfl
    have e3 : wr M2 75 9 (M2 75 9 + 1) 75 = wai (M1 75) c := by rw [wr_row, h2]; rfl
    have f3 : FrS M (wr M2 75 9 (M2 75 9 + 1)) := (hF.tr (FrS.of5 f2)).tr FrS.wr
    generalize wr M2 75 9 (M2 75 9 + 1) = M3 at e3 f3 ⊢
    have hS3 : SOK (M3 75) := by rw [e3]; exact hS1.kp (kp_wai hc8)
    refine e8_of (w := 7) rfl (by omega) (by decide) (e8_stays hc8 hS3 (fun M6 f6 => ⟨fun h4 => ?_, fun h4 => ?_⟩))
    · rw [e3] at h4
      exact h67 M6 (f3.tr (FrS.of8 f6)) (by rw [f6.s, e3]; unfold wt1; rw [if_pos h, if_pos h4])
    · rw [e3] at h4
      refine e8_goesBack hc8 (fun M8 h8 f8 => e8_more' (w := 10) rfl (by omega) (by decide) (fun M10 h10 f10 => h67 M10 ((f3.tr (FrS.of8 f6)).tr ((FrS.of5 f8).tr (FrS.of5 f10))) ?_))
      rw [h10, h8, f6.s, e3]
      unfold wt1
      rw [if_pos h, if_neg h4]
      rfl
end M8o
