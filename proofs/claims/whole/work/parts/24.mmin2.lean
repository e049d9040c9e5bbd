section M8n
variable {n : Nat} {M : Mm}
theorem Fr8.rf (M : Mm) : Fr8 M M := fun _ _ _ => rfl
theorem Fr8.s {M M' : Mm} (h : Fr8 M M') : M' 75 = M 75 := h 75 (by decide) (by decide)
theorem plv_01 (S : Sc) (c : Nat) : plv S c = 0 ∨ plv S c = 1 := by unfold plv; split <;> exact bi_01 _
theorem wlv_01 (S : Sc) (c : Nat) : wlv S c = 0 ∨ wlv S c = 1 := by
  unfold wlv
  repeat' split
  all_goals first | exact bi_01 _ | exact plv_01 S c
theorem e8_wl {K : Mm → Int32 → Prop} {c : Nat} (hc : c < 8) (hS : SOK (M 75)) (hK : ∀ M' : Mm, Fr8 M M' → K M' (wlv (M 75) c)) : wp_X8_wouldLeave n M (nI c) K := by
  have hdef : (¬ M 75 (cx c 0) = 1) → (¬ M 75 (cx c 0) = 3) → (¬ M 75 (cx c 0) = 5) → wb_X8_wouldLeave_114 n (nI c) K M := by
    intro h1 h3 h5
    refine e8_plain hc hS (fun M' hF => ⟨plv_01 _ _, ?_⟩)
    have h := hK M' hF
    unfold wlv at h
    rw [if_neg h1, if_neg h3, if_neg h5] at h
    exact h
  refine e8_of (w := 0) rfl (by omega) (by decide) ?_
  refine ⟨fun h => ?_, fun h => hdef (by rw [h]; decide) (by rw [h]; decide) (by rw [h]; decide), fun h => ?_, fun h => hdef (by rw [h]; decide) (by rw [h]; decide) (by rw [h]; decide), fun h => ?_, fun h1 _ h3 _ h5 => hdef h1 h3 h5⟩
  · refine e8_of (w := 8) rfl (by omega) (by decide) (e8_of (w := 1) rfl (by omega) (by decide) ?_)
    have h2 := hK M (Fr8.rf M)
    unfold wlv at h2
    rw [if_pos h] at h2
    exact ⟨fun q => by rw [bi_f (fun z => z q)] at h2; exact h2, fun q => by rw [bi_t q] at h2; exact h2⟩
  · refine e8_of (w := 8) rfl (by omega) (by decide) (e8_of (w := 1) rfl (by omega) (by decide) ?_)
    have h2 := hK M (Fr8.rf M)
    unfold wlv at h2
    rw [if_neg (by rw [h]; decide), if_pos h] at h2
    exact ⟨fun q => by rw [bi_f (fun z => z.1 q)] at h2; exact h2, fun q => ⟨fun r => by rw [bi_f (fun z => z.2 r)] at h2; exact h2, fun r => by rw [bi_t ⟨q, r⟩] at h2; exact h2⟩⟩
  · refine e8_plain hc hS (fun M' hF => ?_)
    have e : wlv (M 75) c = bi (¬ plv (M 75) c = 0 ∧ cnt (M 75) (nCo (M 75)) = 0) := by
      unfold wlv
      rw [if_neg (by rw [h]; decide), if_neg (by rw [h]; decide), if_pos h]
    refine ⟨fun q => ?_, fun q => ?_⟩
    · have h2 := hK M' hF
      rw [e, bi_f (fun z => z.1 q)] at h2
      exact h2
    · obtain ⟨hz, h0⟩ := hS.co
      refine e8_standing (z := nCo (M 75)) hz (by rw [hF.s]; exact h0) ?_
      rw [hF.s]
      have h2 := hK M' hF
      rw [e] at h2
      have hle := cnt_le (M 75) (nCo (M 75))
      refine ⟨fun r => ?_, fun r => ?_⟩
      · rw [bi_f (fun z => r (by rw [z.2]; rfl))] at h2; exact h2
      · rw [bi_t ⟨q, (nI_eq (b := 0) (by omega) (by decide)).mp r⟩] at h2; exact h2
theorem e8_within {K : Mm → Int32 → Prop} {x : Int32} (h : K M (hld x)) : wp_X8_within n M x 99 K := by
  unfold hld at h
  exact ⟨fun a => ⟨fun b => by rw [if_pos a, if_pos b] at h; exact h, fun b => by rw [if_pos a, if_neg b] at h; exact h⟩, fun a => by rw [if_neg a] at h; exact h⟩
theorem e8_stays {K : Mm → Int32 → Prop} {c : Nat} (hc : c < 8) (hS : SOK (M 75)) (hK : ∀ M' : Mm, Fr8 M M' → K M' (stv (M 75) c)) : wp_X8_stays n M (nI c) K := by
  have hend : ∀ (M' : Mm), Fr8 M M' → wb_X8_stays_60 n (nI c) K M' (stg (M 75) c) := by
    intro M' hF
    have h := hK M' hF
    unfold stv at h
    refine e8_of (w := 0) rfl (by omega) (by decide) ?_
    rw [hF.s]
    refine ⟨fun a => ⟨fun b => ?_, fun b => ?_⟩, fun a => ?_⟩
    · rw [if_neg a, if_neg b] at h; exact h
    · refine e8_of (w := 1) rfl (by omega) (by decide) ?_
      rw [hF.s]; rw [if_neg a, if_pos b] at h; exact h
    · refine e8_of (w := 1) rfl (by omega) (by decide) ?_
      rw [hF.s]; rw [if_pos a] at h; exact h
  obtain ⟨hx, e1, hT⟩ := hS.tx
  obtain ⟨hz, h0⟩ := hS.co
  refine e8_counts hx e1 ⟨fun h => ?_, fun h => ?_⟩
  · have e := hend M (Fr8.rf M)
    unfold stg at e
    rw [if_pos h] at e
    exact e
  · refine e8_of (w := 1) rfl (by omega) (by decide) ?_
    rintro M5 rfl M6 rfl
    refine e8_standing (z := nCo (M 75)) hz (by rw [wr_oth (by decide), wr_oth (by decide)]; exact h0) ?_
    rintro M9 rfl
    rcases lastT_cases (M 75) 1 (nTx (M 75)) with hl | ⟨t, ht, hl, hk⟩
    · rw [hl] at h; exact absurd (by decide) h
    · have e75 : ∀ (x y z : Int32), wr (wr (wr M 89 97 x) 89 119 y) 89 110 z 75 = M 75 := fun x y z => by rw [wr_oth (by decide), wr_oth (by decide), wr_oth (by decide)]
      rw [hl]
      refine e8_worked (t := t) (env := envS (M 75) c) (by omega) (by rw [e75]; exact hT t ht) (fun v hv => ?_) (fun M' hM' => ?_)
      · rw [e75, hk] at hv
        simp only [wr_oth (show (75 : Nat) ≠ 89 by decide)]
        rcases hv with ⟨hz, -⟩ | ⟨-, hv | hv | hv⟩ | ⟨hz, -⟩
        · exact absurd hz (by decide)
        · subst hv
          show wr (wr (wr M 89 97 _) 89 119 _) 89 110 _ 89 97 = _
          rw [wr_idx (by decide), wr_idx (by decide), wr_at]
          rfl
        · subst hv
          show wr (wr (wr M 89 97 _) 89 119 _) 89 110 _ 89 119 = _
          rw [wr_idx (by decide), wr_at]
          rfl
        · subst hv
          show wr (wr (wr M 89 97 _) 89 119 _) 89 110 _ 89 110 = _
          rw [wr_at]
          rfl
        · exact absurd hz (by decide)
      · have hF : Fr8 M M' := fun i h1 h2 => by rw [hM' i h2, wr_oth h1, wr_oth h1, wr_oth h1]
        refine e8_within ?_
        have e := hend M' hF
        unfold stg at e
        rw [if_neg h, hl, nI_clamp (by omega)] at e
        rw [e75]
        exact e
theorem e8_goesBack {K : Mm → Prop} {c : Nat} (hc : c < 8) (hK : ∀ M' : Mm, M' 75 = goB (M 75) c → (∀ i : Nat, i ≠ 75 → M' i = M i) → K M') : wp_X8_goesBack n M (nI c) K := by
  refine e8_sets (w := 5) rfl (by omega) (by decide) (e8_of (w := 2) rfl (by omega) (by decide) (e8_sets (w := 6) rfl (by omega) (by decide) (hK _ ?_ ?_)))
  · rw [wr_row, wr_row, pk_un (cx_ne (by decide) (by decide) (Or.inr (by decide)))]
    rfl
  · intro i hi
    rw [wr_oth hi, wr_oth hi]
/-- s and the two scratch rows -/
def FrS (M M' : Mm) : Prop := ∀ i : Nat, i ≠ 75 → i ≠ 89 → i ≠ 90 → M' i = M i
theorem FrS.rf (M : Mm) : FrS M M := fun _ _ _ _ => rfl
theorem FrS.tr {A B C : Mm} (h : FrS A B) (g : FrS B C) : FrS A C := fun i a b c => (g i a b c).trans (h i a b c)
theorem FrS.of8 {A B : Mm} (h : Fr8 A B) : FrS A B := fun i _ b c => h i b c
theorem FrS.of5 {A B : Mm} (h : ∀ i : Nat, i ≠ 75 → B i = A i) : FrS A B := fun i a _ _ => h i a
theorem FrS.wr {A : Mm} {k : Nat} {x : Int32} : FrS A (wr A 75 k x) := fun i a _ _ => wr_oth a
theorem e8_more' {K : Mm → Prop} {c w : Nat} {x : Int32} (hx : x = nI w) (hc : c < 9) (hw : w < 12) (hK : ∀ M' : Mm, M' 75 = upd (M 75) (cx c w) (M 75 (cx c w) + 1) → (∀ i : Nat, i ≠ 75 → M' i = M i) → K M') : wp_X8_more n M (nI c) x K := e8_more hx hc hw (hK _ (wr_row _ _ _ _) (fun _ h => wr_oth h))
theorem e8_sets' {K : Mm → Prop} {c w : Nat} {x v : Int32} (hx : x = nI w) (hc : c < 9) (hw : w < 12) (hK : ∀ M' : Mm, M' 75 = upd (M 75) (cx c w) v → (∀ i : Nat, i ≠ 75 → M' i = M i) → K M') : wp_X8_sets n M (nI c) x v K := e8_sets hx hc hw (hK _ (wr_row _ _ _ _) (fun _ h => wr_oth h))
theorem mn3_e (a b c : Int32) : mn3 a b c = if (if b < a then b else a) ≤ c then (if b < a then b else a) else c := by
  unfold mn3
  generalize (if b < a then b else a) = x
  by_cases h : c < x
  · rw [if_pos h, if_neg (Int32.not_le.mpr h)]
  · rw [if_neg h, if_pos (Int32.not_lt.mp h)]
theorem e8_isThere {K : Mm → Prop} {c : Nat} (hc : c < 8) (hS : SOK (M 75)) (hK : ∀ M' : Mm, M' 75 = arr (M 75) c → FrS M M' → K M') : wp_X8_isThere n M (nI c) K := by
  refine e8_more' (w := 11) rfl (by omega) (by decide) (fun M1 h1 f1 => ?_)
  have k1 : Kp (M 75) (M1 75) := by rw [h1]; exact (Kp.rf _).up cx_1 (cx_108 hc (by decide))
  have hS1 : SOK (M1 75) := hS.kp k1
  obtain ⟨hz, h0⟩ := hS1.co
  have hz9 := cnt_le (M1 75) (nCo (M1 75))
  have h121 : (¬ (cnt (M1 75) (nCo (M1 75)) = 0 ∧ ¬ M1 75 5 ≤ 0)) → wb_X8_isThere_121 n (nI c) K M1 := by
    intro hno
    have e : arr (M 75) c = ar0 (M1 75) c := by
      unfold arr
      rw [← h1]
      unfold ar1
      rw [if_neg hno]
    refine e8_stays hc hS1 (fun M10 f10 => ⟨fun h => ?_, fun h => ?_⟩)
    · refine e8_goesBack hc (fun M12 h12 f12 => e8_more' (w := 10) rfl (by omega) (by decide) (fun M14 h14 f14 => hK M14 ?_ (((FrS.of5 f1).tr (FrS.of8 f10)).tr ((FrS.of5 f12).tr (FrS.of5 f14)))))
      rw [h14, h12, f10.s, e]
      unfold ar0
      rw [if_pos h]
      rfl
    · refine e8_sets' (w := 5) rfl (by omega) (by decide) (fun M12 h12 f12 => e8_sets' (w := 7) rfl (by omega) (by decide) (fun M14 h14 f14 => hK M14 ?_ (((FrS.of5 f1).tr (FrS.of8 f10)).tr ((FrS.of5 f12).tr (FrS.of5 f14)))))
      rw [h14, h12, f10.s, e]
      unfold ar0
      rw [if_neg h]
      rfl
  refine e8_standing (z := nCo (M1 75)) hz h0 ⟨fun h => h121 (fun q => h (by rw [q.1]; rfl)), fun h => ⟨fun h2 => h121 (fun q => q.2 h2), fun h2 => ?_⟩⟩
  have hc0 : cnt (M1 75) (nCo (M1 75)) = 0 := (nI_eq (b := 0) (by omega) (by decide)).mp h
  have e : arr (M 75) c = tke (M1 75) c (mn3 (M1 75 6) (M1 75 (cx c 4)) (M1 75 5)) := by
    unfold arr
    rw [← h1]
    unfold ar1
    rw [if_pos ⟨hc0, h2⟩]
  have h72 : ∀ k : Int32, k = mn3 (M1 75 6) (M1 75 (cx c 4)) (M1 75 5) → wb_X8_isThere_72 n (nI c) K M1 k := by
    intro k hk
    rintro M20 rfl
    refine e8_of (w := 4) rfl (by omega) (by decide) (e8_sets' (w := 4) rfl (by omega) (by decide) (fun M23 h23 f23 => e8_of (w := 9) rfl (by omega) (by decide) (e8_sets' (w := 9) rfl (by omega) (by decide) (fun M27 h27 f27 => e8_goesBack hc (fun M29 h29 f29 => hK M29 ?_ (((FrS.of5 f1).tr FrS.wr).tr (((FrS.of5 f23).tr (FrS.of5 f27)).tr (FrS.of5 f29))))))))
    rw [h29, h27, h23, wr_row, e, ← hk]
    unfold tke
    rw [pk_un (cx_lo (by decide)), pk_un (cx_ne (by decide) (by decide) (Or.inr (by decide))), pk_un (cx_lo (by decide))]
  have h51 : ∀ k : Int32, k = (if M1 75 (cx c 4) < M1 75 6 then M1 75 (cx c 4) else M1 75 6) → wb_X8_isThere_51 n (nI c) K M1 k := by
    intro k hk
    have hm := mn3_e (M1 75 6) (M1 75 (cx c 4)) (M1 75 5)
    rw [← hk] at hm
    exact ⟨fun q => h72 _ (by rw [hm, if_pos q]), fun q => h72 _ (by rw [hm, if_neg q])⟩
  rintro v5 rfl
  refine e8_of (w := 4) rfl (by omega) (by decide) ⟨fun q => h51 _ (by rw [if_neg (Int32.not_lt.mpr q)]), fun q => e8_of (w := 4) rfl (by omega) (by decide) (h51 _ (by rw [if_pos (Int32.not_le.mp q)]))⟩
end M8n
