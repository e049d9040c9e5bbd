def FrG (M M' : Mm) : Prop := ∀ i : Nat, i ≠ 74 → i ≠ 75 → i ≠ 86 → i ≠ 89 → i ≠ 90 → M' i = M i
theorem FrG.rf (M : Mm) : FrG M M := fun _ _ _ _ _ _ => rfl
theorem FrG.tr {A B C : Mm} (h : FrG A B) (g : FrG B C) : FrG A C := fun i a b c d e => (g i a b c d e).trans (h i a b c d e)
theorem FrG.ofS {A B : Mm} (h : FrS A B) : FrG A B := fun i _ b _ d e => h i b d e
theorem FrG.of5 {A B : Mm} (h : ∀ i : Nat, i ≠ 75 → B i = A i) : FrG A B := fun i _ b _ _ _ => h i b
theorem FrG.w75 {A : Mm} {k : Nat} {x : Int32} : FrG A (wr A 75 k x) := fun i _ b _ _ _ => wr_oth b
theorem FrG.w74 {A : Mm} {k : Nat} {x : Int32} : FrG A (wr A 74 k x) := fun i a _ _ _ _ => wr_oth a
theorem FrG.w86 {A : Mm} {k : Nat} {x : Int32} : FrG A (wr A 86 k x) := fun i _ _ c _ _ => wr_oth c
section M8p
variable {n : Nat} {M : Mm}
theorem e8_eod {K : Mm → Prop} (hz : nCo (M 75) ≤ 8) (h0 : M 75 0 = nI (nCo (M 75))) (hK : ∀ M' : Mm, M' 75 = eod (M 74 13) (M 75) → (∀ i : Nat, i ≠ 75 → M' i = M i) → K M') : wb_X8_goesOn_163 n K M := by
  rintro M16 rfl
  have e16 : wr M 75 2 (M 75 2 + 1) 75 = mnt (M 75) := wr_row _ _ _ _
  have f16 : ∀ i : Nat, i ≠ 75 → wr M 75 2 (M 75 2 + 1) i = M i := fun i hi => wr_oth hi
  generalize wr M 75 2 (M 75 2 + 1) = M16 at e16 f16 ⊢
  have k16 : Kp (M 75) (mnt (M 75)) := kp_mnt
  refine ⟨nCo (M 75) + 1, ?_⟩
  by_cases hd : jrem (mnt (M 75) 2) 1440 = 0
  · have he : eod (M 74 13) (M 75) = wnK (M 74 13) (mnt (M 75)) (nCo (M 75)) := by unfold eod; rw [if_pos hd]
    suffices h : ∀ (j c : Nat) (M1 : Mm), c + j = nCo (M 75) → M1 75 = wnK (M 74 13) (mnt (M 75)) c → (∀ i : Nat, i ≠ 75 → M1 i = M i) → wl_X8_goesOn_175 n K (j + 1) M1 (nI c) by
      exact h _ 0 M16 (by omega) e16 f16
    intro j
    induction j with
    | zero =>
      intro c M1 hc h1 hF
      have hcz : c = nCo (M 75) := by omega
      have e0 : M1 75 0 = nI (nCo (M 75)) := by rw [h1, (k16.tr (kp_wnK c (by omega))).1]; exact h0
      rw [wl_X8_goesOn_175]
      exact ⟨fun _ => hK M1 (by rw [h1, hcz, he]) hF, fun h => absurd (by rw [e0, hcz]; exact nI_le (Nat.le_refl _) (by omega)) h⟩
    | succ j ih =>
      intro c M1 hc h1 hF
      have hc8 : c < 8 := by omega
      have e0 : M1 75 0 = nI (nCo (M 75)) := by rw [h1, (k16.tr (kp_wnK c (by omega))).1]; exact h0
      have e2 : ∀ c : Nat, wnK (M 74 13) (mnt (M 75)) c 2 = mnt (M 75) 2 := by
        intro c
        induction c with
        | zero => rfl
        | succ c ihc => rw [wnK, wnt, pk_un (Ne.symm (cx_lo (by decide)))]; exact ihc
      have e74 : M1 74 = M 74 := hF 74 (by decide)
      have hlv : wnK (M 74 13) (mnt (M 75)) (c + 1) = wnt (M 74 13) (M1 75) c := by rw [wnK, ← h1]
      have h220 : (M 74 13 < 0 ∨ M 74 13 = nI c) → wb_X8_goesOn_220 n (fun M x3 => wl_X8_goesOn_175 n K (j + 1) M x3) K M1 (nI c) 4 (nI c) := by
        intro ho
        refine e8_of (w := 3) rfl (by omega) (by decide) (e8_sets' (w := 4) rfl (by omega) (by decide) (fun M20 h20 f20 => ?_))
        rintro v22 rfl
        rw [nI_s]
        exact ih (c + 1) M20 (by omega) (by rw [h20, hlv]; unfold wnt; rw [if_pos ho]) (fun i hi => (f20 i hi).trans (hF i hi))
      rw [wl_X8_goesOn_175]
      refine ⟨fun h => absurd h (by rw [e0]; exact nI_ge (by omega) (by omega)), fun _ => ⟨fun h => absurd (by rw [h1, e2]; exact hd) h, fun _ => ?_⟩⟩
      rw [e74]
      refine ⟨fun h => h220 (Or.inl h), fun h => ⟨fun h2 => h220 (Or.inr h2), fun h2 => ?_⟩⟩
      refine e8_sets' (w := 4) rfl (by omega) (by decide) (fun M20 h20 f20 => ?_)
      rintro v22 rfl
      rw [nI_s]
      exact ih (c + 1) M20 (by omega) (by rw [h20, hlv]; unfold wnt; rw [if_neg (fun q => q.elim h h2)]) (fun i hi => (f20 i hi).trans (hF i hi))
  · have he : eod (M 74 13) (M 75) = mnt (M 75) := by unfold eod; rw [if_neg hd]
    rw [wl_X8_goesOn_175]
    exact ⟨fun _ => hK M16 (by rw [e16, he]) f16, fun _ => ⟨fun _ => hK M16 (by rw [e16, he]) f16, fun h => absurd (by rw [e16] at h; exact h) hd⟩⟩
theorem e8_qui {K : Mm → Prop} {came : Int32} {st : Nat} {b : Int32} (hb : b = bi (¬ st = 0)) (hz : nCo (M 75) ≤ 8) (h0 : M 75 0 = nI (nCo (M 75))) (hK : ∀ M' : Mm, M' 75 = eod (M 74 13) (qui (M 75) came st) → M' 74 = upd (M 74) 14 (M 74 14 + b) → (∀ i : Nat, i ≠ 75 → i ≠ 74 → M' i = M i) → K M') : wb_X8_goesOn_55 n K M came b := by
  have hfin : ∀ (M4 : Mm), M4 75 = qui (M 75) came st → M4 74 = upd (M 74) 14 (M 74 14 + b) → (∀ i : Nat, i ≠ 75 → i ≠ 74 → M4 i = M i) → wb_X8_goesOn_163 n K M4 := by
    intro M4 h5 h4 hf
    have kq : Kp (M 75) (M4 75) := by rw [h5]; exact kp_qui
    refine e8_eod (by rw [kq.co]; exact hz) (by rw [kq.1, kq.co]; exact h0) (fun M' h' f' => hK M' ?_ ?_ (fun i a c => (f' i a).trans (hf i a c)))
    · rw [h', h5, h4, pk_un (by decide)]
    · rw [f' 74 (by decide), h4]
  have h70 : wb_X8_goesOn_70 n K M came b b (M 74 14) := by
    rintro M13 rfl
    have e75 : wr M 74 14 (M 74 14 + b) 75 = M 75 := wr_oth (by decide)
    have e74 : wr M 74 14 (M 74 14 + b) 74 = upd (M 74) 14 (M 74 14 + b) := wr_row _ _ _ _
    have ef : ∀ i : Nat, i ≠ 74 → wr M 74 14 (M 74 14 + b) i = M i := fun i hi => wr_oth hi
    generalize wr M 74 14 (M 74 14 + b) = M13 at e75 e74 ef ⊢
    have hno : ¬ (came = 0 ∧ st = 0) → wb_X8_goesOn_88 n K M13 came b 8 := by
      intro h
      refine ⟨inS (by decide), ?_⟩
      rintro M14 rfl
      have hq : qui (M 75) came st = upd (M 75) 8 0 := by unfold qui; rw [if_neg h]
      have hgo : wb_X8_goesOn_163 n K (wr M13 75 (8 : Int32).toNatClampNeg 0) := hfin _ (by rw [show (8 : Int32).toNatClampNeg = 8 from rfl, wr_row, e75, hq]) (by rw [wr_oth (by decide), e74]) (fun i a c => by rw [wr_oth a]; exact ef i c)
      refine ⟨fun _ => hgo, fun hc => ⟨fun _ => hgo, fun hb0 => ?_⟩⟩
      exact absurd ⟨hc, by
        rcases Nat.eq_zero_or_pos st with z | z
        · exact z
        · rw [hb, bi_t (by omega)] at hb0; exact absurd hb0 (by decide)⟩ h
    refine ⟨fun h => hno (fun q => h q.1), fun h => ⟨fun h2 => ?_, fun h2 => hno (fun q => h2 (by rw [hb, bi_f (fun z => z q.2)]))⟩⟩
    have hst : st = 0 := by
      rcases Nat.eq_zero_or_pos st with z | z
      · exact z
      · rw [hb, bi_t (by omega)] at h2; exact absurd h2 (by decide)
    refine ⟨inS (by decide), ?_⟩
    rintro M14 rfl
    rw [show (8 : Int32).toNatClampNeg = 8 from rfl]
    have a75 : wr M13 75 8 (M13 75 8 + 1) 75 = upd (M 75) 8 (M 75 8 + 1) := by rw [wr_row, e75]
    have a74 : wr M13 75 8 (M13 75 8 + 1) 74 = upd (M 74) 14 (M 74 14 + b) := by rw [wr_oth (by decide), e74]
    have af : ∀ i : Nat, i ≠ 75 → i ≠ 74 → wr M13 75 8 (M13 75 8 + 1) i = M i := fun i a c => by rw [wr_oth a]; exact ef i c
    generalize wr M13 75 8 (M13 75 8 + 1) = M14 at a75 a74 af ⊢
    refine ⟨fun q => absurd h q, fun _ => ⟨fun q => absurd h2 q, fun _ => ?_⟩⟩
    rw [a75, pk_us, pk_un (by decide)]
    refine ⟨fun q => hfin M14 (by rw [a75]; unfold qui; rw [if_pos ⟨h, hst⟩, if_pos q]) a74 af, fun q => ?_⟩
    rintro M15 rfl
    have b75 : wr M14 75 8 0 75 = upd (M 75) 8 0 := by rw [wr_row, a75, upd_upd]
    have b74 : wr M14 75 8 0 74 = upd (M 74) 14 (M 74 14 + b) := by rw [wr_oth (by decide), a74]
    have bf : ∀ i : Nat, i ≠ 75 → i ≠ 74 → wr M14 75 8 0 i = M i := fun i a c => by rw [wr_oth a]; exact af i a c
    generalize wr M14 75 8 0 = M15 at b75 b74 bf ⊢
    have hq : qui (M 75) came st = upd (upd (M 75) 8 0) 5 (M 75 5 + bi (¬ M 75 4 ≤ M 75 5)) := by unfold qui; rw [if_pos ⟨h, hst⟩, if_neg q]
    rw [b75, pk_un (by decide), pk_un (by decide)]
    refine ⟨fun w => ⟨inS (by decide), ?_⟩, fun w => ⟨inS (by decide), ?_⟩⟩
    · rintro M17 rfl
      refine hfin _ ?_ (by rw [wr_oth (by decide), b74]) (fun i a c => by rw [wr_oth a]; exact bf i a c)
      rw [show (5 : Int32).toNatClampNeg = 5 from rfl, wr_row, b75, hq, bi_f (fun z => z w)]
    · rintro M17 rfl
      refine hfin _ ?_ (by rw [wr_oth (by decide), b74]) (fun i a c => by rw [wr_oth a]; exact bf i a c)
      rw [show (5 : Int32).toNatClampNeg = 5 from rfl, wr_row, b75, hq, bi_t w]
  rcases bi_01 (¬ st = 0) with q | q
  · rw [hb, q] at h70 ⊢
    exact ⟨fun _ => h70, fun h => absurd rfl h⟩
  · rw [hb, q] at h70 ⊢
    exact ⟨fun h => absurd h (by decide), fun _ => h70⟩
theorem e8_goesOn {K : Mm → Prop} (hS : SOK (M 75)) (hK : ∀ M' : Mm, M' 75 = mi1 (M 74 13) (M 75) → M' 74 = upd (M 74) 14 (M 74 14 + msb (M 75)) → FrG M M' → K M') : wp_X8_goesOn n M K := by
  obtain ⟨hz, h0⟩ := hS.co
  refine ⟨nCo (M 75) + 1, ?_⟩
  suffices h : ∀ (j c : Nat) (M1 : Mm), c + j = nCo (M 75) → M1 75 = M 75 → M1 74 = M 74 → FrG M M1 → (∀ q : Nat, q < c → M1 86 q = M 75 (cx q 5)) → wl_X8_goesOn_2 n K (j + 1) M1 (nI c) by
    exact h _ 0 M (by omega) rfl rfl (FrG.rf M) (fun q hq => absurd hq (by omega))
  intro j
  induction j with
  | zero =>
    intro c M1 hc h5 h4 hF h86
    have hcz : c = nCo (M 75) := by omega
    subst hcz
    rw [wl_X8_goesOn_2]
    refine ⟨fun _ => ?_, fun h => absurd (by rw [h5, h0]; exact nI_le (Nat.le_refl _) (by omega)) h⟩
    refine e8_leaveHome (by rw [h5]; exact hS) (fun M2 h2 f2 => ?_)
    rw [h5] at h2
    have k2 : Kp (M 75) (M2 75) := by rw [h2]; exact kp_lvK _ hz
    refine e8_comeThere (hS.kp k2) (fun M3 h3 f3 => ?_)
    rw [k2.co] at h3 ⊢
    have e3 : M3 75 = pt1 (M 75) := by rw [h3, h2]; rfl
    have k3 : Kp (M 75) (M3 75) := by rw [e3]; exact kp_pt1 hz
    have f23 : FrS M1 M3 := f2.tr f3
    refine e8_waitOrGo (B := fun c => M 75 (cx c 5)) (hS.kp k3) (fun q hq => ?_) (fun M5 hm5 f5 => ?_)
    · rw [f23 86 (by decide) (by decide) (by decide)]
      exact h86 q (by rw [k3.co] at hq; exact hq)
    · rw [k3.co, e3] at hm5
      have e5 : M5 75 = pt2 (M 75) := hm5
      have k5 : Kp (M 75) (M5 75) := by rw [e5]; exact kp_pt2 hz
      have f15 : FrS M1 M5 := f23.tr f5
      have e74 : M5 74 = M 74 := by rw [f15 74 (by decide) (by decide) (by decide), h4]
      have hcn := cnt_le (M5 75) (nCo (M 75))
      have hend : wb_X8_goesOn_55 n K M5 (cbK (lvK (M 75) (nCo (M 75))) (nCo (M 75))) (bi (¬ cnt (M5 75) (nCo (M 75)) = 0)) := by
        refine e8_qui rfl (by rw [k5.co]; exact hz) (by rw [k5.1, k5.co]; exact h0) (fun M' a b f' => hK M' ?_ ?_ (hF.tr ((FrG.ofS f15).tr (fun i x1 x2 _ _ _ => f' i x2 x1))))
        · rw [a, e74, e5]; rfl
        · rw [b, e74, e5]; rfl
      refine e8_standing (z := nCo (M 75)) hz (by rw [k5.1]; exact h0) ?_
      rw [h2]
      refine ⟨fun q => ?_, fun q => ?_⟩
      · have : cnt (M5 75) (nCo (M 75)) = 0 := by
          rcases Nat.eq_zero_or_pos (cnt (M5 75) (nCo (M 75))) with z | z
          · exact z
          · exact absurd q (nI_nle z (by omega))
        rw [bi_f (fun z => z this)] at hend
        exact hend
      · have : ¬ cnt (M5 75) (nCo (M 75)) = 0 := fun z => q (by rw [z]; decide)
        rw [bi_t this] at hend
        exact hend
  | succ j ih =>
    intro c M1 hc h5 h4 hF h86
    rw [wl_X8_goesOn_2]
    refine ⟨fun h => absurd h (by rw [h5, h0]; exact nI_ge (by omega) (by omega)), fun _ => e8_of (w := 5) rfl (by omega) (by decide) ⟨in8 (by omega), ?_⟩⟩
    rintro M11 rfl v12 rfl
    rw [nI_s, nI_clamp (by omega)]
    refine ih (c + 1) _ (by omega) (by rw [wr_oth (by decide)]; exact h5) (by rw [wr_oth (by decide)]; exact h4) (hF.tr FrG.w86) (fun q hq => ?_)
    by_cases hqc : q = c
    · subst hqc
      rw [wr_at, h5]
    · rw [wr_idx hqc]
      exact h86 q (by omega)
end M8p
