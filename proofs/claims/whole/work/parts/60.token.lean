/-! tokens: what class and reference both read -/
def skp (B : Nat → Int32) (s : Nat) : Nat → Nat → Nat
  | 0, p => p
  | f + 1, p => if p < s ∧ B p = 32 then skp B s f (p + 1) else p
def srt (B : Nat → Int32) (s p : Nat) : Nat := if p < s then (if 97 ≤ B p ∧ B p ≤ 122 then 1 else if 48 ≤ B p ∧ B p ≤ 57 then 2 else 3) else 0
def rnn (B : Nat → Int32) (s q : Nat) : Nat → Nat → Nat
  | 0, p => p
  | f + 1, p => if p < s ∧ srt B s p = q then rnn B s q f (p + 1) else p
/-- place, end, sort of the next token -/
def nxP (B : Nat → Int32) (s en : Nat) : Nat := skp B s (s - en) en
def nxE (B : Nat → Int32) (s en : Nat) : Nat := if srt B s (nxP B s en) = 0 then nxP B s en else if srt B s (nxP B s en) = 3 then nxP B s en + 1 else rnn B s (srt B s (nxP B s en)) (s - (nxP B s en + 1)) (nxP B s en + 1)
def nxS (B : Nat → Int32) (s en so : Nat) : Nat := if srt B s (nxP B s en) = 0 ∨ srt B s (nxP B s en) = 3 then srt B s (nxP B s en) else if ((so = 1 ∨ so = 2) ∧ nxP B s en = en) ∨ (srt B s (nxP B s en) = 2 ∧ ¬ nxE B s en - nxP B s en ≤ 4) then 4 else srt B s (nxP B s en)
theorem skp_le {B : Nat → Int32} {s : Nat} : ∀ f p : Nat, p + f = s → p ≤ skp B s f p ∧ skp B s f p ≤ s ∧ (skp B s f p < s → ¬ B (skp B s f p) = 32)
  | 0, p, h => ⟨Nat.le_refl _, by unfold skp; omega, fun q => by unfold skp at q; omega⟩
  | f + 1, p, h => by
    unfold skp
    split
    · have := skp_le (B := B) (s := s) f (p + 1) (by omega)
      exact ⟨by omega, this.2.1, this.2.2⟩
    · rename_i hn
      exact ⟨Nat.le_refl _, by omega, fun q e => hn ⟨q, e⟩⟩
theorem rnn_le {B : Nat → Int32} {s q : Nat} : ∀ f p : Nat, p + f = s → p ≤ rnn B s q f p ∧ rnn B s q f p ≤ s
  | 0, p, h => ⟨Nat.le_refl _, by unfold rnn; omega⟩
  | f + 1, p, h => by
    unfold rnn
    split
    · have := rnn_le (B := B) (s := s) (q := q) f (p + 1) (by omega)
      exact ⟨by omega, this.2⟩
    · exact ⟨Nat.le_refl _, by omega⟩
theorem srt_4 (B : Nat → Int32) (s p : Nat) : srt B s p ≤ 3 ∧ (srt B s p = 0 ↔ ¬ p < s) := by
  unfold srt
  split
  · rename_i h
    split
    · exact ⟨by decide, by omega⟩
    · split
      · exact ⟨by decide, by omega⟩
      · exact ⟨by decide, by omega⟩
  · rename_i h
    exact ⟨by decide, by simp [h]⟩
theorem nx_le {B : Nat → Int32} {s en : Nat} (so : Nat) (h : en ≤ s) : en ≤ nxP B s en ∧ nxP B s en ≤ nxE B s en ∧ nxE B s en ≤ s ∧ nxS B s en so ≤ 4 ∧ (nxS B s en so = 0 → nxE B s en = s ∧ nxP B s en = s) ∧ (¬ nxS B s en so = 0 → nxP B s en < nxE B s en) := by
  have hp := skp_le (B := B) (s := s) (s - en) en (by omega)
  have h4 := srt_4 B s (nxP B s en)
  have hP : nxP B s en = skp B s (s - en) en := rfl
  rw [← hP] at hp
  have hS : nxS B s en so = 0 → srt B s (nxP B s en) = 0 := by
    unfold nxS
    split
    · exact id
    · split
      · intro q; exact absurd q (by decide)
      · exact id
  have hS4 : nxS B s en so ≤ 4 := by
    unfold nxS
    split
    · omega
    · split
      · exact Nat.le_refl _
      · omega
  by_cases h0 : srt B s (nxP B s en) = 0
  · have hE : nxE B s en = nxP B s en := by unfold nxE; rw [if_pos h0]
    have hge := h4.2.mp h0
    refine ⟨hp.1, by omega, by omega, hS4, fun _ => by omega, fun q => absurd ?_ q⟩
    unfold nxS; rw [if_pos (Or.inl h0)]; exact h0
  · have hlt : nxP B s en < s := by
      rcases Nat.lt_or_ge (nxP B s en) s with q | q
      · exact q
      · exact absurd (h4.2.mpr (by omega)) h0
    have hE : nxP B s en < nxE B s en ∧ nxE B s en ≤ s := by
      unfold nxE
      rw [if_neg h0]
      split
      · omega
      · have := rnn_le (B := B) (s := s) (q := srt B s (nxP B s en)) (s - (nxP B s en + 1)) (nxP B s en + 1) (by omega)
        omega
    exact ⟨hp.1, by omega, hE.2, hS4, fun q => absurd (hS q) h0, fun _ => hE.1⟩
section TOKC
variable {n : Nat} {M : Mm} {B : Nat → Int32} {s : Nat}
/-- the class's tape -/
def CTp (M : Mm) (B : Nat → Int32) (s : Nat) : Prop := s ≤ 96 ∧ M 38 1 = nI s ∧ ∀ i : Nat, i < s → M 39 i = B i ∧ bd (B i) 255
def atv (B : Nat → Int32) (s p : Nat) : Int32 := if p < s then B p else -1
theorem e2_at {K : Mm → Int32 → Prop} {p : Nat} (hT : CTp M B s) (hp : p < 1000) (hK : K M (atv B s p)) : wp_X2_at n M 38 (nI p) K := by
  obtain ⟨h96, h1, h2⟩ := hT
  unfold atv at hK
  refine ⟨rfl, fun h => absurd h (nI_pos (by omega)), fun _ => ?_⟩
  rw [h1, nI_leI (by omega) (by omega)]
  refine ⟨fun h => by rw [if_neg (by omega)] at hK; exact hK, fun h => ⟨fun h' => absurd h' ?_, fun _ => ⟨?_, ?_⟩⟩⟩
  · rw [show Int32.ofNat (tp (38 + 1) - 1000) = nI 96 from by decide]; exact nI_ge (by omega) (by decide)
  · rw [show tp (38 + 1) - 1000 = 96 from by decide]; exact vp_in_nI (by omega) (by decide)
  · rw [if_pos (by omega)] at hK
    rw [nI_clamp (by omega), (h2 p (by omega)).1]; exact hK
theorem e1_sort {K : Mm → Int32 → Prop} {p : Nat} (hT : CTp M B s) (hK : K M (nI (srt B s p))) : wp_X1_sortOf n M (atv B s p) K := by
  obtain ⟨h96, h1, h2⟩ := hT
  unfold srt at hK
  unfold atv
  by_cases h : p < s
  · rw [if_pos h] at hK ⊢
    obtain ⟨b, hb, eb⟩ := (h2 p h).2
    have h20 : wb_X1_sortOf_20 n (B p) K M ∨ (97 ≤ B p ∧ B p ≤ 122) := by
      by_cases h1 : 97 ≤ B p ∧ B p ≤ 122
      · exact Or.inr h1
      · left
        rw [if_neg h1] at hK
        refine ⟨fun q => ?_, fun q => ⟨fun q2 => ?_, fun q2 => ?_⟩⟩
        · rw [if_neg (fun z => Int32.not_le.mpr q z.1)] at hK; exact hK
        · rw [if_neg (fun z => Int32.not_le.mpr q2 z.2)] at hK; exact hK
        · rw [if_pos ⟨Int32.not_lt.mp q, Int32.not_lt.mp q2⟩] at hK; exact hK
    refine ⟨fun _ => ⟨fun q => h20.resolve_right (fun z => Int32.not_le.mpr q z.1), fun q => ⟨fun q2 => h20.resolve_right (fun z => Int32.not_le.mpr q2 z.2), fun q2 => ?_⟩⟩, fun q => absurd (by rw [eb]; exact nI_pos' (by omega)) q⟩
    rw [if_pos ⟨Int32.not_lt.mp q, Int32.not_lt.mp q2⟩] at hK; exact hK
  · rw [if_neg h] at hK ⊢
    exact ⟨fun q => absurd q (by decide), fun _ => hK⟩
/-- only the token's fields -/
def FT (M M' : Mm) : Prop := (∀ i : Nat, i ≠ 37 → M' i = M i) ∧ ∀ q : Nat, q ≠ 2 → q ≠ 3 → q ≠ 4 → M' 37 q = M 37 q
theorem FT.rf (M : Mm) : FT M M := ⟨fun _ _ => rfl, fun _ _ _ _ => rfl⟩
theorem FT.tr {A B C : Mm} (h : FT A B) (g : FT B C) : FT A C := ⟨fun i x => (g.1 i x).trans (h.1 i x), fun q a b c => (g.2 q a b c).trans (h.2 q a b c)⟩
theorem FT.w {M : Mm} {k : Nat} {x : Int32} (h : k = 2 ∨ k = 3 ∨ k = 4) : FT M (wr M 37 k x) := ⟨fun i hi => wr_oth hi, fun q a b c => wr_idx (by omega)⟩
theorem CTp.ft {M M' : Mm} (h : CTp M B s) (f : FT M M') : CTp M' B s := by
  unfold CTp; rw [f.1 38 (by decide), f.1 39 (by decide)]; exact h
theorem e1_next {K : Mm → Prop} {en so : Nat} (hT : CTp M B s) (he : en ≤ s) (hso : so ≤ 4) (h3 : M 37 3 = nI en) (h4 : M 37 4 = nI so) (hK : ∀ M' : Mm, FT M M' → M' 37 2 = nI (nxP B s en) → M' 37 3 = nI (nxE B s en) → M' 37 4 = nI (nxS B s en so) → K M') : wp_X1_next n M K := by
  have h96 := hT.1
  have hn := nx_le (B := B) so he
  have h21 : ∀ x : Int32, (x = 0 ↔ ¬ (so = 1 ∨ so = 2)) → wb_X1_next_21 n K M x := by
    intro x hx
    rintro v1 rfl M2 rfl
    rw [h3]
    refine ⟨s - en + 1, ?_⟩
    suffices h : ∀ (f p : Nat) (M1 : Mm), p + f = s → skp B s f p = nxP B s en → FT M M1 → M1 37 2 = nI p → M1 37 4 = nI so → wl_X1_next_32 n K (f + 1) M1 x (nI en) by
      exact h (s - en) en _ (by omega) rfl (FT.w (by decide)) (wr_at _ _ _ _) (by rw [wr_idx (by decide)]; exact h4)
    have h75 : ∀ M1 : Mm, FT M M1 → M1 37 2 = nI (nxP B s en) → wb_X1_next_75 n K M1 x (nI en) := by
      intro M1 f1 a2
      unfold wb_X1_next_75
      rw [a2]
      refine e2_at (hT.ft f1) (by omega) (e1_sort (hT.ft f1) ?_)
      rintro M10 rfl M11 rfl
      have hs3 := (srt_4 B s (nxP B s en)).1
      have b4 : ∀ y : Int32, wr (wr M1 37 4 (nI (srt B s (nxP B s en)))) 37 3 y 37 4 = nI (srt B s (nxP B s en)) := fun y => by rw [wr_idx (by decide), wr_at]
      have b2 : ∀ y : Int32, wr (wr M1 37 4 (nI (srt B s (nxP B s en)))) 37 3 y 37 2 = nI (nxP B s en) := fun y => by rw [wr_idx (by decide), wr_idx (by decide)]; exact a2
      have eP : wr M1 37 4 (nI (srt B s (nxP B s en))) 37 2 = nI (nxP B s en) := by rw [wr_idx (by decide)]; exact a2
      rw [eP]
      rw [b4]
      have F11 : FT M (wr (wr M1 37 4 (nI (srt B s (nxP B s en)))) 37 3 (nI (nxP B s en))) := f1.tr ((FT.w (by decide)).tr (FT.w (by decide)))
      refine ⟨fun h0 => ?_, fun h0 => ?_⟩
      · rintro M12 rfl
        have h0' : ¬ srt B s (nxP B s en) = 0 := fun e => h0 (by rw [e]; rfl)
        rw [wr_at, nI_s]
        have c4 : wr (wr (wr M1 37 4 (nI (srt B s (nxP B s en)))) 37 3 (nI (nxP B s en))) 37 3 (nI (nxP B s en + 1)) 37 4 = nI (srt B s (nxP B s en)) := by rw [wr_idx (by decide)]; exact b4 _
        rw [c4]
        have F12 : FT M (wr (wr (wr M1 37 4 (nI (srt B s (nxP B s en)))) 37 3 (nI (nxP B s en))) 37 3 (nI (nxP B s en + 1))) := F11.tr (FT.w (by decide))
        have c2 : wr (wr (wr M1 37 4 (nI (srt B s (nxP B s en)))) 37 3 (nI (nxP B s en))) 37 3 (nI (nxP B s en + 1)) 37 2 = nI (nxP B s en) := by rw [wr_idx (by decide)]; exact b2 _
        have c3 : wr (wr (wr M1 37 4 (nI (srt B s (nxP B s en)))) 37 3 (nI (nxP B s en))) 37 3 (nI (nxP B s en + 1)) 37 3 = nI (nxP B s en + 1) := wr_at _ _ _ _
        generalize wr (wr (wr M1 37 4 (nI (srt B s (nxP B s en)))) 37 3 (nI (nxP B s en))) 37 3 (nI (nxP B s en + 1)) = A at F12 c2 c3 c4 ⊢
        refine ⟨fun h3 => ?_, fun h3 => ?_⟩
        · have h3' : ¬ srt B s (nxP B s en) = 3 := fun e => h3 (by rw [e]; rfl)
          have hlt : nxP B s en + 1 ≤ s := by
            have := (srt_4 B s (nxP B s en)).2
            omega
          have eE : nxE B s en = rnn B s (srt B s (nxP B s en)) (s - (nxP B s en + 1)) (nxP B s en + 1) := by unfold nxE; rw [if_neg h0', if_neg h3']
          refine ⟨s - (nxP B s en + 1) + 1, ?_⟩
          have h176 : ∀ M3 : Mm, FT M M3 → M3 37 2 = nI (nxP B s en) → M3 37 3 = nI (nxE B s en) → M3 37 4 = nI (srt B s (nxP B s en)) → wb_X1_next_176 n K M3 x (nI en) := by
            intro M3 f3 d2 d3 d4
            have fin : ∀ M4 : Mm, FT M3 M4 → M4 37 2 = M3 37 2 → M4 37 3 = M3 37 3 → M4 37 4 = nI (nxS B s en so) → K M4 := fun M4 g4 e2 e3 e4 => hK M4 (f3.tr g4) (e2.trans d2) (e3.trans d3) e4
            have w4 : nxS B s en so = 4 → ∀ M4 : Mm, M4 = wr M3 37 4 4 → K M4 := by
              rintro e M4 rfl
              exact fin _ (FT.w (by decide)) (wr_idx (by decide)) (wr_idx (by decide)) (by rw [wr_at, e]; rfl)
            have eS : nxS B s en so = if ((so = 1 ∨ so = 2) ∧ nxP B s en = en) ∨ (srt B s (nxP B s en) = 2 ∧ ¬ nxE B s en - nxP B s en ≤ 4) then 4 else srt B s (nxP B s en) := by unfold nxS; rw [if_neg (by omega)]
            have h193 : ∀ y : Int32, (¬ y = 0 ↔ ((so = 1 ∨ so = 2) ∧ nxP B s en = en)) → wb_X1_next_193 n K M3 y := by
              intro y hy
              refine ⟨fun q => w4 (by rw [eS, if_pos (Or.inl (hy.mp q))]), fun q => ?_⟩
              have hg : ¬ ((so = 1 ∨ so = 2) ∧ nxP B s en = en) := fun z => hy.mpr z q
              rw [d4, d3, d2, show (2 : Int32) = nI 2 from rfl, nI_eq (by omega) (by decide), pk_sub hn.2.1, show (4 : Int32) = nI 4 from rfl, nI_leI (by omega) (by decide)]
              refine ⟨fun q2 => fin M3 (FT.rf M3) rfl rfl ?_, fun q2 => ⟨fun q3 => fin M3 (FT.rf M3) rfl rfl ?_, fun q3 => w4 (by rw [eS, if_pos (Or.inr ⟨q2, q3⟩)])⟩⟩
              · rw [d4, eS, if_neg (by rintro (z | z); exact hg z; exact q2 z.1)]
              · rw [d4, eS, if_neg (by rintro (z | z); exact hg z; exact z.2 q3)]
            refine ⟨fun q => h193 0 ⟨fun z => absurd rfl z, fun z => absurd z.1 (hx.mp q)⟩, fun q => ?_⟩
            have hso1 : so = 1 ∨ so = 2 := Classical.byContradiction (fun z => q (hx.mpr z))
            rw [d2, nI_eq (by omega) (by omega)]
            exact ⟨fun z => h193 0 ⟨fun w => absurd rfl w, fun w => absurd w.2 z⟩, fun z => h193 1 ⟨fun _ => ⟨hso1, z⟩, fun _ => i1⟩⟩
          suffices h : ∀ (f e : Nat) (M3 : Mm), e + f = s → rnn B s (srt B s (nxP B s en)) f e = nxE B s en → FT M M3 → M3 37 2 = nI (nxP B s en) → M3 37 3 = nI e → M3 37 4 = nI (srt B s (nxP B s en)) → wl_X1_next_128 n K (f + 1) M3 x (nI en) by
            exact h _ _ A (by omega) eE.symm F12 c2 c3 c4
          intro f
          induction f with
          | zero =>
            intro e M3 hes hr f3 d2 d3 d4
            rw [wl_X1_next_128, d3, (hT.ft f3).2.1]
            have : e = nxE B s en := hr
            refine ⟨fun _ => h176 M3 f3 d2 (by rw [d3, this]) d4, fun h => absurd (nI_le (by omega) (by omega)) h⟩
          | succ f ih =>
            intro e M3 hes hr f3 d2 d3 d4
            rw [wl_X1_next_128, d3, (hT.ft f3).2.1]
            refine ⟨fun h => absurd h (nI_ge (by omega) (by omega)), fun _ => e2_at (hT.ft f3) (by omega) (e1_sort (hT.ft f3) ?_)⟩
            have hse := (srt_4 B s e).1
            rw [d4, nI_eq (by omega) (by omega)]
            unfold rnn at hr
            refine ⟨fun q => ?_, fun q => ?_⟩
            · rw [if_neg (fun z => q z.2)] at hr
              exact h176 M3 f3 d2 (by rw [d3, hr]) d4
            · rw [if_pos ⟨by omega, q⟩] at hr
              rintro M17 rfl
              rw [d3, nI_s]
              exact ih (e + 1) _ (by omega) hr (f3.tr (FT.w (by decide))) (by rw [wr_idx (by decide)]; exact d2) (wr_at _ _ _ _) (by rw [wr_idx (by decide)]; exact d4)
        · have h3' : srt B s (nxP B s en) = 3 := by rw [show (3 : Int32) = nI 3 from rfl, nI_eq (by omega) (by decide)] at h3; exact h3
          refine hK A F12 c2 ?_ ?_
          · rw [c3]; unfold nxE; rw [if_neg h0', if_pos h3']
          · rw [c4]; unfold nxS; rw [if_pos (Or.inr h3')]
      · have h0' : srt B s (nxP B s en) = 0 := by rw [show (0 : Int32) = nI 0 from rfl, nI_eq (by omega) (by decide)] at h0; exact h0
        refine hK _ F11 (b2 _) ?_ ?_
        · rw [wr_at]; unfold nxE; rw [if_pos h0']
        · rw [b4]; unfold nxS; rw [if_pos (Or.inl h0')]
    intro f
    induction f with
    | zero =>
      intro p M1 hp hs f1 a2 a4
      rw [wl_X1_next_32, a2, (hT.ft f1).2.1]
      have : p = nxP B s en := hs
      exact ⟨fun _ => h75 M1 f1 (by rw [a2, this]), fun h => absurd (nI_le (by omega) (by omega)) h⟩
    | succ f ih =>
      intro p M1 hp hs f1 a2 a4
      rw [wl_X1_next_32, a2, (hT.ft f1).2.1]
      refine ⟨fun h => absurd h (nI_ge (by omega) (by omega)), fun _ => e2_at (hT.ft f1) (by omega) ?_⟩
      have ea : atv B s p = B p := if_pos (by omega)
      rw [ea]
      unfold skp at hs
      refine ⟨fun q => ?_, fun q => ?_⟩
      · rw [if_neg (fun z => q z.2)] at hs
        exact h75 M1 f1 (by rw [a2, hs])
      · rw [if_pos ⟨by omega, q⟩] at hs
        rintro M5 rfl
        rw [a2, nI_s]
        exact ih (p + 1) _ (by omega) hs (f1.tr (FT.w (by decide))) (wr_at _ _ _ _) (by rw [wr_idx (by decide)]; exact a4)
  unfold wp_X1_next
  rw [h4, show (1 : Int32) = nI 1 from rfl, show (2 : Int32) = nI 2 from rfl, nI_eq (by omega) (by decide), nI_eq (by omega) (by decide)]
  refine ⟨fun h => h21 1 ⟨fun q => absurd q i1, fun q => absurd (Or.inl h) q⟩, fun h => ⟨fun h2 => h21 0 ⟨fun _ => by omega, fun _ => rfl⟩, fun h2 => h21 1 ⟨fun q => absurd q i1, fun q => absurd (Or.inr h2) q⟩⟩⟩
end TOKC
