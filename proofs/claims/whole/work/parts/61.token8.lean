/-- the number that f digits from p on write -/
def nmv (B : Nat → Int32) (p : Nat) : Nat → Int32
  | 0 => 0
  | f + 1 => (nmv B p f * 10 + B (p + f)) - 48
section TOKM
variable {n : Nat} {M : Mm} {B : Nat → Int32} {s : Nat}
def RTp (M : Mm) (B : Nat → Int32) (s : Nat) : Prop := s ≤ 96 ∧ M 74 17 = nI s ∧ ∀ i : Nat, i < s → M 88 i = B i ∧ bd (B i) 255
/-- only the token's fields -/
def F8 (M M' : Mm) : Prop := (∀ i : Nat, i ≠ 74 → M' i = M i) ∧ ∀ q : Nat, ¬ (18 ≤ q ∧ q ≤ 22) → M' 74 q = M 74 q
theorem F8.rf (M : Mm) : F8 M M := ⟨fun _ _ => rfl, fun _ _ => rfl⟩
theorem F8.tr {A B C : Mm} (h : F8 A B) (g : F8 B C) : F8 A C := ⟨fun i x => (g.1 i x).trans (h.1 i x), fun q a => (g.2 q a).trans (h.2 q a)⟩
theorem F8.w {M : Mm} {k : Nat} {x : Int32} (h : 18 ≤ k ∧ k ≤ 22) : F8 M (wr M 74 k x) := ⟨fun i hi => wr_oth hi, fun q a => wr_idx (fun e => a (by omega))⟩
theorem RTp.f8 {M M' : Mm} (h : RTp M B s) (f : F8 M M') : RTp M' B s := by
  unfold RTp; rw [f.2 17 (by decide), f.1 88 (by decide)]; exact h
theorem srt_1 {p : Nat} (h : p < s) : srt B s p = 1 ↔ 97 ≤ B p ∧ B p ≤ 122 := by
  unfold srt
  rw [if_pos h]
  constructor
  · intro q
    split at q
    · assumption
    · split at q <;> exact absurd q (by decide)
  · intro q; rw [if_pos q]
theorem srt_2 {p : Nat} (h : p < s) : srt B s p = 2 ↔ 48 ≤ B p ∧ B p ≤ 57 := by
  unfold srt
  rw [if_pos h]
  constructor
  · intro q
    split at q
    · exact absurd q (by decide)
    · split at q
      · assumption
      · exact absurd q (by decide)
  · intro q
    rw [if_neg (fun z => absurd (Int32.le_trans z.1 q.2) (by decide)), if_pos q]
theorem e8_letter {K : Mm → Int32 → Prop} {p : Nat} (hT : RTp M B s) (hp : p < 1000) (hK : K M (bi (srt B s p = 1))) : wp_X8_isLetter n M (nI p) K := by
  obtain ⟨h96, h1, h2⟩ := hT
  unfold wp_X8_isLetter
  rw [h1, nI_leI (by omega) (by omega)]
  refine ⟨fun h => ?_, fun h => ⟨vp_in_nI (by omega) (by decide), ?_⟩⟩
  · rw [bi_f (fun q => by have := ((srt_4 B s p).2).mpr (by omega); omega)] at hK; exact hK
  · rw [nI_clamp (by omega), (h2 p (by omega)).1]
    by_cases q : 97 ≤ B p ∧ B p ≤ 122
    · rw [bi_t ((srt_1 (by omega)).mpr q)] at hK
      exact e8_y (lo := 97) (hi := 122) rfl (by decide) (by decide) q ⟨fun h => absurd h i1, fun _ => hK⟩
    · rw [bi_f (fun z => q ((srt_1 (by omega)).mp z))] at hK
      exact e8_n (lo := 97) (hi := 122) rfl (by decide) (by decide) q ⟨fun _ => hK, fun h => absurd rfl h⟩
theorem e8_digit {K : Mm → Int32 → Prop} {p : Nat} (hT : RTp M B s) (hp : p < 1000) (hK : K M (bi (srt B s p = 2))) : wp_X8_isDigit n M (nI p) K := by
  obtain ⟨h96, h1, h2⟩ := hT
  unfold wp_X8_isDigit
  rw [h1, nI_leI (by omega) (by omega)]
  refine ⟨fun h => ?_, fun h => ⟨vp_in_nI (by omega) (by decide), ?_⟩⟩
  · rw [bi_f (fun q => by have := ((srt_4 B s p).2).mpr (by omega); omega)] at hK; exact hK
  · rw [nI_clamp (by omega), (h2 p (by omega)).1]
    by_cases q : 48 ≤ B p ∧ B p ≤ 57
    · rw [bi_t ((srt_2 (by omega)).mpr q)] at hK
      exact e8_y (lo := 48) (hi := 57) rfl (by decide) (by decide) q ⟨fun h => absurd h i1, fun _ => hK⟩
    · rw [bi_f (fun z => q ((srt_2 (by omega)).mp z))] at hK
      exact e8_n (lo := 48) (hi := 57) rfl (by decide) (by decide) q ⟨fun _ => hK, fun h => absurd rfl h⟩
/-- what the token's two values are -/
def tkv (B : Nat → Int32) (M : Mm) (P E S : Nat) : Prop := (S = 2 → M 74 21 = nmv B P (E - P) ∧ E - P ≤ 4) ∧ (S = 1 → M 74 22 = if E - P = 1 then B P else 0) ∧ (S = 3 → M 74 22 = B P)
theorem e8_next {K : Mm → Prop} {en so : Nat} (hT : RTp M B s) (he : en ≤ s) (hso : so ≤ 4) (h0so : en = 0 → ¬ (so = 1 ∨ so = 2)) (h3 : M 74 19 = nI en) (h4 : M 74 20 = nI so) (hK : ∀ M' : Mm, F8 M M' → M' 74 18 = nI (nxP B s en) → M' 74 19 = nI (nxE B s en) → M' 74 20 = nI (nxS B s en so) → tkv B M' (nxP B s en) (nxE B s en) (nxS B s en so) → K M') : wp_X8_nextToken n M K := by
  have h96 := hT.1
  have hn := nx_le (B := B) so he
  have hs3 := srt_4 B s (nxP B s en)
  have h89 : ∀ (x : Int32) (M1 : Mm), (¬ x = 0 ↔ ((so = 1 ∨ so = 2) ∧ nxP B s en = en)) → F8 M M1 → M1 74 19 = nI (nxP B s en) → wb_X8_nextToken_89 n K M1 x := by
    intro x M1 hx f1 a3
    rintro M6 rfl
    rw [a3]
    have f6 : F8 M (wr M1 74 18 (nI (nxP B s en))) := f1.tr (F8.w (by decide))
    have b8 : wr M1 74 18 (nI (nxP B s en)) 74 18 = nI (nxP B s en) := wr_at _ _ _ _
    have b9 : wr M1 74 18 (nI (nxP B s en)) 74 19 = nI (nxP B s en) := by rw [wr_idx (by decide)]; exact a3
    generalize wr M1 74 18 (nI (nxP B s en)) = A at f6 b8 b9 ⊢
    have t6 := hT.f8 f6
    rw [b8, t6.2.1, nI_eq (by omega) (by omega)]
    refine ⟨fun hne => e8_letter t6 (by omega) ⟨fun hl => ?_, fun hl => ?_⟩, fun heq => ?_⟩
    · rw [b8]
      refine e8_digit t6 (by omega) ⟨fun hd => ?_, fun hd => ?_⟩
      · rw [bi_eq] at hl hd
        have e3 : srt B s (nxP B s en) = 3 := by have := hs3.2; omega
        rintro M11 rfl
        rw [wr_idx (show (18 : Nat) ≠ 20 by decide), b8]
        refine ⟨vp_in_nI (by omega) (by decide), ?_⟩
        rintro M12 rfl M13 rfl
        rw [wr_oth (show (88 : Nat) ≠ 74 by decide), nI_clamp (by omega), (t6.2.2 _ (by omega)).1, wr_idx (show (19 : Nat) ≠ 22 by decide), wr_idx (show (19 : Nat) ≠ 20 by decide), b9, nI_s]
        have eS : nxS B s en so = 3 := by unfold nxS; rw [if_pos (Or.inr e3), e3]
        have eE : nxE B s en = nxP B s en + 1 := by unfold nxE; rw [if_neg (by omega), if_pos e3]
        refine hK _ (f6.tr ((F8.w (by decide)).tr ((F8.w (by decide)).tr (F8.w (by decide))))) ?_ ?_ ?_ ⟨fun q => absurd (eS.symm.trans q) (by decide), fun q => absurd (eS.symm.trans q) (by decide), fun _ => ?_⟩
        · rw [wr_idx (by decide), wr_idx (by decide), wr_idx (by decide)]; exact b8
        · rw [wr_at, eE]
        · rw [wr_idx (by decide), wr_idx (by decide), wr_at, eS]; rfl
        · rw [wr_idx (by decide), wr_at]
      · rw [bi_eq] at hl
        rw [bi_ne] at hd
        rintro M14 rfl
        have eE : nxE B s en = rnn B s 2 (s - (nxP B s en + 1)) (nxP B s en + 1) := by unfold nxE; rw [if_neg (by omega), if_neg (by omega), hd]
        have eE' : nxE B s en = rnn B s 2 (s - nxP B s en) (nxP B s en) := by
          rw [eE, show s - nxP B s en = (s - (nxP B s en + 1)) + 1 by omega]
          conv => rhs; unfold rnn
          rw [if_pos ⟨by omega, hd⟩]
        have eS : nxS B s en so = if ((so = 1 ∨ so = 2) ∧ nxP B s en = en) ∨ ¬ nxE B s en - nxP B s en ≤ 4 then 4 else 2 := by
          unfold nxS
          rw [if_neg (by omega), hd]
          congr 1
          simp
        refine ⟨s - nxP B s en + 1, ?_⟩
        suffices h : ∀ (f e : Nat) (M2 : Mm), e + f = s → nxP B s en ≤ e → rnn B s 2 f e = nxE B s en → F8 M M2 → M2 74 18 = nI (nxP B s en) → M2 74 19 = nI e → M2 74 21 = nmv B (nxP B s en) (if e - nxP B s en ≤ 4 then e - nxP B s en else 4) → wl_X8_nextToken_214 n K (f + 1) M2 x by
          refine h _ _ _ (by omega) (Nat.le_refl _) eE'.symm (f6.tr (F8.w (by decide))) (by rw [wr_idx (by decide)]; exact b8) (by rw [wr_idx (by decide)]; exact b9) ?_
          rw [wr_at, Nat.sub_self, if_pos (by decide)]; rfl
        have fin : ∀ (e : Nat) (M2 : Mm), e = nxE B s en → F8 M M2 → M2 74 18 = nI (nxP B s en) → M2 74 19 = nI e → M2 74 21 = nmv B (nxP B s en) (if e - nxP B s en ≤ 4 then e - nxP B s en else 4) → (¬ x = 0 → ∀ M18 : Mm, M18 = wr M2 74 20 4 → K M18) ∧ (x = 0 → ((M2 74 19 - M2 74 18) ≤ 4 → ∀ M19 : Mm, M19 = wr M2 74 20 2 → K M19) ∧ (¬ (M2 74 19 - M2 74 18) ≤ 4 → ∀ M20 : Mm, M20 = wr M2 74 20 4 → K M20)) := by
          rintro e M2 rfl f2 c8 c9 c21
          rw [c8, c9, pk_sub hn.2.1, show (4 : Int32) = nI 4 from rfl, nI_leI (by omega) (by decide)]
          have k4 : nxS B s en so = 4 → ∀ M18 : Mm, M18 = wr M2 74 20 (nI 4) → K M18 := by
            rintro e4 M18 rfl
            exact hK _ (f2.tr (F8.w (by decide))) (by rw [wr_idx (by decide)]; exact c8) (by rw [wr_idx (by decide)]; exact c9) (by rw [wr_at, e4]) ⟨fun q => absurd (e4.symm.trans q) (by decide), fun q => absurd (e4.symm.trans q) (by decide), fun q => absurd (e4.symm.trans q) (by decide)⟩
          refine ⟨fun q => k4 (by rw [eS, if_pos (Or.inl (hx.mp q))]), fun q => ⟨fun q4 => ?_, fun q4 => k4 (by rw [eS, if_pos (Or.inr q4)])⟩⟩
          rintro M19 rfl
          have e2 : nxS B s en so = 2 := by rw [eS, if_neg (by rintro (z | z); exact hx.mpr z q; exact z q4)]
          rw [if_pos q4] at c21
          exact hK _ (f2.tr (F8.w (by decide))) (by rw [wr_idx (by decide)]; exact c8) (by rw [wr_idx (by decide)]; exact c9) (by rw [wr_at, e2]; rfl) ⟨fun _ => ⟨by rw [wr_idx (by decide)]; exact c21, q4⟩, fun z => absurd (e2.symm.trans z) (by decide), fun z => absurd (e2.symm.trans z) (by decide)⟩
        intro f
        induction f with
        | zero =>
          intro e M2 hes hpe hr f2 c8 c9 c21
          rw [wl_X8_nextToken_214, c9]
          refine e8_digit (hT.f8 f2) (by omega) ⟨fun _ => ?_, fun q => ?_⟩
          · exact fin e M2 hr f2 c8 c9 c21
          · rw [bi_ne] at q
            have := (srt_4 B s e).2
            omega
        | succ f ih =>
          intro e M2 hes hpe hr f2 c8 c9 c21
          rw [wl_X8_nextToken_214, c9]
          unfold rnn at hr
          refine e8_digit (hT.f8 f2) (by omega) ⟨fun q => ?_, fun q => ?_⟩
          · rw [bi_eq] at q
            rw [if_neg (fun z => q z.2)] at hr
            exact fin e M2 hr f2 c8 c9 c21
          · rw [bi_ne] at q
            rw [if_pos ⟨by omega, q⟩] at hr
            have h266 : ∀ y : Int32, y = nmv B (nxP B s en) (if e + 1 - nxP B s en ≤ 4 then e + 1 - nxP B s en else 4) → wb_X8_nextToken_266 n (fun M x1 => wl_X8_nextToken_214 n K (f + 1) M x1) K M2 x y := by
              intro y hy
              rintro M24 rfl M25 rfl
              rw [wr_idx (show (19 : Nat) ≠ 21 by decide), c9, nI_s]
              exact ih (e + 1) _ (by omega) (by omega) hr (f2.tr ((F8.w (by decide)).tr (F8.w (by decide)))) (by rw [wr_idx (by decide), wr_idx (by decide)]; exact c8) (wr_at _ _ _ _) (by rw [wr_idx (by decide), wr_at]; exact hy)
            rw [c8, c9, pk_sub hpe, show (4 : Int32) = nI 4 from rfl, nI_leI (by decide) (by omega)]
            refine ⟨fun q4 => h266 _ ?_, fun q4 => ⟨vp_in_nI (by omega) (by decide), h266 _ ?_⟩⟩
            · rw [c21, if_neg (show ¬ e + 1 - nxP B s en ≤ 4 by omega)]
              by_cases e4 : e - nxP B s en ≤ 4
              · rw [if_pos e4, show e - nxP B s en = 4 by omega]
              · rw [if_neg e4]
            · rw [c21, if_pos (show e - nxP B s en ≤ 4 by omega), if_pos (show e + 1 - nxP B s en ≤ 4 by omega), nI_clamp (by omega), ((hT.f8 f2).2.2 e (by omega)).1, show e + 1 - nxP B s en = (e - nxP B s en) + 1 by omega, nmv, show nxP B s en + (e - nxP B s en) = e by omega, Int32.mul_comm]
    · rw [bi_ne] at hl
      have eE : nxE B s en = rnn B s 1 (s - (nxP B s en + 1)) (nxP B s en + 1) := by unfold nxE; rw [if_neg (by omega), if_neg (by omega), hl]
      have eE' : nxE B s en = rnn B s 1 (s - nxP B s en) (nxP B s en) := by
        rw [eE, show s - nxP B s en = (s - (nxP B s en + 1)) + 1 by omega]
        conv => rhs; unfold rnn
        rw [if_pos ⟨by omega, hl⟩]
      have eS : nxS B s en so = if (so = 1 ∨ so = 2) ∧ nxP B s en = en then 4 else 1 := by
        unfold nxS
        rw [if_neg (by omega), hl]
        congr 1
        simp
      refine ⟨s - nxP B s en + 1, ?_⟩
      suffices h : ∀ (f e : Nat) (M2 : Mm), e + f = s → nxP B s en ≤ e → rnn B s 1 f e = nxE B s en → F8 M M2 → M2 74 18 = nI (nxP B s en) → M2 74 19 = nI e → wl_X8_nextToken_128 n K (f + 1) M2 x by
        exact h _ _ _ (by omega) (Nat.le_refl _) eE'.symm f6 b8 b9
      have fin : ∀ (e : Nat) (M2 : Mm), e = nxE B s en → F8 M M2 → M2 74 18 = nI (nxP B s en) → M2 74 19 = nI e → (x = 0 → wb_X8_nextToken_162 n K M2 1) ∧ (¬ x = 0 → wb_X8_nextToken_162 n K M2 4) := by
        rintro e M2 rfl f2 c8 c9
        have h162 : ∀ y : Int32, y = nI (nxS B s en so) → wb_X8_nextToken_162 n K M2 y := by
          rintro y hy M26 rfl
          rw [wr_idx (show (19 : Nat) ≠ 20 by decide), wr_idx (show (18 : Nat) ≠ 20 by decide), c8, c9, pk_sub hn.2.1, show (1 : Int32) = nI 1 from rfl, nI_eq (by omega) (by decide)]
          have n3 : ¬ nxS B s en so = 3 ∧ ¬ nxS B s en so = 2 := by rw [eS]; split <;> decide
          refine ⟨fun q => ?_, fun q => ⟨vp_in_nI (by omega) (by decide), ?_⟩⟩
          · rintro M27 rfl
            exact hK _ (f2.tr ((F8.w (by decide)).tr (F8.w (by decide)))) (by rw [wr_idx (by decide), wr_idx (by decide)]; exact c8) (by rw [wr_idx (by decide), wr_idx (by decide)]; exact c9) (by rw [wr_idx (by decide), wr_at]; exact hy) ⟨fun z => absurd z n3.2, fun _ => by rw [wr_at, if_neg q], fun z => absurd z n3.1⟩
          · rintro M28 rfl
            rw [wr_oth (show (88 : Nat) ≠ 74 by decide), nI_clamp (by omega), ((hT.f8 f2).2.2 _ (by omega)).1]
            exact hK _ (f2.tr ((F8.w (by decide)).tr (F8.w (by decide)))) (by rw [wr_idx (by decide), wr_idx (by decide)]; exact c8) (by rw [wr_idx (by decide), wr_idx (by decide)]; exact c9) (by rw [wr_idx (by decide), wr_at]; exact hy) ⟨fun z => absurd z n3.2, fun _ => by rw [wr_at, if_pos q], fun z => absurd z n3.1⟩
        exact ⟨fun q => h162 1 (by rw [eS, if_neg (fun z => hx.mpr z q)]; rfl), fun q => h162 4 (by rw [eS, if_pos (hx.mp q)]; rfl)⟩
      intro f
      induction f with
      | zero =>
        intro e M2 hes hpe hr f2 c8 c9
        rw [wl_X8_nextToken_128, c9]
        refine e8_letter (hT.f8 f2) (by omega) ⟨fun _ => fin e M2 hr f2 c8 c9, fun q => ?_⟩
        rw [bi_ne] at q
        have := (srt_4 B s e).2
        omega
      | succ f ih =>
        intro e M2 hes hpe hr f2 c8 c9
        rw [wl_X8_nextToken_128, c9]
        unfold rnn at hr
        refine e8_letter (hT.f8 f2) (by omega) ⟨fun q => ?_, fun q => ?_⟩
        · rw [bi_eq] at q
          rw [if_neg (fun z => q z.2)] at hr
          exact fin e M2 hr f2 c8 c9
        · rw [bi_ne] at q
          rw [if_pos ⟨by omega, q⟩] at hr
          rintro M23 rfl
          rw [c9, nI_s]
          exact ih (e + 1) _ (by omega) (by omega) hr (f2.tr (F8.w (by decide))) (by rw [wr_idx (by decide)]; exact c8) (wr_at _ _ _ _)
    · rintro M15 rfl
      have e0 : srt B s (nxP B s en) = 0 := hs3.2.mpr (by omega)
      have eS : nxS B s en so = 0 := by unfold nxS; rw [if_pos (Or.inl e0), e0]
      have eE : nxE B s en = nxP B s en := by unfold nxE; rw [if_pos e0]
      exact hK _ (f6.tr (F8.w (by decide))) (by rw [wr_idx (by decide)]; exact b8) (by rw [wr_idx (by decide), eE]; exact b9) (by rw [wr_at, eS]; rfl) ⟨fun z => absurd (eS.symm.trans z) (by decide), fun z => absurd (eS.symm.trans z) (by decide), fun z => absurd (eS.symm.trans z) (by decide)⟩
  have h34 : ∀ x : Int32, (¬ x = 0 ↔ (so = 1 ∨ so = 2)) → ∃ kf : Nat, wl_X8_nextToken_34 n K kf M x (nI en) := by
    intro x hx
    refine ⟨s - en + 1, ?_⟩
    suffices h : ∀ (f p : Nat) (M1 : Mm), p + f = s → skp B s f p = nxP B s en → F8 M M1 → M1 74 19 = nI p → wl_X8_nextToken_34 n K (f + 1) M1 x (nI en) by
      exact h (s - en) en M (by omega) rfl (F8.rf M) h3
    have h72 : ∀ M1 : Mm, F8 M M1 → M1 74 19 = nI (nxP B s en) → wb_X8_nextToken_72 n K M1 x (nI en) := by
      intro M1 f1 a3
      unfold wb_X8_nextToken_72
      rw [a3, nI_eq (by omega) (by omega)]
      refine ⟨fun q => h89 0 M1 ⟨fun z => absurd rfl z, fun z => absurd q (hx.mpr z.1)⟩ f1 a3, fun q => ⟨fun q2 => h89 0 M1 ⟨fun z => absurd rfl z, fun z => absurd z.2.symm q2⟩ f1 a3, fun q2 => h89 1 M1 ⟨fun _ => ⟨hx.mp q, q2.symm⟩, fun _ => i1⟩ f1 a3⟩⟩
    intro f
    induction f with
    | zero =>
      intro p M1 hp hs f1 a3
      rw [wl_X8_nextToken_34, a3, (hT.f8 f1).2.1]
      have : p = nxP B s en := hs
      exact ⟨fun _ => h72 M1 f1 (by rw [a3, this]), fun h => absurd (nI_le (by omega) (by omega)) h⟩
    | succ f ih =>
      intro p M1 hp hs f1 a3
      rw [wl_X8_nextToken_34, a3, (hT.f8 f1).2.1, nI_clamp (by omega), ((hT.f8 f1).2.2 p (by omega)).1]
      unfold skp at hs
      refine ⟨fun h => absurd h (nI_ge (by omega) (by omega)), fun _ => ⟨vp_in_nI (by omega) (by decide), fun q => ?_, fun q => ?_⟩⟩
      · rw [if_neg (fun z => q z.2)] at hs
        exact h72 M1 f1 (by rw [a3, hs])
      · rw [if_pos ⟨by omega, q⟩] at hs
        rintro M5 rfl
        rw [nI_s]
        exact ih (p + 1) _ (by omega) hs (f1.tr (F8.w (by decide))) (wr_at _ _ _ _)
  unfold wp_X8_nextToken
  rw [h3, h4, show (1 : Int32) = nI 1 from rfl, show (2 : Int32) = nI 2 from rfl, nI_eq (by omega) (by decide), nI_eq (by omega) (by decide), nI_le0 (by omega)]
  refine ⟨fun h v e => by subst e; exact h34 0 ⟨fun z => absurd rfl z, fun z => absurd z (h0so h)⟩, fun h => ⟨fun h1 v e => by subst e; exact h34 (nI 1) ⟨fun _ => Or.inl h1, fun _ => by decide⟩, fun h1 => ⟨fun h2 v e => by subst e; exact h34 0 ⟨fun z => absurd rfl z, fun z => absurd z (by omega)⟩, fun h2 v e => by subst e; exact h34 (nI 1) ⟨fun _ => Or.inr h2, fun _ => by decide⟩⟩⟩⟩
end TOKM
