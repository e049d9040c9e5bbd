/-! what a reading makes: places grow, steps are well made -/
def tkO (B : Nat → Int32) (s : Nat) (k : Tk) : Prop := k.1 ≤ k.2.1 ∧ k.2.1 ≤ s ∧ k.2.2 ≤ 4 ∧ (¬ k.2.2 = 0 → k.1 < k.2.1) ∧ (k.2.2 = 2 → k.2.1 - k.1 ≤ 4 ∧ ∀ i : Nat, k.1 ≤ i → i < k.2.1 → 48 ≤ B i ∧ B i ≤ 57) ∧ (k.2.2 = 1 → 97 ≤ B k.1 ∧ B k.1 ≤ 122)
theorem rnn_all {B : Nat → Int32} {s q : Nat} : ∀ f p : Nat, p + f = s → ∀ i : Nat, p ≤ i → i < rnn B s q f p → srt B s i = q
  | 0, p, _, i, h1, h2 => by unfold rnn at h2; omega
  | f + 1, p, h, i, h1, h2 => by
    unfold rnn at h2
    split at h2
    · rename_i hc
      by_cases e : i = p
      · subst e; exact hc.2
      · exact rnn_all f (p + 1) (by omega) i (by omega) h2
    · omega
theorem nk_ok {B : Nat → Int32} {s : Nat} {k : Tk} (h : k.2.1 ≤ s) : tkO B s (nk B s k) ∧ k.2.1 ≤ (nk B s k).1 := by
  have hn := nx_le (B := B) k.2.2 h
  refine ⟨⟨hn.2.1, hn.2.2.1, hn.2.2.2.1, hn.2.2.2.2.2, fun h2 => ?_, fun h1 => ?_⟩, hn.1⟩
  case refine_2 =>
    have h1 : nxS B s k.2.1 k.2.2 = 1 := h1
    show 97 ≤ B (nxP B s k.2.1) ∧ B (nxP B s k.2.1) ≤ 122
    have h4 := srt_4 B s (nxP B s k.2.1)
    unfold nxS at h1
    split at h1
    · omega
    · split at h1
      · exact absurd h1 (by decide)
      · exact (srt_1 (by omega)).mp h1
  have h2 : nxS B s k.2.1 k.2.2 = 2 := h2
  show nxE B s k.2.1 - nxP B s k.2.1 ≤ 4 ∧ ∀ i : Nat, nxP B s k.2.1 ≤ i → i < nxE B s k.2.1 → _
  have h4 := srt_4 B s (nxP B s k.2.1)
  unfold nxS at h2
  split at h2
  · omega
  · rename_i hns
    split at h2
    · exact absurd h2 (by decide)
    · rename_i hg
      refine ⟨Classical.byContradiction (fun z => hg (Or.inr ⟨h2, z⟩)), fun i h5 h6 => ?_⟩
      have hlt : nxP B s k.2.1 < s := by omega
      have his : i < s := by have := hn.2.2.1; omega
      by_cases e : i = nxP B s k.2.1
      · subst e; exact (srt_2 hlt).mp h2
      · have eE : nxE B s k.2.1 = rnn B s 2 (s - (nxP B s k.2.1 + 1)) (nxP B s k.2.1 + 1) := by unfold nxE; rw [if_neg (by omega), if_neg (by omega), h2]
        rw [eE] at h6
        exact (srt_2 his).mp (rnn_all _ _ (by omega) i (by omega) h6)
theorem nmv_0 {B : Nat → Int32} {p : Nat} : ∀ f : Nat, f ≤ 4 → (∀ i : Nat, p ≤ i → i < p + f → 48 ≤ B i ∧ B i ≤ 57) → ∃ v : Nat, v < 10 ^ f ∧ nmv B p f = nI v
  | 0, _, _ => ⟨0, by decide, rfl⟩
  | f + 1, hf, h => by
    obtain ⟨v, hv, e⟩ := nmv_0 f (by omega) (fun i h1 h2 => h i h1 (by omega))
    obtain ⟨b, hb, eb⟩ := bd_of (k := 57) (lo := 48) (hi := 57) (by decide) (by decide) (h (p + f) (by omega) (by omega))
    have hb48 : 48 ≤ b := by
      have := (h (p + f) (by omega) (by omega)).1
      rw [eb, show (48 : Int32) = nI 48 from rfl, nI_leI (by decide) (by omega)] at this
      exact this
    refine ⟨v * 10 + b - 48, ?_, ?_⟩
    · rw [Nat.pow_succ]; omega
    · rw [nmv, e, eb, show (10 : Int32) = nI 10 from rfl, pk_mul, nI_add, show (48 : Int32) = nI 48 from rfl, pk_sub (by omega)]
/-! lists of steps -/
def dpL : Nat → List (Int32 × Int32) → Nat
  | d, [] => d
  | d, x :: r => dpL (if x.1 = 2 then (if x.2 = 33 then d else d - 1) else d + 1) r
def okS (key : Int32) : Nat → List (Int32 × Int32) → Prop
  | _, [] => True
  | d, x :: r => ((x.1 = 0 ∧ ¬ x.2 < 0) ∨ (x.1 = 1 ∧ nmOK key x.2) ∨ (x.1 = 2 ∧ x.2 = 33 ∧ 1 ≤ d) ∨ (x.1 = 2 ∧ opOK x.2 ∧ 2 ≤ d)) ∧ okS key (if x.1 = 2 then (if x.2 = 33 then d else d - 1) else d + 1) r
theorem dpL_app (A C : List (Int32 × Int32)) : ∀ d : Nat, dpL d (A ++ C) = dpL (dpL d A) C := by
  induction A with
  | nil => intro d; rfl
  | cons x r ih => intro d; exact ih _
theorem okS_app (key : Int32) (A C : List (Int32 × Int32)) : ∀ d : Nat, okS key d A → okS key (dpL d A) C → okS key d (A ++ C) := by
  induction A with
  | nil => intro d _ h; exact h
  | cons x r ih => intro d h g; exact ⟨h.1, ih _ h.2 g⟩
theorem opl_ok {B : Nat → Int32} {k : Tk} {l : Nat} (h : opl B k l) : opOK (B k.1) ∧ ¬ B k.1 = 33 := by
  have : opOK (B k.1) := by
    unfold opOK
    rcases h.2 with ⟨_, e⟩ | ⟨_, e⟩ | ⟨_, e | e | e⟩ | ⟨_, e | e⟩ | ⟨_, e | e⟩ <;> simp [e]
  exact ⟨this, op_ne this⟩
def good (key : Int32) (m : Nat) (N : List (Int32 × Int32)) : Prop := if m < 10 then ∀ d : Nat, dpL d N = d + 1 ∧ okS key d N else ∀ d : Nat, 1 ≤ d → dpL d N = d ∧ okS key d N
theorem good_s {key : Int32} {m : Nat} {N : List (Int32 × Int32)} (hm : m < 10) : good key m N ↔ ∀ d : Nat, dpL d N = d + 1 ∧ okS key d N := by unfold good; rw [if_pos hm]
theorem good_l {key : Int32} {m : Nat} {N : List (Int32 × Int32)} (hm : ¬ m < 10) : good key m N ↔ ∀ d : Nat, 1 ≤ d → dpL d N = d ∧ okS key d N := by unfold good; rw [if_neg hm]
theorem pr_p {B : Nat → Int32} {s : Nat} {key : Int32} : ∀ (f m b t : Nat) (k : Tk) (r : Bool) (k' : Tk) (N : List (Int32 × Int32)), PRs B s key f m b t k r k' N → tkO B s k → tkO B s k' ∧ k.1 ≤ k'.1 ∧ k.2.1 ≤ k'.2.1 ∧ (r = true → N.length + k.1 ≤ k'.1 ∧ good key m N) := by
  intro f
  induction f with
  | zero => intro m b t k r k' N h; exact h.elim
  | succ f ih =>
    intro m b t k r k' N h ho
    have hnk := nk_ok (B := B) (s := s) (k := k) ho.2.1
    have hlt : ¬ k.2.2 = 0 → k.1 < k.2.1 := ho.2.2.2.1
    have hE := hnk.1.1
    unfold PRs at h
    rcases h with ⟨hm, a1, a2, a3, a4⟩ | ⟨hm, a1, a2, a3, a4, a5⟩ | ⟨hm, a1, a2, a3, a4⟩ | ⟨hm, a1, a2, N1, a3, a4⟩ | ⟨hm, a1, a2, a3, a4⟩ | ⟨hm, a1, a2, q1, N1, a3⟩ | ⟨hm, a1, a2, a3, a4⟩ | ⟨hm, a1, a2, a3, a4, a5, a6⟩ | ⟨hm, q1, N1, N2, a3⟩ | ⟨hm, a1, a2, a3, a4⟩ | ⟨hm, a1, q1, N1, N2, a3⟩
    · subst hm; subst a3; subst a4
      have := hlt (by omega)
      refine ⟨hnk.1, by omega, by omega, fun _ => ⟨by simp only [List.length_singleton]; omega, (good_s (by decide)).mpr (fun d => ⟨rfl, Or.inl ⟨rfl, ?_⟩, trivial⟩)⟩⟩
      obtain ⟨h4, hd⟩ := ho.2.2.2.2.1 a1
      obtain ⟨v, hv, e⟩ := nmv_0 (B := B) (p := k.1) (k.2.1 - k.1) h4 (fun i x y => hd i x (by omega))
      have : 10 ^ (k.2.1 - k.1) ≤ 10 ^ 4 := Nat.pow_le_pow_right (by decide) h4
      rw [e]; exact nI_pos (by omega)
    · subst hm; subst a4; subst a5
      have := hlt (by omega)
      refine ⟨hnk.1, by omega, by omega, fun _ => ⟨by simp only [List.length_singleton]; omega, (good_s (by decide)).mpr (fun d => ⟨rfl, Or.inr (Or.inl ⟨rfl, a2.2⟩), trivial⟩)⟩⟩
    · subst a4; exact ⟨ho, Nat.le_refl _, Nat.le_refl _, fun q => absurd (a3.symm.trans q) (by decide)⟩
    · subst hm
      have := hlt (by have := a1.1; omega)
      obtain ⟨i1', i2, i3, i4⟩ := ih _ _ _ _ _ _ _ a3 hnk.1
      refine ⟨i1', by omega, by omega, fun q => ?_⟩
      obtain ⟨j1, j2⟩ := i4 q
      subst a4
      refine ⟨by simp only [List.length_append, List.length_singleton]; omega, (good_s (by decide)).mpr (fun d => ?_)⟩
      have g := (good_s (by decide)).mp j2 d
      refine ⟨by rw [dpL_app, g.1]; rfl, okS_app _ _ _ _ g.2 ?_⟩
      rw [g.1]
      exact ⟨Or.inr (Or.inr (Or.inl ⟨rfl, rfl, by omega⟩)), trivial⟩
    · subst a4; exact ⟨ho, Nat.le_refl _, Nat.le_refl _, fun q => absurd (a3.symm.trans q) (by decide)⟩
    · subst hm
      have := hlt (by have := a1.1; omega)
      rcases a3 with ⟨u1, u2, u3⟩ | ⟨u1, u2, u3, u4, u5⟩ | ⟨u1, u2, u3, u4⟩ <;> obtain ⟨i1', i2, i3, i4⟩ := ih _ _ _ _ _ _ _ u1 hnk.1
      · subst u3; exact ⟨i1', by omega, by omega, fun q => absurd (u2.symm.trans q) (by decide)⟩
      · subst u4; subst u5
        have hq := nk_ok (B := B) (s := s) (k := q1) i1'.2.1
        have hq1 := i1'.1
        have hq2 := hq.1.1
        obtain ⟨j1, j2⟩ := i4 rfl
        exact ⟨hq.1, by omega, by omega, fun _ => ⟨by omega, (good_s (by decide)).mpr ((good_s (by decide)).mp j2)⟩⟩
      · subst u4; exact ⟨i1', by omega, by omega, fun q => absurd (u3.symm.trans q) (by decide)⟩
    · subst a4; exact ⟨ho, Nat.le_refl _, Nat.le_refl _, fun q => absurd (a3.symm.trans q) (by decide)⟩
    · subst a6; exact ⟨ho, Nat.le_refl _, Nat.le_refl _, fun q => absurd (a5.symm.trans q) (by decide)⟩
    · rcases a3 with ⟨u1, u2, u3⟩ | ⟨u1, u2, u3⟩ <;> obtain ⟨i1', i2, i3, i4⟩ := ih _ _ _ _ _ _ _ u1 ho
      · subst u3; exact ⟨i1', by omega, by omega, fun q => absurd (u2.symm.trans q) (by decide)⟩
      · obtain ⟨l1, l2, l3, l4⟩ := ih _ _ _ _ _ _ _ u2 i1'
        obtain ⟨j1, j2⟩ := i4 rfl
        refine ⟨l1, by omega, by omega, fun q => ?_⟩
        obtain ⟨p1, p2⟩ := l4 q
        subst u3
        refine ⟨by simp only [List.length_append]; omega, (good_s (by omega)).mpr (fun d => ?_)⟩
        have g1 := (good_s (by omega)).mp j2 d
        have g2 := (good_l (by omega)).mp p2 (d + 1) (by omega)
        exact ⟨by rw [dpL_app, g1.1, g2.1], okS_app _ _ _ _ g1.2 (by rw [g1.1]; exact g2.2)⟩
    · subst a3; subst a4
      exact ⟨ho, Nat.le_refl _, Nat.le_refl _, fun _ => ⟨by simp, (good_l (by omega)).mpr (fun d hd => ⟨rfl, trivial⟩)⟩⟩
    · have := hlt (by have := a1.1; omega)
      obtain ⟨hop, h33⟩ := opl_ok a1
      have hl4 : m - 10 ≤ 4 := by rcases a1.2 with ⟨e, _⟩ | ⟨e, _⟩ | ⟨e, _⟩ | ⟨e, _⟩ | ⟨e, _⟩ <;> omega
      rcases a3 with ⟨u1, u2, u3⟩ | ⟨u1, u2, u3, u4, u5⟩ | ⟨u1, u2, u3, u4⟩ <;> obtain ⟨i1', i2, i3, i4⟩ := ih _ _ _ _ _ _ _ u1 hnk.1
      · subst u3; exact ⟨i1', by omega, by omega, fun q => absurd (u2.symm.trans q) (by decide)⟩
      · subst u4; subst u5
        obtain ⟨j1, j2⟩ := i4 rfl
        refine ⟨i1', by omega, by omega, fun _ => ⟨by simp only [List.length_append, List.length_singleton]; omega, (good_l (by omega)).mpr (fun d hd => ?_)⟩⟩
        have g := (good_s (by omega)).mp j2 d
        refine ⟨?_, okS_app _ _ _ _ g.2 ?_⟩
        · rw [dpL_app, g.1]
          show (if (2 : Int32) = 2 then (if B k.1 = 33 then d + 1 else d + 1 - 1) else d + 1 + 1) = d
          rw [if_pos rfl, if_neg h33]; omega
        · rw [g.1]
          exact ⟨Or.inr (Or.inr (Or.inr ⟨rfl, hop, by omega⟩)), trivial⟩
      · obtain ⟨j1, j2⟩ := i4 rfl
        obtain ⟨l1, l2, l3, l4⟩ := ih _ _ _ _ _ _ _ u3 i1'
        refine ⟨l1, by omega, by omega, fun q => ?_⟩
        obtain ⟨p1, p2⟩ := l4 q
        subst u4
        refine ⟨by simp only [List.length_append, List.length_cons]; omega, (good_l (by omega)).mpr (fun d hd => ?_)⟩
        have g := (good_s (by omega)).mp j2 d
        have g2 := (good_l (by omega)).mp p2 d hd
        have ed : (if (2 : Int32) = 2 then (if B k.1 = 33 then d + 1 else d + 1 - 1) else d + 1 + 1) = d := by rw [if_pos rfl, if_neg h33]; omega
        refine ⟨?_, okS_app _ _ _ _ g.2 ?_⟩
        · rw [dpL_app, g.1]
          show dpL (if (2 : Int32) = 2 then (if B k.1 = 33 then d + 1 else d + 1 - 1) else d + 1 + 1) N2 = d
          rw [ed]; exact g2.1
        · rw [g.1]
          refine ⟨Or.inr (Or.inr (Or.inr ⟨rfl, hop, by omega⟩)), ?_⟩
          show okS key (if (2 : Int32) = 2 then (if B k.1 = 33 then d + 1 else d + 1 - 1) else d + 1 + 1) N2
          rw [ed]; exact g2.2
