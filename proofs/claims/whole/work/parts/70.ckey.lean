/-! the key's word, and the class's whole reading -/
section KYC
variable {n : Nat} {M : Mm} {B : Nat → Int32} {s : Nat} {key : Int32} {k : Tk} {L : List (Int32 × Int32)} {w : Nat}
theorem sj_char {K : Mm → Int32 → Prop} {q i : Nat} (hq : q < 3) (hi : i < sLen.getD q 0) (hK : K M ((sByt.getD q []).getD i 0)) : wp_J0_charAt_5068e n M q (nI i) K := by
  have hl : sLen.getD q 0 < 6 := (show ∀ q : Nat, q < 3 → sLen.getD q 0 < 6 by decide) q hq
  have h0 : ¬ nI i < 0 := nI_pos (by omega)
  have h1 : nI i < Int32.ofNat (sLen.getD q 0) := nI_lt hi (by omega)
  have hb : ∀ q : Nat, q < 3 → ∀ i : Nat, i < sLen.getD q 0 → ((((sByt.getD q []).getD i 0) &&& 255).toUInt32 % 65536).toInt32 = (sByt.getD q []).getD i 0 ∧ narrow .char (.int ((sByt.getD q []).getD i 0)) = .int ((sByt.getD q []).getD i 0) := by
    intro q hq
    have : q = 0 ∨ q = 1 ∨ q = 2 := by omega
    intro i hi
    have hi6 : i < 5 := by rcases this with rfl | rfl | rfl <;> (have : i < _ := hi; simp at this; omega)
    have hi5 : i = 0 ∨ i = 1 ∨ i = 2 ∨ i = 3 ∨ i = 4 := by omega
    rcases this with rfl | rfl | rfl <;> rcases hi5 with rfl | rfl | rfl | rfl | rfl <;> first | (exact ⟨by decide, rfl⟩) | (exact absurd hi (by decide))
  obtain ⟨b1, b2⟩ := hb q hq i hi
  refine ⟨by omega, sj_lat (by omega) ⟨fun h => i1 h, fun _ => ⟨by omega, ⟨⟨fun h => absurd h h0, fun _ => ⟨fun _ => ?_, fun h => absurd h1 h⟩⟩, fun tq => ⟨fun h => absurd h h0, fun _ => ⟨fun _ => ?_, fun h => absurd h1 h⟩⟩⟩⟩⟩⟩
  all_goals
    rw [nI_clamp (by omega), b1]
    exact ⟨vp_in_nI hi (by omega), b2, b2, hK⟩
/-- the token is the word q -/
def isW (B : Nat → Int32) (k : Tk) (q : Nat) : Prop := k.2.2 = 1 ∧ k.2.1 - k.1 = sLen.getD q 0 ∧ ∀ i : Nat, i < sLen.getD q 0 → B (k.1 + i) = (sByt.getD q []).getD i 0
theorem c1_word {K : Mm → Int32 → Prop} {q : Nat} (h1 : CTp M B s) (h2 : M 37 2 = nI k.1) (h3 : M 37 3 = nI k.2.1) (h4 : M 37 4 = nI k.2.2) (ho : tkO B s k) (hq : q < 3) (hY : isW B k q → K M 1) (hN : ¬ isW B k q → K M 0) : wp_X1_isWord n M q K := by
  have h96 := h1.1
  have hs := ho.2.1
  have hE := ho.1
  have h44 := ho.2.2.1
  have hl : sLen.getD q 0 < 6 := (show ∀ q : Nat, q < 3 → sLen.getD q 0 < 6 by decide) q hq
  unfold wp_X1_isWord
  rw [h4, show (1 : Int32) = nI 1 from rfl, nI_eq (by omega) (by decide)]
  refine ⟨by omega, fun z => hN (fun y => z y.1), fun z => sj_len (by omega) ?_⟩
  rw [h3, h2, pk_sub hE, nI_eq (by omega) (by omega)]
  refine ⟨fun e => ⟨sLen.getD q 0 + 1, ?_⟩, fun e => hN (fun y => e y.2.1)⟩
  suffices hh : ∀ (f i : Nat), i + f = sLen.getD q 0 → (∀ j : Nat, j < i → B (k.1 + j) = (sByt.getD q []).getD j 0) → wl_X1_isWord_28 n q K (f + 1) M (nI i) by
    exact hh _ 0 (by omega) (fun j hj => absurd hj (by omega))
  intro f
  induction f with
  | zero =>
    intro i hi hj
    rw [wl_X1_isWord_28]
    refine sj_len (by omega) ⟨fun _ => hY ⟨z, e, fun j hj' => hj j (by omega)⟩, fun y => absurd (nI_le (by omega) (by omega)) y⟩
  | succ f ih =>
    intro i hi hj
    rw [wl_X1_isWord_28]
    refine sj_len (by omega) ⟨fun y => absurd y (nI_ge (by omega) (by omega)), fun _ => ?_⟩
    rw [h2, nI_add]
    refine e2_at h1 (by omega) ?_
    rw [show atv B s (k.1 + i) = B (k.1 + i) from if_pos (by omega)]
    refine sj_char hq (by omega) ⟨fun y => ?_, fun y => hN (fun x => y (x.2.2 i (by omega)))⟩
    rintro v rfl
    rw [nI_s]
    refine ih (i + 1) (by omega) (fun j hj' => ?_)
    by_cases ej : j = i
    · subst ej; exact y
    · exact hj j (by omega)
/-- the key that the token names: 0, 1, 2, or -1 -/
def kyI (B : Nat → Int32) (k : Tk) (x : Int32) : Prop := (isW B k 0 ∧ x = 0) ∨ (¬ isW B k 0 ∧ isW B k 1 ∧ x = 1) ∨ (¬ isW B k 0 ∧ ¬ isW B k 1 ∧ isW B k 2 ∧ x = 2) ∨ (¬ isW B k 0 ∧ ¬ isW B k 1 ∧ ¬ isW B k 2 ∧ x = -1)
theorem kyI_u {x y : Int32} (h : kyI B k x) (g : kyI B k y) : x = y := by
  rcases h with ⟨a, rfl⟩ | ⟨a, b, rfl⟩ | ⟨a, b, c, rfl⟩ | ⟨a, b, c, rfl⟩ <;> rcases g with ⟨a', rfl⟩ | ⟨a', b', rfl⟩ | ⟨a', b', c', rfl⟩ | ⟨a', b', c', rfl⟩ <;> first | rfl | (exact absurd a a') | (exact absurd a' a) | (exact absurd b b') | (exact absurd b' b) | (exact absurd c c') | (exact absurd c' c)
theorem kyI_c {x : Int32} (h : kyI B k x) : (x = 0 ∨ x = 1 ∨ x = 2) ∧ 4 ≤ k.2.1 ∨ x = -1 := by
  rcases h with ⟨a, rfl⟩ | ⟨a, b, rfl⟩ | ⟨a, b, c, rfl⟩ | ⟨a, b, c, rfl⟩
  · have : k.2.1 - k.1 = 5 := a.2.1
    exact Or.inl ⟨Or.inl rfl, by omega⟩
  · have : k.2.1 - k.1 = 4 := b.2.1
    exact Or.inl ⟨Or.inr (Or.inl rfl), by omega⟩
  · have : k.2.1 - k.1 = 4 := c.2.1
    exact Or.inl ⟨Or.inr (Or.inr rfl), by omega⟩
  · exact Or.inr rfl
theorem c1_key {K : Mm → Int32 → Prop} (h1 : CTp M B s) (h2 : M 37 2 = nI k.1) (h3 : M 37 3 = nI k.2.1) (h4 : M 37 4 = nI k.2.2) (ho : tkO B s k) (hK : ∀ x : Int32, kyI B k x → K M x) : wp_X1_keyHere n M K := by
  refine c1_word h1 h2 h3 h4 ho (by decide) (fun a => ⟨fun z => absurd z i1, fun _ => hK 0 (Or.inl ⟨a, rfl⟩)⟩) (fun a => ⟨fun _ => ?_, fun z => absurd rfl z⟩)
  refine c1_word h1 h2 h3 h4 ho (by decide) (fun b => ⟨fun z => absurd z i1, fun _ => hK 1 (Or.inr (Or.inl ⟨a, b, rfl⟩))⟩) (fun b => ⟨fun _ => ?_, fun z => absurd rfl z⟩)
  exact c1_word h1 h2 h3 h4 ho (by decide) (fun c => ⟨fun z => absurd z i1, fun _ => hK 2 (Or.inr (Or.inr (Or.inl ⟨a, b, c, rfl⟩)))⟩) (fun c => ⟨fun _ => hK (-1) (Or.inr (Or.inr (Or.inr ⟨a, b, c, rfl⟩))), fun z => absurd rfl z⟩)
/-- the first token, and the one behind the key -/
def tk0 (B : Nat → Int32) (s : Nat) : Tk := nk B s (0, 0, 0)
def tk1 (B : Nat → Int32) (s : Nat) : Tk := nk B s (tk0 B s)
/-- how a whole reading ends: the key (or -1), the place, the steps -/
def WRd (B : Nat → Int32) (s : Nat) (x : Int32) (p : Nat) (N : List (Int32 × Int32)) : Prop :=
  (kyI B (tk0 B s) (-1) ∧ x = -1 ∧ p = (tk0 B s).1) ∨
  ∃ (key : Int32) (f : Nat) (r : Bool) (k' : Tk) (N' : List (Int32 × Int32)), kyI B (tk0 B s) key ∧ ¬ key = -1 ∧ PRs B s key f 0 0 0 (tk1 B s) r k' N' ∧ p = k'.1 ∧ ((r = true ∧ k'.2.2 = 0 ∧ x = key ∧ N = N') ∨ (¬ (r = true ∧ k'.2.2 = 0) ∧ x = -1))
theorem WRd_u {x y : Int32} {p q : Nat} {N N' : List (Int32 × Int32)} (h : WRd B s x p N) (g : WRd B s y q N') : x = y ∧ p = q ∧ (¬ x = -1 → N = N') := by
  rcases h with ⟨a1, a2, a3⟩ | ⟨key, f, r, k', N1, a1, a2, a3, a4, a5⟩ <;> rcases g with ⟨b1, b2, b3⟩ | ⟨key', f', r', k2, N2, b1, b2, b3, b4, b5⟩
  · exact ⟨a2.trans b2.symm, a3.trans b3.symm, fun z => absurd a2 z⟩
  · exact absurd (kyI_u b1 a1) b2
  · exact absurd (kyI_u a1 b1) a2
  · have e := kyI_u a1 b1
    subst e
    obtain ⟨e1, e2, e3⟩ := pr_u _ _ _ _ _ _ _ _ _ _ _ _ a3 b3
    subst e1; subst e2
    refine ⟨?_, a4.trans b4.symm, fun z => ?_⟩
    · rcases a5 with ⟨c1, c2, c3, c4⟩ | ⟨c1, c2⟩ <;> rcases b5 with ⟨d1, d2, d3, d4⟩ | ⟨d1, d2⟩
      · exact c3.trans d3.symm
      · exact absurd ⟨c1, c2⟩ d1
      · exact absurd ⟨d1, d2⟩ c1
      · exact c2.trans d2.symm
    · rcases a5 with ⟨c1, c2, c3, c4⟩ | ⟨c1, c2⟩ <;> rcases b5 with ⟨d1, d2, d3, d4⟩ | ⟨d1, d2⟩
      · rw [c4, d4]; exact e3 c1
      · exact absurd ⟨c1, c2⟩ d1
      · exact absurd ⟨d1, d2⟩ c1
      · exact absurd c2 z
/-- of a good reading: steps well made, few enough -/
theorem WRd_g {x : Int32} {p : Nat} {N : List (Int32 × Int32)} (h : WRd B s x p N) (hx : ¬ x = -1) : (x = 0 ∨ x = 1 ∨ x = 2) ∧ good x 0 N ∧ N.length + 4 ≤ s := by
  rcases h with ⟨a1, a2, a3⟩ | ⟨key, f, r, k', N1, a1, a2, a3, a4, a5⟩
  · exact absurd a2 hx
  · rcases a5 with ⟨c1, c2, c3, c4⟩ | ⟨c1, c2⟩
    · subst c1; subst c3; subst c4
      have o0 := nk_ok (B := B) (s := s) (k := (0, 0, 0)) (Nat.zero_le s)
      have o1 := nk_ok (B := B) (s := s) (k := tk0 B s) o0.1.2.1
      obtain ⟨g1, g2, g3, g4⟩ := pr_p _ _ _ _ _ _ _ _ a3 o1.1
      obtain ⟨g5, g6⟩ := g4 rfl
      rcases kyI_c a1 with ⟨u, u4⟩ | u
      · refine ⟨u, g6, ?_⟩
        have : (tk0 B s).2.1 ≤ (tk1 B s).1 := o1.2
        have := g1.1
        have := g1.2.1
        omega
      · exact absurd u a2
    · exact absurd c2 hx
theorem c1_reads {K : Mm → Int32 → Prop} (h1 : CTp M B s) (hK : ∀ (M' : Mm) (x : Int32) (p : Nat) (N : List (Int32 × Int32)), WRd B s x p N → M' 37 2 = nI p → (¬ x = -1 → M' 37 5 = x ∧ M' 37 6 = nI (nWd N) ∧ M' 40 1 = nI N.length ∧ stL x (M' 41) 0 N) → FC M M' → K M' (if x = -1 then 0 else 1)) : wp_X1_reads n M K := by
  rintro M1 rfl M2 rfl M3 rfl M4 rfl
  have hT4 : CTp (wr (wr (wr (wr M 40 1 0) 37 6 0) 37 3 0) 37 4 0) B s := by
    unfold CTp
    rw [wr_oth (by decide), wr_oth (by decide), wr_oth (by decide), wr_oth (by decide), wr_oth (by decide), wr_oth (by decide), wr_oth (by decide), wr_oth (by decide)]
    exact h1
  have o0 := nk_ok (B := B) (s := s) (k := (0, 0, 0)) (Nat.zero_le s)
  have o1 := nk_ok (B := B) (s := s) (k := tk0 B s) o0.1.2.1
  refine e1_next (en := 0) (so := 0) hT4 (Nat.zero_le s) (by decide) ?_ ?_ (fun M5 f5 a2 a3 a4 => ?_)
  · rw [wr_idx (by decide), wr_at]; rfl
  · rw [wr_at]; rfl
  have hf5 : FC M M5 := fun i x1 x2 x3 => by rw [f5.1 i x1, wr_oth x1, wr_oth x1, wr_oth x1, wr_oth x2]
  have hT5 := hT4.ft f5
  refine c1_key (k := tk0 B s) hT5 a2 a3 a4 o0.1 (fun key hkey => ?_)
  rintro M9 rfl
  have hT9 : CTp (wr M5 37 5 key) B s := by
    unfold CTp; rw [wr_oth (by decide), wr_oth (by decide)]; exact hT5
  have hf9 : FC M (wr M5 37 5 key) := fun i x1 x2 x3 => by rw [wr_oth x1]; exact hf5 i x1 x2 x3
  rw [wr_at]
  rcases kyI_c hkey with ⟨hk, hk4⟩ | rfl
  · have hk0 : 0 ≤ key := by rcases hk with rfl | rfl | rfl <;> decide
    have hk1 : ¬ key = -1 := by rcases hk with rfl | rfl | rfl <;> decide
    refine ⟨fun _ => ?_, fun z => absurd hk0 z⟩
    have hc9 : CS (wr M5 37 5 key) B s key (tk0 B s) [] 0 := by
      refine ⟨hT9, ⟨?_, ?_, ?_⟩, wr_at _ _ _ _, ?_, ?_, trivial⟩
      · rw [wr_idx (by decide)]; exact a2
      · rw [wr_idx (by decide)]; exact a3
      · rw [wr_idx (by decide)]; exact a4
      · rw [wr_idx (by decide), f5.2 6 (by decide) (by decide) (by decide), wr_idx (by decide), wr_idx (by decide), wr_at]; rfl
      · rw [wr_oth (by decide), f5.1 40 (by decide), wr_oth (by decide), wr_oth (by decide), wr_oth (by decide), wr_at]; rfl
    refine cs_next hc9 o0.1 (fun M10 c10 f10 => ?_)
    refine (rd_all 100).1 0 0 0 (by decide) (by decide) (by decide) (by decide) M10 (tk1 B s) [] 0 _ c10 ⟨o1.1, hk, Nat.zero_le _, ?_, h1.1⟩ (fun M12 f r k' N p hs12 h122 f12 => ?_)
    · have := o1.2; have := o1.1.1; show 1 ≤ (nk B s (tk0 B s)).2.1; omega
    have fF : FC M M12 := (hf9.tr f10).tr f12
    cases r with
    | false =>
      refine ⟨fun _ => ?_, fun z => absurd rfl z⟩
      have := hK M12 (-1) k'.1 [] (Or.inr ⟨key, f, false, k', N, hkey, hk1, p, rfl, Or.inr ⟨fun z => absurd z.1 (by decide), rfl⟩⟩) h122 (fun z => absurd rfl z) fF
      rwa [if_pos rfl] at this
    | true =>
      refine ⟨fun z => absurd z i1, fun _ => ?_⟩
      have c12 := hs12 rfl
      rw [List.nil_append, Nat.zero_add] at c12
      have o12 := (pr_p _ _ _ _ _ _ _ _ p o1.1).1
      rw [c12.2.1.2.2, show (0 : Int32) = nI 0 from rfl, nI_eq (by have := o12.2.2.1; omega) (by decide)]
      refine ⟨fun z => ?_, fun z => ?_⟩
      · have := hK M12 (-1) k'.1 [] (Or.inr ⟨key, f, true, k', N, hkey, hk1, p, rfl, Or.inr ⟨fun y => z y.2, rfl⟩⟩) h122 (fun z => absurd rfl z) fF
        rwa [if_pos rfl] at this
      · have := hK M12 key k'.1 N (Or.inr ⟨key, f, true, k', N, hkey, hk1, p, rfl, Or.inl ⟨rfl, z, rfl, rfl⟩⟩) h122 (fun _ => ⟨c12.2.2.1, c12.2.2.2.1, c12.2.2.2.2.1, c12.2.2.2.2.2⟩) fF
        rwa [if_neg hk1] at this
  · refine ⟨fun z => absurd z (by decide), fun _ => ?_⟩
    have := hK (wr M5 37 5 (-1)) (-1) (tk0 B s).1 [] (Or.inl ⟨hkey, rfl, rfl⟩) (by rw [wr_idx (by decide)]; exact a2) (fun z => absurd rfl z) hf9
    rwa [if_pos rfl] at this
end KYC
