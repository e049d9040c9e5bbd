/-! the reference's reader keeps to the grammar -/
def sl8 (g : Nat → Int32) : Nat → List (Int32 × Int32) → Prop
  | _, [] => True
  | i, x :: r => g i = x.1 ∧ g (i + 1) = x.2 ∧ sl8 g (i + 2) r
theorem sl8_cg {g g' : Nat → Int32} : ∀ (L : List (Int32 × Int32)) (i : Nat), (∀ q : Nat, i ≤ q → q < i + 2 * L.length → g' q = g q) → sl8 g i L → sl8 g' i L
  | [], _, _, _ => trivial
  | y :: r, i, hq, h => by
    have hl : (y :: r).length = r.length + 1 := rfl
    exact ⟨(hq i (by omega) (by omega)).trans h.1, (hq (i + 1) (by omega) (by omega)).trans h.2.1, sl8_cg r (i + 2) (fun q a b => hq q (by omega) (by omega)) h.2.2⟩
theorem sl8_app {g : Nat → Int32} {y : Int32 × Int32} : ∀ (L : List (Int32 × Int32)) (i : Nat), sl8 g i L → g (i + 2 * L.length) = y.1 → g (i + 2 * L.length + 1) = y.2 → sl8 g i (L ++ [y])
  | [], i, _, h1, h2 => ⟨h1, h2, trivial⟩
  | z :: r, i, h, h1, h2 => by
    have hl : (z :: r).length = r.length + 1 := rfl
    have e : i + 2 * (z :: r).length = i + 2 + 2 * r.length := by omega
    rw [e] at h1 h2
    exact ⟨h.1, h.2.1, sl8_app r (i + 2) h.2.2 h1 h2⟩
theorem sl8_at {g : Nat → Int32} : ∀ (L : List (Int32 × Int32)) (i q : Nat) (hq : q < L.length), sl8 g i L → g (i + 2 * q) = (L[q]).1 ∧ g (i + 2 * q + 1) = (L[q]).2
  | z :: r, i, 0, _, h => ⟨h.1, h.2.1⟩
  | z :: r, i, q + 1, hq, h => by
    have := sl8_at r (i + 2) q (by simp only [List.length_cons] at hq; omega) h.2.2
    rw [show i + 2 * (q + 1) = i + 2 + 2 * q by omega]
    exact this
def Q8 (M : Mm) (B : Nat → Int32) (s bs b t : Nat) (k : Tk) (L : List (Int32 × Int32)) (w : Nat) : Prop := RTp M B s ∧ (M 74 18 = nI k.1 ∧ M 74 19 = nI k.2.1 ∧ M 74 20 = nI k.2.2) ∧ tkv B M k.1 k.2.1 k.2.2 ∧ (M 74 23 = nI b ∧ M 74 24 = nI t) ∧ M 74 25 = nI L.length ∧ M 74 26 = nI bs ∧ M 74 27 = nI w ∧ sl8 (M 75) bs L
def F9 (bs : Nat) (M M' : Mm) : Prop := (∀ i : Nat, i ≠ 74 → i ≠ 75 → M' i = M i) ∧ (∀ q : Nat, q < bs → M' 75 q = M 75 q) ∧ ∀ q : Nat, ¬ (18 ≤ q ∧ q ≤ 27) → M' 74 q = M 74 q
theorem F9.rf (bs : Nat) (M : Mm) : F9 bs M M := ⟨fun _ _ _ => rfl, fun _ _ => rfl, fun _ _ => rfl⟩
theorem F9.tr {bs : Nat} {A B C : Mm} (h : F9 bs A B) (g : F9 bs B C) : F9 bs A C := ⟨fun i x y => (g.1 i x y).trans (h.1 i x y), fun q x => (g.2.1 q x).trans (h.2.1 q x), fun q x => (g.2.2 q x).trans (h.2.2 q x)⟩
theorem F9.w {bs : Nat} {M : Mm} {k : Nat} {x : Int32} (h : 18 ≤ k ∧ k ≤ 27) : F9 bs M (wr M 74 k x) := ⟨fun i hi _ => wr_oth hi, fun q _ => by rw [wr_oth (by decide)], fun q a => wr_idx (fun e => a (by omega))⟩
section R8
variable {n : Nat} {M M' : Mm} {B : Nat → Int32} {s bs b t b' t' : Nat} {key : Int32} {k : Tk} {L : List (Int32 × Int32)} {w w' : Nat}
theorem tkv_cg {P E S : Nat} (h : tkv B M P E S) (h1 : M' 74 21 = M 74 21) (h2 : M' 74 22 = M 74 22) : tkv B M' P E S := by
  unfold tkv; rw [h1, h2]; exact h
theorem Q8.fl (h : Q8 M B s bs b t k L w) (h1 : ∀ i : Nat, i ≠ 74 → M' i = M i) (h2 : ∀ q : Nat, q ≠ 23 → q ≠ 24 → q ≠ 27 → M' 74 q = M 74 q) (e1 : M' 74 23 = nI b') (e2 : M' 74 24 = nI t') (e3 : M' 74 27 = nI w') : Q8 M' B s bs b' t' k L w' := by
  obtain ⟨a1, ⟨a2, a3, a4⟩, a5, a6, a7, a8, a9, a10⟩ := h
  refine ⟨?_, ⟨?_, ?_, ?_⟩, tkv_cg a5 (h2 21 (by decide) (by decide) (by decide)) (h2 22 (by decide) (by decide) (by decide)), ⟨e1, e2⟩, ?_, ?_, e3, ?_⟩
  · unfold RTp; rw [h2 17 (by decide) (by decide) (by decide), h1 88 (by decide)]; exact a1
  · rw [h2 18 (by decide) (by decide) (by decide)]; exact a2
  · rw [h2 19 (by decide) (by decide) (by decide)]; exact a3
  · rw [h2 20 (by decide) (by decide) (by decide)]; exact a4
  · rw [h2 25 (by decide) (by decide) (by decide)]; exact a7
  · rw [h2 26 (by decide) (by decide) (by decide)]; exact a8
  · rw [h1 75 (by decide)]; exact a10
theorem r8_next {K : Mm → Prop} (h : Q8 M B s bs b t k L w) (ho : tkO B s k) (hK : ∀ M' : Mm, Q8 M' B s bs b t (nk B s k) L w → F9 bs M M' → K M') : wp_X8_nextToken n M K := by
  obtain ⟨h1, ⟨h2, h3, h4⟩, h5, ⟨h6, h7⟩, h8, h9, h10, h11⟩ := h
  refine e8_next h1 ho.2.1 ho.2.2.1 (fun e z => ?_) h3 h4 (fun M' f a2 a3 a4 a5 => hK M' ⟨h1.f8 f, ⟨a2, a3, a4⟩, a5, ⟨?_, ?_⟩, ?_, ?_, ?_, ?_⟩ ⟨fun i x _ => f.1 i x, fun q _ => by rw [f.1 75 (by decide)], fun q x => f.2 q (by omega)⟩)
  · have := ho.2.2.2.1 (by omega); omega
  · rw [f.2 23 (by decide)]; exact h6
  · rw [f.2 24 (by decide)]; exact h7
  · rw [f.2 25 (by decide)]; exact h8
  · rw [f.2 26 (by decide)]; exact h9
  · rw [f.2 27 (by decide)]; exact h10
  · rw [f.1 75 (by decide)]; exact h11
theorem r8_step {K : Mm → Prop} {y : Int32 × Int32} (h : Q8 M B s bs b t k L w) (hl : L.length < 96) (hb : bs ≤ 2912) (hK : ∀ M' : Mm, Q8 M' B s bs b t k (L ++ [y]) w → F9 bs M M' → K M') : wp_X8_step n M y.1 y.2 K := by
  obtain ⟨h1, h234, h5, h67, h8, h9, h10, h11⟩ := h
  have e0 : M 74 26 + 2 * M 74 25 = nI (bs + 2 * L.length) := by rw [h9, h8, show (2 : Int32) = nI 2 from rfl, pk_mul, nI_add]
  unfold wp_X8_step
  rw [e0]
  refine ⟨vp_in_nI (by omega) (by decide), ?_⟩
  rintro M1 rfl
  rw [wr_oth (by decide), e0, nI_s]
  refine ⟨vp_in_nI (by omega) (by decide), ?_⟩
  rintro M2 rfl M3 rfl
  rw [nI_clamp (by omega), nI_clamp (by omega), wr_oth (show (74 : Nat) ≠ 75 by decide), wr_oth (show (74 : Nat) ≠ 75 by decide), h8, nI_s]
  have o : ∀ i : Nat, i ≠ 74 → i ≠ 75 → wr (wr (wr M 75 (bs + 2 * L.length) y.1) 75 (bs + 2 * L.length + 1) y.2) 74 25 (nI (L.length + 1)) i = M i := fun i a c => by rw [wr_oth a, wr_oth c, wr_oth c]
  have o4 : ∀ q : Nat, q ≠ 25 → wr (wr (wr M 75 (bs + 2 * L.length) y.1) 75 (bs + 2 * L.length + 1) y.2) 74 25 (nI (L.length + 1)) 74 q = M 74 q := fun q a => by rw [wr_idx a, wr_oth (by decide), wr_oth (by decide)]
  have o5 : ∀ q : Nat, q ≠ bs + 2 * L.length → q ≠ bs + 2 * L.length + 1 → wr (wr (wr M 75 (bs + 2 * L.length) y.1) 75 (bs + 2 * L.length + 1) y.2) 74 25 (nI (L.length + 1)) 75 q = M 75 q := fun q a c => by rw [wr_oth (by decide), wr_idx c, wr_idx a]
  refine hK _ ⟨?_, ?_, tkv_cg h5 (o4 21 (by decide)) (o4 22 (by decide)), ?_, ?_, ?_, ?_, ?_⟩ ⟨o, fun q hq => o5 q (by omega) (by omega), fun q hq => o4 q (by omega)⟩
  · unfold RTp; rw [o4 17 (by decide), o 88 (by decide) (by decide)]; exact h1
  · rw [o4 18 (by decide), o4 19 (by decide), o4 20 (by decide)]; exact h234
  · rw [o4 23 (by decide), o4 24 (by decide)]; exact h67
  · rw [wr_at, List.length_append]; rfl
  · rw [o4 26 (by decide)]; exact h9
  · rw [o4 27 (by decide)]; exact h10
  · refine sl8_app L bs (sl8_cg L bs (fun q a c => o5 q (by omega) (by omega)) h11) ?_ ?_
    · rw [wr_oth (by decide), wr_idx (by omega), wr_at]
    · rw [wr_oth (by decide), wr_at]
theorem r8_sign {K : Mm → Int32 → Prop} {c : Int32} (h : Q8 M B s bs b t k L w) (ho : tkO B s k) (hY : isS B k c → K M 1) (hN : ¬ isS B k c → K M 0) : wp_X8_isSign n M c K := by
  obtain ⟨h1, ⟨h2, h3, h4⟩, h5, -⟩ := h
  have h44 := ho.2.2.1
  unfold wp_X8_isSign
  rw [h4, show (3 : Int32) = nI 3 from rfl, nI_eq (by omega) (by decide)]
  refine ⟨fun q => hN (fun z => q z.1), fun q => ?_⟩
  rw [h5.2.2 q]
  exact ⟨fun z => hN (fun y => z y.2), fun z => hY ⟨q, z⟩⟩
/-- what the reference's reading must lead to -/
def K8r (K : Mm → Int32 → Prop) (M : Mm) (B : Nat → Int32) (s bs : Nat) (key : Int32) (m b t : Nat) (k : Tk) (L : List (Int32 × Int32)) (w : Nat) : Prop := ∀ (M' : Mm) (f : Nat) (r : Bool) (k' : Tk) (N : List (Int32 × Int32)), PRs B s key f m b t k r k' N → (r = true → Q8 M' B s bs b t k' (L ++ N) (w + nWd N)) → M' 74 18 = nI k'.1 → F9 bs M M' → K M' (if r = true then 1 else 0)
def LvR (Q : Mm → Int32 → (Mm → Int32 → Prop) → Prop) (B : Nat → Int32) (s bs : Nat) (key : Int32) (m b t : Nat) : Prop := ∀ (M : Mm) (k : Tk) (L : List (Int32 × Int32)) (w : Nat) (K : Mm → Int32 → Prop), Q8 M B s bs b t k L w → RGc B s key k L → K8r K M B s bs key m b t k L w → Q M key K
theorem r8_body {Q : Mm → Int32 → (Mm → Int32 → Prop) → Prop} {l : Nat} {Z : Mm → Prop} {K : Mm → Int32 → Prop} (hl : l < 5) (hb : bs ≤ 2912) (hQ : LvR Q B s bs key (l + 1) b t) (h : Q8 M B s bs b t k L w) (hg : RGc B s key k L) (ho : opl B k l)
    (hZ : ∀ (M12 : Mm) (f : Nat) (k1 : Tk) (N1 : List (Int32 × Int32)), PRs B s key f (l + 1) b t (nk B s k) true k1 N1 → Q8 M12 B s bs b t k1 (L ++ N1 ++ [(2, B k.1)]) (w + nWd N1) → RGc B s key k1 (L ++ N1 ++ [(2, B k.1)]) → k.2.1 < k1.2.1 → F9 bs M M12 → Z M12)
    (hF : ∀ (M10 : Mm) (f : Nat) (k1 : Tk) (N1 : List (Int32 × Int32)), PRs B s key f (l + 1) b t (nk B s k) false k1 N1 → M10 74 18 = nI k1.1 → F9 bs M M10 → K M10 0) :
    wp_X8_nextToken n M (fun M8 => Q M8 key (fun M10 r11 => (¬ r11 = 0 → wp_X8_step n M10 2 (B k.1) (fun M12 => Z M12)) ∧ (r11 = 0 → K M10 0))) := by
  have hs := hg.1.2.1
  have h96 := hg.2.2.2.2
  have hlt := hg.1.2.2.2.1 (by have := ho.1; omega)
  refine r8_next h hg.1 (fun M1 c1 f1 => ?_)
  refine hQ M1 (nk B s k) L w _ c1 hg.nx (fun M2 f r k1 N1 p1 hs1 h2 hf2 => ?_)
  have hk1 := nk_ok (B := B) (s := s) (k := k) hs
  obtain ⟨g1, g2, g3, g4⟩ := pr_p _ _ _ _ _ _ _ _ p1 hk1.1
  cases r with
  | false => exact ⟨fun q => absurd rfl q, fun _ => hF M2 f k1 N1 p1 h2 (f1.tr hf2)⟩
  | true =>
    refine ⟨fun _ => ?_, fun q => absurd q i1⟩
    obtain ⟨g5, g6⟩ := g4 rfl
    have hn1 := good_ne (by omega) g6
    have hL := hg.2.2.1
    have hg1 := g1.1
    have hg2 := g1.2.1
    have hk2 := hk1.2
    refine r8_step (y := (2, B k.1)) (hs1 rfl) (by rw [List.length_append]; omega) hb (fun M3 c3 f3 => ?_)
    refine hZ M3 f k1 N1 p1 c3 ⟨g1, hg.2.1, ?_, by omega, h96⟩ (by omega) ((f1.tr hf2).tr f3)
    rw [List.length_append, List.length_append, List.length_singleton]; omega
theorem r8_loop {Q : Mm → Int32 → (Mm → Int32 → Prop) → Prop} {l : Nat} {K : Mm → Int32 → Prop} (hl : l < 5) (h2 : ¬ l = 2) (hb : bs ≤ 2912) (hQ : LvR Q B s bs key (l + 1) b t) (W : Nat → Mm → Prop)
    (hW : ∀ (f : Nat) (M : Mm) (k : Tk) (L : List (Int32 × Int32)) (w : Nat), Q8 M B s bs b t k L w → RGc B s key k L → (¬ opl B k l → K M 1) → (opl B k l → wp_X8_nextToken n M (fun M8 => Q M8 key (fun M10 r11 => (¬ r11 = 0 → wp_X8_step n M10 2 (B k.1) (fun M12 => W f M12)) ∧ (r11 = 0 → K M10 0)))) → W (f + 1) M) :
    ∀ (fu : Nat) (M : Mm) (k : Tk) (L : List (Int32 × Int32)) (w : Nat), s < k.2.1 + fu → Q8 M B s bs b t k L w → RGc B s key k L → K8r K M B s bs key (10 + l) b t k L w → W fu M := by
  intro fu
  induction fu with
  | zero => intro M k L w hs h hg; have := hg.1.2.1; omega
  | succ fu ih =>
    intro M k L w hs h hg hK
    refine hW fu M k L w h hg (fun hno => hK M 1 true k [] (pc_lp0 hno) (fun _ => by simpa [nWd] using h) h.2.1.1 (F9.rf bs M)) (fun ho => ?_)
    refine r8_body hl hb hQ h hg ho (fun M12 f k1 N1 p1 c1 g1 lt f1 => ?_) (fun M10 f k1 N1 p1 e f10 => hK M10 _ false k1 [] (pc_lp1 ho p1) (fun q => absurd q (by decide)) e f10)
    refine ih M12 k1 _ _ (by omega) c1 g1 (fun M4 f' r' k' N2 p2 hs2 h42 hf4 => ?_)
    refine hK M4 _ r' k' _ (pc_lp3 ho h2 p1 p2) (fun e => ?_) h42 (f1.tr hf4)
    have := hs2 e
    rw [List.append_assoc, List.append_assoc] at this
    rw [nWd_app, show nWd ((2, B k.1) :: N2) = nWd N2 from by show (if (2 : Int32) = 2 then 0 else 1) + nWd N2 = _; rw [if_pos rfl, Nat.zero_add]]
    rw [Nat.add_assoc] at this
    exact this
theorem r8_level {Q : Mm → Int32 → (Mm → Int32 → Prop) → Prop} {l : Nat} {K : Mm → Int32 → Prop} {W : Mm → Prop} (hl : l < 5) (hQ : LvR Q B s bs key (l + 1) b t) (h : Q8 M B s bs b t k L w) (hg : RGc B s key k L) (hK : K8r K M B s bs key l b t k L w) (hW : ∀ (M1 : Mm) (k1 : Tk) (L1 : List (Int32 × Int32)) (w1 : Nat), Q8 M1 B s bs b t k1 L1 w1 → RGc B s key k1 L1 → K8r K M1 B s bs key (10 + l) b t k1 L1 w1 → W M1) : Q M key (fun M1 r2 => (¬ r2 = 0 → W M1) ∧ (r2 = 0 → K M1 0)) := by
  refine hQ M k L w _ h hg (fun M1 f r k1 N1 p1 hs1 h2 hf => ?_)
  cases r with
  | false => exact ⟨fun q => absurd rfl q, fun _ => hK M1 _ false k1 [] (pc_lv0 hl p1) (fun q => absurd q (by decide)) h2 hf⟩
  | true =>
    refine ⟨fun _ => ?_, fun q => absurd q i1⟩
    refine hW M1 k1 (L ++ N1) (w + nWd N1) (hs1 rfl) (hg.pr p1) (fun M2 f' r' k' N2 p2 hs2 h22 hf2 => ?_)
    refine hK M2 _ r' k' _ (pc_lv1 hl p1 p2) (fun e => ?_) h22 (hf.tr hf2)
    have := hs2 e
    rw [List.append_assoc, Nat.add_assoc, ← nWd_app] at this
    exact this
theorem opl_0 : opl B k 0 ↔ isS B k 124 := ⟨fun h => ⟨h.1, by rcases h.2 with ⟨e, y⟩ | ⟨e, y⟩ | ⟨e, y⟩ | ⟨e, y⟩ | ⟨e, y⟩ <;> first | (exact y) | (exact absurd e (by decide))⟩, fun h => ⟨h.1, Or.inl ⟨rfl, h.2⟩⟩⟩
theorem opl_1 : opl B k 1 ↔ isS B k 38 := ⟨fun h => ⟨h.1, by rcases h.2 with ⟨e, y⟩ | ⟨e, y⟩ | ⟨e, y⟩ | ⟨e, y⟩ | ⟨e, y⟩ <;> first | (exact absurd e (by decide)) | (exact y)⟩, fun h => ⟨h.1, Or.inr (Or.inl ⟨rfl, h.2⟩)⟩⟩
theorem opl_2 : opl B k 2 ↔ (isS B k 60 ∨ isS B k 61 ∨ isS B k 62) := by
  constructor
  · intro h
    rcases h.2 with ⟨e, y⟩ | ⟨e, y⟩ | ⟨e, y | y | y⟩ | ⟨e, y⟩ | ⟨e, y⟩
    · exact absurd e (by decide)
    · exact absurd e (by decide)
    · exact Or.inl ⟨h.1, y⟩
    · exact Or.inr (Or.inl ⟨h.1, y⟩)
    · exact Or.inr (Or.inr ⟨h.1, y⟩)
    · exact absurd e (by decide)
    · exact absurd e (by decide)
  · rintro (h | h | h)
    · exact ⟨h.1, Or.inr (Or.inr (Or.inl ⟨rfl, Or.inl h.2⟩))⟩
    · exact ⟨h.1, Or.inr (Or.inr (Or.inl ⟨rfl, Or.inr (Or.inl h.2)⟩))⟩
    · exact ⟨h.1, Or.inr (Or.inr (Or.inl ⟨rfl, Or.inr (Or.inr h.2)⟩))⟩
theorem opl_3 : opl B k 3 ↔ (isS B k 43 ∨ isS B k 45) := by
  constructor
  · intro h
    rcases h.2 with ⟨e, y⟩ | ⟨e, y⟩ | ⟨e, y⟩ | ⟨e, y | y⟩ | ⟨e, y⟩
    · exact absurd e (by decide)
    · exact absurd e (by decide)
    · exact absurd e (by decide)
    · exact Or.inl ⟨h.1, y⟩
    · exact Or.inr ⟨h.1, y⟩
    · exact absurd e (by decide)
  · rintro (h | h)
    · exact ⟨h.1, Or.inr (Or.inr (Or.inr (Or.inl ⟨rfl, Or.inl h.2⟩)))⟩
    · exact ⟨h.1, Or.inr (Or.inr (Or.inr (Or.inl ⟨rfl, Or.inr h.2⟩)))⟩
theorem opl_4 : opl B k 4 ↔ (isS B k 42 ∨ isS B k 47) := by
  constructor
  · intro h
    rcases h.2 with ⟨e, y⟩ | ⟨e, y⟩ | ⟨e, y⟩ | ⟨e, y⟩ | ⟨e, y | y⟩
    · exact absurd e (by decide)
    · exact absurd e (by decide)
    · exact absurd e (by decide)
    · exact absurd e (by decide)
    · exact Or.inl ⟨h.1, y⟩
    · exact Or.inr ⟨h.1, y⟩
  · rintro (h | h)
    · exact ⟨h.1, Or.inr (Or.inr (Or.inr (Or.inr ⟨rfl, Or.inl h.2⟩)))⟩
    · exact ⟨h.1, Or.inr (Or.inr (Or.inr (Or.inr ⟨rfl, Or.inr h.2⟩)))⟩
variable {P : Mm → Int32 → (Mm → Int32 → Prop) → Prop}
theorem r8_term (hb : bs ≤ 2912) (hP : LvR P B s bs key 5 b t) : LvR (wq_X8_term n P) B s bs key 4 b t := by
  intro M k L w K h hg hK
  refine r8_level (l := 4) (W := fun M1 => ∃ kf : Nat, wl_X8_term_10 n P key K kf M1) (by decide) hP h hg hK (fun M1 k1 L1 w1 h1 hg1 hK1 => ⟨97, ?_⟩)
  refine r8_loop (n := n) (l := 4) (Q := P) (K := K) (by decide) (by decide) hb hP (fun f M => wl_X8_term_10 n P key K f M) (fun f M k L w h hg hN hY => ?_) 97 M1 k1 L1 w1 (by have := hg1.2.2.2.2; omega) h1 hg1 hK1
  show wl_X8_term_10 n P key K (f + 1) M
  rw [wl_X8_term_10]
  have bod : opl B k 4 → wb_X8_term_28 n P key (fun M => wl_X8_term_10 n P key K f M) K M := by
    intro ho
    rintro v rfl
    rw [h.2.2.1.2.2 ho.1]
    exact hY ho
  refine r8_sign h hg.1 (fun z => ⟨fun _ => bod (opl_4.mpr (Or.inl z)), fun q => absurd q i1⟩) (fun z => ⟨fun q => absurd rfl q, fun _ => ?_⟩)
  exact r8_sign h hg.1 (fun y => ⟨fun q => absurd q i1, fun _ => bod (opl_4.mpr (Or.inr y))⟩) (fun y => ⟨fun _ => hN (fun x => (opl_4.mp x).elim z y), fun q => absurd rfl q⟩)
theorem r8_sum (hb : bs ≤ 2912) (hP : LvR P B s bs key 5 b t) : LvR (wq_X8_sum n P) B s bs key 3 b t := by
  intro M k L w K h hg hK
  have hQ : LvR (wq_X8_term n P) B s bs key (3 + 1) b t := r8_term hb hP
  refine r8_level (l := 3) (W := fun M1 => ∃ kf : Nat, wl_X8_sum_10 n P key K kf M1) (by decide) hQ h hg hK (fun M1 k1 L1 w1 h1 hg1 hK1 => ⟨97, ?_⟩)
  refine r8_loop (n := n) (l := 3) (Q := wq_X8_term n P) (K := K) (by decide) (by decide) hb hQ (fun f M => wl_X8_sum_10 n P key K f M) (fun f M k L w h hg hN hY => ?_) 97 M1 k1 L1 w1 (by have := hg1.2.2.2.2; omega) h1 hg1 hK1
  show wl_X8_sum_10 n P key K (f + 1) M
  rw [wl_X8_sum_10]
  have bod : opl B k 3 → wb_X8_sum_28 n P key (fun M => wl_X8_sum_10 n P key K f M) K M := by
    intro ho
    rintro v rfl
    rw [h.2.2.1.2.2 ho.1]
    exact hY ho
  refine r8_sign h hg.1 (fun z => ⟨fun _ => bod (opl_3.mpr (Or.inl z)), fun q => absurd q i1⟩) (fun z => ⟨fun q => absurd rfl q, fun _ => ?_⟩)
  exact r8_sign h hg.1 (fun y => ⟨fun q => absurd q i1, fun _ => bod (opl_3.mpr (Or.inr y))⟩) (fun y => ⟨fun _ => hN (fun x => (opl_3.mp x).elim z y), fun q => absurd rfl q⟩)
theorem r8_test (hb : bs ≤ 2912) (hP : LvR P B s bs key 5 b t) : LvR (wq_X8_test n P) B s bs key 2 b t := by
  intro M k L w K h hg hK
  have hQ : LvR (wq_X8_sum n P) B s bs key (2 + 1) b t := r8_sum hb hP
  refine r8_level (l := 2) (by decide) hQ h hg hK (fun M1 k1 L1 w1 h1 hg1 hK1 => ?_)
  have bod : opl B k1 2 → wb_X8_test_37 n P key K M1 := by
    intro ho
    rintro v rfl
    rw [h1.2.2.1.2.2 ho.1]
    refine r8_body (l := 2) (Q := wq_X8_sum n P) (Z := fun M14 => K M14 1) (K := K) (by decide) hb hQ h1 hg1 ho (fun M12 f k2 N2 p2 c2 g2 lt f2 => ?_) (fun M10 f k2 N2 p2 e f10 => hK1 M10 _ false k2 [] (pc_lp1 ho p2) (fun q => absurd q (by decide)) e f10)
    refine hK1 M12 _ true k2 _ (pc_lp2 ho p2) (fun _ => ?_) c2.2.1.1 f2
    rw [List.append_assoc] at c2
    rw [nWd_app, show nWd [(2, B k1.1)] = 0 from by show (if (2 : Int32) = 2 then 0 else 1) + 0 = _; rw [if_pos rfl], Nat.add_zero]
    exact c2
  refine r8_sign h1 hg1.1 (fun z => ⟨fun _ => bod (opl_2.mpr (Or.inl z)), fun q => absurd q i1⟩) (fun z => ⟨fun q => absurd rfl q, fun _ => ?_⟩)
  refine r8_sign h1 hg1.1 (fun y => ⟨fun _ => bod (opl_2.mpr (Or.inr (Or.inl y))), fun q => absurd q i1⟩) (fun y => ⟨fun q => absurd rfl q, fun _ => ?_⟩)
  refine r8_sign h1 hg1.1 (fun x => ⟨fun q => absurd q i1, fun _ => bod (opl_2.mpr (Or.inr (Or.inr x)))⟩) (fun x => ⟨fun _ => ?_, fun q => absurd rfl q⟩)
  exact hK1 M1 1 true k1 [] (pc_lp0 (fun v => (opl_2.mp v).elim z (fun u => u.elim y x))) (fun _ => by simpa [nWd] using h1) h1.2.1.1 (F9.rf bs M1)
theorem r8_both (hb : bs ≤ 2912) (hP : LvR P B s bs key 5 b t) : LvR (wq_X8_both n P) B s bs key 1 b t := by
  intro M k L w K h hg hK
  have hQ : LvR (wq_X8_test n P) B s bs key (1 + 1) b t := r8_test hb hP
  refine r8_level (l := 1) (W := fun M1 => ∃ kf : Nat, wl_X8_both_10 n P key K kf M1) (by decide) hQ h hg hK (fun M1 k1 L1 w1 h1 hg1 hK1 => ⟨97, ?_⟩)
  refine r8_loop (n := n) (l := 1) (Q := wq_X8_test n P) (K := K) (by decide) (by decide) hb hQ (fun f M => wl_X8_both_10 n P key K f M) (fun f M k L w h hg hN hY => ?_) 97 M1 k1 L1 w1 (by have := hg1.2.2.2.2; omega) h1 hg1 hK1
  show wl_X8_both_10 n P key K (f + 1) M
  rw [wl_X8_both_10]
  refine r8_sign h hg.1 (fun z => ⟨fun q => absurd q i1, fun _ => ?_⟩) (fun z => ⟨fun _ => hN (fun x => z (opl_1.mp x)), fun q => absurd rfl q⟩)
  have := hY (opl_1.mpr z)
  rw [z.2] at this
  exact this
theorem r8_either (hb : bs ≤ 2912) (hP : LvR P B s bs key 5 b t) : LvR (wq_X8_either n P) B s bs key 0 b t := by
  intro M k L w K h hg hK
  have hQ : LvR (wq_X8_both n P) B s bs key (0 + 1) b t := r8_both hb hP
  refine r8_level (l := 0) (W := fun M1 => ∃ kf : Nat, wl_X8_either_10 n P key K kf M1) (by decide) hQ h hg hK (fun M1 k1 L1 w1 h1 hg1 hK1 => ⟨97, ?_⟩)
  refine r8_loop (n := n) (l := 0) (Q := wq_X8_both n P) (K := K) (by decide) (by decide) hb hQ (fun f M => wl_X8_either_10 n P key K f M) (fun f M k L w h hg hN hY => ?_) 97 M1 k1 L1 w1 (by have := hg1.2.2.2.2; omega) h1 hg1 hK1
  show wl_X8_either_10 n P key K (f + 1) M
  rw [wl_X8_either_10]
  refine r8_sign h hg.1 (fun z => ⟨fun q => absurd q i1, fun _ => ?_⟩) (fun z => ⟨fun _ => hN (fun x => z (opl_0.mp x)), fun q => absurd rfl q⟩)
  have := hY (opl_0.mpr z)
  rw [z.2] at this
  exact this
theorem r8_name {K : Mm → Int32 → Prop} {c : Int32} (hk : key = 0 ∨ key = 1 ∨ key = 2) (hY : nmOK key c → K M 1) (hN : ¬ nmOK key c → K M 0) : wp_X8_isName n M key c K := by
  rcases hk with rfl | rfl | rfl
  · refine ⟨fun _ => ⟨fun e => hY (Or.inl ⟨rfl, Or.inl e⟩), fun a => ⟨fun e => hY (Or.inl ⟨rfl, Or.inr (Or.inl e)⟩), fun b => ⟨fun e => hN (fun z => ?_), fun e => hY (Or.inl ⟨rfl, Or.inr (Or.inr e)⟩)⟩⟩⟩, fun z => absurd z (by decide), fun z => absurd rfl z⟩
    rcases z with ⟨_, y | y | y⟩ | ⟨y, _⟩ | ⟨y, _⟩
    · exact a y
    · exact b y
    · exact e y
    · exact absurd y (by decide)
    · exact absurd y (by decide)
  · refine ⟨fun z => absurd z (by decide), fun _ => ⟨fun e => hY (Or.inr (Or.inl ⟨rfl, Or.inl e⟩)), fun a => ⟨fun e => hY (Or.inr (Or.inl ⟨rfl, Or.inr (Or.inl e)⟩)), fun b => ⟨fun e => hN (fun z => ?_), fun e => hY (Or.inr (Or.inl ⟨rfl, Or.inr (Or.inr e)⟩))⟩⟩⟩, fun _ z => absurd rfl z⟩
    rcases z with ⟨y, _⟩ | ⟨_, y | y | y⟩ | ⟨y, _⟩
    · exact absurd y (by decide)
    · exact a y
    · exact b y
    · exact e y
    · exact absurd y (by decide)
  · refine ⟨fun z => absurd z (by decide), fun z => absurd z (by decide), fun _ _ => ⟨fun e => hY (Or.inr (Or.inr ⟨rfl, Or.inl e⟩)), fun a => ⟨fun e => hN (fun z => ?_), fun e => hY (Or.inr (Or.inr ⟨rfl, Or.inr e⟩))⟩⟩⟩
    rcases z with ⟨y, _⟩ | ⟨y, _⟩ | ⟨_, y | y⟩
    · exact absurd y (by decide)
    · exact absurd y (by decide)
    · exact a y
    · exact e y
theorem r8_piece {K : Mm → Int32 → Prop} {y : Int32 × Int32} (h : Q8 M B s bs b t k L w) (ho : tkO B s k) (hl : L.length < 96) (hb : bs ≤ 2912) (hK : ∀ M' : Mm, Q8 M' B s bs b t (nk B s k) (L ++ [y]) (w + 1) → F9 bs M M' → K M' 1) : wp_X8_step n M y.1 y.2 (fun M8 => ∀ M10 : Mm, M10 = wr M8 74 27 ((M8 74 27) + 1) → wp_X8_nextToken n M10 (fun M11 => K M11 1)) := by
  refine r8_step h hl hb (fun M8 c8 f8 => ?_)
  rintro M10 rfl
  refine r8_next (k := k) (L := L ++ [y]) (w := w + 1) (c8.fl (fun i x => wr_oth x) (fun q _ _ x => wr_idx x) ?_ ?_ ?_) ho (fun M11 c11 f11 => hK M11 c11 ((f8.tr (F9.w (by decide))).tr f11))
  · rw [wr_idx (by decide)]; exact c8.2.2.2.1.1
  · rw [wr_idx (by decide)]; exact c8.2.2.2.1.2
  · rw [wr_at, c8.2.2.2.2.2.2.1, nI_s]
theorem r8_part (hb8 : b ≤ 8) (ht8 : t ≤ 8) (hb : bs ≤ 2912) (hE : b < 8 → LvR (wq_X8_either n P) B s bs key 0 (b + 1) t) (hP : t < 8 → LvR P B s bs key 5 b (t + 1)) : LvR (wq_X8_part0 n P) B s bs key 5 b t := by
  intro M k L w K h hg hK
  have hs := hg.1.2.1
  have h96 := hg.2.2.2.2
  have hk4 := hg.1.2.2.1
  have hL := hg.2.2.1
  have hlt := hg.1.2.2.2.1
  have hv := h.2.2.1
  have w145n : ¬ isS B k 40 → K M 0 → wb_X8_part0_145 n P key K M := fun a e => r8_sign h hg.1 (fun z => absurd z a) (fun _ => ⟨fun _ => e, fun z => absurd rfl z⟩)
  have w84n : ¬ isS B k 33 → ¬ isS B k 40 → K M 0 → wb_X8_part0_84 n P key K M := fun a c e => r8_sign h hg.1 (fun z => absurd z a) (fun _ => ⟨fun _ => w145n c e, fun z => absurd rfl z⟩)
  unfold wq_X8_part0
  rw [h.2.1.2.2, show (2 : Int32) = nI 2 from rfl, show (1 : Int32) = nI 1 from rfl, nI_eq (by omega) (by decide), nI_eq (by omega) (by decide)]
  refine ⟨fun q2 => ⟨fun q1 => ?_, fun q1 => ?_⟩, fun q2 => ?_⟩
  · refine r8_sign h hg.1 (fun hS => ⟨fun q => absurd q i1, fun _ => ?_⟩) (fun hS => ⟨fun _ => ?_, fun q => absurd rfl q⟩)
    · have h40 : ¬ isS B k 40 := fun z => absurd (sS hS z) (by decide)
      rw [h.2.2.2.1.2, show (8 : Int32) = nI 8 from rfl, nI_leI (by decide) (by omega)]
      refine ⟨fun q => w145n h40 (hK M 1 false k [] (pc_nnot hS (by omega)) (fun q => absurd q (by decide)) h.2.1.1 (F9.rf bs M)), fun q => ?_⟩
      have ht : t < 8 := by omega
      have := hlt (by have := hS.1; omega)
      rintro M15 rfl
      refine r8_next (k := k) (L := L) (w := w) (b := b) (t := t + 1) (h.fl (fun i x => wr_oth x) (fun q _ x _ => wr_idx x) ?_ ?_ ?_) hg.1 (fun M16 c16 f16 => ?_)
      · rw [wr_idx (by decide)]; exact h.2.2.2.1.1
      · rw [wr_at]; exact nI_s t
      · rw [wr_idx (by decide)]; exact h.2.2.2.2.2.2.1
      have hk1 := nk_ok (B := B) (s := s) (k := k) hs
      refine hP ht M16 (nk B s k) L w _ c16 hg.nx (fun M18 f r k1 N1 p1 hs1 h2 hf2 => ?_)
      have fF : F9 bs M M18 := ((F9.w (by decide)).tr f16).tr hf2
      obtain ⟨g1, g2, g3, g4⟩ := pr_p _ _ _ _ _ _ _ _ p1 hk1.1
      cases r with
      | false => exact ⟨fun q => absurd rfl q, fun _ => hK M18 _ false k1 _ (pc_not hS ht p1) (fun q => absurd q (by decide)) h2 fF⟩
      | true =>
        refine ⟨fun _ => ?_, fun q => absurd q i1⟩
        have c18 := hs1 rfl
        obtain ⟨g5, g6⟩ := g4 rfl
        have hg1 := g1.1
        have hg2 := g1.2.1
        have hk2 := hk1.2
        rintro M20 rfl
        refine r8_step (y := (2, 33)) (b := b) (t := t) (k := k1) (L := L ++ N1) (w := w + nWd N1) (c18.fl (fun i x => wr_oth x) (fun q _ x _ => wr_idx x) ?_ ?_ ?_) (by rw [List.length_append]; omega) hb (fun M21 c21 f21 => ?_)
        · rw [wr_idx (by decide)]; exact c18.2.2.2.1.1
        · rw [wr_at, c18.2.2.2.1.2, show (1 : Int32) = nI 1 from rfl, pk_sub (by omega), show t + 1 - 1 = t by omega]
        · rw [wr_idx (by decide)]; exact c18.2.2.2.2.2.2.1
        refine hK M21 _ true k1 _ (pc_not hS ht p1) (fun _ => ?_) c21.2.1.1 ((fF.tr (F9.w (by decide))).tr f21)
        rw [List.append_assoc] at c21
        rw [nWd_app, show nWd [(2, (33 : Int32))] = 0 from rfl, Nat.add_zero]
        exact c21
    · refine r8_sign h hg.1 (fun hS4 => ⟨fun q => absurd q i1, fun _ => ?_⟩) (fun hS4 => ⟨fun _ => ?_, fun q => absurd rfl q⟩)
      · rw [h.2.2.2.1.1, show (8 : Int32) = nI 8 from rfl, nI_eq (by omega) (by decide)]
        refine ⟨fun q => ?_, fun q => hK M 1 false k [] (pc_nbr hS4 (by omega)) (fun q => absurd q (by decide)) h.2.1.1 (F9.rf bs M)⟩
        have hb1 : b < 8 := by omega
        rintro M25 rfl
        refine r8_next (k := k) (L := L) (w := w) (b := b + 1) (t := t) (h.fl (fun i x => wr_oth x) (fun q x _ _ => wr_idx x) ?_ ?_ ?_) hg.1 (fun M26 c26 f26 => ?_)
        · rw [wr_at]; exact nI_s b
        · rw [wr_idx (by decide)]; exact h.2.2.2.1.2
        · rw [wr_idx (by decide)]; exact h.2.2.2.2.2.2.1
        refine hE hb1 M26 (nk B s k) L w _ c26 hg.nx (fun M28 f r k1 N1 p1 hs1 h2 hf2 => ?_)
        have fF : F9 bs M M28 := ((F9.w (by decide)).tr f26).tr hf2
        cases r with
        | false => exact ⟨fun _ => hK M28 _ false k1 _ (pc_br0 hS4 hb1 p1) (fun q => absurd q (by decide)) h2 fF, fun q => absurd rfl q⟩
        | true =>
          refine ⟨fun q => absurd q i1, fun _ => ?_⟩
          have c28 := hs1 rfl
          have hG2 := hg.nx.pr p1
          refine r8_sign c28 hG2.1 (fun hS1 => ⟨fun _ => ?_, fun q => absurd q i1⟩) (fun hS1 => ⟨fun q => absurd rfl q, fun _ => ?_⟩)
          · rintro M32 rfl
            refine r8_next (k := k1) (L := L ++ N1) (w := w + nWd N1) (b := b) (t := t) (c28.fl (fun i x => wr_oth x) (fun q x _ _ => wr_idx x) ?_ ?_ ?_) hG2.1 (fun M33 c33 f33 => ?_)
            · rw [wr_at, c28.2.2.2.1.1, show (1 : Int32) = nI 1 from rfl, pk_sub (by omega), show b + 1 - 1 = b by omega]
            · rw [wr_idx (by decide)]; exact c28.2.2.2.1.2
            · rw [wr_idx (by decide)]; exact c28.2.2.2.2.2.2.1
            exact hK M33 _ true (nk B s k1) _ (pc_br1 hS4 hb1 p1 hS1) (fun _ => c33) c33.2.1.1 ((fF.tr (F9.w (by decide))).tr f33)
          · exact hK M28 _ false k1 _ (pc_br2 hS4 hb1 p1 hS1) (fun q => absurd q (by decide)) h2 fF
      · exact hK M 1 false k [] (pc_el q2 q1 hS hS4) (fun q => absurd q (by decide)) h.2.1.1 (F9.rf bs M)
  · have hl1 := hlt (by omega)
    have h33 : ¬ isS B k 33 := fun z => by have := z.1; omega
    have h40 : ¬ isS B k 40 := fun z => by have := z.1; omega
    obtain ⟨l1, l2⟩ := hg.1.2.2.2.2.2 q1
    have e22 := hv.2.1 q1
    rw [e22]
    by_cases h1 : k.2.1 - k.1 = 1
    · rw [if_pos h1]
      refine ⟨fun z => absurd (z ▸ l1) (by decide), fun _ => r8_name hg.2.1 (fun hn => ⟨fun q => absurd q i1, fun _ => ?_⟩) (fun hn => ⟨fun _ => ?_, fun q => absurd rfl q⟩)⟩
      · rw [e22, if_pos h1]
        exact r8_piece (y := (1, B k.1)) h hg.1 (by omega) hb (fun M' c' f' => hK M' 1 true (nk B s k) _ (pc_name q1 ⟨h1, hn⟩) (fun _ => c') c'.2.1.1 f')
      · exact w84n h33 h40 (hK M 1 false k [] (pc_nname q1 (fun z => hn z.2)) (fun q => absurd q (by decide)) h.2.1.1 (F9.rf bs M))
    · rw [if_neg h1]
      exact ⟨fun _ => w84n h33 h40 (hK M 1 false k [] (pc_nname q1 (fun z => h1 z.1)) (fun q => absurd q (by decide)) h.2.1.1 (F9.rf bs M)), fun z => absurd rfl z⟩
  · have hl1 := hlt (by omega)
    rw [(hv.1 q2).1]
    exact r8_piece (y := (0, nmv B k.1 (k.2.1 - k.1))) h hg.1 (by omega) hb (fun M' c' f' => hK M' 1 true (nk B s k) _ (pc_num q2) (fun _ => c') c'.2.1.1 f')
theorem r8_all (hb : bs ≤ 2912) : ∀ d b t : Nat, b ≤ 8 → t ≤ 8 → (8 - b) + (8 - t) + 1 ≤ d → LvR (wp_X8_part0 n d) B s bs key 5 b t
  | 0, _, _, _, _, h => absurd h (by omega)
  | d + 1, b, t, hb8, ht8, h => r8_part hb8 ht8 hb (fun q => r8_either hb (r8_all hb d (b + 1) t (by omega) ht8 (by omega))) (fun q => r8_all hb d b (t + 1) hb8 (by omega) (by omega))
end R8
