/-! the class's reader against the grammar -/
/-- steps from index i on -/
def stL (key : Int32) (g : Nat → Int32) : Nat → List (Int32 × Int32) → Prop
  | _, [] => True
  | i, x :: r => stR key (g i) x.1 x.2 ∧ stL key g (i + 1) r
theorem stL_up {key : Int32} {g : Nat → Int32} {x : Int32} {q : Nat} : ∀ (L : List (Int32 × Int32)) (i : Nat), i + L.length ≤ q → stL key g i L → stL key (upd g q x) i L
  | [], _, _, _ => trivial
  | y :: r, i, hq, h => by
    have hq : i + (r.length + 1) ≤ q := hq
    exact ⟨by rw [pk_un (by omega)]; exact h.1, stL_up r (i + 1) (by omega) h.2⟩
theorem stL_app {key : Int32} {g : Nat → Int32} {y : Int32 × Int32} : ∀ (L : List (Int32 × Int32)) (i : Nat), stL key g i L → stR key (g (i + L.length)) y.1 y.2 → stL key g i (L ++ [y])
  | [], i, _, h => ⟨h, trivial⟩
  | z :: r, i, h, h2 => by
    refine ⟨h.1, stL_app r (i + 1) h.2 ?_⟩
    have : i + (z :: r).length = i + 1 + r.length := by simp only [List.length_cons]; omega
    rw [this] at h2; exact h2
theorem stL_at {key : Int32} {g : Nat → Int32} : ∀ (L : List (Int32 × Int32)) (i q : Nat) (hq : q < L.length), stL key g i L → stR key (g (i + q)) (L[q]).1 (L[q]).2
  | z :: r, i, 0, _, h => h.1
  | z :: r, i, q + 1, hq, h => by
    have := stL_at r (i + 1) q (by simp only [List.length_cons] at hq; omega) h.2
    rw [show i + (q + 1) = i + 1 + q by omega]
    exact this
def CS (M : Mm) (B : Nat → Int32) (s : Nat) (key : Int32) (k : Tk) (L : List (Int32 × Int32)) (w : Nat) : Prop := CTp M B s ∧ (M 37 2 = nI k.1 ∧ M 37 3 = nI k.2.1 ∧ M 37 4 = nI k.2.2) ∧ M 37 5 = key ∧ M 37 6 = nI w ∧ M 40 1 = nI L.length ∧ stL key (M 41) 0 L
def FC (M M' : Mm) : Prop := ∀ i : Nat, i ≠ 37 → i ≠ 40 → i ≠ 41 → M' i = M i
theorem FC.rf (M : Mm) : FC M M := fun _ _ _ _ => rfl
theorem FC.tr {A B C : Mm} (h : FC A B) (g : FC B C) : FC A C := fun i x y z => (g i x y z).trans (h i x y z)
section CRD
variable {n : Nat} {M : Mm} {B : Nat → Int32} {s : Nat} {key : Int32} {k : Tk} {L : List (Int32 × Int32)} {w : Nat}
theorem cs_next {K : Mm → Prop} (h : CS M B s key k L w) (ho : tkO B s k) (hK : ∀ M' : Mm, CS M' B s key (nk B s k) L w → FC M M' → K M') : wp_X1_next n M K := by
  obtain ⟨h1, ⟨h2, h3, h4⟩, h5, h6, h7, h8⟩ := h
  refine e1_next h1 ho.2.1 ho.2.2.1 h3 h4 (fun M' f a2 a3 a4 => hK M' ⟨h1.ft f, ⟨a2, a3, a4⟩, ?_, ?_, ?_, ?_⟩ (fun i x _ _ => f.1 i x))
  · rw [f.2 5 (by decide) (by decide) (by decide)]; exact h5
  · rw [f.2 6 (by decide) (by decide) (by decide)]; exact h6
  · rw [f.1 40 (by decide)]; exact h7
  · rw [f.1 41 (by decide)]; exact h8
theorem cs_add {K : Mm → Prop} {x : Int32} {y : Int32 × Int32} (h : CS M B s key k L w) (hl : L.length < 96) (hx : stR key x y.1 y.2) (hK : ∀ M' : Mm, CS M' B s key k (L ++ [y]) w → (∀ i : Nat, i ≠ 40 → i ≠ 41 → M' i = M i) → K M') : wp_X2_add n M 40 x K := by
  obtain ⟨h1, h234, h5, h6, h7, h8⟩ := h
  refine ⟨rfl, fun q => absurd q ?_, fun _ => ⟨?_, ?_⟩⟩
  · rw [h7, show Int32.ofNat (tp (40 + 1) - 1000) = nI 96 from by decide]; exact nI_ge hl (by decide)
  · rw [h7, show tp (40 + 1) - 1000 = 96 from by decide]; exact vp_in_nI hl (by decide)
  · rintro M1 rfl M2 rfl
    rw [h7, nI_clamp (by omega), wr_oth (show (40 : Nat) ≠ 40 + 1 by decide), h7, nI_s]
    have o : ∀ i : Nat, i ≠ 40 → i ≠ 41 → wr (wr M (40 + 1) L.length x) 40 1 (nI (L.length + 1)) i = M i := fun i a b => by rw [wr_oth a, wr_oth b]
    refine hK _ ⟨?_, ?_, ?_, ?_, ?_, ?_⟩ o
    · unfold CTp; rw [o 38 (by decide) (by decide), o 39 (by decide) (by decide)]; exact h1
    · rw [o 37 (by decide) (by decide)]; exact h234
    · rw [o 37 (by decide) (by decide)]; exact h5
    · rw [o 37 (by decide) (by decide)]; exact h6
    · rw [wr_at, List.length_append]; rfl
    · rw [wr_oth (by decide), wr_row]
      refine stL_app L 0 (stL_up L 0 (by omega) h8) ?_
      rw [Nat.zero_add, pk_us]; exact hx
theorem cs_piece {K : Mm → Prop} {x : Int32} {y : Int32 × Int32} (h : CS M B s key k L w) (ho : tkO B s k) (hl : L.length < 96) (hx : stR key x y.1 y.2) (hK : ∀ M' : Mm, CS M' B s key (nk B s k) (L ++ [y]) (w + 1) → FC M M' → K M') : wp_X1_addPiece n M x K := by
  refine cs_add h hl hx (fun M1 c1 f1 => ?_)
  rintro M3 rfl
  obtain ⟨a1, a2, a5, a6, a7, a8⟩ := c1
  refine cs_next (k := k) (L := L ++ [y]) (w := w + 1) ⟨?_, ?_, ?_, ?_, ?_, ?_⟩ ho (fun M' c' f' => hK M' c' (fun i x1 x2 x3 => ?_))
  · unfold CTp; rw [wr_oth (by decide), wr_oth (by decide)]; exact a1
  · rw [wr_idx (by decide), wr_idx (by decide), wr_idx (by decide)]; exact a2
  · rw [wr_idx (by decide)]; exact a5
  · rw [wr_at, a6, nI_s]
  · rw [wr_oth (by decide)]; exact a7
  · rw [wr_oth (by decide)]; exact a8
  · rw [f' i x1 x2 x3, wr_oth x1, f1 i x2 x3]
end CRD
