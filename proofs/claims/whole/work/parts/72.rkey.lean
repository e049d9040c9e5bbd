/-! the reference's whole reading -/
section R9
variable {n : Nat} {M : Mm} {B : Nat → Int32} {s : Nat} {k : Tk}
theorem r8_at {j : Nat} (h1 : RTp M B s) (hj : k.1 + j < s) : vp_in (nI (k.1 + j)) 96 ∧ M 88 (nI (k.1 + j)).toNatClampNeg = B (k.1 + j) := by
  have := h1.1
  exact ⟨vp_in_nI (by omega) (by decide), by rw [nI_clamp (by omega), (h1.2.2 _ hj).1]⟩
theorem r8_long {K : Mm → Int32 → Prop} (h1 : RTp M B s) (h2 : M 74 18 = nI k.1) (h3 : M 74 19 = nI k.2.1) (h4 : M 74 20 = nI k.2.2) (ho : tkO B s k) (hY : isW B k 0 → K M 1) (hN : ¬ isW B k 0 → K M 0) : wp_X8_isLong n M 108 101 97 118 101 0 K := by
  have h96 := h1.1
  have hs := ho.2.1
  have hE := ho.1
  have h44 := ho.2.2.1
  refine ⟨fun z => absurd rfl z, fun _ => ?_⟩
  unfold wb_X8_isLong_11
  rw [h4, h3, h2, show nI k.1 + 2 = nI (k.1 + 2) from nI_add _ _, show nI k.1 + 3 = nI (k.1 + 3) from nI_add _ _, show nI k.1 + 4 = nI (k.1 + 4) from nI_add _ _, nI_s, pk_sub hE, show (nI k.2.2 = 1) = (k.2.2 = 1) from by rw [show (1 : Int32) = nI 1 from rfl, nI_eq (by omega) (by decide)], show (nI (k.2.1 - k.1) = 5) = (k.2.1 - k.1 = 5) from by rw [show (5 : Int32) = nI 5 from rfl, nI_eq (by omega) (by decide)]]
  refine ⟨fun z => hN (fun y => z y.1), fun z => ⟨fun e => hN (fun y => e y.2.1), fun e => ?_⟩⟩
  obtain ⟨v0, c0⟩ := r8_at (k := k) (j := 0) h1 (by omega)
  obtain ⟨v1, c1⟩ := r8_at (k := k) (j := 1) h1 (by omega)
  obtain ⟨v2, c2⟩ := r8_at (k := k) (j := 2) h1 (by omega)
  obtain ⟨v3, c3⟩ := r8_at (k := k) (j := 3) h1 (by omega)
  obtain ⟨v4, c4⟩ := r8_at (k := k) (j := 4) h1 (by omega)
  rw [Nat.add_zero] at v0 c0
  rw [c0, c1, c2, c3, c4]
  refine ⟨v0, fun a => hN (fun y => a (y.2.2 0 (by decide))), fun a0 => ⟨v1, fun a => hN (fun y => a (y.2.2 1 (by decide))), fun a1 => ⟨v2, fun a => hN (fun y => a (y.2.2 2 (by decide))), fun a2 => ⟨v3, fun a => hN (fun y => a (y.2.2 3 (by decide))), fun a3 => ⟨v4, fun a => hN (fun y => a (y.2.2 4 (by decide))), fun a4 => ⟨fun _ => hY ⟨z, e, fun i hi => ?_⟩, fun q => absurd rfl q⟩⟩⟩⟩⟩⟩
  have hi : i < 5 := hi
  have : i = 0 ∨ i = 1 ∨ i = 2 ∨ i = 3 ∨ i = 4 := by omega
  rcases this with rfl | rfl | rfl | rfl | rfl
  · exact a0
  · exact a1
  · exact a2
  · exact a3
  · exact a4
theorem r8_word {K : Mm → Int32 → Prop} {q : Nat} {x1 x2 x3 x4 : Int32} (hq : q = 1 ∨ q = 2) (hx : sByt.getD q [] = [x1, x2, x3, x4]) (hx4 : ¬ x4 = 0) (h1 : RTp M B s) (h2 : M 74 18 = nI k.1) (h3 : M 74 19 = nI k.2.1) (h4 : M 74 20 = nI k.2.2) (ho : tkO B s k) (hY : isW B k q → K M 1) (hN : ¬ isW B k q → K M 0) : wp_X8_isWordAt n M x1 x2 x3 x4 K := by
  have h96 := h1.1
  have hs := ho.2.1
  have hE := ho.1
  have h44 := ho.2.2.1
  have hl : sLen.getD q 0 = 4 := by rcases hq with rfl | rfl <;> rfl
  refine ⟨fun _ => ?_, fun z => absurd z hx4⟩
  unfold wb_X8_isWordAt_10
  rw [h4, h3, h2, show nI k.1 + 2 = nI (k.1 + 2) from nI_add _ _, show nI k.1 + 3 = nI (k.1 + 3) from nI_add _ _, nI_s, pk_sub hE, show (nI k.2.2 = 1) = (k.2.2 = 1) from by rw [show (1 : Int32) = nI 1 from rfl, nI_eq (by omega) (by decide)], show (nI (k.2.1 - k.1) = 4) = (k.2.1 - k.1 = 4) from by rw [show (4 : Int32) = nI 4 from rfl, nI_eq (by omega) (by decide)]]
  refine ⟨fun z => hN (fun y => z y.1), fun z => ⟨fun e => hN (fun y => e (y.2.1.trans hl)), fun e => ?_⟩⟩
  obtain ⟨v0, c0⟩ := r8_at (k := k) (j := 0) h1 (by omega)
  obtain ⟨v1, c1⟩ := r8_at (k := k) (j := 1) h1 (by omega)
  obtain ⟨v2, c2⟩ := r8_at (k := k) (j := 2) h1 (by omega)
  obtain ⟨v3, c3⟩ := r8_at (k := k) (j := 3) h1 (by omega)
  rw [Nat.add_zero] at v0 c0
  rw [c0, c1, c2, c3]
  have g : ∀ (i : Nat), i < 4 → isW B k q → B (k.1 + i) = [x1, x2, x3, x4].getD i 0 := fun i hi y => by
    have := y.2.2 i (by omega)
    rw [hx] at this; exact this
  refine ⟨v0, fun a => hN (fun y => a (g 0 (by decide) y)), fun a0 => ⟨v1, fun a => hN (fun y => a (g 1 (by decide) y)), fun a1 => ⟨v2, fun a => hN (fun y => a (g 2 (by decide) y)), fun a2 => ⟨fun z => absurd z hx4, fun _ => ⟨v3, fun a => hN (fun y => a (g 3 (by decide) y)), fun a3 => hY ⟨z, e.trans hl.symm, fun i hi => ?_⟩⟩⟩⟩⟩⟩
  rw [hx]
  have : i = 0 ∨ i = 1 ∨ i = 2 ∨ i = 3 := by omega
  rcases this with rfl | rfl | rfl | rfl
  · exact a0
  · exact a1
  · exact a2
  · exact a3
theorem r8_key {K : Mm → Int32 → Prop} (h1 : RTp M B s) (h2 : M 74 18 = nI k.1) (h3 : M 74 19 = nI k.2.1) (h4 : M 74 20 = nI k.2.2) (ho : tkO B s k) (hK : ∀ x : Int32, kyI B k x → K M x) : wp_X8_key n M K := by
  refine r8_long h1 h2 h3 h4 ho (fun a => ⟨fun z => absurd z i1, fun _ => hK 0 (Or.inl ⟨a, rfl⟩)⟩) (fun a => ⟨fun _ => ?_, fun z => absurd rfl z⟩)
  refine r8_word (q := 1) (Or.inl rfl) rfl (by decide) h1 h2 h3 h4 ho (fun b => ⟨fun z => absurd z i1, fun _ => hK 1 (Or.inr (Or.inl ⟨a, b, rfl⟩))⟩) (fun b => ⟨fun _ => ?_, fun z => absurd rfl z⟩)
  exact r8_word (q := 2) (Or.inr rfl) rfl (by decide) h1 h2 h3 h4 ho (fun c => ⟨fun z => absurd z i1, fun _ => hK 2 (Or.inr (Or.inr (Or.inl ⟨a, b, c, rfl⟩)))⟩) (fun c => ⟨fun _ => hK (-1) (Or.inr (Or.inr (Or.inr ⟨a, b, c, rfl⟩))), fun z => absurd rfl z⟩)
theorem nxS_30 : nxS B s 0 3 = nxS B s 0 0 := by unfold nxS; simp
/-- what a reading of the reference leaves -/
def F10 (bs : Nat) (M M' : Mm) : Prop := (∀ i : Nat, i ≠ 74 → i ≠ 75 → M' i = M i) ∧ (∀ q : Nat, q < bs → M' 75 q = M 75 q) ∧ ∀ q : Nat, ¬ (17 ≤ q ∧ q ≤ 27) → M' 74 q = M 74 q
def bsOf (T : Nat) : Nat := if 14 ≤ T then 2908 else 112 + 200 * T
theorem r8_111 {K : Mm → Int32 → Prop} {x1 x2 : Int32} (h0 : x2 = 0 → K (wr M 74 17 0) (-1)) (h1 : ¬ x2 = 0 → K (wr M 74 17 0) x1) : wb_X8_parse_111 n K M x1 x2 := by
  rintro M18 rfl
  exact ⟨h0, h1⟩
theorem r8_parse {K : Mm → Int32 → Prop} {T : Nat} (h1 : RTp M B s) (hT : M 75 1 = nI T) (hT14 : T ≤ 14) (hK : ∀ (M' : Mm) (x : Int32) (p : Nat) (N : List (Int32 × Int32)), WRd B s x p N → M' 74 18 = nI p → M' 74 17 = 0 → (¬ x = -1 → M' 74 25 = nI N.length ∧ M' 74 27 = nI (nWd N) ∧ sl8 (M' 75) (bsOf T) N) → F10 (bsOf T) M M' → K M' x) : wp_X8_parse n M K := by
  have hb : bsOf T ≤ 2912 := by unfold bsOf; split <;> omega
  have o0 := nk_ok (B := B) (s := s) (k := (0, 0, 0)) (Nat.zero_le s)
  have o1 := nk_ok (B := B) (s := s) (k := tk0 B s) o0.1.2.1
  rintro M1 rfl M2 rfl M3 rfl M4 rfl M5 rfl M6 rfl
  generalize hM6 : wr (wr (wr (wr (wr (wr M 74 19 0) 74 20 3) 74 23 0) 74 24 0) 74 25 0) 74 27 0 = M6
  have o6 : ∀ i : Nat, i ≠ 74 → M6 i = M i := fun i x => by rw [← hM6, wr_oth x, wr_oth x, wr_oth x, wr_oth x, wr_oth x, wr_oth x]
  have q6 : ∀ q : Nat, ¬ (18 ≤ q ∧ q ≤ 27) → M6 74 q = M 74 q := fun q x => by rw [← hM6, wr_idx (by omega), wr_idx (by omega), wr_idx (by omega), wr_idx (by omega), wr_idx (by omega), wr_idx (by omega)]
  have b19 : M6 74 19 = nI 0 := by rw [← hM6, wr_idx (by decide), wr_idx (by decide), wr_idx (by decide), wr_idx (by decide), wr_idx (by decide), wr_at]; rfl
  have b20 : M6 74 20 = nI 3 := by rw [← hM6, wr_idx (by decide), wr_idx (by decide), wr_idx (by decide), wr_idx (by decide), wr_at]; rfl
  have b23 : M6 74 23 = nI 0 := by rw [← hM6, wr_idx (by decide), wr_idx (by decide), wr_idx (by decide), wr_at]; rfl
  have b24 : M6 74 24 = nI 0 := by rw [← hM6, wr_idx (by decide), wr_idx (by decide), wr_at]; rfl
  have b25 : M6 74 25 = nI 0 := by rw [← hM6, wr_idx (by decide), wr_at]; rfl
  have b27 : M6 74 27 = nI 0 := by rw [← hM6, wr_at]; rfl
  clear hM6
  suffices main : ∀ v : Int32, v = nI (bsOf T) → wb_X8_parse_60 n K M6 v by
    rw [o6 75 (by decide), hT, show (14 : Int32) = nI 14 from rfl, nI_leI (by decide) (by omega)]
    refine ⟨fun q => main _ (by unfold bsOf; rw [if_pos q]; rfl), fun q => main _ ?_⟩
    unfold bsOf
    rw [if_neg q, show (200 : Int32) = nI 200 from rfl, pk_mul, show (108 : Int32) = nI 108 from rfl, nI_add, show (4 : Int32) = nI 4 from rfl, nI_add]
    congr 1
    omega
  rintro v rfl M9 rfl
  have o9 : ∀ i : Nat, i ≠ 74 → wr M6 74 26 (nI (bsOf T)) i = M i := fun i x => by rw [wr_oth x, o6 i x]
  have q9 : ∀ q : Nat, ¬ (18 ≤ q ∧ q ≤ 27) → wr M6 74 26 (nI (bsOf T)) 74 q = M 74 q := fun q x => by rw [wr_idx (by omega), q6 q x]
  have r9 : RTp (wr M6 74 26 (nI (bsOf T))) B s := by unfold RTp; rw [q9 17 (by decide), o9 88 (by decide)]; exact h1
  refine e8_next (en := 0) (so := 3) r9 (Nat.zero_le s) (by decide) (fun _ => by decide) ?_ ?_ (fun M10 f10 a2 a3 a4 a5 => ?_)
  · rw [wr_idx (by decide)]; exact b19
  · rw [wr_idx (by decide)]; exact b20
  rw [nxS_30] at a4 a5
  have f10' : F9 (bsOf T) M M10 := ⟨fun i x _ => by rw [f10.1 i x, o9 i x], fun q _ => by rw [f10.1 75 (by decide), o9 75 (by decide)], fun q x => by rw [f10.2 q (by omega), q9 q x]⟩
  have c10 : Q8 M10 B s (bsOf T) 0 0 (tk0 B s) [] 0 := by
    refine ⟨r9.f8 f10, ⟨a2, a3, a4⟩, a5, ⟨?_, ?_⟩, ?_, ?_, ?_, trivial⟩
    · rw [f10.2 23 (by decide), wr_idx (by decide)]; exact b23
    · rw [f10.2 24 (by decide), wr_idx (by decide)]; exact b24
    · rw [f10.2 25 (by decide), wr_idx (by decide)]; exact b25
    · rw [f10.2 26 (by decide), wr_at]
    · rw [f10.2 27 (by decide), wr_idx (by decide)]; exact b27
  have fin : ∀ (M' : Mm), F9 (bsOf T) M M' → F10 (bsOf T) M (wr M' 74 17 0) := fun M' f => ⟨fun i x y => by rw [wr_oth x]; exact f.1 i x y, fun q x => by rw [wr_oth (by decide)]; exact f.2.1 q x, fun q x => by rw [wr_idx (by omega)]; exact f.2.2 q (by omega)⟩
  refine r8_key (k := tk0 B s) c10.1 a2 a3 a4 o0.1 (fun key hkey => ?_)
  rcases kyI_c hkey with ⟨hk, hk4⟩ | rfl
  · have hk0 : ¬ key < 0 := by rcases hk with rfl | rfl | rfl <;> decide
    have hk1 : ¬ key = -1 := by rcases hk with rfl | rfl | rfl <;> decide
    refine ⟨fun z => absurd z hk0, fun _ => ⟨fun z => absurd z i1, fun _ => ?_⟩⟩
    refine r8_next c10 o0.1 (fun M14 c14 f14 => ?_)
    refine r8_either hb (r8_all hb 20 0 0 (by decide) (by decide) (by decide)) M14 (tk1 B s) [] 0 _ c14 ⟨o1.1, hk, Nat.zero_le _, ?_, h1.1⟩ (fun M16 f r k' N p hs16 h162 f16 => ?_)
    · have := o1.2; have := o1.1.1; show 1 ≤ (nk B s (tk0 B s)).2.1; omega
    have fF := fin M16 ((f10'.tr f14).tr f16)
    have e18 : wr M16 74 17 0 74 18 = nI k'.1 := by rw [wr_idx (by decide)]; exact h162
    cases r with
    | false =>
      refine ⟨fun _ => r8_111 (n := n) (fun _ => ?_) (fun z => absurd rfl z), fun z => absurd rfl z⟩
      exact hK _ (-1) k'.1 [] (Or.inr ⟨key, f, false, k', N, hkey, hk1, p, rfl, Or.inr ⟨fun z => absurd z.1 (by decide), rfl⟩⟩) e18 (wr_at _ _ _ _) (fun z => absurd rfl z) fF
    | true =>
      refine ⟨fun z => absurd z i1, fun _ => ?_⟩
      have c16 := hs16 rfl
      rw [List.nil_append, Nat.zero_add] at c16
      have o16 := (pr_p _ _ _ _ _ _ _ _ p o1.1).1
      rw [c16.2.1.2.2, show (nI k'.2.2 = 0) = (k'.2.2 = 0) from by rw [show (0 : Int32) = nI 0 from rfl, nI_eq (by have := o16.2.2.1; omega) (by decide)]]
      refine ⟨fun z => r8_111 (n := n) (fun _ => ?_) (fun z => absurd rfl z), fun z => r8_111 (n := n) (fun z => absurd z i1) (fun _ => ?_)⟩
      · exact hK _ (-1) k'.1 [] (Or.inr ⟨key, f, true, k', N, hkey, hk1, p, rfl, Or.inr ⟨fun y => z y.2, rfl⟩⟩) e18 (wr_at _ _ _ _) (fun z => absurd rfl z) fF
      · refine hK _ key k'.1 N (Or.inr ⟨key, f, true, k', N, hkey, hk1, p, rfl, Or.inl ⟨rfl, z, rfl, rfl⟩⟩) e18 (wr_at _ _ _ _) (fun _ => ⟨?_, ?_, ?_⟩) fF
        · rw [wr_idx (by decide)]; exact c16.2.2.2.2.1
        · rw [wr_idx (by decide)]; exact c16.2.2.2.2.2.2.1
        · rw [wr_oth (by decide)]; exact c16.2.2.2.2.2.2.2
  · refine ⟨fun _ => ⟨fun _ => r8_111 (n := n) (fun _ => ?_) (fun z => absurd rfl z), fun z => absurd rfl z⟩, fun z => absurd (by decide) z⟩
    exact hK _ (-1) (tk0 B s).1 [] (Or.inl ⟨hkey, rfl, rfl⟩) (by rw [wr_idx (by decide)]; exact a2) (wr_at _ _ _ _) (fun z => absurd rfl z) (fin M10 f10')
end R9
