/-! the class's cells against the row of numbers -/
def isP (i : Nat) : Prop := 94 ≤ i ∧ (i - 94) % 3 = 2
def stR (key x w v : Int32) : Prop := (w = 0 ∧ x = v) ∨ (w = 1 ∧ ((key = 0 ∧ ((v = 116 ∧ x = -1) ∨ (v = 115 ∧ x = -2) ∨ (v = 97 ∧ x = -3))) ∨ (key = 1 ∧ ((v = 97 ∧ x = -1) ∨ (v = 119 ∧ x = -2) ∨ (v = 110 ∧ x = -3))) ∨ (key = 2 ∧ ((v = 103 ∧ x = -1) ∨ (v = 101 ∧ x = -2))))) ∨ (w = 2 ∧ x = -v)
def TR (n : Nat) (M : Mm) (id : Nat) (S : Sc) (t : Nat) : Prop := (tp id = 20 ∧ id + 2 < n) ∧ M id 0 = S (108 + 200 * t) ∧ M id 1 = S (109 + 200 * t) ∧ M (id + 1) LEN = S (110 + 200 * t) ∧ M (id + 2) LEN = S (109 + 200 * t) ∧ ∀ k : Nat, k < (S (110 + 200 * t)).toNatClampNeg → stR (S (108 + 200 * t)) (M (id + 1) k) (sW S t k) (sV S t k)
def SRg (M : Mm) (b : Nat) (S : Sc) : Prop := M b 4 = S 0 ∧ M b 2 = S 1 ∧ M b 11 = S 2 ∧ M b 5 = S 3 ∧ M b 6 = S 4 ∧ M b 7 = S 5 ∧ M b 8 = S 6 ∧ M b 9 = S 7 ∧ M b 10 = S 8 ∧ M b 12 = S 9 ∧ M b 13 = S 10
def SRc (M : Mm) (b : Nat) (S : Sc) : Prop := ∀ c : Nat, c < nCo S → ∀ w : Nat, w < 12 → M (b + 3 + 1 + c) w = S (cx c w)
def SRk (M : Mm) (b : Nat) (S : Sc) : Prop := ∀ q : Nat, q < 3 → M (b + 2) q = lastT S (nI q) (nTx S)
def SRt (n : Nat) (M : Mm) (b : Nat) (S : Sc) : Prop := ∀ t : Nat, t < nTx S → ∃ id : Nat, M (b + 1) t = nI id ∧ TR n M id S t
def SR (n : Nat) (M : Mm) (b : Nat) (S : Sc) : Prop := SRg M b S ∧ SRc M b S ∧ SRk M b S ∧ SRt n M b S
def isB (b : Nat) : Prop := b = 1 ∨ b = 13 ∨ b = 25
theorem isB.t {b : Nat} (h : isB b) : tp b = 2 := by rcases h with rfl | rfl | rfl <;> rfl
theorem isB.c {b c : Nat} (h : isB b) (hc : c < 8) : tp (b + 3 + 1 + c) = 5 := by
  have : ∀ b : Nat, b < 26 → (b = 1 ∨ b = 13 ∨ b = 25) → ∀ c : Nat, c < 8 → tp (b + 3 + 1 + c) = 5 := by decide +kernel
  exact this b (by unfold isB at h; omega) h c hc
theorem isB.lt {b : Nat} (h : isB b) : b ≤ 25 := by unfold isB at h; omega
/-- what a scene's ways may change: its own cells, and the texts' piles but not their lengths -/
def FrB (b : Nat) (M M' : Mm) : Prop := (∀ i : Nat, ¬ (b ≤ i ∧ i ≤ b + 11) → ¬ isP i → M' i = M i) ∧ (∀ i : Nat, isP i → M' i LEN = M i LEN) ∧ M' (b + 1) = M (b + 1) ∧ M' (b + 2) = M (b + 2) ∧ ∀ c : Nat, c < 8 → M' (b + 3 + 1 + c) 12 = M (b + 3 + 1 + c) 12
theorem FrB.rf (b : Nat) (M : Mm) : FrB b M M := ⟨fun _ _ _ => rfl, fun _ _ => rfl, rfl, rfl, fun _ _ => rfl⟩
theorem FrB.tr {b : Nat} {A B C : Mm} (h : FrB b A B) (g : FrB b B C) : FrB b A C := ⟨fun i x y => (g.1 i x y).trans (h.1 i x y), fun i x => (g.2.1 i x).trans (h.2.1 i x), g.2.2.1.trans h.2.2.1, g.2.2.2.1.trans h.2.2.2.1, fun c hc => (g.2.2.2.2 c hc).trans (h.2.2.2.2 c hc)⟩
theorem notP_lt {i : Nat} (h : i < 94) : ¬ isP i := fun q => by unfold isP at q; omega
/-- only one pile -/
theorem FrB.pile {b id : Nat} {M M' : Mm} (hb : isB b) (hid : tp id = 20) (h1 : ∀ i : Nat, i ≠ id + 2 → M' i = M i) (h2 : M' (id + 2) LEN = M (id + 2) LEN) : FrB b M M' := by
  have hlo : 94 ≤ id := by
    rcases Nat.lt_or_ge id 94 with h | h
    · exfalso
      have hall : ∀ i : Nat, i < 94 → tp i ≠ 20 := by decide +kernel
      exact hall id h hid
    · exact h
  have hP : isP (id + 2) := by
    have := tp_hi (i := id) hlo
    unfold isP
    omega
  have hbl := hb.lt
  refine ⟨fun i _ hi => h1 i (fun e => hi (by rw [e]; exact hP)), fun i hi => ?_, h1 _ (by omega), h1 _ (by omega), fun c hc => by rw [h1 _ (by omega)]⟩
  by_cases e : i = id + 2
  · rw [e]; exact h2
  · rw [h1 i e]
theorem FrB.wb {b k : Nat} {x : Int32} {M : Mm} (hb : isB b) : FrB b M (wr M b k x) := by
  have hbl := hb.lt
  refine ⟨fun i hi _ => wr_oth (fun e => hi (by omega)), fun i hi => by rw [wr_oth (fun e => by unfold isP at hi; omega)], wr_oth (by omega), wr_oth (by omega), fun c hc => by rw [wr_oth (by omega)]⟩
theorem FrB.wc {b c w : Nat} {x : Int32} {M : Mm} (hb : isB b) (hc : c < 8) (hw : w < 12) : FrB b M (wr M (b + 3 + 1 + c) w x) := by
  have hbl := hb.lt
  refine ⟨fun i hi _ => wr_oth (fun e => hi (by omega)), fun i hi => by rw [wr_oth (fun e => by unfold isP at hi; omega)], wr_oth (by omega), wr_oth (by omega), fun d hd => ?_⟩
  by_cases e : d = c
  · subst e; rw [wr_idx (by omega)]
  · rw [wr_oth (by omega)]
theorem TR.fr {n id t b : Nat} {M M' : Mm} {S : Sc} (hb : isB b) (hF : FrB b M M') (h : TR n M id S t) : TR n M' id S t := by
  obtain ⟨⟨h1, h2⟩, h3, h4, h5, h6, h7⟩ := h
  have hlo : 94 ≤ id := by
    rcases Nat.lt_or_ge id 94 with h | h
    · exfalso
      have hall : ∀ i : Nat, i < 94 → tp i ≠ 20 := by decide +kernel
      exact hall id h h1
    · exact h
  have ht := tp_hi (i := id) hlo
  have hbl := hb.lt
  have e0 : M' id = M id := hF.1 id (by omega) (by unfold isP; omega)
  have e1 : M' (id + 1) = M (id + 1) := hF.1 (id + 1) (by omega) (by unfold isP; omega)
  have e2 : M' (id + 2) LEN = M (id + 2) LEN := hF.2.1 (id + 2) (by unfold isP; omega)
  exact ⟨⟨h1, h2⟩, by rw [e0]; exact h3, by rw [e0]; exact h4, by rw [e1]; exact h5, by rw [e2]; exact h6, fun k hk => by rw [e1]; exact h7 k hk⟩
theorem TR.kp {n id t : Nat} {M : Mm} {S T : Sc} (k : Kp S T) (h : TR n M id S t) : TR n M id T t := by
  obtain ⟨h1, h3, h4, h5, h6, h7⟩ := h
  refine ⟨h1, by rw [k.2.2 _ (by omega)]; exact h3, by rw [k.2.2 _ (by omega)]; exact h4, by rw [k.2.2 _ (by omega)]; exact h5, by rw [k.2.2 _ (by omega)]; exact h6, fun q hq => ?_⟩
  rw [k.2.2 _ (by omega)] at hq
  have := h7 q hq
  unfold sW sV at this ⊢
  rw [k.2.2 _ (by omega), k.2.2 _ (by omega), k.2.2 _ (by omega)]
  exact this
/-- texts and counting rows under changes of both sides -/
theorem SR.keep {n b : Nat} {M M' : Mm} {S T : Sc} (hb : isB b) (k : Kp S T) (hF : FrB b M M') (h : SR n M b S) : SRk M' b T ∧ SRt n M' b T := by
  obtain ⟨-, -, h3, h4⟩ := h
  refine ⟨fun q hq => ?_, fun t ht => ?_⟩
  · rw [hF.2.2.2.1, lastT_kp k, k.tx]; exact h3 q hq
  · rw [k.tx] at ht
    obtain ⟨id, a1, a2⟩ := h4 t ht
    exact ⟨id, by rw [hF.2.2.1]; exact a1, (a2.fr hb hF).kp k⟩
/-- a comer's field is written -/
theorem SR.wc {n b c w : Nat} {M : Mm} {S : Sc} {x : Int32} (hb : isB b) (hc : c < nCo S) (hz : nCo S ≤ 8) (hw : w < 12) (h : SR n M b S) : SR n (wr M (b + 3 + 1 + c) w x) b (upd S (cx c w) x) := by
  have k : Kp S (upd S (cx c w) x) := (Kp.rf S).up cx_1 (cx_108 (by omega) hw)
  obtain ⟨a1, a2⟩ := h.keep hb k (FrB.wc (c := c) (w := w) (x := x) hb (by omega) hw)
  refine ⟨?_, fun d hd v hv => ?_, a1, a2⟩
  · obtain ⟨g, -⟩ := h
    unfold SRg
    rw [wr_oth (by omega)]
    simp only [pk_un (Ne.symm (cx_lo (c := c) (w := w) (show (0:Nat) < 12 by decide))), pk_un (Ne.symm (cx_lo (c := c) (w := w) (show (1:Nat) < 12 by decide))), pk_un (Ne.symm (cx_lo (c := c) (w := w) (show (2:Nat) < 12 by decide))), pk_un (Ne.symm (cx_lo (c := c) (w := w) (show (3:Nat) < 12 by decide))), pk_un (Ne.symm (cx_lo (c := c) (w := w) (show (4:Nat) < 12 by decide))), pk_un (Ne.symm (cx_lo (c := c) (w := w) (show (5:Nat) < 12 by decide))), pk_un (Ne.symm (cx_lo (c := c) (w := w) (show (6:Nat) < 12 by decide))), pk_un (Ne.symm (cx_lo (c := c) (w := w) (show (7:Nat) < 12 by decide))), pk_un (Ne.symm (cx_lo (c := c) (w := w) (show (8:Nat) < 12 by decide))), pk_un (Ne.symm (cx_lo (c := c) (w := w) (show (9:Nat) < 12 by decide))), pk_un (Ne.symm (cx_lo (c := c) (w := w) (show (10:Nat) < 12 by decide)))]
    exact g
  · rw [k.co] at hd
    by_cases e : d = c
    · subst e
      by_cases e2 : v = w
      · subst e2; rw [wr_at, pk_us]
      · rw [wr_idx e2, pk_un (cx_ne hv hw (Or.inr e2))]; exact h.2.1 d hd v hv
    · rw [wr_oth (by omega), pk_un (cx_ne hv hw (Or.inl e))]; exact h.2.1 d hd v hv
/-- the class's place of a scene's number k (2 .. 10) -/
def gx (k : Nat) : Nat := ([4, 2, 11, 5, 6, 7, 8, 9, 10, 12, 13] : List Nat).getD k 0
theorem SR.wg {n b k : Nat} {M : Mm} {S : Sc} {x : Int32} (hb : isB b) (hk : 2 ≤ k) (hk2 : k ≤ 10) (h : SR n M b S) : SR n (wr M b (gx k) x) b (upd S k x) := by
  have kk : Kp S (upd S k x) := (Kp.rf S).up (by omega) (by omega)
  obtain ⟨a1, a2⟩ := h.keep hb kk (FrB.wb hb)
  refine ⟨?_, fun d hd v hv => ?_, a1, a2⟩
  · obtain ⟨⟨g0, g1, g2, g3, g4, g5, g6, g7, g8, g9, g10⟩, -⟩ := h
    have hh : k = 2 ∨ k = 3 ∨ k = 4 ∨ k = 5 ∨ k = 6 ∨ k = 7 ∨ k = 8 ∨ k = 9 ∨ k = 10 := by omega
    unfold SRg
    simp only [wr_row]
    rcases hh with rfl | rfl | rfl | rfl | rfl | rfl | rfl | rfl | rfl <;> simp [upd, gx, g0, g1, g2, g3, g4, g5, g6, g7, g8, g9, g10]
  · rw [kk.co] at hd
    rw [wr_oth (by omega), pk_un (cx_lo (by omega))]
    exact h.2.1 d hd v hv
