/-! rows alike in the places that count -/
def e29 (S T : Sc) : Prop := ∀ k : Nat, k < 2908 → T k = S k
theorem e29.co {S T : Sc} (h : e29 S T) : nCo T = nCo S := by unfold nCo; rw [h 0 (by decide)]
theorem e29.tx {S T : Sc} (h : e29 S T) : nTx T = nTx S := by unfold nTx; rw [h 1 (by decide)]
theorem e29.lst {S T : Sc} (h : e29 S T) (key : Int32) : ∀ k : Nat, k ≤ 14 → lastT T key k = lastT S key k
  | 0, _ => rfl
  | k + 1, hk => by
    have ih := e29.lst h key k (by omega)
    show (if T (108 + 200 * k) = key then nI k else lastT T key k) = (if S (108 + 200 * k) = key then nI k else lastT S key k)
    rw [ih, h (108 + 200 * k) (by omega)]
theorem e29.sw {S T : Sc} (h : e29 S T) {t k : Nat} (ht : t < 14) (hk : k < 95) : sW T t k = sW S t k := h _ (by omega)
theorem e29.sv {S T : Sc} (h : e29 S T) {t k : Nat} (ht : t < 14) (hk : k < 95) : sV T t k = sV S t k := h _ (by omega)
theorem e29.dp {S T : Sc} (h : e29 S T) {t : Nat} (ht : t < 14) : ∀ k : Nat, k ≤ 95 → dpt T t k = dpt S t k
  | 0, _ => rfl
  | k + 1, hk => by
    have ih := e29.dp h ht k (by omega)
    unfold dpt
    rw [ih, h.sw ht (by omega), h.sv ht (by omega)]
theorem e29.tok {S T : Sc} (h : e29 S T) {t : Nat} (ht : t < 14) (g : TOK S t) : TOK T t := by
  obtain ⟨m, w, a1, a2, a3, a4, a5, a6, a7, a8⟩ := g
  refine ⟨m, w, a1, by rw [h _ (by omega)]; exact a2, by rw [h _ (by omega)]; exact a3, a4, by rw [h.dp ht m a1]; exact a5, by rw [h _ (by omega)]; exact a6, fun k hk => by rw [h.dp ht k (by omega)]; exact a7 k hk, fun k hk => ?_⟩
  rw [h.sw ht (by omega), h.sv ht (by omega), h.dp ht k (by omega), h (108 + 200 * t) (by omega)]
  exact a8 k hk
theorem e29.ok {S T : Sc} (h : e29 S T) (g : SOK S) : SOK T := by
  obtain ⟨⟨z, z8, z0⟩, x, x14, x1, xt⟩ := g
  exact ⟨⟨z, z8, by rw [h _ (by decide)]; exact z0⟩, x, x14, by rw [h _ (by decide)]; exact x1, fun t ht => h.tok (by omega) (xt t ht)⟩
theorem e29.ri {S T : Sc} {m : Nat} (h : e29 S T) (hz : nCo S ≤ 8) (g : RI S m) : RI T m := by
  obtain ⟨g, c⟩ := g
  refine ⟨?_, fun q hq => ?_⟩
  · unfold RG; rw [h 2 (by decide), h 4 (by decide), h 5 (by decide), h 6 (by decide), h 9 (by decide)]; exact g
  · rw [h.co] at hq
    exact RC.o (fun w hw => h _ (by unfold cx; omega)) (c q hq)
theorem e29.sr {n b : Nat} {M : Mm} {S T : Sc} (h : e29 S T) (hS : SOK S) (g : SR n M b S) : SR n M b T := by
  obtain ⟨hz, -⟩ := hS.co
  obtain ⟨hx, -, ht⟩ := hS.tx
  obtain ⟨g1, g2, g3, g4⟩ := g
  refine ⟨?_, fun c hc w hw => ?_, fun q hq => ?_, fun t ht' => ?_⟩
  · unfold SRg
    rw [h 0 (by decide), h 1 (by decide), h 2 (by decide), h 3 (by decide), h 4 (by decide), h 5 (by decide), h 6 (by decide), h 7 (by decide), h 8 (by decide), h 9 (by decide), h 10 (by decide)]; exact g1
  · rw [h.co] at hc
    rw [h _ (by unfold cx; omega)]; exact g2 c hc w hw
  · rw [h.tx, h.lst _ _ hx]; exact g3 q hq
  · rw [h.tx] at ht'
    obtain ⟨id, f1, f2⟩ := g4 t ht'
    obtain ⟨⟨h1, h2⟩, h3, h4, h5, h6, h7⟩ := f2
    obtain ⟨m, w, a1, a2, -⟩ := ht t ht'
    refine ⟨id, f1, ⟨h1, h2⟩, by rw [h _ (by omega)]; exact h3, by rw [h _ (by omega)]; exact h4, by rw [h _ (by omega)]; exact h5, by rw [h _ (by omega)]; exact h6, fun k hk => ?_⟩
    rw [h (110 + 200 * t) (by omega)] at hk
    have hk2 := hk
    rw [a2, nI_clamp (by omega)] at hk2
    rw [h.sw (by omega) (by omega), h.sv (by omega) (by omega), h (108 + 200 * t) (by omega)]
    exact h7 k hk
theorem e29.mix (S T : Sc) : e29 S (fun k => if k < 2908 then S k else T k) := fun k hk => if_pos hk
theorem e29.sym {S T : Sc} (h : e29 S T) : e29 T S := fun k hk => (h k hk).symm
theorem e29.tr {S T U : Sc} (h : e29 S T) (g : e29 T U) : e29 S U := fun k hk => (g k hk).trans (h k hk)
