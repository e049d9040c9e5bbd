/-! text(): class and reference -/
/-- rows alike below text T, but for the number of texts -/
def eU (T : Nat) (S S' : Sc) : Prop := ∀ k : Nat, k < 108 + 200 * T → k ≠ 1 → S' k = S k
section EU
variable {n m b t T : Nat} {M : Mm} {S S' : Sc}
theorem eU.co (h : eU T S S') : nCo S' = nCo S := by unfold nCo; rw [h 0 (by omega) (by decide)]
theorem eU.lst (h : eU T S S') (key : Int32) : ∀ k : Nat, k ≤ T → lastT S' key k = lastT S key k
  | 0, _ => rfl
  | k + 1, hk => by
    have ih := eU.lst h key k (by omega)
    show (if S' (108 + 200 * k) = key then nI k else lastT S' key k) = (if S (108 + 200 * k) = key then nI k else lastT S key k)
    rw [ih, h (108 + 200 * k) (by omega) (by omega)]
theorem eU.sw (h : eU T S S') {k : Nat} (ht : t < T) (hk : k < 95) : sW S' t k = sW S t k := h _ (by omega) (by omega)
theorem eU.sv (h : eU T S S') {k : Nat} (ht : t < T) (hk : k < 95) : sV S' t k = sV S t k := h _ (by omega) (by omega)
theorem eU.dp (h : eU T S S') (ht : t < T) : ∀ k : Nat, k ≤ 95 → dpt S' t k = dpt S t k
  | 0, _ => rfl
  | k + 1, hk => by
    have ih := eU.dp h ht k (by omega)
    unfold dpt
    rw [ih, h.sw ht (by omega), h.sv ht (by omega)]
theorem eU.tok (h : eU T S S') (ht : t < T) (g : TOK S t) : TOK S' t := by
  obtain ⟨m, w, a1, a2, a3, a4, a5, a6, a7, a8⟩ := g
  refine ⟨m, w, a1, by rw [h _ (by omega) (by omega)]; exact a2, by rw [h _ (by omega) (by omega)]; exact a3, a4, by rw [h.dp ht m a1]; exact a5, by rw [h _ (by omega) (by omega)]; exact a6, fun k hk => by rw [h.dp ht k (by omega)]; exact a7 k hk, fun k hk => ?_⟩
  rw [h.sw ht (by omega), h.sv ht (by omega), h.dp ht k (by omega), h (108 + 200 * t) (by omega) (by omega)]
  exact a8 k hk
theorem eU.ri (h : eU T S S') (hz : nCo S ≤ 8) (g : RI S m) : RI S' m := by
  obtain ⟨g, c⟩ := g
  refine ⟨?_, fun q hq => ?_⟩
  · unfold RG; rw [h 2 (by omega) (by decide), h 4 (by omega) (by decide), h 5 (by omega) (by decide), h 6 (by omega) (by decide), h 9 (by omega) (by decide)]; exact g
  · rw [h.co] at hq
    exact RC.o (fun w hw => h _ (by unfold cx; omega) (by unfold cx; omega)) (c q hq)
theorem eU.tr {id : Nat} (h : eU T S S') (ht : t < T) (gt : TOK S t) (g : TR n M id S t) : TR n M id S' t := by
  obtain ⟨⟨h1, h2⟩, h3, h4, h5, h6, h7⟩ := g
  obtain ⟨m, w, a1, a2, -⟩ := gt
  refine ⟨⟨h1, h2⟩, by rw [h _ (by omega) (by omega)]; exact h3, by rw [h _ (by omega) (by omega)]; exact h4, by rw [h _ (by omega) (by omega)]; exact h5, by rw [h _ (by omega) (by omega)]; exact h6, fun k hk => ?_⟩
  rw [h (110 + 200 * t) (by omega) (by omega)] at hk
  have hk2 := hk
  rw [a2, nI_clamp (by omega)] at hk2
  rw [h.sw ht (by omega), h.sv ht (by omega), h (108 + 200 * t) (by omega) (by omega)]
  exact h7 k hk
theorem TR.nw {id : Nat} {M' : Mm} {n' : Nat} (hn : n ≤ n') (h : ∀ i : Nat, i < n → M' i = M i) (g : TR n M id S t) : TR n' M' id S t := by
  obtain ⟨⟨a1, a2⟩, a3, a4, a5, a6, a7⟩ := g
  have e0 : M' id = M id := h id (by omega)
  have e1 : M' (id + 1) = M (id + 1) := h (id + 1) (by omega)
  have e2 : M' (id + 2) = M (id + 2) := h (id + 2) (by omega)
  exact ⟨⟨a1, by omega⟩, by rw [e0]; exact a3, by rw [e0]; exact a4, by rw [e1]; exact a5, by rw [e2]; exact a6, fun k hk => by rw [e1]; exact a7 k hk⟩
theorem SR.nw {M' : Mm} {n' : Nat} (hz : nCo S ≤ 8) (h94 : 94 ≤ n) (hb : b + 11 < 94) (hn : n ≤ n') (h : ∀ i : Nat, i < n → M' i = M i) (g : SR n M b S) : SR n' M' b S := by
  obtain ⟨g1, g2, g3, g4⟩ := g
  refine ⟨?_, fun d hd w hw => ?_, fun q hq => ?_, fun u hu => ?_⟩
  · unfold SRg; rw [h b (by omega)]; exact g1
  · rw [h _ (by omega)]; exact g2 d hd w hw
  · rw [h _ (by omega)]; exact g3 q hq
  · obtain ⟨id, a1, a2⟩ := g4 u hu
    exact ⟨id, by rw [h _ (by omega)]; exact a1, a2.nw hn h⟩
end EU
/-- cells more do no harm -/
theorem Inv.nw {n j : Nat} {M M' : Mm} (I : Inv n j M) (h : ∀ i : Nat, i < n → M' i = M i) : Inv (n + 3) (j + 1) M' := by
  obtain ⟨hn1, hn2, hn3⟩ := I.n
  have o : ∀ i : Nat, i < 94 → M' i = M i := fun i x => h i (by omega)
  obtain ⟨g1, g2, g3⟩ := I.a
  refine ⟨⟨?_, ?_, ?_⟩, ?_, ?_, ?_, fun k hk => ?_, fun k hk => ?_, fun q => ?_, ?_, by omega, by omega, by omega⟩
  · rw [o 75 (by decide)]; exact g1.nw g2.co.1 hn2 (by decide) (by omega) h
  · rw [o 75 (by decide)]; exact g2
  · rw [o 75 (by decide)]; exact g3.mono (by omega)
  · unfold GI
    rw [o 0 (by decide), o 74 (by decide), o 76 (by decide)]
    rcases I.i with g | ⟨a1, a2, a3, a4, a5⟩
    · exact Or.inl g
    · exact Or.inr ⟨a1, a2, a3.nw a4.co.1 hn2 (by decide) (by omega) h, a4, a5.mono (by omega)⟩
  · unfold GT; rw [o 38 (by decide), o 74 (by decide), o 39 (by decide), o 88 (by decide)]; exact I.t
  · unfold GW; rw [o 42 (by decide), o 74 (by decide), o 43 (by decide), o 92 (by decide)]; exact I.w
  · unfold SH; rw [o (45 + 2 * k) (by omega), o (46 + 2 * k) (by omega), o 78 (by decide), o 79 (by decide), o 80 (by decide)]; exact I.s k hk
  · unfold SL; rw [o (54 + 4 * k) (by omega), o (55 + 4 * k) (by omega), o (56 + 4 * k) (by omega), o (57 + 4 * k) (by omega), o 81 (by decide), o 82 (by decide), o 83 (by decide), o 84 (by decide), o 85 (by decide)]; exact I.l k hk
  · rw [o 2 (by decide), o 14 (by decide), o 26 (by decide)]
    obtain ⟨a, b, c⟩ := I.q q
    exact ⟨by omega, by omega, by omega⟩
  · unfold GO; rw [o 74 (by decide)]; exact I.o
theorem bs_ge {T : Nat} (h : T ≤ 14) : 108 + 200 * T ≤ bsOf T := by unfold bsOf; split <;> omega
/-- a text that isn't taken -/
theorem inv_tx0 {n j T : Nat} {M M2 M' : Mm} (I : Inv n j M) (hT : nTx (M 75) = T) (f1 : ∀ i : Nat, i ≠ 37 → i ≠ 38 → i ≠ 40 → i ≠ 41 → M2 i = M i) (f38 : M2 38 1 = 0) (f10 : F10 (bsOf T) M2 M') (e17 : M' 74 17 = 0) : Inv n (j + 1) M' := by
  obtain ⟨g1, g2, g3⟩ := I.a
  obtain ⟨hT14, hT1, htk⟩ := g2.tx
  rw [hT] at hT14 hT1 htk
  have hbs := bs_ge hT14
  have e75 : ∀ k : Nat, k < 108 + 200 * T → M' 75 k = M 75 k := fun k hk => by rw [f10.2.1 k (by omega), f1 75 (by decide) (by decide) (by decide) (by decide)]
  have hU : eU T (M 75) (M' 75) := fun k hk _ => e75 k hk
  have h1 : M' 75 1 = M 75 1 := e75 1 (by omega)
  have htx : nTx (M' 75) = nTx (M 75) := by unfold nTx; rw [h1]
  have o : ∀ i : Nat, i ≠ 37 → i ≠ 38 → i ≠ 40 → i ≠ 41 → i ≠ 74 → i ≠ 75 → M' i = M i := fun i a b c d e f => by rw [f10.1 i e f, f1 i a b c d]
  have q4 : ∀ q : Nat, ¬ (17 ≤ q ∧ q ≤ 27) → M' 74 q = M 74 q := fun q x => by rw [f10.2.2 q x, f1 74 (by decide) (by decide) (by decide) (by decide)]
  have hF : FI [38, 75, 1017] M M' := by
    refine ⟨fun i a b c => ?_, fun q a b => ?_, fun q => Or.inl ?_, fun i a b => ?_, fun i a => ?_⟩
    · have h38 : i ≠ 38 := fun e => b (by rw [e]; decide)
      have h75 : i ≠ 75 := fun e => b (by rw [e]; decide)
      unfold scr at c
      exact o i (by omega) h38 (by omega) (by omega) (by omega) h75
    · have h17 : q ≠ 17 := fun e => b (by rw [e]; decide)
      exact q4 q (by omega)
    · rw [o 14 (by decide) (by decide) (by decide) (by decide) (by decide) (by decide)]
    · exact o i (by omega) (by omega) (by omega) (by omega) (by omega) (by omega)
    · unfold isP at a
      rw [o i (by omega) (by omega) (by omega) (by omega) (by omega) (by omega)]
  have gSR : SR n M' 1 (M 75) := g1.fi g2.co.1 (fun i a b => o i (by omega) (by omega) (by omega) (by omega) (by omega) (by omega)) hF.2.2.2.1 hF.2.2.2.2
  have gOK : SOK (M' 75) := by
    refine ⟨⟨nCo (M 75), g2.co.1, ?_⟩, T, hT14, h1.trans hT1, fun t ht => hU.tok ht (htk t ht)⟩
    rw [e75 0 (by omega)]; exact g2.co.2
  have gA : GA n (j + 1) M' := by
    refine ⟨?_, gOK, (hU.ri g2.co.1 g3).mono (by omega)⟩
    obtain ⟨a1, a2, a3, a4⟩ := gSR
    refine ⟨?_, fun c hc w hw => ?_, fun q hq => ?_, fun t ht => ?_⟩
    · unfold SRg
      rw [e75 0 (by omega), e75 1 (by omega), e75 2 (by omega), e75 3 (by omega), e75 4 (by omega), e75 5 (by omega), e75 6 (by omega), e75 7 (by omega), e75 8 (by omega), e75 9 (by omega), e75 10 (by omega)]; exact a1
    · rw [hU.co] at hc
      have := g2.co.1
      rw [e75 _ (by unfold cx; omega)]; exact a2 c hc w hw
    · rw [htx, hT, hU.lst _ _ (Nat.le_refl T), ← hT]; exact a3 q hq
    · rw [htx] at ht
      obtain ⟨id, b1, b2⟩ := a4 t ht
      exact ⟨id, b1, hU.tr (by omega) (htk t (by omega)) b2⟩
  have e38 : M' 38 1 = 0 := by rw [f10.1 38 (by decide) (by decide)]; exact f38
  exact I.fi (by omega) hF (a := Or.inl gA) (t := Or.inl ⟨0, by decide, e38, e17, fun i hi => absurd hi (by omega)⟩)
/-- steps well made make a text well made -/
theorem tok_l {S : Sc} {t : Nat} {key : Int32} : ∀ (N : List (Int32 × Int32)) (i : Nat), sl8 S (112 + 200 * t + 2 * i) N → okS key (dpt S t i) N → dpt S t (i + N.length) = dpL (dpt S t i) N ∧ (∀ k : Nat, k ≤ N.length → dpt S t (i + k) ≤ dpt S t i + nWd N) ∧ ∀ k : Nat, k < N.length → (sW S t (i + k) = 0 ∧ ¬ sV S t (i + k) < 0) ∨ (sW S t (i + k) = 1 ∧ nmOK key (sV S t (i + k))) ∨ (sW S t (i + k) = 2 ∧ sV S t (i + k) = 33 ∧ 1 ≤ dpt S t (i + k)) ∨ (sW S t (i + k) = 2 ∧ opOK (sV S t (i + k)) ∧ 2 ≤ dpt S t (i + k))
  | [], i, _, _ => ⟨rfl, fun k hk => by have : k = 0 := by simpa using hk
                                        subst this; exact Nat.le_add_right _ _, fun k hk => absurd hk (by simp)⟩
  | x :: r, i, h, g => by
    have ew : sW S t i = x.1 := h.1
    have ev : sV S t i = x.2 := by
      have := h.2.1
      rw [show 112 + 200 * t + 2 * i + 1 = 113 + 200 * t + 2 * i by omega] at this
      exact this
    have ed : dpt S t (i + 1) = if x.1 = 2 then (if x.2 = 33 then dpt S t i else dpt S t i - 1) else dpt S t i + 1 := by
      rw [dpt, ew, ev]
    have hl : (x :: r).length = r.length + 1 := rfl
    have hs := h.2.2
    rw [show 112 + 200 * t + 2 * i + 2 = 112 + 200 * t + 2 * (i + 1) by omega] at hs
    obtain ⟨c1, c2, c3⟩ := tok_l r (i + 1) hs (by rw [ed]; exact g.2)
    refine ⟨?_, fun k hk => ?_, fun k hk => ?_⟩
    · rw [hl, show i + (r.length + 1) = i + 1 + r.length by omega, c1, ed]; rfl
    · have hnw : nWd (x :: r) = (if x.1 = 2 then 0 else 1) + nWd r := rfl
      cases k with
      | zero => exact Nat.le_add_right _ _
      | succ k =>
        have := c2 k (by omega)
        rw [show i + (k + 1) = i + 1 + k by omega, hnw]
        have hd : dpt S t (i + 1) ≤ dpt S t i + (if x.1 = 2 then 0 else 1) := by
          rw [ed]
          split
          · split <;> omega
          · omega
        omega
    · cases k with
      | zero =>
        show (sW S t i = 0 ∧ ¬ sV S t i < 0) ∨ (sW S t i = 1 ∧ nmOK key (sV S t i)) ∨ (sW S t i = 2 ∧ sV S t i = 33 ∧ 1 ≤ dpt S t i) ∨ (sW S t i = 2 ∧ opOK (sV S t i) ∧ 2 ≤ dpt S t i)
        rw [ew, ev]; exact g.1
      | succ k =>
        have := c3 k (by omega)
        rw [show i + (k + 1) = i + 1 + k by omega]
        exact this
theorem nWd_le : ∀ N : List (Int32 × Int32), nWd N ≤ N.length
  | [] => Nat.le_refl _
  | x :: r => by
    have := nWd_le r
    have hnw : nWd (x :: r) = (if x.1 = 2 then 0 else 1) + nWd r := rfl
    have hl : (x :: r).length = r.length + 1 := rfl
    rw [hnw, hl]
    split <;> omega
/-- a text that is taken -/
theorem inv_tx1 {n j T : Nat} {M M8 : Mm} {x : Int32} {N : List (Int32 × Int32)} (I : Inv n j M) (hj : j ≤ 64) (hT : nTx (M 75) = T) (hT13 : T < 14)
    (hx : x = 0 ∨ x = 1 ∨ x = 2) (hg : good x 0 N) (hN : N.length + 4 ≤ 96)
    (o : ∀ i : Nat, i < n → i ≠ 1 → i ≠ 2 → i ≠ 3 → i ≠ 37 → i ≠ 38 → i ≠ 40 → i ≠ 41 → i ≠ 74 → i ≠ 75 → M8 i = M i)
    (o1 : ∀ q : Nat, q ≠ 2 → M8 1 q = M 1 q) (o12 : M8 1 2 = nI (T + 1)) (o2 : ∀ q : Nat, q ≠ T → M8 2 q = M 2 q) (o2T : M8 2 T = nI n) (o3 : ∀ q : Nat, M8 3 q = if x = nI q ∧ q < 3 then nI T else M 3 q)
    (o38 : M8 38 1 = 0) (o74 : ∀ q : Nat, ¬ (17 ≤ q ∧ q ≤ 27) → M8 74 q = M 74 q) (o17 : M8 74 17 = 0)
    (o75 : ∀ k : Nat, k < 108 + 200 * T → k ≠ 1 → M8 75 k = M 75 k) (o751 : M8 75 1 = nI (T + 1)) (s0 : M8 75 (108 + 200 * T) = x) (s1 : M8 75 (109 + 200 * T) = nI (nWd N)) (s2 : M8 75 (110 + 200 * T) = nI N.length) (sl : sl8 (M8 75) (112 + 200 * T) N)
    (c0 : M8 n 0 = x) (c1 : M8 n 1 = nI (nWd N)) (c2 : M8 (n + 1) LEN = nI N.length) (c3 : M8 (n + 2) LEN = nI (nWd N)) (c4 : stL x (M8 (n + 1)) 0 N) : Inv (n + 3) (j + 1) M8 := by
  obtain ⟨hn1, hn2, hn3⟩ := I.n
  have IA := I.nw (M' := fun i => if i < n then M i else M8 i) (fun i hi => if_pos hi)
  have lo : ∀ i : Nat, i < n → (fun i => if i < n then M i else M8 i) i = M i := fun i hi => if_pos hi
  have hF : FI [1, 2, 3, 38, 75, 1017] (fun i => if i < n then M i else M8 i) M8 := by
    refine ⟨fun i a b c => ?_, fun q a b => ?_, fun q => Or.inl ?_, fun i a b => ?_, fun i a => ?_⟩
    · rw [lo i (by omega)]
      have h1 : i ≠ 1 := fun e => b (by rw [e]; decide)
      have h2 : i ≠ 2 := fun e => b (by rw [e]; decide)
      have h3 : i ≠ 3 := fun e => b (by rw [e]; decide)
      have h38 : i ≠ 38 := fun e => b (by rw [e]; decide)
      have h75 : i ≠ 75 := fun e => b (by rw [e]; decide)
      unfold scr at c
      exact o i (by omega) h1 h2 h3 (by omega) h38 (by omega) (by omega) (by omega) h75
    · rw [lo 74 (by omega)]
      have h17 : q ≠ 17 := fun e => b (by rw [e]; decide)
      exact o74 q (by omega)
    · rw [lo 14 (by omega), o 14 (by omega) (by decide) (by decide) (by decide) (by decide) (by decide) (by decide) (by decide) (by decide) (by decide)]
    · show M8 i = if i < n then M i else M8 i
      split
      · exact o i (by assumption) (by omega) (by omega) (by omega) (by omega) (by omega) (by omega) (by omega) (by omega) (by omega)
      · rfl
    · unfold isP at a
      show M8 i LEN = (if i < n then M i else M8 i) LEN
      split
      · rw [o i (by assumption) (by omega) (by omega) (by omega) (by omega) (by omega) (by omega) (by omega) (by omega) (by omega)]
      · rfl
  obtain ⟨g1, g2, g3⟩ := I.a
  obtain ⟨hT14, hT1, htk⟩ := g2.tx
  rw [hT] at hT14 hT1 htk
  have hU : eU T (M 75) (M8 75) := o75
  have hz := g2.co.1
  have htx : nTx (M8 75) = T + 1 := by unfold nTx; rw [o751, nI_clamp (by omega)]
  have hok : ∀ d : Nat, dpL d N = d + 1 ∧ okS x d N := (good_s (by decide)).mp hg
  have hnw := nWd_le N
  have tokT : TOK (M8 75) T := by
    obtain ⟨t1, t2, t3⟩ := tok_l (S := M8 75) (t := T) (key := x) N 0 sl (hok 0).2
    have e0 : dpt (M8 75) T 0 = 0 := rfl
    refine ⟨N.length, nWd N, by omega, s2, s1, by omega, ?_, by rw [s0]; exact hx, fun k hk => ?_, fun k hk => ?_⟩
    · rw [Nat.zero_add, e0, (hok 0).1] at t1; exact t1
    · have := t2 k hk
      rw [Nat.zero_add, e0, Nat.zero_add] at this; exact this
    · have := t3 k hk
      rw [Nat.zero_add] at this
      rw [s0]; exact this
  have gOK : SOK (M8 75) := by
    refine ⟨⟨nCo (M 75), hz, by rw [o75 0 (by omega) (by decide)]; exact g2.co.2⟩, T + 1, by omega, o751, fun t ht => ?_⟩
    by_cases e : t = T
    · rw [e]; exact tokT
    · exact hU.tok (by omega) (htk t (by omega))
  have cA' : ∀ i : Nat, 4 ≤ i → i ≤ 12 → M8 i = M i := fun i a b => o i (by omega) (by omega) (by omega) (by omega) (by omega) (by omega) (by omega) (by omega) (by omega) (by omega)
  have gA : GA (n + 3) (j + 1) M8 := by
    refine ⟨?_, gOK, (hU.ri hz g3).mono (by omega)⟩
    obtain ⟨⟨b0, b1, b2, b3, b4, b5, b6, b7, b8, b9, b10⟩, a2, a3, a4⟩ := g1
    refine ⟨?_, fun c hc w hw => ?_, fun q hq => ?_, fun t ht => ?_⟩
    · unfold SRg
      rw [o1 4 (by decide), o12, o1 11 (by decide), o1 5 (by decide), o1 6 (by decide), o1 7 (by decide), o1 8 (by decide), o1 9 (by decide), o1 10 (by decide), o1 12 (by decide), o1 13 (by decide), o75 0 (by omega) (by decide), o751, o75 2 (by omega) (by decide), o75 3 (by omega) (by decide), o75 4 (by omega) (by decide), o75 5 (by omega) (by decide), o75 6 (by omega) (by decide), o75 7 (by omega) (by decide), o75 8 (by omega) (by decide), o75 9 (by omega) (by decide), o75 10 (by omega) (by decide)]
      exact ⟨b0, rfl, b2, b3, b4, b5, b6, b7, b8, b9, b10⟩
    · rw [hU.co] at hc
      rw [cA' _ (by omega) (by omega), o75 _ (by unfold cx; omega) (by unfold cx; omega)]; exact a2 c hc w hw
    · rw [htx]
      show M8 3 q = if M8 75 (108 + 200 * T) = nI q then nI T else lastT (M8 75) (nI q) T
      rw [o3 q, s0, hU.lst _ _ (Nat.le_refl T)]
      by_cases e : x = nI q
      · rw [if_pos ⟨e, hq⟩, if_pos e]
      · rw [if_neg (fun z => e z.1), if_neg e, ← hT]; exact a3 q hq
    · rw [htx] at ht
      by_cases e : t = T
      · subst e
        refine ⟨n, o2T, ⟨by rw [tp_hi hn2, hn1], by omega⟩, by rw [s0]; exact c0, by rw [s1]; exact c1, by rw [s2]; exact c2, by rw [s1]; exact c3, fun k hk => ?_⟩
        rw [s2, nI_clamp (by omega)] at hk
        have r1 := stL_at N 0 k hk c4
        obtain ⟨r2, r3⟩ := sl8_at N (112 + 200 * t) k hk sl
        rw [Nat.zero_add] at r1
        have ew : sW (M8 75) t k = (N[k]).1 := r2
        have ev : sV (M8 75) t k = (N[k]).2 := by
          rw [show 112 + 200 * t + 2 * k + 1 = 113 + 200 * t + 2 * k by omega] at r3; exact r3
        rw [ew, ev, s0]; exact r1
      · obtain ⟨id, d1, d2⟩ := a4 t (by omega)
        refine ⟨id, by rw [show (1 : Nat) + 1 = 2 from rfl, o2 t e]; exact d1, ?_⟩
        have h9 := tx_lo d2.1.1
        have hid := d2.1.2
        have d3 : TR (n + 3) M8 id (M 75) t := by
          obtain ⟨⟨u1, u2⟩, u3, u4, u5, u6, u7⟩ := d2
          have e0 : M8 id = M id := o id (by omega) (by omega) (by omega) (by omega) (by omega) (by omega) (by omega) (by omega) (by omega) (by omega)
          have e1 : M8 (id + 1) = M (id + 1) := o (id + 1) (by omega) (by omega) (by omega) (by omega) (by omega) (by omega) (by omega) (by omega) (by omega) (by omega)
          have e2 : M8 (id + 2) = M (id + 2) := o (id + 2) (by omega) (by omega) (by omega) (by omega) (by omega) (by omega) (by omega) (by omega) (by omega) (by omega)
          exact ⟨⟨u1, by omega⟩, by rw [e0]; exact u3, by rw [e0]; exact u4, by rw [e1]; exact u5, by rw [e2]; exact u6, fun k hk => by rw [e1]; exact u7 k hk⟩
        exact hU.tr (by omega) (htk t (by omega)) d3
  have gQ : lawsOk (n + 3) M8 := by
    intro q
    obtain ⟨a, b, c⟩ := I.q q
    rw [o 14 (by omega) (by decide) (by decide) (by decide) (by decide) (by decide) (by decide) (by decide) (by decide) (by decide), o 26 (by omega) (by decide) (by decide) (by decide) (by decide) (by decide) (by decide) (by decide) (by decide) (by decide)]
    refine ⟨?_, by omega, by omega⟩
    by_cases e : q = T
    · subst e; rw [o2T, nI_clamp (by omega)]; omega
    · rw [o2 q e]; omega
  exact IA.fi (Nat.le_refl _) hF (a := Or.inl gA) (t := Or.inl ⟨0, by decide, o38, o17, fun i hi => absurd hi (by omega)⟩) (q := Or.inl gQ)
