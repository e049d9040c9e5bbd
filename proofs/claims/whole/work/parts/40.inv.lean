/-! class and reference side by side -/
def wth (k a : Int32) : Int32 := if k = 1 then a + 3 else if k = 2 then 60 - a else if k = 3 then 2 * (a + 3) else if k = 4 then 55 - a else if k = 5 then 30 else a
theorem wrt_e (S : Sc) (c : Nat) : wrt S c = wth (S (cx c 0)) (S (cx c 1)) := rfl
def SH (M : Mm) (k : Nat) : Prop := M (45 + 2 * k) 1 = M 78 k ∧ (M 78 k = -1 ∨ M 78 k = 0 ∨ M 78 k = 1) ∧ M (45 + 2 * k) 2 = M 79 k ∧ bd (M 79 k) 24 ∧ ∀ i : Nat, i < 24 → M (46 + 2 * k) i = M 80 (24 * k + i)
def SL (M : Mm) (k : Nat) : Prop := M (54 + 4 * k) 2 = M 81 k ∧ bd (M 81 k) 3 ∧ (M 81 k = 1 → M (55 + 4 * k) 0 = M 82 k ∧ bd (M 82 k) 5 ∧ wth (M (55 + 4 * k) 0) (M (55 + 4 * k) 1) = M 83 k) ∧ (M 81 k = 2 → M (56 + 4 * k) 2 = M 84 k ∧ bd (M 84 k) 24 ∧ ∀ i : Nat, i < 24 → M (57 + 4 * k) i = M 85 (24 * k + i)) ∧ (M 81 k = 3 → M (54 + 4 * k) 3 = M 82 k)
def GA (n j : Nat) (M : Mm) : Prop := SR n M 1 (M 75) ∧ SOK (M 75) ∧ RI (M 75) (300 * j)
def GI (n j : Nat) (M : Mm) : Prop := (M 0 3 = 0 ∧ M 74 3 = 0) ∨ (M 0 3 = 1 ∧ M 74 3 = 1 ∧ SR n M 25 (M 76) ∧ SOK (M 76) ∧ RI (M 76) (300 * j))
def GT (M : Mm) : Prop := ∃ s : Nat, s ≤ 96 ∧ M 38 1 = nI s ∧ M 74 17 = nI s ∧ ∀ i : Nat, i < s → M 39 i = M 88 i ∧ bd (M 88 i) 255
def GW (M : Mm) : Prop := ∃ s : Nat, s ≤ 60 ∧ M 42 1 = nI s ∧ M 74 32 = nI s ∧ ∀ i : Nat, i < s → M 43 i = M 92 i
def GS (M : Mm) : Prop := ∀ k : Nat, k < 4 → SH M k
def GL (M : Mm) : Prop := ∀ k : Nat, k < 5 → SL M k
def GO (M : Mm) : Prop := M 74 13 = -1
def GN (n j : Nat) : Prop := (n - 94) % 3 = 0 ∧ 94 ≤ n ∧ n ≤ 94 + 3 * j
def Inv (n j : Nat) (M : Mm) : Prop := GA n j M ∧ GI n j M ∧ GT M ∧ GW M ∧ GS M ∧ GL M ∧ lawsOk n M ∧ GO M ∧ GN n j
theorem Inv.a {n j : Nat} {M : Mm} (h : Inv n j M) : GA n j M := h.1
theorem Inv.i {n j : Nat} {M : Mm} (h : Inv n j M) : GI n j M := h.2.1
theorem Inv.t {n j : Nat} {M : Mm} (h : Inv n j M) : GT M := h.2.2.1
theorem Inv.w {n j : Nat} {M : Mm} (h : Inv n j M) : GW M := h.2.2.2.1
theorem Inv.s {n j : Nat} {M : Mm} (h : Inv n j M) : GS M := h.2.2.2.2.1
theorem Inv.l {n j : Nat} {M : Mm} (h : Inv n j M) : GL M := h.2.2.2.2.2.1
theorem Inv.q {n j : Nat} {M : Mm} (h : Inv n j M) : lawsOk n M := h.2.2.2.2.2.2.1
theorem Inv.o {n j : Nat} {M : Mm} (h : Inv n j M) : GO M := h.2.2.2.2.2.2.2.1
theorem Inv.n {n j : Nat} {M : Mm} (h : Inv n j M) : GN n j := h.2.2.2.2.2.2.2.2
/-- scratch of both sides -/
def scr (i : Nat) : Prop := (13 ≤ i ∧ i ≤ 24) ∨ i = 37 ∨ i = 40 ∨ i = 41 ∨ i = 74 ∨ i = 77 ∨ i = 86 ∨ i = 87 ∨ i = 89 ∨ i = 90 ∨ i = 91 ∨ i = 93
/-- all but X and scratch alike; 1000 + q: field q of the reference object -/
def FI (X : List Nat) (M M' : Mm) : Prop := (∀ i : Nat, i < 94 → i ∉ X → ¬ scr i → M' i = M i) ∧ (∀ q : Nat, (q = 3 ∨ q = 13 ∨ q = 17 ∨ q = 32) → 1000 + q ∉ X → M' 74 q = M 74 q) ∧ (∀ q : Nat, M' 14 q = M 14 q ∨ M' 14 q = M 2 q ∨ M' 14 q = M 26 q) ∧ (∀ i : Nat, 94 ≤ i → ¬ isP i → M' i = M i) ∧ ∀ i : Nat, isP i → M' i LEN = M i LEN
theorem FI.rf (X : List Nat) (M : Mm) : FI X M M := ⟨fun _ _ _ _ => rfl, fun _ _ _ => rfl, fun _ => Or.inl rfl, fun _ _ _ => rfl, fun _ _ => rfl⟩
theorem nscr {i : Nat} (h : i ≤ 12 ∨ (25 ≤ i ∧ i ≤ 36) ∨ i = 38 ∨ i = 39 ∨ (42 ≤ i ∧ i ≤ 73) ∨ i = 75 ∨ i = 76 ∨ (78 ≤ i ∧ i ≤ 85) ∨ i = 88 ∨ i = 92) : ¬ scr i := by unfold scr; omega
theorem FI.tr {X : List Nat} {A B C : Mm} (x2 : 2 ∉ X) (x26 : 26 ∉ X) (h : FI X A B) (g : FI X B C) : FI X A C := by
  refine ⟨fun i a b c => (g.1 i a b c).trans (h.1 i a b c), fun q a b => (g.2.1 q a b).trans (h.2.1 q a b), fun q => ?_, fun i a b => (g.2.2.2.1 i a b).trans (h.2.2.2.1 i a b), fun i a => (g.2.2.2.2 i a).trans (h.2.2.2.2 i a)⟩
  rcases g.2.2.1 q with e | e | e
  · rw [e]; exact h.2.2.1 q
  · rw [e, h.1 2 (by decide) x2 (nscr (by decide))]; exact Or.inr (Or.inl rfl)
  · rw [e, h.1 26 (by decide) x26 (nscr (by decide))]; exact Or.inr (Or.inr rfl)
theorem FI.wk {X Y : List Nat} {M M' : Mm} (hXY : ∀ i : Nat, i ∈ X → i ∈ Y) (h : FI X M M') : FI Y M M' :=
  ⟨fun i a b c => h.1 i a (fun q => b (hXY i q)) c, fun q a b => h.2.1 q a (fun z => b (hXY _ z)), h.2.2⟩
theorem TR.fi {n id t : Nat} {M M' : Mm} {S : Sc} (h1 : ∀ i : Nat, 94 ≤ i → ¬ isP i → M' i = M i) (h2 : ∀ i : Nat, isP i → M' i LEN = M i LEN) (h : TR n M id S t) : TR n M' id S t := by
  obtain ⟨⟨a1, a2⟩, a3, a4, a5, a6, a7⟩ := h
  obtain ⟨hlo, hm⟩ := tx_lo a1
  have e0 : M' id = M id := h1 id hlo (by unfold isP; omega)
  have e1 : M' (id + 1) = M (id + 1) := h1 (id + 1) (by omega) (by unfold isP; omega)
  have e2 : M' (id + 2) LEN = M (id + 2) LEN := h2 (id + 2) (by unfold isP; omega)
  exact ⟨⟨a1, a2⟩, by rw [e0]; exact a3, by rw [e0]; exact a4, by rw [e1]; exact a5, by rw [e2]; exact a6, fun k hk => by rw [e1]; exact a7 k hk⟩
theorem SR.fi {n b : Nat} {M M' : Mm} {S : Sc} (hz : nCo S ≤ 8) (h0 : ∀ i : Nat, b ≤ i → i ≤ b + 11 → M' i = M i) (h1 : ∀ i : Nat, 94 ≤ i → ¬ isP i → M' i = M i) (h2 : ∀ i : Nat, isP i → M' i LEN = M i LEN) (h : SR n M b S) : SR n M' b S := by
  obtain ⟨g, r, k, t⟩ := h
  refine ⟨?_, fun d hd w hw => ?_, fun q hq => ?_, fun u hu => ?_⟩
  · unfold SRg; rw [h0 b (by omega) (by omega)]; exact g
  · rw [h0 _ (by omega) (by omega)]; exact r d hd w hw
  · rw [h0 _ (by omega) (by omega)]; exact k q hq
  · obtain ⟨id, a1, a2⟩ := t u hu
    exact ⟨id, by rw [h0 _ (by omega) (by omega)]; exact a1, a2.fi h1 h2⟩
abbrev dj (X L : List Nat) : Prop := ∀ i : Nat, i ∈ L → i ∉ X
abbrev cA : List Nat := [1, 2, 3, 4, 5, 6, 7, 8, 9, 10, 11, 12, 75]
abbrev cI : List Nat := [0, 25, 26, 27, 28, 29, 30, 31, 32, 33, 34, 35, 36, 76, 1003]
abbrev cT : List Nat := [38, 39, 88, 1017]
abbrev cW : List Nat := [42, 43, 92, 1032]
abbrev cS : List Nat := [45, 46, 47, 48, 49, 50, 51, 52, 78, 79, 80]
abbrev cL : List Nat := [54, 55, 56, 57, 58, 59, 60, 61, 62, 63, 64, 65, 66, 67, 68, 69, 70, 71, 72, 73, 81, 82, 83, 84, 85]
abbrev cQ : List Nat := [2, 26]
abbrev cO : List Nat := [1013]
theorem FI.at {X L : List Nat} {M M' : Mm} (h : FI X M M') (d : dj X L) {i : Nat} (hi : i ∈ L) (h9 : i < 94) (hs : ¬ scr i) : M' i = M i := h.1 i h9 (d i hi) hs
theorem mem_cA {i : Nat} (h : (1 ≤ i ∧ i ≤ 12) ∨ i = 75) : i ∈ cA := by
  have : ∀ i : Nat, i < 76 → ((1 ≤ i ∧ i ≤ 12) ∨ i = 75) → i ∈ cA := by decide
  exact this i (by omega) h
theorem mem_cI {i : Nat} (h : (25 ≤ i ∧ i ≤ 36) ∨ i = 76) : i ∈ cI := by
  have : ∀ i : Nat, i < 77 → ((25 ≤ i ∧ i ≤ 36) ∨ i = 76) → i ∈ cI := by decide
  exact this i (by omega) h
theorem mem_cS {i : Nat} (h : (45 ≤ i ∧ i ≤ 52) ∨ (78 ≤ i ∧ i ≤ 80)) : i ∈ cS := by
  have : ∀ i : Nat, i < 81 → ((45 ≤ i ∧ i ≤ 52) ∨ (78 ≤ i ∧ i ≤ 80)) → i ∈ cS := by decide
  exact this i (by omega) h
theorem mem_cL {i : Nat} (h : (54 ≤ i ∧ i ≤ 73) ∨ (81 ≤ i ∧ i ≤ 85)) : i ∈ cL := by
  have : ∀ i : Nat, i < 86 → ((54 ≤ i ∧ i ≤ 73) ∨ (81 ≤ i ∧ i ≤ 85)) → i ∈ cL := by decide +kernel
  exact this i (by omega) h
theorem GA.fi {X : List Nat} {n j j' : Nat} {M M' : Mm} (hj : j ≤ j') (h : FI X M M') (d : dj X cA) (g : GA n j M) : GA n j' M' := by
  obtain ⟨g1, g2, g3⟩ := g
  have e : M' 75 = M 75 := h.at d (mem_cA (by decide)) (by decide) (nscr (by decide))
  refine ⟨?_, by rw [e]; exact g2, by rw [e]; exact g3.mono (by omega)⟩
  rw [e]
  exact g1.fi g2.co.1 (fun i a b => h.at d (mem_cA (by omega)) (by omega) (nscr (by omega))) h.2.2.2.1 h.2.2.2.2
theorem GI.fi {X : List Nat} {n j j' : Nat} {M M' : Mm} (hj : j ≤ j') (h : FI X M M') (d : dj X cI) (g : GI n j M) : GI n j' M' := by
  have e : M' 76 = M 76 := h.at d (mem_cI (by decide)) (by decide) (nscr (by decide))
  have e0 : M' 0 = M 0 := h.at d (i := 0) (by decide) (by decide) (nscr (by decide))
  have e3 : M' 74 3 = M 74 3 := h.2.1 3 (by decide) (d _ (by decide))
  unfold GI
  rw [e, e0, e3]
  rcases g with g | ⟨g0, g1, g2, g3, g4⟩
  · exact Or.inl g
  · exact Or.inr ⟨g0, g1, g2.fi g3.co.1 (fun i a b => h.at d (mem_cI (by omega)) (by omega) (nscr (by omega))) h.2.2.2.1 h.2.2.2.2, g3, g4.mono (by omega)⟩
theorem GT.fi {X : List Nat} {M M' : Mm} (h : FI X M M') (d : dj X cT) (g : GT M) : GT M' := by
  unfold GT
  rw [h.at d (i := 38) (by decide) (by decide) (nscr (by decide)), h.at d (i := 39) (by decide) (by decide) (nscr (by decide)), h.at d (i := 88) (by decide) (by decide) (nscr (by decide)), h.2.1 17 (by decide) (d _ (by decide))]
  exact g
theorem GW.fi {X : List Nat} {M M' : Mm} (h : FI X M M') (d : dj X cW) (g : GW M) : GW M' := by
  unfold GW
  rw [h.at d (i := 42) (by decide) (by decide) (nscr (by decide)), h.at d (i := 43) (by decide) (by decide) (nscr (by decide)), h.at d (i := 92) (by decide) (by decide) (nscr (by decide)), h.2.1 32 (by decide) (d _ (by decide))]
  exact g
theorem GS.fi {X : List Nat} {M M' : Mm} (h : FI X M M') (d : dj X cS) (g : GS M) : GS M' := by
  intro k hk
  have e : ∀ i : Nat, ((45 ≤ i ∧ i ≤ 52) ∨ (78 ≤ i ∧ i ≤ 80)) → M' i = M i := fun i hi => h.at d (mem_cS hi) (by omega) (nscr (by omega))
  unfold SH
  rw [e (45 + 2 * k) (by omega), e (46 + 2 * k) (by omega), e 78 (by decide), e 79 (by decide), e 80 (by decide)]
  exact g k hk
theorem GL.fi {X : List Nat} {M M' : Mm} (h : FI X M M') (d : dj X cL) (g : GL M) : GL M' := by
  intro k hk
  have e : ∀ i : Nat, ((54 ≤ i ∧ i ≤ 73) ∨ (81 ≤ i ∧ i ≤ 85)) → M' i = M i := fun i hi => h.at d (mem_cL hi) (by omega) (nscr (by omega))
  unfold SL
  rw [e (54 + 4 * k) (by omega), e (55 + 4 * k) (by omega), e (56 + 4 * k) (by omega), e (57 + 4 * k) (by omega), e 81 (by decide), e 82 (by decide), e 83 (by decide), e 84 (by decide), e 85 (by decide)]
  exact g k hk
theorem GQ.fi {X : List Nat} {n : Nat} {M M' : Mm} (h : FI X M M') (d : dj X cQ) (g : lawsOk n M) : lawsOk n M' := by
  intro q
  have e2 : M' 2 = M 2 := h.at d (by decide) (by decide) (nscr (by decide))
  have e26 : M' 26 = M 26 := h.at d (by decide) (by decide) (nscr (by decide))
  obtain ⟨a, b, c⟩ := g q
  refine ⟨by rw [e2]; exact a, ?_, by rw [e26]; exact c⟩
  rcases h.2.2.1 q with e | e | e <;> rw [e]
  · exact b
  · exact a
  · exact c
theorem GO.fi {X : List Nat} {M M' : Mm} (h : FI X M M') (d : dj X cO) (g : GO M) : GO M' := by
  unfold GO
  rw [h.2.1 13 (by decide) (d _ (by decide))]; exact g
/-- what changed is given anew, the rest stays -/
theorem Inv.fi {X : List Nat} {n j j' : Nat} {M M' : Mm} (I : Inv n j M) (hj : j ≤ j') (h : FI X M M')
    (a : GA n j' M' ∨ dj X cA := by exact Or.inr (by decide)) (i : GI n j' M' ∨ dj X cI := by exact Or.inr (by decide)) (t : GT M' ∨ dj X cT := by exact Or.inr (by decide)) (w : GW M' ∨ dj X cW := by exact Or.inr (by decide)) (s : GS M' ∨ dj X cS := by exact Or.inr (by decide)) (l : GL M' ∨ dj X cL := by exact Or.inr (by decide)) (q : lawsOk n M' ∨ dj X cQ := by exact Or.inr (by decide)) (o : GO M' ∨ dj X cO := by exact Or.inr (by decide)) : Inv n j' M' :=
  ⟨a.elim id (fun d => I.a.fi hj h d), i.elim id (fun d => I.i.fi hj h d), t.elim id (fun d => I.t.fi h d), w.elim id (fun d => I.w.fi h d), s.elim id (fun d => I.s.fi h d), l.elim id (fun d => I.l.fi h d), q.elim id (fun d => GQ.fi h d I.q), o.elim id (fun d => I.o.fi h d), ⟨I.n.1, I.n.2.1, by have := I.n.2.2; omega⟩⟩
theorem Inv.up {n j j' : Nat} {M : Mm} (I : Inv n j M) (hj : j ≤ j') : Inv n j' M := I.fi hj (FI.rf [] M)
