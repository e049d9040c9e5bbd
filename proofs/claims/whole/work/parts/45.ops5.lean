theorem FI.th {M M1 : Mm} (hF : FrN 13 M M1) (hq : ∀ q : Nat, M1 14 q = M 14 q ∨ M1 14 q = M 2 q ∨ M1 14 q = M 26 q) : FI [] M M1 :=
  ⟨fun i _ _ hs => hF i (fun h => hs (by unfold scr; omega)), fun q _ _ => by rw [hF 74 (by omega)], hq, fun i h9 _ => hF i (by omega), fun i hp => by have := hiP hp; rw [hF i (by omega)]⟩
theorem FI.th1 {M M1 : Mm} (hF : FrN 13 M M1) (hq : ∀ q : Nat, M1 (13 + 1) q = M (13 + 1) q ∨ M1 (13 + 1) q = M (1 + 1) q) : FI [] M M1 := FI.th hF (fun q => (hq q).elim Or.inl (fun e => Or.inr (Or.inl e)))
theorem FI.th25 {M M1 : Mm} (hF : FrN 13 M M1) (hq : ∀ q : Nat, M1 (13 + 1) q = M (13 + 1) q ∨ M1 (13 + 1) q = M (25 + 1) q) : FI [] M M1 := FI.th hF (fun q => (hq q).elim Or.inl (fun e => Or.inr (Or.inr e)))
theorem FI.A13 {M M1 : Mm} (hF : FrA 13 M M1) : FI [] M M1 :=
  ⟨fun i h9 _ hs => hF.1 i (fun h => hs (by unfold scr; omega)) (notP_lt h9), fun q _ _ => by rw [hF.1 74 (by omega) (notP_lt (by decide))], fun q => Or.inl (by rw [show M1 14 = M 14 from hF.2.2.1]), fun i h9 hp => hF.1 i (by omega) hp, fun i hp => hF.2.1 i hp⟩
theorem FI.ofQ {M M1 : Mm} (hF : FQ M M1) (e : M1 75 = M 75) : FI [] M M1 := by
  refine ⟨fun i h9 _ hs => ?_, fun q hq _ => hF.2.1 q hq, fun q => Or.inl (by rw [hF.2.2]), fun i h9 _ => hF.1 i (hiscr h9) (by omega), fun i hp => by have := hiP hp; rw [hF.1 i (hiscr this) (by omega)]⟩
  by_cases h : i = 75
  · subst h; exact e
  · exact hF.1 i hs h
theorem FI.t0 {A B C : Mm} (h : FI [] A B) (g : FI [] B C) : FI [] A C := FI.tr (by decide) (by decide) h g
theorem FI.e75 {M M1 : Mm} (h : FI [] M M1) : M1 75 = M 75 := h.1 75 (by decide) (by decide) (nscr (by decide))
theorem lb_e {S T A : Sc} (h : ∀ k : Nat, k < 108 → A k = S k) (k : Kp S T) : (fun k => if k < 108 then A k else T k) = S := by
  funext q
  by_cases hq : q < 108
  · rw [if_pos hq]; exact h q hq
  · rw [if_neg hq]; exact k.2.2 q (by omega)
/-- the best so far: habit and what was got -/
def bst (g : Nat → Int32) : Nat → Int32 × Int32
  | 0 => (0, g 0)
  | a + 1 => if g (a + 1) ≤ (bst g a).2 then bst g a else (nI (a + 1), g (a + 1))
theorem bst_0 (g : Nat → Int32) : ∀ a : Nat, ∃ k : Nat, k ≤ a ∧ (bst g a).1 = nI k
  | 0 => ⟨0, Nat.le_refl _, rfl⟩
  | a + 1 => by
    obtain ⟨k, h1, h2⟩ := bst_0 g a
    unfold bst
    split
    · exact ⟨k, by omega, h2⟩
    · exact ⟨a + 1, Nat.le_refl _, rfl⟩
section OPS5
variable {n j : Nat} {M : Mm} {Z : Mm → Prop} {R : Mm → Int32 → Prop} {K : Mm → Int32 → Prop}
/-- the scene thought becomes the scene now -/
theorem e7_think {K : Mm → Prop} (I : Inv n j M) (hj : j ≤ 64) (hK : ∀ M' : Mm, SR n M' 13 (M 75) → FI [] M M' → K M') : wp_X3_become n M 13 1 K :=
  e3_become (Or.inr (Or.inl rfl)) (Or.inl rfl) (by decide) (I.n1k hj) I.a.2.1 I.a.1 (fun M' h f q => hK M' h (FI.th1 f q))
theorem op_behind {p1 p2 : Int32} (I : Inv n j M) (hj : j ≤ 64) (hZ : ∀ M' : Mm, Inv n (j + 1) M' → Z M') (hR : ∀ (M1 : Mm) (r : Int32), wp_X8_behind n M1 p1 p2 (fun M3 r4 => (r = r4 → Z M3) ∧ (¬ r = r4 → False)) → R M1 r) : wp_X7_behind n M p1 p2 R := by
  obtain ⟨hS, hO, hI⟩ := I.a
  obtain ⟨hz, h0⟩ := hO.co
  have hsk := hZ _ I.sk
  by_cases hp : 0 ≤ p1 ∧ p1 ≤ 300
  · obtain ⟨p, hp3, rfl⟩ := bd_of (k := 300) (by decide) (by decide) hp
    obtain ⟨m, hm, em⟩ := hI.1.1
    refine e7_y hp ⟨fun h => absurd h i1, fun _ => ?_⟩
    by_cases hp2 : 0 ≤ p2 ∧ p2 ≤ 3
    · refine e7_y hp2 ⟨fun _ => ?_, fun h => absurd h i1⟩
      refine e7_think I hj (fun M5 h5 f5 => e3_advance (Or.inr (Or.inl rfl)) (I.n1k hj) hO rfl hp3 em (by omega) h5 (fun M7 h7 f7 => ?_))
      have kp := kp_miK (o := -1) hz p
      have F7 : FI [] M M7 := f5.t0 (FI.A13 f7)
      have e5 : M7 75 = M 75 := F7.e75
      have eo : M7 74 13 = -1 := by rw [F7.2.1 13 (by decide) (by decide)]; exact I.o
      have hgo : ∀ r : Int32, (p2 = 0 → r = miK (-1) (M 75) p 5) → (p2 = 1 → r = sumT (miK (-1) (M 75) p) 9 (nCo (M 75))) → (p2 = 2 → r = sumT (miK (-1) (M 75) p) 10 (nCo (M 75))) → (¬ p2 = 0 → ¬ p2 = 1 → ¬ p2 = 2 → r = sbK (-1) (M 75) p) → R M7 r := by
        intro r a0 a1 a2 a3
        refine hR M7 r (e8_y (lo := 0) (hi := 300) rfl (by decide) (by decide) hp ⟨fun h => absurd h i1, fun _ => e8_y (lo := 0) (hi := 3) rfl (by decide) (by decide) hp2 ⟨fun _ => e8_laysBy (fun M8 b1 b2 => ?_), fun h => absurd h i1⟩⟩)
        rintro M9 rfl
        have e9 : wr M8 74 14 0 75 = M 75 := by rw [wr_oth (by decide), b2 75 (by decide), e5]
        have e13 : wr M8 74 14 0 74 13 = -1 := by rw [wr_idx (by decide), b2 74 (by decide), eo]
        refine e8_many rfl hp3 (by rw [e9]; exact hO) (fun M10 c5 c4 cF => ?_)
        rw [e9, e13] at c5 c4
        have hend : ∀ s : Int32, r = s → wb_X8_behind_86 n (nI p) p2 (fun M3 r4 => (r = r4 → Z M3) ∧ (¬ r = r4 → False)) M10 s := by
          intro s es
          refine e8_laysBack (fun M11 d1 d2 => en es (hZ _ ?_))
          have e87 : ∀ k : Nat, k < 108 → M10 87 k = M 75 k := fun k hk => by rw [cF 87 (by decide) (by decide) (by decide) (by decide) (by decide), wr_oth (by decide), b1 k hk, e5]
          have e11 : M11 75 = M 75 := by rw [d1, c5]; exact lb_e e87 kp
          have q1 : FQ M7 M11 := ((FQ.of87 b2).tr (FQ.w74 (by decide))).tr ((FQ.ofG cF c4).tr (FQ.of5 d2))
          exact I.fi (by omega) (F7.t0 (FI.ofQ q1 (by rw [e11, e5])))
        have z10 : M10 75 0 = nI (nCo (M 75)) := by rw [c5, kp.1, h0]
        refine ⟨fun n0 => ⟨fun n1 => ⟨fun n2 => hend _ ?_, fun n2 => e8_ofAll (w := 10) rfl (by decide) hz z10 (hend _ ?_)⟩, fun n1 => e8_ofAll (w := 9) rfl (by decide) hz z10 (hend _ ?_)⟩, fun n0 => hend _ ?_⟩
        · rw [c4, pk_us, a3 n0 n1 n2, wr_at, Int32.zero_add]
        · rw [c5]; exact a2 n2
        · rw [c5]; exact a1 n1
        · rw [c5]; exact a0 n0
      have sums := e3_sum (n := n) (M := M7) (K := R) (b := 13) (Or.inr (Or.inl rfl)) (hO.kp kp) h7
      rw [kp.co] at sums
      refine ⟨fun h => hgo _ (fun _ => h7.1.2.2.2.2.2.1) (fun q => absurd (h.symm.trans q) (by decide)) (fun q => absurd (h.symm.trans q) (by decide)) (fun q => absurd h q), fun h => sums.1 (hgo _ (fun q => absurd (h.symm.trans q) (by decide)) (fun _ => rfl) (fun q => absurd (h.symm.trans q) (by decide)) (fun _ q => absurd h q)), fun h => sums.2.1 (hgo _ (fun q => absurd (h.symm.trans q) (by decide)) (fun q => absurd (h.symm.trans q) (by decide)) (fun _ => rfl) (fun _ _ q => absurd h q)), fun a b c => hgo _ (fun q => absurd q a) (fun q => absurd q b) (fun q => absurd q c) (fun _ _ _ => rfl)⟩
    · exact e7_n hp2 ⟨fun h => absurd rfl h, fun _ => hR _ _ (e8_y (lo := 0) (hi := 300) rfl (by decide) (by decide) hp ⟨fun h => absurd h i1, fun _ => e8_n (lo := 0) (hi := 3) rfl (by decide) (by decide) hp2 ⟨fun h => absurd rfl h, fun _ => en rfl hsk⟩⟩)⟩
  · exact e7_n hp ⟨fun _ => hR _ _ (e8_n (lo := 0) (hi := 300) rfl (by decide) (by decide) hp ⟨fun _ => en rfl hsk, fun h => absurd rfl h⟩), fun h => absurd rfl h⟩
/-- what a comer gets with habit a -/
def gta (S : Sc) (c p a : Nat) : Int32 := miK (-1) (upd S (cx c 1) (nI a)) p (cx c 9)
theorem gta_0 {S : Sc} {c p a m : Nat} (hO : SOK S) (hI : RI S m) (hc : c < nCo S) (hb : 9 * (m + p) < 2 ^ 31) : ∃ g : Nat, g < 2 ^ 31 ∧ gta S c p a = nI g := by
  have hz := hO.co.1
  have k1 : Kp S (upd S (cx c 1) (nI a)) := (Kp.rf S).up cx_1 (cx_108 (by omega) (by decide))
  have h1 : RI (upd S (cx c 1) (nI a)) m := hI.uc (by decide) (fun h => absurd h (by decide)) (fun h => absurd h (by decide)) (fun h => absurd h (by decide)) (fun h => absurd h (by decide)) (fun h => absurd h (by decide))
  have hz1 : nCo (upd S (cx c 1) (nI a)) ≤ 8 := by rw [k1.co]; exact hz
  have h2 := (ri_miK (o := -1) hz1 h1 p).2 c (by rw [(kp_miK hz1 p).co, k1.co]; exact hc)
  obtain ⟨g, hg, e⟩ := h2.2.2.2.1
  exact ⟨g, by omega, e⟩
theorem FI.w {i k : Nat} {x : Int32} (h : 13 ≤ i ∧ i ≤ 24 ∧ i ≠ 14) : FI [] M (wr M i k x) :=
  ⟨fun q _ _ hs => wr_oth (fun e => hs (by unfold scr; omega)), fun q _ _ => by rw [wr_oth (by omega)], fun q => Or.inl (by rw [wr_oth (by omega)]), fun q h9 _ => wr_oth (by omega), fun q hp => by have := hiP hp; rw [wr_oth (by omega)]⟩
theorem k7_best {c p : Nat} {p3 : Int32} (I : Inv n j M) (hj : j ≤ 64) (hp : p ≤ 120) (hc : c < nCo (M 75)) (hK : ∀ M' : Mm, FI [] M M' → K M' (if p3 = 0 then (bst (gta (M 75) c p) 59).1 else (bst (gta (M 75) c p) 59).2)) : wl_X7_best_46 n (nI c) (nI p) p3 K 61 M 0 (-1) 0 := by
  obtain ⟨hS, hO, hI⟩ := I.a
  obtain ⟨hz, h0⟩ := hO.co
  obtain ⟨m, hm, em⟩ := hI.1.1
  suffices h : ∀ (q a : Nat) (M1 : Mm) (x4 x5 : Int32), a + q = 60 → FI [] M M1 → (a = 0 → x4 = 0 ∧ x5 = -1) → (∀ b : Nat, a = b + 1 → x4 = (bst (gta (M 75) c p) b).1 ∧ x5 = (bst (gta (M 75) c p) b).2) → wl_X7_best_46 n (nI c) (nI p) p3 K (q + 1) M1 x4 x5 (nI a) by
    exact h 60 0 M 0 (-1) (by omega) (FI.rf [] M) (fun _ => ⟨rfl, rfl⟩) (fun b hb => absurd hb (by omega))
  intro q
  induction q with
  | zero =>
    intro a M1 x4 x5 ha hF s0 s1
    have : a = 60 := by omega
    subst this
    obtain ⟨e4, e5⟩ := s1 59 rfl
    rw [wl_X7_best_46]
    have hk := hK M1 hF
    refine ⟨fun _ => ⟨fun h => ?_, fun h => ?_⟩, fun h => absurd (by decide) h⟩
    · rw [if_neg h] at hk; rw [e5]; exact hk
    · rw [if_pos h] at hk; rw [e4]; exact hk
  | succ q ih =>
    intro a M1 x4 x5 ha hF s0 s1
    rw [wl_X7_best_46]
    have e75 := hF.e75
    refine ⟨fun h => absurd h (by rw [show ([5, 59, 30, 9, 9] : List Int32).getD (1 : Int32).toNatClampNeg 0 = nI 59 from rfl]; exact nI_nlt (by omega) (by omega)), fun _ => e7_think (I.fi (Nat.le_refl _) hF) hj (fun M2 h2 f2 => ?_)⟩
    rw [e75] at h2
    refine e3_comerAt (Or.inr (Or.inl rfl)) hz (by rw [h2.1.1, h0]) (fun hN => absurd ⟨c, hc, rfl⟩ hN) (fun c' hc' hx => ⟨fun h => absurd h (by simp), fun t4 h4 => ?_⟩)
    have : c' = c := by rw [nI_eq (by omega) (by omega)] at hx; exact hx.symm
    subst this
    cases h4
    refine ⟨isB.c (b := 13) (Or.inr (Or.inl rfl)) (by omega), ?_⟩
    rintro M3 rfl
    have k1 : Kp (M 75) (upd (M 75) (cx c' 1) (nI a)) := (Kp.rf _).up cx_1 (cx_108 (by omega) (by decide))
    have h3 := h2.wc (c := c') (w := 1) (x := nI a) (Or.inr (Or.inl rfl)) hc hz (by decide)
    refine e3_advance (Or.inr (Or.inl rfl)) (I.n1k hj) (hO.kp k1) rfl (by omega) (by rw [pk_un (Ne.symm (cx_lo (by decide)))]; exact em) (by omega) h3 (fun M4 h4 f4 => ?_)
    have F4 : FI [] M M4 := hF.t0 (f2.t0 ((FI.w (by omega)).t0 (FI.A13 f4)))
    have kz : nCo (miK (-1) (upd (M 75) (cx c' 1) (nI a)) p) = nCo (M 75) := by rw [(kp_miK (by rw [k1.co]; exact hz) p).co, k1.co]
    have eg : M4 (13 + 3 + 1 + c') 9 = gta (M 75) c' p a := h4.2.1 c' (by rw [kz]; exact hc) 9 (by decide)
    rw [eg]
    have go := ih (a + 1) M4
    refine ⟨fun h => ?_, fun h => ?_⟩
    · rintro v rfl
      rw [nI_s]
      cases a with
      | zero =>
        obtain ⟨g, hg, e⟩ := gta_0 (a := 0) (p := p) hO hI hc (by omega)
        rw [(s0 rfl).2, e] at h
        exact absurd (Int32.le_trans (nI_pos' hg) h) (by decide)
      | succ b =>
        obtain ⟨e4, e5⟩ := s1 b rfl
        refine go x4 x5 (by omega) F4 (fun h => absurd h (by omega)) (fun b' hb' => ?_)
        have : b' = b + 1 := by omega
        subst this
        rw [bst, if_pos (by rw [← e5]; exact h)]
        exact ⟨e4, e5⟩
    · rintro v20 rfl v21 rfl
      rw [nI_s]
      refine go _ _ (by omega) F4 (fun h => absurd h (by omega)) (fun b' hb' => ?_)
      have : b' = a := by omega
      subst this
      cases b' with
      | zero => exact ⟨rfl, rfl⟩
      | succ b =>
        obtain ⟨e4, e5⟩ := s1 b rfl
        rw [bst, if_neg (by rw [← e5]; exact h)]
        exact ⟨rfl, rfl⟩
theorem k8_best {c p : Nat} {p3 : Int32} {S : Sc} (hO : SOK S) (hp : p ≤ 120) (hc : c < nCo S) (eS : M 75 = S) (e87 : ∀ k : Nat, k < 108 → M 87 k = S k) (eo : M 74 13 = -1) (hK : ∀ M' : Mm, FQ M M' → M' 75 = S → K M' (if p3 = 0 then (bst (gta S c p) 59).1 else (bst (gta S c p) 59).2)) : wl_X8_best_46 n (nI c) (nI p) p3 K 61 M (-1) 0 0 := by
  obtain ⟨hz, h0⟩ := hO.co
  suffices h : ∀ (q a : Nat) (M1 : Mm) (x4 x5 : Int32), a + q = 60 → M1 75 = S → (∀ k : Nat, k < 108 → M1 87 k = S k) → FQ M M1 → (a = 0 → x4 = -1) → (∀ b : Nat, a = b + 1 → x4 = (bst (gta S c p) b).1 ∧ x5 = (bst (gta S c p) b).2) → wl_X8_best_46 n (nI c) (nI p) p3 K (q + 1) M1 x4 x5 (nI a) by
    exact h 60 0 M (-1) 0 (by omega) eS e87 (FQ.rf M) (fun _ => rfl) (fun b hb => absurd hb (by omega))
  intro q
  induction q with
  | zero =>
    intro a M1 x4 x5 ha e5 e8 hF s0 s1
    have : a = 60 := by omega
    subst this
    obtain ⟨q4, q5⟩ := s1 59 rfl
    rw [wl_X8_best_46]
    have hk := hK M1 hF e5
    refine ⟨fun _ => ⟨fun h => ?_, fun h => ?_⟩, fun h => absurd (by decide) h⟩
    · rw [if_neg h] at hk; rw [q5]; exact hk
    · rw [if_pos h] at hk; rw [q4]; exact hk
  | succ q ih =>
    intro a M1 x4 x5 ha e5 e8 hF s0 s1
    rw [wl_X8_best_46]
    have k1 : Kp S (upd S (cx c 1) (nI a)) := (Kp.rf _).up cx_1 (cx_108 (by omega) (by decide))
    refine ⟨fun h => absurd h (by rw [show (60 : Int32) = nI 60 from rfl]; exact nI_ge (by omega) (by decide)), fun _ => e8_sets' (w := 1) rfl (by omega) (by decide) (fun M2 a5 aF => ?_)⟩
    rw [e5] at a5
    refine e8_many rfl (by omega) (by rw [a5]; exact hO.kp k1) (fun M3 b5 b4 bF => ?_)
    have eo2 : M2 74 13 = -1 := by rw [aF 74 (by decide), hF.2.1 13 (by decide), eo]
    rw [eo2, a5] at b5
    have kp := kp_miK (o := -1) (S := upd S (cx c 1) (nI a)) (by rw [k1.co]; exact hz) p
    have e87' : ∀ k : Nat, k < 108 → M3 87 k = S k := fun k hk => by rw [bF 87 (by decide) (by decide) (by decide) (by decide) (by decide), aF 87 (by decide)]; exact e8 k hk
    have hQ : FQ M M3 := hF.tr ((FQ.of5 aF).tr (FQ.ofG bF b4))
    refine e8_of (w := 9) rfl (by omega) (by decide) ?_
    have eg : M3 75 (cx c 9) = gta S c p a := by rw [b5]; rfl
    rw [eg]
    have h95 : ∀ y4 y5 : Int32, (∀ b : Nat, a + 1 = b + 1 → y4 = (bst (gta S c p) b).1 ∧ y5 = (bst (gta S c p) b).2) → wb_X8_best_95 n (nI c) (nI p) p3 (fun M x4 x5 x6 => wl_X8_best_46 n (nI c) (nI p) p3 K (q + 1) M x4 x5 x6) K M3 y4 y5 (nI a) := by
      intro y4 y5 hy
      refine e8_laysBack (fun M4 d1 d2 => ?_)
      rintro v rfl
      rw [nI_s]
      exact ih (a + 1) M4 y4 y5 (by omega) (by rw [d1, b5]; exact lb_e e87' (k1.tr kp)) (fun k hk => by rw [d2 87 (by decide)]; exact e87' k hk) (hQ.tr (FQ.of5 d2)) (fun h => absurd h (by omega)) hy
    refine ⟨fun h => h95 _ _ (fun b hb => ?_), fun h => ⟨fun h2 => h95 _ _ (fun b hb => ?_), fun h2 => h95 _ _ (fun b hb => ?_)⟩⟩
    · have : b = a := by omega
      subst this
      cases b with
      | zero => exact ⟨rfl, rfl⟩
      | succ b =>
        obtain ⟨k, hk, ek⟩ := bst_0 (gta S c p) b
        rw [(s1 b rfl).1, ek] at h
        exact absurd h (nI_pos (by omega))
    · have : b = a := by omega
      subst this
      cases b with
      | zero => rw [s0 rfl] at h; exact absurd (by decide) h
      | succ b =>
        obtain ⟨q4, q5⟩ := s1 b rfl
        rw [bst, if_pos (by rw [← q5]; exact h2)]
        exact ⟨q4, q5⟩
    · have : b = a := by omega
      subst this
      cases b with
      | zero => exact ⟨rfl, rfl⟩
      | succ b =>
        obtain ⟨q4, q5⟩ := s1 b rfl
        rw [bst, if_neg (by rw [← q5]; exact h2)]
        exact ⟨rfl, rfl⟩
theorem op_best {p1 p2 p3 : Int32} (I : Inv n j M) (hj : j ≤ 64) (hZ : ∀ M' : Mm, Inv n (j + 1) M' → Z M') (hR : ∀ (M1 : Mm) (r : Int32), wp_X8_best n M1 p1 p2 p3 (fun M3 r4 => (r = r4 → Z M3) ∧ (¬ r = r4 → False)) → R M1 r) : wp_X7_best n M p1 p2 p3 R := by
  obtain ⟨hS, hO, hI⟩ := I.a
  obtain ⟨hz, h0⟩ := hO.co
  have hsk := hZ _ I.sk
  refine e7_com I (fun hN => ⟨fun _ => ?_, fun t ht => absurd ht (by simp)⟩) (fun c hc hc8 hx => ⟨fun h => absurd h (by simp), fun t3 ht => ?_⟩)
  · exact hR _ _ (e8_cn hO rfl hN ⟨fun _ => en rfl hsk, fun h => absurd rfl h⟩)
  · subst hx
    have ht : 1 + 3 + 1 + c = t3 := Option.some.inj ht
    subst ht
    refine ⟨isB.c (b := 1) (Or.inl rfl) hc8, ?_⟩
    by_cases hp : 1 ≤ p2 ∧ p2 ≤ 120
    · obtain ⟨p, hp3, rfl⟩ := bd_of (k := 120) (by decide) (by decide) hp
      refine e7_y hp ⟨fun h => absurd h i1, fun _ => ?_⟩
      by_cases hq : 0 ≤ p3 ∧ p3 ≤ 1
      · refine e7_y hq ⟨fun _ => ?_, fun h => absurd h i1⟩
        rintro v9 rfl
        refine ⟨61, k7_best I hj hp3 hc (fun M1 F1 => hR _ _ ?_)⟩
        refine e8_cy hO F1.e75 hc ⟨fun h => absurd h i1, fun _ => e8_y (lo := 1) (hi := 120) rfl (by decide) (by decide) hp ⟨fun h => absurd h i1, fun _ => e8_y (lo := 0) (hi := 1) rfl (by decide) (by decide) hq ⟨fun _ => e8_laysBy (fun M2 b1 b2 => ⟨61, ?_⟩), fun h => absurd h i1⟩⟩⟩
        have e2 : M2 75 = M 75 := by rw [b2 75 (by decide), F1.e75]
        refine k8_best hO hp3 hc e2 (fun k hk => by rw [b1 k hk, F1.e75]) (by rw [b2 74 (by decide), F1.2.1 13 (by decide) (by decide)]; exact I.o) (fun M3 q3 e3 => en rfl (hZ _ ?_))
        exact I.fi (by omega) (F1.t0 (FI.ofQ ((FQ.of87 b2).tr q3) (by rw [e3, F1.e75])))
      · exact e7_n hq ⟨fun h => absurd rfl h, fun _ => hR _ _ (e8_cy hO rfl hc ⟨fun h => absurd h i1, fun _ => e8_y (lo := 1) (hi := 120) rfl (by decide) (by decide) hp ⟨fun h => absurd h i1, fun _ => e8_n (lo := 0) (hi := 1) rfl (by decide) (by decide) hq ⟨fun h => absurd rfl h, fun _ => en rfl hsk⟩⟩⟩)⟩
    · exact e7_n hp ⟨fun _ => hR _ _ (e8_cy hO rfl hc ⟨fun h => absurd h i1, fun _ => e8_n (lo := 1) (hi := 120) rfl (by decide) (by decide) hp ⟨fun _ => en rfl hsk, fun h => absurd rfl h⟩⟩), fun h => absurd rfl h⟩
end OPS5
