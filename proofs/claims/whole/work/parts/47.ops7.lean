section OPS7
variable {n j : Nat} {M : Mm} {Z : Mm → Prop} {R : Mm → Int32 → Prop} {K : Mm → Int32 → Prop}
theorem chk_fin {M3 M' : Mm} (I : Inv n j M) (hF : FI [] (wr M 42 1 0) M3) (h1 : ∀ i : Nat, i ≠ 74 → i ≠ 75 → i ≠ 77 → i ≠ 86 → i ≠ 89 → i ≠ 90 → i ≠ 93 → M' i = M3 i) (h2 : ∀ q : Nat, q = 3 ∨ q = 13 ∨ q = 17 → M' 74 q = M3 74 q) (h3 : M' 74 32 = 0) (h4 : e29 (M 75) (M' 75)) : Inv n (j + 1) M' := by
  obtain ⟨hS, hO, hI⟩ := I.a
  have g1 : ∀ i : Nat, ¬ scr i → i ≠ 75 → M' i = M3 i := fun i x y => by
    unfold scr at x
    exact h1 i (by omega) y (by omega) (by omega) (by omega) (by omega) (by omega)
  have g2 : ∀ i : Nat, i < 94 → ¬ scr i → i ≠ 75 → i ≠ 42 → M' i = M i := fun i x y z w => by
    rw [g1 i y z, hF.1 i x (by simp) y, wr_oth w]
  have g3 : ∀ i : Nat, 94 ≤ i → ¬ isP i → M' i = M i := fun i h9 hp => by
    rw [g1 i (hiscr h9) (by omega), hF.2.2.2.1 i h9 hp, wr_oth (by omega)]
  have g4 : ∀ i : Nat, isP i → M' i LEN = M i LEN := fun i hp => by
    have := hiP hp
    rw [g1 i (hiscr this) (by omega), hF.2.2.2.2 i hp, wr_oth (by omega)]
  refine I.fi (X := [42, 75, 1032]) (by omega) ⟨fun i h9 hx hs => ?_, fun q hq hx => ?_, fun q => ?_, g3, g4⟩ (a := Or.inl ⟨?_, h4.ok hO, h4.ri hO.co.1 (hI.mono (by omega))⟩) (w := Or.inl ⟨0, by decide, ?_, h3, fun i hi => absurd hi (by omega)⟩)
  · have x1 : i ≠ 42 := fun e => hx (by subst e; decide)
    have x2 : i ≠ 75 := fun e => hx (by subst e; decide)
    exact g2 i h9 hs x2 x1
  · have : q ≠ 32 := fun e => hx (by subst e; decide)
    rw [h2 q (by omega), hF.2.1 q hq (by simp), wr_oth (by decide)]
  · have h5 := hF.2.2.1 q
    rw [wr_oth (by decide), wr_oth (by decide), wr_oth (by decide)] at h5
    rw [h1 14 (by decide) (by decide) (by decide) (by decide) (by decide) (by decide) (by decide)]; exact h5
  · exact h4.sr hO (hS.fi hO.co.1 (fun i x y => g2 i (by omega) (nscr (by omega)) (by omega) (by omega)) g3 g4)
  · rw [h1 42 (by decide) (by decide) (by decide) (by decide) (by decide) (by decide) (by decide), hF.1 42 (by decide) (by simp) (nscr (by decide)), wr_at]; rfl
theorem op_check {p1 : Int32} (I : Inv n j M) (hj : j ≤ 64) (hZ : ∀ M' : Mm, Inv n (j + 1) M' → Z M') (hR : ∀ (M1 : Mm) (r : Int32), wp_X8_check n M1 p1 (fun M3 r4 => (r = r4 → Z M3) ∧ (¬ r = r4 → False)) → R M1 r) : wp_X7_check n M p1 R := by
  obtain ⟨hS, hO, hI⟩ := I.a
  obtain ⟨s, hs, w1, w2, w3⟩ := I.w
  have hi0 : Inv n (j + 1) (wr (wr M 42 1 0) 74 32 0) := chk_fin I (FI.rf [] (wr M 42 1 0)) (fun i a _ _ _ _ _ _ => wr_oth a) (fun q hq => by rw [wr_idx (by omega)]) (wr_at _ _ _ _) (by rw [wr_oth (by decide), wr_oth (by decide)]; exact fun k _ => rfl)
  rintro v0 hv0 M0 rfl
  rw [w1] at hv0
  subst hv0
  by_cases hp : 1 ≤ p1 ∧ p1 ≤ 30
  · obtain ⟨p, hp3, rfl⟩ := bd_of (k := 30) (by decide) (by decide) hp
    refine e7_y hp ⟨fun _ => ?_, fun h => absurd h i1⟩
    rw [wr_oth (by decide)]
    rcases I.i with ⟨g0, g1⟩ | ⟨g0, g1, iS, iO, iI⟩
    · refine ⟨fun h => absurd g0 h, fun _ => ?_⟩
      refine hR _ _ ?_
      rintro v1 rfl M2 rfl
      exact e8_y (lo := 1) (hi := 30) rfl (by decide) (by decide) hp ⟨fun _ => ⟨fun h => absurd (by rw [wr_idx (by decide), wr_oth (by decide)]; exact g1) h, fun _ => en rfl (hZ _ hi0)⟩, fun h => absurd h i1⟩
    · refine ⟨fun _ => ?_, fun h => absurd h (by rw [g0]; decide)⟩
      have mx := e29.mix (M 76) (M 75)
      have tS := mx.sr iO iS
      have tO := mx.ok iO
      have tI := mx.ri iO.co.1 iI
      generalize hT : (fun k => if k < 2908 then M 76 k else M 75 k) = T at *
      obtain ⟨m, hm, em⟩ := tI.1.1
      have tW : SR n (wr M 42 1 0) 25 T := tS.fi tO.co.1 (fun i x y => wr_oth (by omega)) (fun i x y => wr_oth (by omega)) (fun i x => by have := hiP x; rw [wr_oth (by omega)])
      refine k7_check I hj hp3 hs tW tO tI (fun M3 r F3 hc => ?_)
      rw [wr_oth (by decide)] at hc
      refine hR _ _ ?_
      rintro v1 rfl M2 rfl
      have e3 : ∀ i : Nat, i ≠ 42 → i ≠ 74 → i < 94 → ¬ scr i → wr M3 74 32 0 i = M i := fun i x y z hs => by rw [wr_oth y, F3.1 i z (by simp) hs, wr_oth x]
      have e74 : ∀ q : Nat, (q = 3 ∨ q = 13 ∨ q = 17) → wr M3 74 32 0 74 q = M 74 q := fun q hq => by rw [wr_idx (by omega), F3.2.1 q (by omega) (by simp), wr_oth (by decide)]
      refine e8_y (lo := 1) (hi := 30) rfl (by decide) (by decide) hp ⟨fun _ => ⟨fun _ => ?_, fun h => absurd h (by rw [e74 3 (by decide), g1]; decide)⟩, fun h => absurd h i1⟩
      refine e8_setAside (a := 75) (b := 77) rfl rfl (by decide) (fun M6 a1 a2 => e8_setAside (a := 76) (b := 75) rfl rfl (by decide) (fun M7 b1 b2 => ?_))
      have e75 : wr M3 74 32 0 75 = M 75 := e3 75 (by decide) (by decide) (by decide) (nscr (by decide))
      have c5 : M7 75 = T := by
        rw [b1, a2 76 (by decide), a2 75 (by decide), e75, e3 76 (by decide) (by decide) (by decide) (nscr (by decide))]; exact hT
      have c13 : M7 74 13 = -1 := by rw [b2 74 (by decide), a2 74 (by decide), e74 13 (by decide)]; exact I.o
      have ev : M3 74 32 = nI s := by rw [F3.2.1 32 (by decide) (by simp), wr_oth (by decide)]; exact w2
      rw [ev]
      refine k8_due hp3 tO em (by omega) c5 c13 (fun M8 d1 d2 d4 => ?_)
      obtain ⟨x, d4⟩ := d4
      refine e8_setAside (a := 77) (b := 75) rfl rfl (by decide) (fun M9 f1 f2 => ?_)
      have w92 : ∀ k : Nat, k < s → M9 92 k = M 43 k := fun k hk => by
        rw [f2 92 (by decide), d2 92 (by decide) (by decide) (by decide) (by decide) (by decide) (by decide), b2 92 (by decide), a2 92 (by decide), e3 92 (by decide) (by decide) (by decide) (nscr (by decide))]
        exact (w3 k hk).symm
      refine k8_cmp hs hp3 w92 (fun k hk => by rw [f2 93 (by decide)]; exact d1 k hk) (fun r' hc' => en (chk_u hc hc') (hZ _ ?_))
      refine chk_fin I F3 (fun i x1 x2 x3 x4 x5 x6 x7 => ?_) (fun q hq => ?_) ?_ (fun k hk => ?_)
      · rw [f2 i x2, d2 i x1 x2 x4 x5 x6 x7, b2 i x2, a2 i x3, wr_oth x1]
      · rw [f2 74 (by decide), d4, pk_un (by omega), b2 74 (by decide), a2 74 (by decide), wr_idx (by omega)]
      · rw [f2 74 (by decide), d4, pk_un (by decide), b2 74 (by decide), a2 74 (by decide), wr_at]
      · rw [f1]
        show (if k < 2908 then M8 77 k else _) = _
        rw [if_pos hk, d2 77 (by decide) (by decide) (by decide) (by decide) (by decide) (by decide), b2 77 (by decide), a1]
        show (if k < 2908 then _ else _) = _
        rw [if_pos hk, e75]
  · refine e7_n hp ⟨fun h => absurd rfl h, fun _ => ?_⟩
    refine hR _ _ ?_
    rintro v1 rfl M2 rfl
    exact e8_n (lo := 1) (hi := 30) rfl (by decide) (by decide) hp ⟨fun h => absurd rfl h, fun _ => en rfl (hZ _ hi0)⟩
end OPS7
