section SHW
variable {n j : Nat} {M : Mm} {Z : Mm → Prop} {R : Mm → Int32 → Prop} {K : Mm → Int32 → Prop}
theorem e3_diff {k m q : Nat} {S : Sc} {g : Nat → Int32} (hk : k < 4) (hm : m ≤ 24) (hq : 1 ≤ q) (hq6 : q ≤ 60) (hS : SR n M 1 S) (s3 : M (45 + 2 * k) 2 = nI m) (hg : ∀ i : Nat, i < 24 → M (46 + 2 * k) i = g i) (hK : K M (ofT S g (nI q) m)) : wp_X3_differences n M 1 (45 + 2 * k) (nI q) K := by
  refine ⟨rfl, (tp_sh hk).1, fun _ => ⟨m + 1, ?_⟩, fun h => absurd (by rw [show (0 : Int32) = nI 0 from rfl]; exact nI_lt hq (by omega)) h⟩
  have hne : ¬ nI q = 0 := nI_ne0 hq (by omega)
  obtain ⟨g0, g1, g2, g3, g4, g5, g6, g7, g8, g9, g10⟩ := hS.1
  suffices h : ∀ (r i : Nat), i + r = m → wl_X3_differences_11 n 1 (45 + 2 * k) (nI q) K (r + 1) M (ofT S g (nI q) i) (nI i) by
    exact h _ 0 (by omega)
  intro r
  induction r with
  | zero =>
    intro i hi
    have : i = m := by omega
    subst this
    rw [wl_X3_differences_11, s3]
    exact ⟨fun _ => hK, fun h => absurd (nI_le (Nat.le_refl _) (by omega)) h⟩
  | succ r ih =>
    intro i hi
    rw [wl_X3_differences_11, s3, nI_clamp (by omega), show 45 + 2 * k + 1 = 46 + 2 * k by omega, hg i (by omega), g4, g5, g8]
    have nx : ∀ y : Int32, y = ofT S g (nI q) (i + 1) → wl_X3_differences_11 n 1 (45 + 2 * k) (nI q) K (r + 1) M y (nI (i + 1)) := by
      rintro y rfl
      exact ih (i + 1) (by omega)
    refine ⟨fun h => absurd h (nI_ge (by omega) (by omega)), fun _ => ⟨fun h => absurd h (by rw [show (24 : Int32) = nI 24 from rfl]; exact nI_ge (by omega) (by decide)), fun _ => ⟨vp_in_nI (by omega) (by decide), fun hn => ⟨hne, ?_⟩, fun he => ?_⟩⟩⟩
    · rintro v1 rfl
      refine ⟨vp_in_nI (by omega) (by decide), ?_⟩
      rintro v2 rfl v3 rfl
      rw [nI_s]
      exact nx _ (by rw [ofT, if_neg hn]; rfl)
    · rintro v4 rfl
      rw [nI_s]
      exact nx _ (by rw [ofT, if_pos he, Int32.add_zero])
theorem e8_wb {S : Sc} {i q : Nat} (hq : ¬ nI q = 0) (eS : M 75 = S) (hK : K M (wbh S i (nI q))) : wp_X8_waterBehind n M (10 * nI i) (nI q) K := by
  refine ⟨hq, ?_⟩
  rintro v1 rfl
  rw [eS]
  unfold wbh at hK
  generalize S 5 + (S 8 + 10 * nI i) / nI q = v at hK ⊢
  have h39 : ∀ s : Int32, s = jmin (S 4) v → wb_X8_waterBehind_39 n (10 * nI i) (nI q) K M s := by
    rintro s rfl
    unfold wb_X8_waterBehind_39
    rw [eS]
    have e : jmax (S 5) (jmin (S 4) v) = if S 5 ≤ jmin (S 4) v then jmin (S 4) v else S 5 := by
      show (if S 5 < jmin (S 4) v then jmin (S 4) v else S 5) = _
      by_cases h : S 5 < jmin (S 4) v
      · rw [if_pos h, if_pos (Int32.le_of_lt h)]
      · rw [if_neg h]
        by_cases h2 : S 5 ≤ jmin (S 4) v
        · rw [if_pos h2]; exact Int32.le_antisymm h2 (Int32.not_lt.mp h)
        · rw [if_neg h2]
    rw [e] at hK
    exact ⟨fun h => by rw [if_pos h] at hK; exact hK, fun h => by rw [if_neg h] at hK; exact hK⟩
  have em : jmin (S 4) v = if v ≤ S 4 then v else S 4 := by
    show (if v < S 4 then v else S 4) = _
    by_cases h : v < S 4
    · rw [if_pos h, if_pos (Int32.le_of_lt h)]
    · rw [if_neg h]
      by_cases h2 : v ≤ S 4
      · rw [if_pos h2]; exact Int32.le_antisymm (Int32.not_lt.mp h) h2
      · rw [if_neg h2]
  exact ⟨fun h => h39 _ (by rw [em, if_pos h]), fun h => h39 _ (by rw [em, if_neg h])⟩
theorem k8_off {k m q : Nat} {S : Sc} {g : Nat → Int32} {p2 x3 x4 : Int32} {Z41 : Mm → Int32 → Int32 → Int32 → Prop} (hk : k < 4) (hm : m ≤ 24) (hq : 1 ≤ q) (hq6 : q ≤ 60) (eS : M 75 = S) (s4 : M 79 k = nI m) (hg : ∀ i : Nat, i < 24 → M 80 (24 * k + i) = g i) (hK : (x3 = 0 → Z41 M (nI q) (ofT S g (nI q) m) (nI (q + 1))) ∧ (¬ x3 = 0 → (x4 ≤ ofT S g (nI q) m → Z41 M x3 x4 (nI (q + 1))) ∧ (¬ x4 ≤ ofT S g (nI q) m → Z41 M (nI q) (ofT S g (nI q) m) (nI (q + 1))))) : ∃ kf : Nat, wl_X8_explained_54 n (nI k) p2 Z41 K kf M x3 x4 (nI q) 0 0 := by
  have vk : vp_in (nI k) 4 := vp_in_nI hk (by decide)
  have ck : (nI k).toNatClampNeg = k := nI_clamp (by omega)
  have hne : ¬ nI q = 0 := nI_ne0 hq (by omega)
  refine ⟨m + 1, ?_⟩
  suffices h : ∀ (r i : Nat), i + r = m → wl_X8_explained_54 n (nI k) p2 Z41 K (r + 1) M x3 x4 (nI q) (ofT S g (nI q) i) (nI i) by
    exact h _ 0 (by omega)
  intro r
  induction r with
  | zero =>
    intro i hi
    have : i = m := by omega
    subst this
    rw [wl_X8_explained_54, ck, s4, nI_s]
    refine ⟨vk, fun _ => ⟨fun h v e => by subst e; exact hK.1 h, fun h => ⟨fun h2 v e => by subst e; exact (hK.2 h).1 h2, fun h2 v e => by subst e; exact (hK.2 h).2 h2⟩⟩, fun h => absurd (nI_le (Nat.le_refl _) (by omega)) h⟩
  | succ r ih =>
    intro i hi
    rw [wl_X8_explained_54, ck, s4, show (24 : Int32) = nI 24 from rfl, pk_mul, nI_add, nI_clamp (by omega), hg i (by omega)]
    refine ⟨vk, fun h => absurd h (nI_ge (by omega) (by omega)), fun _ => ⟨vp_in_nI (by omega) (by decide), ?_⟩⟩
    rintro v8 rfl
    have nx : ∀ y : Int32, y = ofT S g (nI q) (i + 1) → wl_X8_explained_54 n (nI k) p2 Z41 K (r + 1) M x3 x4 (nI q) y (nI (i + 1)) := by
      rintro y rfl
      exact ih (i + 1) (by omega)
    refine ⟨fun hn => e8_wb hne eS ?_, fun he => ?_⟩
    · have e := abs_sw (wbh S i (nI q)) (g i)
      refine ⟨fun h => ?_, fun h => ?_⟩
      · rintro v rfl v' rfl
        rw [nI_s]
        rw [if_pos h] at e
        exact nx _ (by rw [ofT, if_neg hn, e])
      · rintro v rfl v' rfl
        rw [nI_s]
        rw [if_neg h] at e
        exact nx _ (by rw [ofT, if_neg hn, e])
    · refine ⟨fun _ => ?_, fun h => absurd (by decide) h⟩
      rintro v rfl v' rfl
      rw [nI_s]
      exact nx _ (by rw [ofT, if_pos he])
theorem k7_expl {k m : Nat} {S : Sc} {g : Nat → Int32} {p1 p2 : Int32} (hk : k < 4) (hm : m ≤ 24) (hS : SR n M 1 S) (s3 : M (45 + 2 * k) 2 = nI m) (hg : ∀ i : Nat, i < 24 → M (46 + 2 * k) i = g i) (hK : K M (if p2 = 0 then (exq (fun q => ofT S g (nI q) m) 59).1 else (exq (fun q => ofT S g (nI q) m) 59).2)) : ∃ kf : Nat, wl_X7_explained_59 n p1 p2 K kf M (45 + 2 * k) 1 (ofT S g (nI 1) m) 2 := by
  refine ⟨60, ?_⟩
  have tt : tp (45 + 2 * k) = 9 := (tp_sh hk).1
  suffices h : ∀ (r a : Nat), a + r = 59 → wl_X7_explained_59 n p1 p2 K (r + 1) M (45 + 2 * k) (exq (fun q => ofT S g (nI q) m) a).1 (exq (fun q => ofT S g (nI q) m) a).2 (nI (a + 2)) by
    exact h 59 0 (by omega)
  intro r
  induction r with
  | zero =>
    intro a ha
    have : a = 59 := by omega
    subst this
    rw [wl_X7_explained_59]
    refine ⟨tt, fun _ => ⟨fun h => ?_, fun h => ?_⟩, fun h => absurd (by decide) h⟩
    · rw [if_neg h] at hK; exact hK
    · rw [if_pos h] at hK; exact hK
  | succ r ih =>
    intro a ha
    rw [wl_X7_explained_59]
    refine ⟨tt, fun h => absurd h (by rw [show ([60, 99, 99, 9, 100] : List Int32).getD (0 : Int32).toNatClampNeg 0 = nI 60 from rfl]; exact nI_nlt (by omega) (by omega)), fun _ => e3_diff (q := a + 2) hk hm (by omega) (by omega) hS s3 hg ⟨fun h => ?_, fun h => ?_⟩⟩
    · rintro v rfl
      rw [nI_s]
      have := ih (a + 1) (by omega)
      rw [exq, if_pos h] at this
      exact this
    · rintro v rfl
      rw [nI_s]
      have := ih (a + 1) (by omega)
      rw [exq, if_neg h] at this
      exact this
theorem k8_expl {k m : Nat} {S : Sc} {g : Nat → Int32} {p2 : Int32} (hk : k < 4) (hm : m ≤ 24) (eS : M 75 = S) (s4 : M 79 k = nI m) (hg : ∀ i : Nat, i < 24 → M 80 (24 * k + i) = g i) (hK : K M (if p2 = 0 then (exq (fun q => ofT S g (nI q) m) 59).1 else (exq (fun q => ofT S g (nI q) m) 59).2)) : ∃ kf : Nat, wl_X8_explained_41 n (nI k) p2 K kf M 0 0 1 := by
  refine ⟨61, ?_⟩
  suffices h : ∀ (r a : Nat) (x3 x4 : Int32), a + r = 60 → (a = 0 → x3 = 0) → (∀ b : Nat, a = b + 1 → x3 = (exq (fun q => ofT S g (nI q) m) b).1 ∧ x4 = (exq (fun q => ofT S g (nI q) m) b).2) → wl_X8_explained_41 n (nI k) p2 K (r + 1) M x3 x4 (nI (a + 1)) by
    exact h 60 0 0 0 (by omega) (fun _ => rfl) (fun b hb => absurd hb (by omega))
  intro r
  induction r with
  | zero =>
    intro a x3 x4 ha s0 s1
    have : a = 60 := by omega
    subst this
    obtain ⟨e3, e4⟩ := s1 59 rfl
    rw [wl_X8_explained_41]
    refine ⟨fun _ => ⟨fun h => ?_, fun h => ?_⟩, fun h => absurd (by decide) h⟩
    · rw [if_neg h] at hK; rw [e4]; exact hK
    · rw [if_pos h] at hK; rw [e3]; exact hK
  | succ r ih =>
    intro a x3 x4 ha s0 s1
    rw [wl_X8_explained_41]
    refine ⟨fun h => absurd h (by rw [show (60 : Int32) = nI 60 from rfl]; exact nI_nlt (by omega) (by omega)), fun _ => k8_off hk hm (by omega) (by omega) eS s4 hg ⟨fun h => ?_, fun h => ⟨fun h2 => ?_, fun h2 => ?_⟩⟩⟩
    · refine ih (a + 1) _ _ (by omega) (fun q => absurd q (by omega)) (fun b hb => ?_)
      have : b = a := by omega
      subst this
      cases b with
      | zero => exact ⟨rfl, rfl⟩
      | succ b =>
        obtain ⟨kk, h1, h2, h3⟩ := exq_1 (fun q => ofT S g (nI q) m) b
        rw [(s1 b rfl).1, h3] at h
        exact absurd h (nI_ne0 h1 (by omega))
    · refine ih (a + 1) _ _ (by omega) (fun q => absurd q (by omega)) (fun b hb => ?_)
      have : b = a := by omega
      subst this
      cases b with
      | zero => exact absurd (s0 rfl) h
      | succ b =>
        obtain ⟨e3, e4⟩ := s1 b rfl
        rw [exq, if_pos (by rw [← e4]; exact h2)]
        exact ⟨e3, e4⟩
    · refine ih (a + 1) _ _ (by omega) (fun q => absurd q (by omega)) (fun b hb => ?_)
      have : b = a := by omega
      subst this
      cases b with
      | zero => exact absurd (s0 rfl) h
      | succ b =>
        obtain ⟨e3, e4⟩ := s1 b rfl
        rw [exq, if_neg (by rw [← e4]; exact h2)]
        exact ⟨rfl, rfl⟩
theorem op_explained {p1 p2 : Int32} (I : Inv n j M) (hZ : ∀ M' : Mm, Inv n (j + 1) M' → Z M') (hR : ∀ (M1 : Mm) (r : Int32), wp_X8_explained n M1 p1 p2 (fun M3 r4 => (r = r4 → Z M3) ∧ (¬ r = r4 → False)) → R M1 r) : wp_X7_explained n M p1 p2 R := by
  have hsk := hZ _ I.sk
  obtain ⟨hS, hO, hI⟩ := I.a
  by_cases hp : 0 ≤ p1 ∧ p1 ≤ 3
  · obtain ⟨k, hk, rfl⟩ := bd_of (k := 3) (by decide) (by decide) hp
    have hk4 : k < 4 := by omega
    obtain ⟨s1, s2, s3, ⟨m, hm, s4⟩, s5⟩ := I.s k hk4
    refine e7_shy hk4 ⟨fun h => absurd h (by simp), fun t3 h3 => ?_⟩
    cases h3
    refine ⟨(tp_sh hk4).1, ?_⟩
    have vk : vp_in (nI k) 4 := vp_in_nI hk4 (by decide)
    have ck : (nI k).toNatClampNeg = k := nI_clamp (by omega)
    by_cases hw : 0 ≤ p2 ∧ p2 ≤ 1
    · have gr : ∀ r : Int32, _ → R M r := fun r h => hR M r (e8_shy hk4 ⟨fun h => absurd h i1, fun _ => e8_y (lo := 0) (hi := 1) rfl (by decide) (by decide) hw ⟨fun _ => ⟨vk, h⟩, fun h => absurd h i1⟩⟩)
      refine e7_y hw ?_
      rw [s1]
      refine ⟨fun _ => ⟨fun hn1 => ?_, fun hm1 => gr _ ?_⟩, fun h => absurd h i1⟩
      · have h01 : M 78 k = 0 ∨ M 78 k = 1 := s2.resolve_left hn1
        have hge : 0 ≤ M 78 k := by rcases h01 with e | e <;> rw [e] <;> decide
        rintro v7 rfl
        refine e3_diff (q := 1) (g := fun i => M 80 (24 * k + i)) hk4 hm (by decide) (by decide) hS (by rw [s3, s4]) (fun i hi => s5 i hi) ?_
        rintro v10 rfl
        refine k7_expl (g := fun i => M 80 (24 * k + i)) hk4 hm hS (by rw [s3, s4]) (fun i hi => s5 i hi) (gr _ ?_)
        rw [ck]
        exact ⟨fun _ => k8_expl (g := fun i => M 80 (24 * k + i)) hk4 hm rfl s4 (fun i _ => rfl) (en rfl hsk), fun q => absurd hge q⟩
      · rw [ck]
        exact ⟨fun q => absurd q (by rw [hm1]; decide), fun _ => en rfl hsk⟩
    · exact e7_n hw ⟨fun h => absurd rfl h, fun _ => hR _ _ (e8_shy hk4 ⟨fun h => absurd h i1, fun _ => e8_n (lo := 0) (hi := 1) rfl (by decide) (by decide) hw ⟨fun h => absurd rfl h, fun _ => en rfl hsk⟩⟩)⟩
  · exact e7_shn hp ⟨fun _ => hR _ _ (e8_shn hp ⟨fun _ => en rfl hsk, fun h => absurd rfl h⟩), fun t h => absurd h (by simp)⟩
end SHW
