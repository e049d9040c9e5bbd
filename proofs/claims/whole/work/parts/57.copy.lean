def hasP (x y : Int32) (m : Nat) : Prop := ∃ a b : Nat, x = nI a ∧ y = nI b ∧ a + b ≤ m
section CPY
variable {n j : Nat} {M : Mm} {Z : Mm → Prop} {R : Mm → Int32 → Prop} {K : Mm → Int32 → Prop}
theorem e4_has {t m : Nat} {x y : Int32} (ht : tp t = 9) (hm : m ≤ 24) (h2 : M t 2 = nI m) (hy : hasP x y m → K M 1) (hn : ¬ hasP x y m → K M 0) : wp_X4_hasPlaces n M t x y K := by
  refine ⟨ht, fun h => hn ?_, fun hx => ⟨fun h => hn ?_, fun hy0 => ?_⟩⟩
  · rintro ⟨a, b, rfl, rfl, h3⟩; exact absurd h (nI_pos (by omega))
  · rintro ⟨a, b, rfl, rfl, h3⟩; exact absurd h (nI_pos (by omega))
  · obtain ⟨a, ha, rfl⟩ := nI_of hx
    obtain ⟨b, hb, rfl⟩ := nI_of hy0
    rw [h2]
    refine ⟨fun h => hn ?_, fun h => ?_⟩
    · rintro ⟨a', b', e1, e2, h3⟩
      rw [nI_eq (by omega) (by omega)] at e1 e2
      rw [nI_ltI (by omega) (by omega)] at h
      omega
    · rw [nI_ltI (by omega) (by omega)] at h
      rw [pk_sub (by omega), nI_ltI (by omega) (by omega)]
      refine ⟨fun h' => hn ?_, fun h' => hy ⟨a, b, rfl, rfl, by omega⟩⟩
      rintro ⟨a', b', e1, e2, h3⟩
      rw [nI_eq (by omega) (by omega)] at e1 e2
      omega
theorem l64_has {x y : Int32} {m : Nat} (hx : ¬ x < 0) (hy : ¬ y < 0) (hm : m ≤ 24) : (0 < lg_cmp (x.toInt64 + y.toInt64) ((nI m).toInt64)) ↔ ¬ hasP x y m := by
  obtain ⟨a, ha, rfl⟩ := nI_of hx
  obtain ⟨b, hb, rfl⟩ := nI_of hy
  rw [lg_cmp_gt, Int64.lt_iff_toInt_lt, lg_i2l_add, Int32.toInt_toInt64, nI_toInt ha, nI_toInt hb, nI_toInt (by omega)]
  constructor
  · rintro h ⟨a', b', e1, e2, h3⟩
    rw [nI_eq (by omega) (by omega)] at e1 e2
    omega
  · intro h
    have : ¬ a + b ≤ m := fun q => h ⟨a, b, rfl, rfl, q⟩
    omega
theorem k8_copy {k1 k2 a b c : Nat} (h1 : k1 < 4) (h2 : k2 < 4) (ha : a + c ≤ 24) (hb : b + c ≤ 24) (hK : ∀ M' : Mm, (∀ i : Nat, i < c → M' 80 (24 * k2 + b + i) = M 80 (24 * k1 + a + i)) → (∀ q : Nat, (∀ i : Nat, i < c → q ≠ 24 * k2 + b + i) → M' 80 q = M 80 q) → (∀ i : Nat, i ≠ 80 → i ≠ 91 → M' i = M i) → K M' (nI c)) : ∃ kf : Nat, wl_X8_copy_113 n (nI k1) (nI a) (nI k2) (nI b) (nI c) K kf M 0 := by
  refine ⟨c + 1, ?_⟩
  suffices h : ∀ (r i : Nat) (M1 : Mm), i + r = c → (∀ q : Nat, q < i → M1 91 q = M 80 (24 * k1 + a + q)) → (∀ q : Nat, q ≠ 91 → M1 q = M q) → wl_X8_copy_113 n (nI k1) (nI a) (nI k2) (nI b) (nI c) K (r + 1) M1 (nI i) by
    exact h _ 0 M (by omega) (fun q hq => absurd hq (by omega)) (fun _ _ => rfl)
  intro r
  induction r with
  | zero =>
    intro i M1 hi a1 a2
    have : i = c := by omega
    subst this
    rw [wl_X8_copy_113]
    refine ⟨fun _ => ⟨i + 1, ?_⟩, fun h => absurd (nI_le (Nat.le_refl _) (by omega)) h⟩
    suffices h : ∀ (r q : Nat) (M2 : Mm), q + r = i → (∀ s : Nat, s < q → M2 80 (24 * k2 + b + s) = M 80 (24 * k1 + a + s)) → (∀ s : Nat, (∀ u : Nat, u < i → s ≠ 24 * k2 + b + u) → M2 80 s = M 80 s) → (∀ s : Nat, s ≠ 80 → M2 s = M1 s) → wl_X8_copy_150 n (nI k1) (nI a) (nI k2) (nI b) (nI i) K (r + 1) M2 (nI q) by
      exact h _ 0 M1 (by omega) (fun s hs => absurd hs (by omega)) (fun s _ => by rw [a2 80 (by decide)]) (fun _ _ => rfl)
    intro r
    induction r with
    | zero =>
      intro q M2 hq b1 b2 b3
      have : q = i := by omega
      subst this
      rw [wl_X8_copy_150]
      exact ⟨fun _ => hK M2 b1 b2 (fun s x y => by rw [b3 s x]; exact a2 s y), fun h => absurd (nI_le (Nat.le_refl _) (by omega)) h⟩
    | succ r ih =>
      intro q M2 hq b1 b2 b3
      rw [wl_X8_copy_150, show (24 : Int32) = nI 24 from rfl, pk_mul, nI_add, nI_add]
      refine ⟨fun h => absurd h (nI_ge (by omega) (by omega)), fun _ => ⟨vp_in_nI (by omega) (by decide), vp_in_nI (by omega) (by decide), ?_⟩⟩
      rintro M3 rfl v rfl
      rw [nI_s, nI_clamp (by omega), nI_clamp (by omega), b3 91 (by decide), a1 q (by omega)]
      refine ih (q + 1) _ (by omega) (fun s hs => ?_) (fun s hs => ?_) (fun s hs => by rw [wr_oth hs]; exact b3 s hs)
      · by_cases e : s = q
        · subst e; rw [wr_at]
        · rw [wr_idx (by omega)]; exact b1 s (by omega)
      · rw [wr_idx (hs q (by omega))]; exact b2 s hs
  | succ r ih =>
    intro i M1 hi a1 a2
    rw [wl_X8_copy_113, show (24 : Int32) = nI 24 from rfl, pk_mul, nI_add, nI_add]
    refine ⟨fun h => absurd h (nI_ge (by omega) (by omega)), fun _ => ⟨vp_in_nI (by omega) (by decide), vp_in_nI (by omega) (by decide), ?_⟩⟩
    rintro M3 rfl v rfl
    rw [nI_s, nI_clamp (by omega), nI_clamp (by omega), a2 80 (by decide)]
    refine ih (i + 1) _ (by omega) (fun q hq => ?_) (fun q hq => by rw [wr_oth hq]; exact a2 q hq)
    by_cases e : q = i
    · subst e; rw [wr_at]
    · rw [wr_idx e]; exact a1 q (by omega)
theorem sort_ge {M : Mm} {k : Nat} (h : M 78 k = -1 ∨ M 78 k = 0 ∨ M 78 k = 1) : (M 78 k < 0 ↔ M 78 k = -1) ∧ (0 ≤ M 78 k ↔ ¬ M 78 k = -1) := by
  rcases h with e | e | e <;> rw [e] <;> decide
theorem op_copy {p1 p2 p3 p4 p5 : Int32} (I : Inv n j M) (hZ : ∀ M' : Mm, Inv n (j + 1) M' → Z M') (hR : ∀ (M1 : Mm) (r : Int32), wp_X8_copy n M1 p1 p2 p3 p4 p5 (fun M3 r4 => (r = r4 → Z M3) ∧ (¬ r = r4 → False)) → R M1 r) : wp_X7_copy n M p1 p2 p3 p4 p5 R := by
  have hsk := hZ _ I.sk
  by_cases hp : 0 ≤ p1 ∧ p1 ≤ 3
  · obtain ⟨k, hk, rfl⟩ := bd_of (k := 3) (by decide) (by decide) hp
    have hk4 : k < 4 := by omega
    obtain ⟨s1, s2, s3, ⟨m, hm, s4⟩, s5⟩ := I.s k hk4
    refine e7_shy hk4 ⟨fun h => absurd h (by simp), fun t3 h3 => ?_⟩
    cases h3
    have tt := (tp_sh hk4).1
    refine ⟨tt, ?_⟩
    have vk : vp_in (nI k) 4 := vp_in_nI hk4 (by decide)
    have ck : (nI k).toNatClampNeg = k := nI_clamp (by omega)
    by_cases hq : 0 ≤ p3 ∧ p3 ≤ 3
    · obtain ⟨l, hl, rfl⟩ := bd_of (k := 3) (by decide) (by decide) hq
      have hl4 : l < 4 := by omega
      obtain ⟨r1, r2, r3, ⟨m2, hm2, r4⟩, r5⟩ := I.s l hl4
      refine e7_shy hl4 ⟨fun h => absurd h (by simp), fun t3 h3 => ?_⟩
      cases h3
      have tl := (tp_sh hl4).1
      refine ⟨tl, ?_⟩
      have vl : vp_in (nI l) 4 := vp_in_nI hl4 (by decide)
      have cl : (nI l).toNatClampNeg = l := nI_clamp (by omega)
      rw [s1, r1]
      have gr : ∀ (M1 : Mm) (r : Int32), M1 78 = M 78 → _ → R M1 r := fun M1 r e78 h => hR M1 r (e8_shy hk4 ⟨fun h => absurd h i1, fun _ => e8_shy hl4 ⟨fun _ => ⟨vk, h⟩, fun h => absurd h i1⟩⟩)
      refine ⟨fun h1 => gr M _ rfl ?_, fun h1 => ⟨fun h2 => ⟨fun h3 => ?_, fun h3 => gr M _ rfl ?_⟩, fun h2 => gr M _ rfl ?_⟩⟩
      · rw [ck]; exact ⟨fun _ => en rfl hsk, fun q => absurd ((sort_ge s2).1.mpr h1) q⟩
      · have fin : ∀ (M1 : Mm) (r : Int32), M1 78 = M 78 → M1 79 = M 79 → ((p2 < 0 → (r = -1000000013 → Z M1) ∧ (¬ r = -1000000013 → False)) ∧ (¬ p2 < 0 → (p4 < 0 → (r = -1000000013 → Z M1) ∧ (¬ r = -1000000013 → False)) ∧ (¬ p4 < 0 → (p5 < 0 → (r = -1000000013 → Z M1) ∧ (¬ r = -1000000013 → False)) ∧ (¬ p5 < 0 → vp_in (nI k) 4 ∧ ((0 < (lg_cmp (p2.toInt64 + p5.toInt64) ((nI m).toInt64)) → (r = -1000000013 → Z M1) ∧ (¬ r = -1000000013 → False)) ∧ (¬ 0 < (lg_cmp (p2.toInt64 + p5.toInt64) ((nI m).toInt64)) → vp_in (nI l) 4 ∧ (((lg_cmp (p4.toInt64 + p5.toInt64) ((nI m2).toInt64)) ≤ 0 → ∃ kf : Nat, wl_X8_copy_113 n (nI k) p2 (nI l) p4 p5 (fun M3 r4 => (r = r4 → Z M3) ∧ (¬ r = r4 → False)) kf M1 0) ∧ (¬ (lg_cmp (p4.toInt64 + p5.toInt64) ((nI m2).toInt64)) ≤ 0 → (r = -1000000013 → Z M1) ∧ (¬ r = -1000000013 → False))))))))) → R M1 r := by
          intro M1 r e8 e9 h
          refine gr M1 r e8 ?_
          rw [ck, cl, e8, e9, s4, r4]
          exact ⟨fun q => absurd ((sort_ge s2).1.mp q) h1, fun _ => ⟨vl, fun _ => ⟨vk, vl, fun _ => h, fun q => absurd h3 q⟩, fun q => absurd ((sort_ge r2).2.mpr h2) q⟩⟩
        have bad : ¬ (hasP p2 p5 m ∧ hasP p4 p5 m2) → R M (-1000000013) := by
          intro hno
          refine fin M _ rfl rfl ⟨fun _ => en rfl hsk, fun h2 => ⟨fun _ => en rfl hsk, fun h4 => ⟨fun _ => en rfl hsk, fun h5 => ⟨vk, fun _ => en rfl hsk, fun hc => ⟨vl, fun hd => ?_, fun _ => en rfl hsk⟩⟩⟩⟩⟩
          rw [l64_has h2 h5 hm] at hc
          have hd' : ¬ 0 < lg_cmp (p4.toInt64 + p5.toInt64) ((nI m2).toInt64) := Int32.not_lt.mpr hd
          rw [l64_has h4 h5 hm2] at hd'
          exact absurd ⟨Classical.byContradiction hc, Classical.byContradiction hd'⟩ hno
        refine e4_has tt hm (by rw [s3, s4]) (fun g1 => ⟨fun h => absurd h i1, fun _ => e4_has tl hm2 (by rw [r3, r4]) (fun g2 => ⟨fun _ => ?_, fun h => absurd h i1⟩) (fun g2 => ⟨fun h => absurd rfl h, fun _ => bad (fun q => g2 q.2)⟩)⟩) (fun g1 => ⟨fun _ => bad (fun q => g1 q.1), fun h => absurd rfl h⟩)
        obtain ⟨a, c, rfl, rfl, hac⟩ := g1
        obtain ⟨b, c', rfl, ec, hbc⟩ := g2
        rw [nI_eq (by omega) (by omega)] at ec
        subst ec
        rw [nI_clamp (by omega), nI_clamp (by omega), nI_clamp (by omega)]
        refine ⟨⟨nI_pos (by omega), nI_pos (by omega), nI_pos (by omega), by omega, by omega⟩, ?_⟩
        rintro M1 rfl
        generalize hA : va_up M (45 + 2 * l + 1) (va_cpy (M (45 + 2 * k + 1)) (M (45 + 2 * l + 1)) a b c) = A
        have o : ∀ q : Nat, q ≠ 45 + 2 * l + 1 → A q = M q := fun q hq => by rw [← hA]; unfold va_up; rw [if_neg hq]
        have oi : ∀ i : Nat, b ≤ i → i < b + c → A (45 + 2 * l + 1) i = M (45 + 2 * k + 1) (a + (i - b)) := fun i x y => by rw [← hA]; unfold va_up; rw [if_pos rfl, pk_cpy_in x y]
        have oo : ∀ i : Nat, (i < b ∨ b + c ≤ i) → A (45 + 2 * l + 1) i = M (45 + 2 * l + 1) i := fun i x => by rw [← hA]; unfold va_up; rw [if_pos rfl, pk_cpy_out x]
        refine fin A _ (o 78 (by omega)) (o 79 (by omega)) ⟨fun q => absurd q (nI_pos (by omega)), fun q2 => ⟨fun q => absurd q (nI_pos (by omega)), fun q4 => ⟨fun q => absurd q (nI_pos (by omega)), fun q5 => ⟨vk, fun q => absurd ⟨a, c, rfl, rfl, hac⟩ ((l64_has q2 q5 hm).mp q), fun _ => ⟨vl, fun _ => ?_, fun q => absurd ?_ q⟩⟩⟩⟩⟩
        · refine k8_copy hk4 hl4 (by omega) (by omega) (fun M2 c1 c2 c3 => en rfl (hZ _ ?_))
          have o2 : ∀ q : Nat, q ≠ 45 + 2 * l + 1 → q ≠ 80 → q ≠ 91 → M2 q = M q := fun q x y z => by rw [c3 q y z, o q x]
          refine I.fi (X := cS) (by omega) (FI.sh (fun q x y z => o2 q (by omega) (by omega) z)) (s := Or.inl (I.s.one (k := l) ⟨?_, ?_, ?_, ?_, fun i hi => ?_⟩ (fun q hq hne => ⟨?_, ?_, ?_, ?_, fun i hi => ?_⟩)))
          · rw [o2 _ (by omega) (by omega) (by omega), o2 78 (by omega) (by decide) (by decide)]; exact r1
          · rw [o2 78 (by omega) (by decide) (by decide)]; exact r2
          · rw [o2 _ (by omega) (by omega) (by omega), o2 79 (by omega) (by decide) (by decide)]; exact r3
          · rw [o2 79 (by omega) (by decide) (by decide), r4]; exact ⟨m2, hm2, rfl⟩
          · rw [show 46 + 2 * l = 45 + 2 * l + 1 by omega, c3 _ (by omega) (by omega)]
            by_cases e : b ≤ i ∧ i < b + c
            · rw [oi i e.1 e.2, show 24 * l + i = 24 * l + b + (i - b) by omega, c1 (i - b) (by omega), o 80 (by omega), show 45 + 2 * k + 1 = 46 + 2 * k by omega, s5 _ (by omega), show 24 * k + (a + (i - b)) = 24 * k + a + (i - b) by omega]
            · rw [oo i (by omega), c2 _ (fun u hu => by omega), o 80 (by omega), show 45 + 2 * l + 1 = 46 + 2 * l by omega]; exact r5 i hi
          · exact o2 _ (by omega) (by omega) (by omega)
          · exact o2 _ (by omega) (by omega) (by omega)
          · rw [o2 78 (by omega) (by decide) (by decide)]
          · rw [o2 79 (by omega) (by decide) (by decide)]
          · rw [c2 _ (fun u hu => by omega), o 80 (by omega)]
        · exact Int32.not_lt.mp (fun q => (l64_has q4 q5 hm2).mp q ⟨b, c, rfl, rfl, hbc⟩)
      · rw [ck, cl]
        exact ⟨fun q => absurd ((sort_ge s2).1.mp q) h1, fun _ => ⟨vl, fun _ => ⟨vk, vl, fun q => absurd q h3, fun _ => en rfl hsk⟩, fun q => absurd ((sort_ge r2).2.mpr h2) q⟩⟩
      · rw [ck, cl]
        exact ⟨fun q => absurd ((sort_ge s2).1.mp q) h1, fun _ => ⟨vl, fun q => absurd h2 ((sort_ge r2).2.mp q), fun _ => en rfl hsk⟩⟩
    · refine e7_shn hq ⟨fun _ => hR _ _ (e8_shy hk4 ⟨fun h => absurd h i1, fun _ => e8_shn hq ⟨fun h => absurd rfl h, fun _ => en rfl hsk⟩⟩), fun t h => absurd h (by simp)⟩
  · refine e7_shn hp ⟨fun _ => ?_, fun t h => absurd h (by simp)⟩
    have gb : R M (-1000000001) := hR _ _ (e8_shn hp ⟨fun _ => en rfl hsk, fun h => absurd rfl h⟩)
    by_cases hq : 0 ≤ p3 ∧ p3 ≤ 3
    · obtain ⟨l, hl, rfl⟩ := bd_of (k := 3) (by decide) (by decide) hq
      refine e7_shy (by omega) ⟨fun h => absurd h (by simp), fun t3 h3 => ?_⟩
      cases h3
      exact ⟨(tp_sh (by omega)).1, gb⟩
    · exact e7_shn hq ⟨fun _ => gb, fun t h => absurd h (by simp)⟩
end CPY
