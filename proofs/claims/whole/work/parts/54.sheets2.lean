section SHU
variable {n j : Nat} {M : Mm} {Z : Mm → Prop} {R : Mm → Int32 → Prop} {K : Mm → Int32 → Prop}
theorem sh_mark {k i : Nat} {x : Int32} (I : Inv n j M) (hk : k < 4) (hi : i < 24) : Inv n (j + 1) (wr (wr M (45 + 2 * k + 1) i x) 80 (24 * k + i) x) := by
  have ho : ∀ q : Nat, q ≠ 45 + 2 * k + 1 → q ≠ 80 → wr (wr M (45 + 2 * k + 1) i x) 80 (24 * k + i) x q = M q := fun q a b => by rw [wr_oth b, wr_oth a]
  obtain ⟨s1, s2, s3, s4, s5⟩ := I.s k hk
  refine I.fi (X := cS) (by omega) (FI.sh (fun q a b c => ho q (by omega) (by omega))) (s := Or.inl (I.s.one (k := k) ⟨?_, ?_, ?_, ?_, fun q hq => ?_⟩ (fun q hq hne => ⟨?_, ?_, ?_, ?_, fun r hr => ?_⟩)))
  · rw [ho _ (by omega) (by omega), ho 78 (by omega) (by omega)]; exact s1
  · rw [ho 78 (by omega) (by omega)]; exact s2
  · rw [ho _ (by omega) (by omega), ho 79 (by omega) (by omega)]; exact s3
  · rw [ho 79 (by omega) (by omega)]; exact s4
  · rw [wr_oth (by omega), show 46 + 2 * k = 45 + 2 * k + 1 by omega]
    by_cases e : q = i
    · subst e; rw [wr_at, wr_at]
    · rw [wr_idx e, wr_idx (by omega), wr_oth (by omega), show 45 + 2 * k + 1 = 46 + 2 * k by omega]; exact s5 q hq
  · exact ho _ (by omega) (by omega)
  · exact ho _ (by omega) (by omega)
  · rw [ho 78 (by omega) (by omega)]
  · rw [ho 79 (by omega) (by omega)]
  · rw [wr_idx (by omega), wr_oth (by omega)]
theorem sz_in {m : Nat} {x : Int32} (h : ∃ i : Nat, i < m ∧ x = nI i) (hm : m ≤ 1000) : 0 ≤ x ∧ x ≤ nI m - 1 := (le_pred hm).mpr h
theorem op_mark {p1 p2 p3 : Int32} (I : Inv n j M) (hZ : ∀ M' : Mm, Inv n (j + 1) M' → Z M') (hR : ∀ (M1 : Mm) (r : Int32), wp_X8_mark n M1 p1 p2 p3 (fun M3 r4 => (r = r4 → Z M3) ∧ (¬ r = r4 → False)) → R M1 r) : wp_X7_mark n M p1 p2 p3 R := by
  have hsk := hZ _ I.sk
  by_cases hp : 0 ≤ p1 ∧ p1 ≤ 3
  · obtain ⟨k, hk, rfl⟩ := bd_of (k := 3) (by decide) (by decide) hp
    have hk4 : k < 4 := by omega
    obtain ⟨s1, s2, s3, ⟨m, hm, s4⟩, s5⟩ := I.s k hk4
    refine e7_shy hk4 ⟨fun h => absurd h (by simp), fun t3 h3 => ?_⟩
    cases h3
    refine ⟨(tp_sh hk4).1, ?_⟩
    have vk : vp_in (nI k) 4 := vp_in_nI hk4 (by decide)
    have ck : (nI k).toNatClampNeg = k := nI_clamp (by omega)
    rw [s1]
    refine ⟨fun hn1 => ?_, fun hm1 => hR _ _ (e8_shy hk4 ⟨fun _ => ⟨vk, ?_⟩, fun h => absurd h i1⟩)⟩
    · have h01 : M 78 k = 0 ∨ M 78 k = 1 := s2.resolve_left hn1
      have h0 : 0 ≤ M 78 k := by rcases h01 with e | e <;> rw [e] <;> decide
      rw [s3, s4]
      by_cases hi : 0 ≤ p2 ∧ p2 ≤ nI m - 1
      · obtain ⟨i, hi', rfl⟩ := (le_pred (by omega)).mp hi
        have ci : (nI i).toNatClampNeg = i := nI_clamp (by omega)
        have gr : ∀ (M1 : Mm) (r : Int32), M1 78 = M 78 → M1 79 = M 79 → (vp_in (nI k) 4 ∧ ((¬ (M1 78 k) = 0 → wb_X8_mark_63 n (nI k) (nI i) p3 (fun M3 r4 => (r = r4 → Z M3) ∧ (¬ r = r4 → False)) M1 ) ∧ ((M1 78 k) = 0 → (¬ p3 = (-1000000005) → wb_X8_mark_63 n (nI k) (nI i) p3 (fun M3 r4 => (r = r4 → Z M3) ∧ (¬ r = r4 → False)) M1 ) ∧ (p3 = (-1000000005) → (r = -1000000012 → Z M1) ∧ (¬ r = -1000000012 → False))))) → R M1 r := by
          intro M1 r e8 e9 h
          refine hR M1 r (e8_shy hk4 ⟨fun _ => ⟨vk, ?_⟩, fun h => absurd h i1⟩)
          rw [ck, e8]
          refine ⟨fun _ => ⟨vk, ?_⟩, fun q => absurd h0 q⟩
          rw [e9, s4]
          exact e8_y (lo := 0) rfl (by decide) rfl hi ⟨fun _ => h, fun h => absurd h i1⟩
        have g96 : ∀ x : Int32, (M 78 k = 1 → x = p3) → (M 78 k = 0 → x = p3.toInt16.toInt32) → wb_X8_mark_96 n (nI k) (nI i) p3 (fun M3 r4 => (1 = r4 → Z M3) ∧ (¬ 1 = r4 → False)) (wr M (45 + 2 * k + 1) i x) := by
          intro x x1 x0
          unfold wb_X8_mark_96
          rw [ck, wr_oth (by omega), show (24 : Int32) = nI 24 from rfl, pk_mul, nI_add]
          refine ⟨vk, fun q => ⟨vp_in_nI (by omega) (by decide), ?_⟩, fun q => ⟨vp_in_nI (by omega) (by decide), ?_⟩⟩
          · rintro M7 rfl
            rw [nI_clamp (by omega)]
            have e := x1 (h01.resolve_left q)
            subst e
            exact en rfl (hZ _ (sh_mark I hk4 (by omega)))
          · rintro M7 rfl
            rw [nI_clamp (by omega), ← i16, ← x0 q]
            exact en rfl (hZ _ (sh_mark I hk4 (by omega)))
        have tt : tp (45 + 2 * k) = 9 := (tp_sh hk4).1
        refine e7_y hi ⟨fun _ => ⟨fun hn0 => ?_, fun hs0 => ?_⟩, fun h => absurd h i1⟩
        · rw [s1] at hn0
          have e1 : M 78 k = 1 := h01.resolve_left hn0
          have f97 : (p3 = -1000000005 ∨ (-99999 ≤ p3 ∧ p3 ≤ 99999)) → wb_X7_mark_97 n (nI k) (nI i) p3 R M (45 + 2 * k) := by
            intro hv
            refine ⟨tt, vp_in_nI (by omega) (by decide), ?_⟩
            rintro M10 rfl
            rw [ci]
            have o8 : ∀ q : Nat, q ≠ 45 + 2 * k + 1 → wr M (45 + 2 * k + 1) i p3 q = M q := fun q h => wr_oth h
            refine gr _ _ (o8 78 (by omega)) (o8 79 (by omega)) ⟨vk, fun _ => ?_, fun q => absurd q (by rw [o8 78 (by omega), e1]; decide)⟩
            unfold wb_X8_mark_63
            rw [ck, o8 78 (by omega)]
            refine ⟨vk, fun q => absurd e1 q, fun _ => ⟨fun _ => g96 p3 (fun _ => rfl) (fun q => absurd (e1.symm.trans q) (by decide)), fun hne => ?_⟩⟩
            exact e8_y (lo := -99999) (hi := 99999) rfl (by decide) (by decide) (hv.resolve_left hne) ⟨fun _ => g96 p3 (fun _ => rfl) (fun q => absurd (e1.symm.trans q) (by decide)), fun h => absurd h i1⟩
          refine ⟨fun h => f97 (Or.inl h), fun hne => ?_⟩
          by_cases hv : -99999 ≤ p3 ∧ p3 ≤ 99999
          · exact e7_y hv ⟨fun _ => f97 (Or.inr hv), fun h => absurd h i1⟩
          · refine e7_n hv ⟨fun h => absurd rfl h, fun _ => gr M _ rfl rfl ⟨vk, fun _ => ?_, fun q => absurd (e1.symm.trans q) (by decide)⟩⟩
            unfold wb_X8_mark_63
            rw [ck]
            exact ⟨vk, fun q => absurd e1 q, fun _ => ⟨fun q => absurd q hne, fun _ => e8_n (lo := -99999) (hi := 99999) rfl (by decide) (by decide) hv ⟨fun h => absurd rfl h, fun _ => en rfl hsk⟩⟩⟩
        · rw [s1] at hs0
          refine ⟨fun hne => ⟨vp_in_nI (by omega) (by decide), ?_⟩, fun he => gr M _ rfl rfl ⟨vk, fun q => absurd hs0 q, fun _ => ⟨fun q => absurd he q, fun _ => en rfl hsk⟩⟩⟩
          rintro M9 rfl
          rw [ci]
          have o8 : ∀ q : Nat, q ≠ 45 + 2 * k + 1 → wr M (45 + 2 * k + 1) i p3.toInt16.toInt32 q = M q := fun q h => wr_oth h
          refine gr _ _ (o8 78 (by omega)) (o8 79 (by omega)) ⟨vk, fun q => absurd (by rw [o8 78 (by omega)]; exact hs0) q, fun _ => ⟨fun _ => ?_, fun q => absurd q hne⟩⟩
          unfold wb_X8_mark_63
          rw [ck, o8 78 (by omega)]
          exact ⟨vk, fun _ => g96 _ (fun q => absurd (hs0.symm.trans q) (by decide)) (fun _ => rfl), fun q => absurd (hs0.symm.trans q) (by decide)⟩
      · refine e7_n hi ⟨fun h => absurd rfl h, fun _ => hR _ _ (e8_shy hk4 ⟨fun _ => ⟨vk, ?_⟩, fun h => absurd h i1⟩)⟩
        rw [ck]
        refine ⟨fun _ => ⟨vk, ?_⟩, fun q => absurd h0 q⟩
        rw [s4]
        exact e8_n (lo := 0) rfl (by decide) rfl hi ⟨fun h => absurd rfl h, fun _ => en rfl hsk⟩
    · rw [ck]
      exact ⟨fun q => absurd q (by rw [hm1]; decide), fun _ => en rfl hsk⟩
  · exact e7_shn hp ⟨fun _ => hR _ _ (e8_shn hp ⟨fun h => absurd rfl h, fun _ => en rfl hsk⟩), fun t h => absurd h (by simp)⟩
end SHU
