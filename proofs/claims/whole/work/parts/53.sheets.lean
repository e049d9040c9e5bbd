theorem tp_sh {k : Nat} (h : k < 4) : tp (45 + 2 * k) = 9 ∧ tp (45 + 2 * k + 1) = 1024 := by
  have : ∀ k : Nat, k < 4 → tp (45 + 2 * k) = 9 ∧ tp (45 + 2 * k + 1) = 1024 := by decide +kernel
  exact this k h
theorem n_cS {i : Nat} (h : i ∉ cS) (h9 : i < 94) : ¬ (45 ≤ i ∧ i ≤ 52) ∧ ¬ (78 ≤ i ∧ i ≤ 80) := by
  have : ∀ i : Nat, i < 94 → i ∉ cS → ¬ (45 ≤ i ∧ i ≤ 52) ∧ ¬ (78 ≤ i ∧ i ≤ 80) := by decide +kernel
  exact this i h9 h
theorem i16 (x : Int32) : x.toInt16.toInt32 = (x <<< ((16 : Int32) &&& 31)) >>> ((16 : Int32) &&& 31) := by
  apply Int32.toInt_inj.mp
  have e1 : ((x <<< ((16 : Int32) &&& 31)) >>> ((16 : Int32) &&& 31)).toInt = ((x.toBitVec <<< (((16 : Int32) &&& 31).toBitVec.smod 32)).sshiftRight' (((16 : Int32) &&& 31).toBitVec.smod 32)).toInt := rfl
  rw [lg_i2s_toInt, e1, BitVec.sshiftRight_eq', BitVec.shiftLeft_eq', show (((16 : Int32) &&& 31).toBitVec.smod 32).toNat = 16 from by decide, BitVec.toInt_sshiftRight, BitVec.toInt_shiftLeft, Nat.shiftLeft_eq, Int.shiftRight_eq_div_pow]
  have e2 : x.toInt = (x.toBitVec.toNat : Int).bmod (2 ^ 32) := BitVec.toInt_eq_toNat_bmod x.toBitVec
  rw [e2]
  have h1 := x.toBitVec.isLt
  generalize x.toBitVec.toNat = a at h1
  simp only [Int.bmod_def]
  repeat' split
  all_goals omega
theorem tri {x : Int32} (h : -1 ≤ x ∧ x ≤ 1) : x = -1 ∨ x = 0 ∨ x = 1 := by
  rw [Int32.le_iff_toInt_le, Int32.le_iff_toInt_le] at h
  have e0 : (0 : Int32).toInt = 0 := by decide
  have e1 : (-1 : Int32).toInt = -1 := by decide
  have e2 : (1 : Int32).toInt = 1 := by decide
  have : x.toInt = -1 ∨ x.toInt = 0 ∨ x.toInt = 1 := by omega
  rcases this with z | z | z
  · exact Or.inl (Int32.toInt_inj.mp (by rw [z, e1]))
  · exact Or.inr (Or.inl (Int32.toInt_inj.mp (by rw [z, e0])))
  · exact Or.inr (Or.inr (Int32.toInt_inj.mp (by rw [z, e2])))
section SHT
variable {n j : Nat} {M : Mm} {Z : Mm → Prop} {R : Mm → Int32 → Prop} {K : Mm → Int32 → Prop}
theorem FI.sh {M' : Mm} (h : ∀ i : Nat, ¬ (45 ≤ i ∧ i ≤ 52) → ¬ (78 ≤ i ∧ i ≤ 80) → i ≠ 91 → M' i = M i) : FI cS M M' :=
  ⟨fun i h9 hx hs => h i (n_cS hx h9).1 (n_cS hx h9).2 (fun e => hs (by subst e; unfold scr; decide)), fun q _ _ => by rw [h 74 (by omega) (by omega) (by omega)], fun q => Or.inl (by rw [h 14 (by omega) (by omega) (by omega)]), fun i h9 _ => h i (by omega) (by omega) (by omega), fun i hp => by have := hiP hp; rw [h i (by omega) (by omega) (by omega)]⟩
/-- one sheet changed -/
theorem GS.one {k : Nat} {M' : Mm} (g : GS M) (hk : SH M' k) (h1 : ∀ q : Nat, q < 4 → q ≠ k → M' (45 + 2 * q) = M (45 + 2 * q) ∧ M' (46 + 2 * q) = M (46 + 2 * q) ∧ M' 78 q = M 78 q ∧ M' 79 q = M 79 q ∧ ∀ i : Nat, i < 24 → M' 80 (24 * q + i) = M 80 (24 * q + i)) : GS M' := by
  intro q hq
  by_cases e : q = k
  · subst e; exact hk
  · obtain ⟨a, b, c, d, f⟩ := h1 q hq e
    obtain ⟨s1, s2, s3, s4, s5⟩ := g q hq
    exact ⟨by rw [a, c]; exact s1, by rw [c]; exact s2, by rw [a, d]; exact s3, by rw [d]; exact s4, fun i hi => by rw [b, f i hi]; exact s5 i hi⟩
theorem e7_shy {K : Mm → Option Nat → Prop} {k : Nat} (hk : k < 4) (h : K M (some (45 + 2 * k))) : wp_X7_sheetAt n M (nI k) K := by
  refine e7_y (lo := 0) (hi := 4 - 1) ⟨nI_pos' (by omega), by rw [show (4 - 1 : Int32) = nI 3 from by decide]; exact nI_le (by omega) (by decide)⟩ ⟨fun h => absurd h i1, fun _ => ⟨vp_in_nI hk (by decide), ?_⟩⟩
  rw [nI_clamp (by omega)]; exact h
theorem e7_shn {K : Mm → Option Nat → Prop} {x : Int32} (hp : ¬ (0 ≤ x ∧ x ≤ 3)) (h : K M none) : wp_X7_sheetAt n M x K := e7_n (lo := 0) (hi := 4 - 1) hp ⟨fun _ => h, fun q => absurd rfl q⟩
theorem e8_shy {k : Nat} (hk : k < 4) (h : K M 1) : wp_X8_isSheet n M (nI k) K := e8_y (K := fun M1 r2 => (r2 = 0 ∨ r2 = 1) ∧ K M1 r2) (lo := 0) (hi := 3) rfl (by decide) (by decide) ⟨nI_pos' (by omega), by rw [show (3 : Int32) = nI 3 from rfl]; exact nI_le (by omega) (by decide)⟩ ⟨Or.inr rfl, h⟩
theorem e8_shn {x : Int32} (hp : ¬ (0 ≤ x ∧ x ≤ 3)) (h : K M 0) : wp_X8_isSheet n M x K := e8_n (K := fun M1 r2 => (r2 = 0 ∨ r2 = 1) ∧ K M1 r2) (lo := 0) (hi := 3) rfl (by decide) (by decide) hp ⟨Or.inl rfl, h⟩
theorem e7_fill {K : Mm → Prop} {b : Nat} (hb : tp b = 1024) (hK : ∀ M' : Mm, (∀ i : Nat, i < 24 → M' b i = 0) → (∀ i : Nat, i ≠ b → M' i = M i) → K M') : wp_J7_fill_53178 n M b 0 K := by
  refine ⟨hb, 25, ?_⟩
  suffices h : ∀ (q i : Nat) (M1 : Mm), i + q = 24 → (∀ k : Nat, k < i → M1 b k = 0) → (∀ k : Nat, k ≠ b → M1 k = M k) → wl_J7_fill_53178_5 n b 0 K (q + 1) M1 (nI i) 24 by
    exact h 24 0 M (by omega) (fun k hk => absurd hk (by omega)) (fun _ _ => rfl)
  intro q
  induction q with
  | zero =>
    intro i M1 hi h1 h2
    have : i = 24 := by omega
    subst this
    rw [wl_J7_fill_53178_5]
    exact ⟨fun _ => hK M1 h1 h2, fun h => absurd (by decide) h⟩
  | succ q ih =>
    intro i M1 hi h1 h2
    rw [wl_J7_fill_53178_5]
    refine ⟨fun h => absurd h (by rw [show (24 : Int32) = nI 24 from rfl]; exact nI_ge (by omega) (by decide)), fun _ => ⟨vp_in_nI (by omega) (by decide), ?_⟩⟩
    rintro M2 rfl v rfl
    rw [nI_s, nI_clamp (by omega)]
    refine ih (i + 1) _ (by omega) (fun k hk => ?_) (fun k hk => by rw [wr_oth hk]; exact h2 k hk)
    by_cases e : k = i
    · subst e; rw [wr_at]
    · rw [wr_idx e]; exact h1 k (by omega)
theorem hld24 {m : Nat} (h : m ≤ 24) : jmax 0 (jmin 24 (nI m)) = nI m := by
  show (if (0 : Int32) < (if nI m < 24 then nI m else 24) then (if nI m < 24 then nI m else 24) else 0) = nI m
  by_cases h1 : m < 24
  · rw [if_pos (show nI m < 24 from by rw [show (24 : Int32) = nI 24 from rfl]; exact nI_lt h1 (by decide))]
    by_cases h0 : 0 < m
    · rw [if_pos (show (0 : Int32) < nI m from by rw [show (0 : Int32) = nI 0 from rfl]; exact nI_lt h0 (by omega))]
    · have : m = 0 := by omega
      subst this; decide
  · have : m = 24 := by omega
    subst this; decide
theorem e4_start {K : Mm → Prop} {k m : Nat} {so : Int32} (hk : k < 4) (hm : m ≤ 24) (hK : ∀ M' : Mm, M' (45 + 2 * k) = upd (upd (M (45 + 2 * k)) 1 so) 2 (nI m) → (∀ i : Nat, i < 24 → M' (46 + 2 * k) i = 0) → (∀ i : Nat, i ≠ 45 + 2 * k → i ≠ 46 + 2 * k → M' i = M i) → K M') : wp_X4_start n M (45 + 2 * k) so (nI m) K := by
  refine ⟨(tp_sh hk).1, ?_⟩
  rintro M1 rfl M4 rfl
  rw [hld24 hm]
  refine e7_fill (tp_sh hk).2 (fun M' h1 h2 => hK M' ?_ (fun i hi => ?_) (fun i x y => ?_))
  · rw [h2 _ (by omega), wr_row, wr_row]
  · rw [show 46 + 2 * k = 45 + 2 * k + 1 by omega]; exact h1 i hi
  · rw [h2 i (by omega), wr_oth x, wr_oth x]
theorem k8_zero {k : Nat} {p2 p3 : Int32} (hk : k < 4) (hK : ∀ M' : Mm, (∀ i : Nat, i < 24 → M' 80 (24 * k + i) = 0) → (∀ q i : Nat, q ≠ k → i < 24 → M' 80 (24 * q + i) = M 80 (24 * q + i)) → (∀ i : Nat, i ≠ 80 → M' i = M i) → K M' (M' 79 k)) : ∃ kf : Nat, wl_X8_sheet_69 n (nI k) p2 p3 K kf M 0 := by
  refine ⟨25, ?_⟩
  suffices h : ∀ (q i : Nat) (M1 : Mm), i + q = 24 → (∀ r : Nat, r < i → M1 80 (24 * k + r) = 0) → (∀ q i : Nat, q ≠ k → i < 24 → M1 80 (24 * q + i) = M 80 (24 * q + i)) → (∀ r : Nat, r ≠ 80 → M1 r = M r) → wl_X8_sheet_69 n (nI k) p2 p3 K (q + 1) M1 (nI i) by
    exact h 24 0 M (by omega) (fun r hr => absurd hr (by omega)) (fun _ _ _ _ => rfl) (fun _ _ => rfl)
  intro q
  induction q with
  | zero =>
    intro i M1 hi h1 h2 h3
    have : i = 24 := by omega
    subst this
    rw [wl_X8_sheet_69]
    refine ⟨fun _ => ⟨vp_in_nI hk (by decide), ?_⟩, fun h => absurd (by decide) h⟩
    rw [nI_clamp (by omega)]
    exact hK M1 h1 h2 h3
  | succ q ih =>
    intro i M1 hi h1 h2 h3
    rw [wl_X8_sheet_69, show (24 : Int32) = nI 24 from rfl, pk_mul, nI_add]
    refine ⟨fun h => absurd h (nI_ge (by omega) (by decide)), fun _ => ⟨vp_in_nI (by omega) (by decide), ?_⟩⟩
    rintro M2 rfl v rfl
    rw [nI_s, nI_clamp (by omega)]
    refine ih (i + 1) _ (by omega) (fun r hr => ?_) (fun q' i' hq' hi' => ?_) (fun r hr => by rw [wr_oth hr]; exact h3 r hr)
    · by_cases e : r = i
      · subst e; rw [wr_at]
      · rw [wr_idx (by omega)]; exact h1 r (by omega)
    · rw [wr_idx (by omega)]; exact h2 q' i' hq' hi'
theorem sh_new {k m : Nat} {so : Int32} (I : Inv n j M) (hk : k < 4) (hm : m ≤ 24) (hso : so = -1 ∨ so = 0 ∨ so = 1) {M1 M' : Mm} (a1 : M1 (45 + 2 * k) = upd (upd (M (45 + 2 * k)) 1 so) 2 (nI m)) (a2 : ∀ i : Nat, i < 24 → M1 (46 + 2 * k) i = 0) (a3 : ∀ i : Nat, i ≠ 45 + 2 * k → i ≠ 46 + 2 * k → M1 i = M i) (b1 : M' 78 = upd (M1 78) k so) (b2 : M' 79 = upd (M1 79) k (nI m)) (b3 : ∀ i : Nat, i < 24 → M' 80 (24 * k + i) = 0) (b4 : ∀ q i : Nat, q ≠ k → i < 24 → M' 80 (24 * q + i) = M1 80 (24 * q + i)) (b5 : ∀ i : Nat, i ≠ 78 → i ≠ 79 → i ≠ 80 → M' i = M1 i) : Inv n (j + 1) M' := by
  refine I.fi (X := cS) (by omega) (FI.sh (fun i x y z => ?_)) (s := Or.inl (I.s.one (k := k) ⟨?_, ?_, ?_, ?_, fun i hi => ?_⟩ (fun q hq hne => ⟨?_, ?_, ?_, ?_, fun i hi => ?_⟩)))
  · rw [b5 i (by omega) (by omega) (by omega), a3 i (by omega) (by omega)]
  · rw [b5 _ (by omega) (by omega) (by omega), a1, pk_un (by decide), pk_us, b1, pk_us]
  · rw [b1, pk_us]; exact hso
  · rw [b5 _ (by omega) (by omega) (by omega), a1, pk_us, b2, pk_us]
  · rw [b2, pk_us]; exact ⟨m, hm, rfl⟩
  · rw [b5 _ (by omega) (by omega) (by omega), a2 i hi, b3 i hi]
  · rw [b5 _ (by omega) (by omega) (by omega), a3 _ (by omega) (by omega)]
  · rw [b5 _ (by omega) (by omega) (by omega), a3 _ (by omega) (by omega)]
  · rw [b1, pk_un hne, a3 78 (by omega) (by omega)]
  · rw [b2, pk_un hne, a3 79 (by omega) (by omega)]
  · rw [b4 q i hne hi, a3 80 (by omega) (by omega)]
theorem op_sheet {p1 p2 p3 : Int32} (I : Inv n j M) (hZ : ∀ M' : Mm, Inv n (j + 1) M' → Z M') (hR : ∀ (M1 : Mm) (r : Int32), wp_X8_sheet n M1 p1 p2 p3 (fun M3 r4 => (r = r4 → Z M3) ∧ (¬ r = r4 → False)) → R M1 r) : wp_X7_sheet n M p1 p2 p3 R := by
  have hsk := hZ _ I.sk
  by_cases hp : 0 ≤ p1 ∧ p1 ≤ 3
  · obtain ⟨k, hk, rfl⟩ := bd_of (k := 3) (by decide) (by decide) hp
    have hk4 : k < 4 := by omega
    refine e7_shy hk4 ⟨fun h => absurd h (by simp), fun t3 h3 => ?_⟩
    cases h3
    refine ⟨(tp_sh hk4).1, ?_⟩
    by_cases hs : -1 ≤ p2 ∧ p2 ≤ 1
    · have gr : ∀ {M1 : Mm} {r : Int32}, _ → R M1 r := fun {M1 r} h => hR M1 r (e8_shy hk4 ⟨fun h => absurd h i1, fun _ => e8_y (lo := -1) (hi := 1) rfl (by decide) (by decide) hs ⟨fun h => absurd h i1, fun _ => h⟩⟩)
      have g44 : ∀ (M1 : Mm) (m : Nat), m ≤ 24 → ((0 ≤ p2 ∧ p3 = nI m) ∨ (¬ 0 ≤ p2 ∧ m = 0)) → (p2 = -1 ∨ p2 = 0 ∨ p2 = 1) → M1 (45 + 2 * k) = upd (upd (M (45 + 2 * k)) 1 p2) 2 (nI m) → (∀ i : Nat, i < 24 → M1 (46 + 2 * k) i = 0) → (∀ i : Nat, i ≠ 45 + 2 * k → i ≠ 46 + 2 * k → M1 i = M i) → wb_X8_sheet_44 n (nI k) p2 p3 (fun M3 r4 => (nI m = r4 → Z M3) ∧ (¬ nI m = r4 → False)) M1 := by
        intro M1 m hm hc hso a1 a2 a3
        refine ⟨vp_in_nI hk4 (by decide), ?_⟩
        rintro M5 rfl
        rw [nI_clamp (by omega)]
        have fin : ∀ (M6 : Mm), M6 = wr (wr M1 78 k p2) 79 k (nI m) → ∃ kf : Nat, wl_X8_sheet_69 n (nI k) p2 p3 (fun M3 r4 => (nI m = r4 → Z M3) ∧ (¬ nI m = r4 → False)) kf M6 0 := by
          rintro M6 rfl
          refine k8_zero hk4 (fun M7 c1 c2 c3 => en ?_ (hZ _ (sh_new (so := p2) I hk4 hm hso a1 a2 a3 ?_ ?_ c1 (fun q i x y => ?_) (fun i x y z => ?_))))
          · rw [c3 79 (by decide), wr_at]
          · rw [c3 78 (by decide), wr_oth (by decide), wr_row]
          · rw [c3 79 (by decide), wr_row, wr_oth (by decide)]
          · rw [c2 q i x y, wr_oth (by decide), wr_oth (by decide)]
          · rw [c3 i z, wr_oth y, wr_oth x]
        refine ⟨fun h => ⟨vp_in_nI hk4 (by decide), ?_⟩, fun h => ⟨vp_in_nI hk4 (by decide), ?_⟩⟩
        · rintro M6 e
          rcases hc with hc | hc
          · exact fin M6 (by rw [e, hc.2])
          · exact absurd h hc.1
        · rintro M6 e
          rcases hc with hc | hc
          · exact absurd hc.1 h
          · exact fin M6 (by rw [e, hc.2]; rfl)
      have hpos : (p2 = 0 ∨ p2 = 1) → ¬ p2 = -1 ∧ ¬ p2 < 0 ∧ 0 ≤ p2 := by
        rintro (rfl | rfl) <;> decide
      refine e7_y hs ⟨fun _ => ⟨fun hm1 => ?_, fun hm1 => ?_⟩, fun h => absurd h i1⟩
      · have h01 : p2 = 0 ∨ p2 = 1 := (tri hs).resolve_left hm1
        obtain ⟨q1, q2, q3⟩ := hpos h01
        refine ⟨fun h24 => ⟨fun hge => ?_, fun hge => ?_⟩, fun h24 => ?_⟩
        · obtain ⟨m, hm, rfl⟩ := bd_of (k := 24) (lo := 0) (by decide) (by decide) ⟨hge, h24⟩
          exact e4_start hk4 hm (fun M1 a1 a2 a3 => gr ⟨fun h => absurd h q2, fun _ => ⟨fun _ => ⟨fun h => absurd h q2, fun _ => ⟨fun _ => g44 M1 m hm (Or.inl ⟨q3, rfl⟩) (Or.inr h01) a1 a2 a3, fun h => absurd hge h⟩⟩, fun h => absurd h24 h⟩⟩)
        · exact gr ⟨fun h => absurd h q2, fun _ => ⟨fun _ => ⟨fun h => absurd h q2, fun _ => ⟨fun h => absurd h hge, fun _ => en rfl hsk⟩⟩, fun h => absurd h24 h⟩⟩
        · exact gr ⟨fun h => absurd h q2, fun _ => ⟨fun h => absurd h h24, fun _ => en rfl hsk⟩⟩
      · have q2 : p2 < 0 := by rw [hm1]; decide
        have q3 : ¬ 0 ≤ p2 := by rw [hm1]; decide
        refine e4_start (m := 0) hk4 (by decide) (fun M1 a1 a2 a3 => gr ⟨fun _ => ⟨fun _ => ?_, fun h => absurd q2 h⟩, fun h => absurd q2 h⟩)
        exact g44 M1 0 (by decide) (Or.inr ⟨q3, rfl⟩) (Or.inl hm1) (by rw [hm1]; exact a1) a2 a3
    · refine e7_n hs ⟨fun h => absurd rfl h, fun _ => hR _ _ (e8_shy hk4 ⟨fun h => absurd h i1, fun _ => e8_n (lo := -1) (hi := 1) rfl (by decide) (by decide) hs ⟨fun _ => en rfl hsk, fun h => absurd rfl h⟩⟩)⟩
  · exact e7_shn hp ⟨fun _ => hR _ _ (e8_shn hp ⟨fun _ => en rfl hsk, fun h => absurd rfl h⟩), fun t h => absurd h (by simp)⟩
end SHT
