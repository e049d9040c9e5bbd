def hl9 (x : Int32) : Int32 := if 0 ≤ x then (if x ≤ 9 then x else 9) else 0
theorem hl9_e (x : Int32) : jmax 0 (jmin 9 x) = hl9 x := by
  unfold hl9
  show (if (0 : Int32) < (if x < 9 then x else 9) then (if x < 9 then x else 9) else 0) = _
  by_cases h1 : x < 9
  · rw [if_pos h1]
    by_cases h2 : 0 ≤ x
    · rw [if_pos h2, if_pos (Int32.le_of_lt h1)]
      by_cases h3 : 0 < x
      · rw [if_pos h3]
      · rw [if_neg h3]; exact Int32.le_antisymm h2 (Int32.not_lt.mp h3)
    · rw [if_neg h2, if_neg (fun q => h2 (Int32.le_of_lt q))]
  · have h1 := Int32.not_lt.mp h1
    rw [if_neg (Int32.not_lt.mpr h1), if_pos (by decide), if_pos (Int32.le_trans (by decide) h1)]
    by_cases h3 : x ≤ 9
    · rw [if_pos h3]; exact Int32.le_antisymm h1 h3
    · rw [if_neg h3]
theorem hl9_bd (x : Int32) : bd (hl9 x) 9 := by
  unfold hl9
  by_cases h : 0 ≤ x
  · rw [if_pos h]
    by_cases h2 : x ≤ 9
    · rw [if_pos h2]; exact bd_of (lo := 0) (hi := 9) (by decide) (by decide) ⟨h, h2⟩
    · rw [if_neg h2]; exact ⟨9, Nat.le_refl _, rfl⟩
  · rw [if_neg h]; exact bd_0 9
def prS (S : Sc) (g : Nat → Int32) : Nat → Sc
  | 0 => S
  | i + 1 => if g i = -1000000005 then prS S g i else upd (prS S g i) (cx i 3) (hl9 (g i))
def prC (S : Sc) (g : Nat → Int32) : Nat → Int32
  | 0 => 0
  | i + 1 => if g i = -1000000005 then prC S g i else if hl9 (g i) = prS S g i (cx i 3) then prC S g i else prC S g i + 1
theorem kp_prS {S : Sc} {g : Nat → Int32} : ∀ i : Nat, i ≤ 8 → Kp S (prS S g i)
  | 0, _ => Kp.rf S
  | i + 1, h => by
    unfold prS
    split
    · exact kp_prS i (by omega)
    · exact (kp_prS i (by omega)).up cx_1 (cx_108 (by omega) (by decide))
theorem ri_prS {S : Sc} {g : Nat → Int32} {m : Nat} (h : RI S m) : ∀ i : Nat, RI (prS S g i) m
  | 0 => h
  | i + 1 => by
    unfold prS
    split
    · exact ri_prS h i
    · exact (ri_prS h i).uc (by decide) (fun h => absurd h (by decide)) (fun _ => hl9_bd _) (fun h => absurd h (by decide)) (fun h => absurd h (by decide)) (fun h => absurd h (by decide))
theorem abs_sw (a b : Int32) : jabs (a - b) = if 0 ≤ b - a then b - a else -(b - a) := by
  rw [show b - a = -(a - b) from Int32.neg_sub.symm]
  generalize a - b = y
  show (if 0 ≤ y then y else 0 - y) = _
  rw [Int32.zero_sub, Int32.neg_neg]
  have hb := Int32.toInt_lt y
  have ha := Int32.le_toInt y
  have e0 : (0 : Int32).toInt = 0 := by decide
  have en : (-y).toInt = (-y.toInt).bmod (2 ^ 32) := Int32.toInt_neg y
  by_cases h1 : 0 ≤ y <;> by_cases h2 : 0 ≤ -y
  · rw [if_pos h1, if_pos h2]
    rw [Int32.le_iff_toInt_le, e0] at h1 h2
    apply Int32.toInt_inj.mp
    rw [en] at h2 ⊢
    rw [Int.bmod_def] at h2 ⊢
    split at h2 <;> rename_i q <;> first | rw [if_pos q]; omega | rw [if_neg q]; omega
  · rw [if_pos h1, if_neg h2]
  · rw [if_neg h1, if_pos h2]
  · rw [if_neg h1, if_neg h2]
    rw [Int32.le_iff_toInt_le, e0] at h1 h2
    apply Int32.toInt_inj.mp
    rw [en] at h2 ⊢
    rw [Int.bmod_def] at h2 ⊢
    split at h2 <;> rename_i q <;> first | rw [if_pos q]; omega | rw [if_neg q]; omega
def wbh (S : Sc) (i : Nat) (q : Int32) : Int32 := jmax (S 5) (jmin (S 4) (S 5 + ((S 8 + 10 * nI i) / q)))
def ofT (S : Sc) (g : Nat → Int32) (q : Int32) : Nat → Int32
  | 0 => 0
  | i + 1 => ofT S g q i + (if g i = -1000000005 then 0 else jabs (wbh S i q - g i))
def exq (f : Nat → Int32) : Nat → Int32 × Int32
  | 0 => (1, f 1)
  | a + 1 => if (exq f a).2 ≤ f (a + 2) then exq f a else (nI (a + 2), f (a + 2))
theorem exq_1 (f : Nat → Int32) : ∀ a : Nat, ∃ k : Nat, 1 ≤ k ∧ k ≤ a + 1 ∧ (exq f a).1 = nI k
  | 0 => ⟨1, by decide, by decide, rfl⟩
  | a + 1 => by
    obtain ⟨k, h1, h2, h3⟩ := exq_1 f a
    unfold exq
    split
    · exact ⟨k, h1, by omega, h3⟩
    · exact ⟨a + 2, by omega, by omega, rfl⟩
section SHV
variable {n j : Nat} {M : Mm} {Z : Mm → Prop} {R : Mm → Int32 → Prop} {K : Mm → Int32 → Prop}
theorem k8_pour {k m e : Nat} {S : Sc} {g : Nat → Int32} (hk : k < 4) (hm : m ≤ 24) (hO : SOK S) (he : (e = m ∧ e ≤ nCo S) ∨ (e = nCo S ∧ e ≤ m)) (eS : M 75 = S) (s4 : M 79 k = nI m) (hg : ∀ i : Nat, i < 24 → M 80 (24 * k + i) = g i) (hK : ∀ M' : Mm, M' 75 = prS S g e → (∀ i : Nat, i ≠ 75 → M' i = M i) → K M' (prC S g e)) : ∃ kf : Nat, wl_X8_pour_27 n (nI k) K kf M 0 0 := by
  obtain ⟨hz, h0⟩ := hO.co
  have he8 : e ≤ 8 := by omega
  have vk : vp_in (nI k) 4 := vp_in_nI hk (by decide)
  have ck : (nI k).toNatClampNeg = k := nI_clamp (by omega)
  refine ⟨e + 1, ?_⟩
  suffices h : ∀ (q i : Nat) (M2 : Mm), i + q = e → M2 75 = prS S g i → (∀ r : Nat, r ≠ 75 → M2 r = M r) → wl_X8_pour_27 n (nI k) K (q + 1) M2 (prC S g i) (nI i) by
    exact h _ 0 M (by omega) eS (fun _ _ => rfl)
  intro q
  induction q with
  | zero =>
    intro i M2 hi b5 bF
    have : i = e := by omega
    subst this
    have hin := hK M2 b5 bF
    rw [wl_X8_pour_27, ck, bF 79 (by decide), s4, b5, (kp_prS i he8).1, h0]
    refine ⟨vk, fun _ => hin, fun h => ⟨fun _ => hin, fun h2 => ?_⟩⟩
    exfalso
    rw [nI_leI (by omega) (by omega)] at h h2
    omega
  | succ q ih =>
    intro i M2 hi b5 bF
    rw [wl_X8_pour_27, ck, bF 79 (by decide), s4, b5, (kp_prS i (by omega)).1, h0, show (24 : Int32) = nI 24 from rfl, pk_mul, nI_add]
    refine ⟨vk, fun h => absurd h (nI_ge (by omega) (by omega)), fun _ => ⟨fun h => absurd h (nI_ge (by omega) (by omega)), fun _ => ⟨vp_in_nI (by omega) (by decide), ?_⟩⟩⟩
    rw [nI_clamp (by omega), bF 80 (by decide), hg i (by omega)]
    rintro v3 rfl
    refine e8_of (w := 3) rfl (by omega) (by decide) ?_
    rw [b5]
    have h87 : ∀ x : Int32, (g i = -1000000005 → x = prS S g i (cx i 3)) → (¬ g i = -1000000005 → x = hl9 (g i)) → wb_X8_pour_87 n (nI k) (fun M x2 x3 => wl_X8_pour_27 n (nI k) K (q + 1) M x2 x3) K M2 (prC S g i) (nI i) (prS S g i (cx i 3)) x := by
      intro x x1 x2
      refine e8_sets' (w := 3) rfl (by omega) (by decide) (fun M3 c5 cF => ?_)
      have nx : ∀ y : Int32, y = prC S g (i + 1) → wl_X8_pour_27 n (nI k) K (q + 1) M3 y (nI (i + 1)) := by
        rintro y rfl
        refine ih (i + 1) M3 (by omega) ?_ (fun r hr => by rw [cF r hr]; exact bF r hr)
        rw [c5, b5, prS]
        by_cases hn : g i = -1000000005
        · rw [if_pos hn, x1 hn, upd_self]
        · rw [if_neg hn, x2 hn]
      refine ⟨fun hne => ?_, fun heq => ?_⟩
      · rintro v rfl v' rfl
        rw [nI_s]
        refine nx _ ?_
        rw [prC]
        by_cases hn : g i = -1000000005
        · exact absurd (x1 hn) hne
        · rw [if_neg hn, if_neg (by rw [← x2 hn]; exact hne)]
      · rintro v rfl v' rfl
        rw [nI_s, Int32.add_zero]
        refine nx _ ?_
        rw [prC]
        by_cases hn : g i = -1000000005
        · rw [if_pos hn]
        · rw [if_neg hn, if_pos (by rw [← x2 hn]; exact heq)]
    refine ⟨fun hne => ?_, fun he5 => h87 _ (fun _ => rfl) (fun q => absurd he5 q)⟩
    have := h87 (hl9 (g i)) (fun q => absurd q hne) (fun _ => rfl)
    unfold hl9 at this
    refine ⟨fun a => ⟨fun b => ?_, fun b => ?_⟩, fun a => ?_⟩
    · rw [if_pos a, if_pos b] at this; exact this
    · rw [if_pos a, if_neg b] at this; exact this
    · rw [if_neg a] at this; exact this
theorem k7_pour {k m e : Nat} {S : Sc} {g : Nat → Int32} {p : Int32} (hk : k < 4) (hm : m ≤ 24) (hO : SOK S) (he : (e = m ∧ e ≤ nCo S) ∨ (e = nCo S ∧ e ≤ m)) (hS : SR n M 1 S) (s3 : M (45 + 2 * k) 2 = nI m) (hg : ∀ i : Nat, i < 24 → M (46 + 2 * k) i = g i) (hK : ∀ M' : Mm, SR n M' 1 (prS S g e) → FrA 1 M M' → K M' (prC S g e)) : ∃ kf : Nat, wl_X7_pour_30 n p K kf M (45 + 2 * k) 0 0 := by
  obtain ⟨hz, h0⟩ := hO.co
  have he8 : e ≤ 8 := by omega
  have tt : tp (45 + 2 * k) = 9 := (tp_sh hk).1
  refine ⟨e + 1, ?_⟩
  suffices h : ∀ (q i : Nat) (M2 : Mm), i + q = e → SR n M2 1 (prS S g i) → FrA 1 M M2 → wl_X7_pour_30 n p K (q + 1) M2 (45 + 2 * k) (prC S g i) (nI i) by
    exact h _ 0 M (by omega) hS (FrA.rf 1 M)
  intro q
  induction q with
  | zero =>
    intro i M2 hi b5 bF
    have : i = e := by omega
    subst this
    have hin := hK M2 b5 bF
    rw [wl_X7_pour_30, bF.1 (45 + 2 * k) (by omega) (notP_lt (by omega)), s3, b5.1.1, (kp_prS i he8).1, h0]
    refine ⟨tt, fun _ => hin, fun h => ⟨fun _ => hin, fun h2 => ?_⟩⟩
    exfalso
    rw [nI_leI (by omega) (by omega)] at h h2
    omega
  | succ q ih =>
    intro i M2 hi b5 bF
    have kp := kp_prS (S := S) (g := g) i (by omega)
    have e4 : M2 1 4 = nI (nCo S) := by rw [b5.1.1, kp.1, h0]
    have hiz : i < nCo (prS S g i) := by rw [kp.co]; omega
    have hzz : nCo (prS S g i) ≤ 8 := by rw [kp.co]; exact hz
    rw [wl_X7_pour_30, bF.1 (45 + 2 * k) (by omega) (notP_lt (by omega)), s3, e4]
    refine ⟨tt, fun h => absurd h (nI_ge (by omega) (by omega)), fun _ => ⟨fun h => absurd h (nI_ge (by omega) (by omega)), fun _ => e3_comerAt (Or.inl rfl) hz e4 (fun hN => absurd ⟨i, by omega, rfl⟩ hN) (fun c hc hx => ⟨fun h => absurd h (by simp), fun t8 h8 => ?_⟩)⟩⟩
    have : c = i := by rw [nI_eq (by omega) (by omega)] at hx; exact hx.symm
    subst this
    cases h8
    refine ⟨isB.c (b := 1) (Or.inl rfl) (by omega), vp_in_nI (by omega) (by decide), ?_⟩
    rw [nI_clamp (by omega), bF.1 (45 + 2 * k + 1) (by omega) (notP_lt (by omega)), show 45 + 2 * k + 1 = 46 + 2 * k by omega, hg c (by omega)]
    have nx : ∀ (M3 : Mm) (y : Int32), SR n M3 1 (prS S g (c + 1)) → FrA 1 M2 M3 → y = prC S g (c + 1) → wl_X7_pour_30 n p K (q + 1) M3 (45 + 2 * k) y (nI (c + 1)) := by
      rintro M3 y a1 a2 rfl
      exact ih (c + 1) M3 (by omega) a1 (bF.tr a2)
    refine ⟨fun hne => ⟨vp_in_nI (by omega) (by decide), ?_⟩, fun he5 => ?_⟩
    · show (_ → _) ∧ (_ → _)
      rw [show ([0, 0, 1, 0, 0] : List Int32).getD (3 : Int32).toNatClampNeg 0 = 0 from rfl, show ([5, 59, 30, 9, 9] : List Int32).getD (3 : Int32).toNatClampNeg 0 = 9 from rfl, hl9_e, b5.2.1 c hiz 3 (by decide)]
      have g3 := b5.wc (c := c) (w := 3) (x := hl9 (g c)) (Or.inl rfl) hiz hzz (by decide)
      have e3 : prS S g (c + 1) = upd (prS S g c) (cx c 3) (hl9 (g c)) := by rw [prS, if_neg hne]
      rw [← e3] at g3
      have f3 : FrA 1 M2 (wr M2 (1 + 3 + 1 + c) 3 (hl9 (g c))) := FrB.A (FrB.wc (Or.inl rfl) (by omega) (by decide))
      refine ⟨fun heq => ?_, fun hnq => ?_⟩
      · rintro M12 rfl v13 rfl
        rw [nI_s]
        exact nx _ _ g3 f3 (by rw [prC, if_neg hne, if_pos heq])
      · rintro v14 rfl M15 rfl v16 rfl
        rw [nI_s]
        exact nx _ _ g3 f3 (by rw [prC, if_neg hne, if_neg hnq])
    · rintro v17 rfl
      rw [nI_s]
      exact nx _ _ (by rw [prS, if_pos he5]; exact b5) (FrA.rf 1 M2) (by rw [prC, if_pos he5])
theorem op_pour {p1 : Int32} (I : Inv n j M) (hZ : ∀ M' : Mm, Inv n (j + 1) M' → Z M') (hR : ∀ (M1 : Mm) (r : Int32), wp_X8_pour n M1 p1 (fun M3 r4 => (r = r4 → Z M3) ∧ (¬ r = r4 → False)) → R M1 r) : wp_X7_pour n M p1 R := by
  have hsk := hZ _ I.sk
  obtain ⟨hS, hO, hI⟩ := I.a
  obtain ⟨hz, h0⟩ := hO.co
  by_cases hp : 0 ≤ p1 ∧ p1 ≤ 3
  · obtain ⟨k, hk, rfl⟩ := bd_of (k := 3) (by decide) (by decide) hp
    have hk4 : k < 4 := by omega
    obtain ⟨s1, s2, s3, ⟨m, hm, s4⟩, s5⟩ := I.s k hk4
    refine e7_shy hk4 ⟨fun h => absurd h (by simp), fun t3 h3 => ?_⟩
    cases h3
    refine ⟨(tp_sh hk4).1, ?_⟩
    have vk : vp_in (nI k) 4 := vp_in_nI hk4 (by decide)
    have ck : (nI k).toNatClampNeg = k := nI_clamp (by omega)
    rw [s1]
    refine ⟨fun hn1 => ?_, fun hm1 => hR _ _ (e8_shy hk4 ⟨fun _ => ⟨vk, ?_⟩, fun h => absurd h i1⟩)⟩
    · have h01 : M 78 k = 0 ∨ M 78 k = 1 := s2.resolve_left hn1
      have hge : 0 ≤ M 78 k := by rcases h01 with e | e <;> rw [e] <;> decide
      obtain ⟨e, he2⟩ : ∃ e : Nat, (e = m ∧ e ≤ nCo (M 75)) ∨ (e = nCo (M 75) ∧ e ≤ m) := by
        by_cases h : m ≤ nCo (M 75)
        · exact ⟨m, Or.inl ⟨rfl, h⟩⟩
        · exact ⟨nCo (M 75), Or.inr ⟨rfl, by omega⟩⟩
      refine k7_pour (g := fun i => M 80 (24 * k + i)) hk4 hm hO he2 hS (by rw [s3, s4]) (fun i hi => s5 i hi) (fun M1 h1 F1 => hR _ _ ?_)
      have o : ∀ i : Nat, 13 ≤ i → i < 94 → M1 i = M i := fun i a b => F1.1 i (by omega) (notP_lt b)
      refine e8_shy hk4 ⟨fun _ => ⟨vk, ?_⟩, fun h => absurd h i1⟩
      rw [ck, o 78 (by decide) (by decide)]
      refine ⟨fun _ => k8_pour (g := fun i => M 80 (24 * k + i)) hk4 hm hO he2 (o 75 (by decide) (by decide)) (by rw [o 79 (by decide) (by decide)]; exact s4) (fun i _ => by rw [o 80 (by decide) (by decide)]) (fun M2 b5 bF => en rfl (hZ _ (I.cs (by omega) F1 h1 (hO.kp (kp_prS e (by omega))) ((ri_prS hI e).mono (by omega)) (FQ.of5 bF) b5))), fun q => absurd hge q⟩
    · rw [ck]
      exact ⟨fun q => absurd q (by rw [hm1]; decide), fun _ => en rfl hsk⟩
  · exact e7_shn hp ⟨fun _ => hR _ _ (e8_shn hp ⟨fun h => absurd rfl h, fun _ => en rfl hsk⟩), fun t h => absurd h (by simp)⟩
end SHV
