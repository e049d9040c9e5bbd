theorem stL_cg {key : Int32} {g g' : Nat → Int32} : ∀ (L : List (Int32 × Int32)) (i : Nat), (∀ q : Nat, i ≤ q → q < i + L.length → g' q = g q) → stL key g i L → stL key g' i L
  | [], _, _, _ => trivial
  | y :: r, i, hq, h => by
    have hl : (y :: r).length = r.length + 1 := rfl
    exact ⟨by rw [hq i (Nat.le_refl _) (by omega)]; exact h.1, stL_cg r (i + 1) (fun q a b => hq q (by omega) (by omega)) h.2⟩
theorem tS1_k {f0 : Nat → Int32} {m k : Nat} (hm : m ≤ 96) (hk : k < m) : tS1 f0 (nI m) k = f0 k := by
  unfold tS1
  rw [pk_un (by unfold LEN; omega), nI_clamp (by omega)]
  unfold va_cpy
  rw [if_pos ⟨Nat.zero_le _, by omega⟩, Nat.zero_add, Nat.sub_zero]
theorem op_text {n j : Nat} {M : Mm} {Z : Nat → Mm → Prop} {R : Nat → Mm → Int32 → Prop} (I : Inv n j M) (hj : j ≤ 64) (hZ : ∀ (n' : Nat) (M' : Mm), Inv n' (j + 1) M' → Z n' M') (hR : ∀ (n1 : Nat) (M1 : Mm) (r : Int32), wp_X8_text n1 M1 (fun M3 r4 => (r = r4 → Z n1 M3) ∧ (¬ r = r4 → False)) → R n1 M1 r) : wp_X7_text n M R := by
  obtain ⟨s, hs, t1, t2, t3⟩ := I.t
  obtain ⟨g1, g2, g3⟩ := I.a
  obtain ⟨hT14, hT1, htk⟩ := g2.tx
  obtain ⟨hn1, hn2, hn3⟩ := I.n
  generalize hT : nTx (M 75) = T at hT14 hT1 htk
  have hC : CTp M (M 88) s := ⟨hs, t1, fun i hi => t3 i hi⟩
  have hRp : RTp M (M 88) s := ⟨hs, t2, fun i hi => ⟨rfl, (t3 i hi).2⟩⟩
  have hbs := bs_ge hT14
  refine c1_reads hC (fun M1 x p N hW h2 hx hf => ?_)
  rintro M2 hM2
  have f1 : ∀ i : Nat, i ≠ 37 → i ≠ 38 → i ≠ 40 → i ≠ 41 → M2 i = M i := fun i a b c d => by rw [hM2, wr_oth b]; exact hf i a c d
  have f38 : M2 38 1 = 0 := by rw [hM2, wr_at]
  have e372 : M2 37 2 = nI p := by rw [hM2, wr_oth (by decide)]; exact h2
  have m12 : M2 1 2 = nI T := by rw [f1 1 (by decide) (by decide) (by decide) (by decide), g1.1.2.1]; exact hT1
  have f2R : RTp M2 (M 88) s := by unfold RTp; rw [f1 74 (by decide) (by decide) (by decide) (by decide), f1 88 (by decide) (by decide) (by decide) (by decide)]; exact hRp
  have f275 : M2 75 1 = nI T := by rw [f1 75 (by decide) (by decide) (by decide) (by decide)]; exact hT1
  by_cases hx1 : x = -1
  · rw [if_pos hx1]
    refine ⟨fun q => absurd rfl q, fun _ => hR n M2 _ ?_⟩
    refine r8_parse f2R f275 hT14 (fun M' x' p' N' hW' e18 e17 hx' f10 => ?_)
    obtain ⟨u1, u2, u3⟩ := WRd_u hW hW'
    subst u1; subst u2
    refine ⟨fun q => absurd q (by rw [hx1]; decide), fun _ => ?_⟩
    refine en ?_ (hZ n M' (inv_tx0 I hT f1 f38 f10 e17))
    rw [e372, e18]
  · rw [if_neg hx1]
    refine ⟨fun _ => ?_, fun q => absurd q i1⟩
    obtain ⟨hxs, hgd, hNl⟩ := WRd_g hW hx1
    obtain ⟨k5, k6, k40, k41⟩ := hx hx1
    have hx0 : 0 ≤ x := by rcases hxs with rfl | rfl | rfl <;> decide
    have hx2 : x ≤ 2 := by rcases hxs with rfl | rfl | rfl <;> decide
    have k5' : M2 37 5 = x := by rw [hM2, wr_oth (by decide)]; exact k5
    have k6' : M2 37 6 = nI (nWd N) := by rw [hM2, wr_oth (by decide)]; exact k6
    have k40' : M2 40 1 = nI N.length := by rw [hM2, wr_oth (by decide)]; exact k40
    have k41' : stL x (M2 41) 0 N := by rw [hM2, wr_oth (by decide)]; exact k41
    have hnw := nWd_le N
    have hN4 : N.length + 4 ≤ 96 := by omega
    refine ⟨fun hlt => ?_, fun hge => hR n M2 _ ?_⟩
    · have hT13 : T < 14 := by rw [m12, show (14 : Int32) = nI 14 from rfl, nI_ltI (by omega) (by decide)] at hlt; exact hlt
      refine ⟨⟨?_, ?_, ?_, ?_, hn1, ?_, by omega⟩, ?_⟩
      · rw [k40']; exact nI_pos (by omega)
      · rw [k40', show (96 : Int32) = nI 96 from rfl]; exact nI_lt (by omega) (by decide)
      · rw [k6']; exact nI_pos (by omega)
      · rw [k6', nI_clamp (by omega)]; omega
      · intro q
        rw [f1 2 (by decide) (by decide) (by decide) (by decide), f1 14 (by decide) (by decide) (by decide) (by decide), f1 26 (by decide) (by decide) (by decide) (by decide)]
        exact I.q q
      · rintro M3 hM3
        rw [k5', k6', k40'] at hM3
        have m3o : ∀ i : Nat, i < n → M3 i = M2 i := fun i hi => by rw [hM3, newT_old hi]
        have m3n : M3 n = tO x (nI (nWd N)) := by rw [hM3, newT_0]
        have m3n1 : M3 (n + 1) = tS1 (M2 41) (nI N.length) := by rw [hM3, newT_1]
        have m3n2 : M3 (n + 2) = tP1 (nI (nWd N)) := by rw [hM3, newT_2]
        have m3n0 : M3 n 0 = x := by rw [m3n]; rfl
        clear hM3
        have m312 : M3 1 2 = nI T := by rw [m3o 1 (by omega)]; exact m12
        unfold wp_X3_addLaw
        refine ⟨rfl, ⟨by rw [tp_hi hn2, hn1], by omega⟩, ?_⟩
        rw [m312, show (14 : Int32) = nI 14 from rfl, nI_leI (by decide) (by omega)]
        refine ⟨fun q => absurd q (by omega), fun _ => ?_⟩
        rw [m3n0]
        refine e7_y ⟨hx0, hx2⟩ ⟨fun _ => ?_, fun q => absurd q i1⟩
        rw [m312, nI_clamp (by omega)]
        refine ⟨vp_in_nI hT13 (by decide), ?_⟩
        rintro A hA
        have a_n0 : A n 0 = x := by rw [hA, wr_oth (by omega)]; exact m3n0
        have a12 : A 1 2 = nI T := by rw [hA, wr_oth (by decide)]; exact m312
        obtain ⟨xq, hxq3, hxq⟩ : ∃ xq : Nat, xq < 3 ∧ x = nI xq := by
          rcases hxs with h | h | h
          · exact ⟨0, by decide, h⟩
          · exact ⟨1, by decide, h⟩
          · exact ⟨2, by decide, h⟩
        rw [a_n0, a12, hxq, nI_clamp (by omega)]
        refine ⟨vp_in_nI hxq3 (by decide), ?_⟩
        rintro A4 hA4 A5 hA5
        have a412 : A4 1 2 = nI T := by rw [hA4, wr_oth (by decide)]; exact a12
        rw [a412, nI_s] at hA5
        have e512 : A5 1 2 = nI (T + 1) := by rw [hA5, wr_at]
        have p5 : ∀ i : Nat, i ≠ 1 → i ≠ 2 → i ≠ 3 → A5 i = M3 i := fun i a b c => by rw [hA5, wr_oth a, hA4, wr_oth c, hA, wr_oth b]
        have p51 : ∀ q : Nat, q ≠ 2 → A5 1 q = M3 1 q := fun q a => by rw [hA5, wr_idx a, hA4, wr_oth (by decide), hA, wr_oth (by decide)]
        have p52 : A5 2 = upd (M3 2) T (nI n) := by rw [hA5, wr_oth (by decide), hA4, wr_oth (by decide), hA]; exact wr_row _ _ _ _
        have p53 : A5 3 = upd (M3 3) xq (nI T) := by rw [hA5, wr_oth (by decide), hA4]; exact (wr_row _ _ _ _).trans (by rw [hA, wr_oth (by decide)])
        clear hA5 hA4 hA
        refine hR (n + 3) A5 _ ?_
        have R5 : RTp A5 (M 88) s := by
          unfold RTp; rw [p5 74 (by decide) (by decide) (by decide), p5 88 (by decide) (by decide) (by decide), m3o 74 (by omega), m3o 88 (by omega)]; exact f2R
        have t5 : A5 75 1 = nI T := by rw [p5 75 (by decide) (by decide) (by decide), m3o 75 (by omega)]; exact f275
        refine r8_parse R5 t5 hT14 (fun M' x' p' N' hW' e18 e17 hx' f10 => ?_)
        obtain ⟨u1, u2, u3⟩ := WRd_u hW hW'
        have u3 := u3 hx1
        subst u1; subst u2; subst u3
        obtain ⟨v25, v27, vsl⟩ := hx' hx1
        have m751 : M' 75 1 = nI T := by rw [f10.2.1 1 (by omega)]; exact t5
        have hbT : bsOf T = 112 + 200 * T := by unfold bsOf; rw [if_neg (by omega)]
        rw [m751]
        refine ⟨fun _ => ⟨fun _ => ?_, fun q => ?_⟩, fun q => absurd hx0 q⟩
        · show vp_in (108 + 200 * nI T + 0) 3108 ∧ _
          have r4e : 108 + 200 * nI T = nI (108 + 200 * T) := by rw [show (200 : Int32) = nI 200 from rfl, pk_mul, show (108 : Int32) = nI 108 from rfl, nI_add]
          rw [r4e, Int32.add_zero, nI_s, show nI (108 + 200 * T) + 2 = nI (110 + 200 * T) from by rw [show (2 : Int32) = nI 2 from rfl, nI_add]; congr 1; omega, show 108 + 200 * T + 1 = 109 + 200 * T by omega]
          refine ⟨vp_in_nI (by omega) (by decide), ?_⟩
          rintro B5 hB5
          refine ⟨vp_in_nI (by omega) (by decide), ?_⟩
          rintro B6 hB6
          refine ⟨vp_in_nI (by omega) (by decide), ?_⟩
          rintro B7 hB7 M8 hM8
          rw [nI_clamp (by omega)] at hB5 hB6 hB7
          have b527 : B5 74 27 = nI (nWd N) := by rw [hB5, wr_oth (by decide)]; exact v27
          have b625 : B6 74 25 = nI N.length := by rw [hB6, wr_oth (by decide), hB5, wr_oth (by decide)]; exact v25
          rw [b527] at hB6
          rw [b625] at hB7
          have b71 : B7 75 1 = nI T := by rw [hB7, wr_idx (by omega), hB6, wr_idx (by omega), hB5, wr_idx (by omega)]; exact m751
          rw [b71, nI_s] at hM8
          have m8o : ∀ i : Nat, i ≠ 75 → M8 i = M' i := fun i a => by rw [hM8, wr_oth a, hB7, wr_oth a, hB6, wr_oth a, hB5, wr_oth a]
          have m8q : ∀ k : Nat, k ≠ 1 → k ≠ 108 + 200 * T → k ≠ 109 + 200 * T → k ≠ 110 + 200 * T → M8 75 k = M' 75 k := fun k a b c d => by rw [hM8, wr_idx a, hB7, wr_idx d, hB6, wr_idx c, hB5, wr_idx b]
          have m81 : M8 75 1 = nI (T + 1) := by rw [hM8, wr_at]
          have s0 : M8 75 (108 + 200 * T) = x := by rw [hM8, wr_idx (by omega), hB7, wr_idx (by omega), hB6, wr_idx (by omega), hB5, wr_at]
          have s1 : M8 75 (109 + 200 * T) = nI (nWd N) := by rw [hM8, wr_idx (by omega), hB7, wr_idx (by omega), hB6, wr_at]
          have s2 : M8 75 (110 + 200 * T) = nI N.length := by rw [hM8, wr_idx (by omega), hB7, wr_at]
          clear hM8 hB7 hB6 hB5
          have z : ∀ i : Nat, i ≠ 1 → i ≠ 2 → i ≠ 3 → i ≠ 74 → i ≠ 75 → M8 i = M3 i := fun i a b c d e => by rw [m8o i e, f10.1 i d e, p5 i a b c]
          refine en (by rw [e512, m81]) (hZ (n + 3) M8 (inv_tx1 (x := x) (N := N) (T := T) I hj hT hT13 hxs hgd hN4 ?_ ?_ ?_ ?_ ?_ ?_ ?_ ?_ ?_ ?_ m81 s0 s1 s2 ?_ ?_ ?_ ?_ ?_ ?_))
          · intro i hi a1 a2 a3 a37 a38 a40 a41 a74 a75
            rw [z i a1 a2 a3 a74 a75, m3o i hi, f1 i a37 a38 a40 a41]
          · intro q hq
            rw [m8o 1 (by decide), f10.1 1 (by decide) (by decide), p51 q hq, m3o 1 (by omega), f1 1 (by decide) (by decide) (by decide) (by decide)]
          · rw [m8o 1 (by decide), f10.1 1 (by decide) (by decide)]; exact e512
          · intro q hq
            rw [m8o 2 (by decide), f10.1 2 (by decide) (by decide), p52, pk_un hq, m3o 2 (by omega), f1 2 (by decide) (by decide) (by decide) (by decide)]
          · rw [m8o 2 (by decide), f10.1 2 (by decide) (by decide), p52, pk_us]
          · intro q
            rw [m8o 3 (by decide), f10.1 3 (by decide) (by decide), p53]
            by_cases e : q = xq
            · subst e; rw [pk_us, if_pos ⟨hxq, hxq3⟩]
            · rw [pk_un e, if_neg, m3o 3 (by omega), f1 3 (by decide) (by decide) (by decide) (by decide)]
              rintro ⟨y1, y2⟩
              rw [hxq, nI_eq (by omega) (by omega)] at y1
              exact e y1.symm
          · rw [z 38 (by decide) (by decide) (by decide) (by decide) (by decide), m3o 38 (by omega)]; exact f38
          · intro q hq
            rw [m8o 74 (by decide), f10.2.2 q hq, p5 74 (by decide) (by decide) (by decide), m3o 74 (by omega), f1 74 (by decide) (by decide) (by decide) (by decide)]
          · rw [m8o 74 (by decide)]; exact e17
          · intro k hk h1
            rw [m8q k h1 (by omega) (by omega) (by omega), f10.2.1 k (by omega), p5 75 (by decide) (by decide) (by decide), m3o 75 (by omega), f1 75 (by decide) (by decide) (by decide) (by decide)]
          · rw [hbT] at vsl
            exact sl8_cg N _ (fun q a b => m8q q (by omega) (by omega) (by omega) (by omega)) vsl
          · rw [z n (by omega) (by omega) (by omega) (by omega) (by omega)]; exact m3n0
          · rw [z n (by omega) (by omega) (by omega) (by omega) (by omega), m3n]; rfl
          · rw [z (n + 1) (by omega) (by omega) (by omega) (by omega) (by omega), m3n1]; exact pk_us
          · rw [z (n + 2) (by omega) (by omega) (by omega) (by omega) (by omega), m3n2]; exact pk_us
          · rw [z (n + 1) (by omega) (by omega) (by omega) (by omega) (by omega), m3n1]
            exact stL_cg N 0 (fun q a b => tS1_k (by omega) (by omega)) k41'
        · rw [show (14 : Int32) = nI 14 from rfl, nI_eq (by omega) (by decide)] at q
          omega
    · have hT4 : T = 14 := by
        rw [m12, show (14 : Int32) = nI 14 from rfl, nI_ltI (by omega) (by decide)] at hge
        omega
      refine r8_parse f2R f275 hT14 (fun M' x' p' N' hW' e18 e17 hx' f10 => ?_)
      obtain ⟨u1, u2, u3⟩ := WRd_u hW hW'
      subst u1; subst u2
      have m751 : M' 75 1 = 14 := by rw [f10.2.1 1 (by omega), f275, hT4]; rfl
      exact ⟨fun _ => ⟨fun q => absurd m751 q, fun _ => en rfl (hZ n M' (inv_tx0 I hT f1 f38 f10 e17))⟩, fun q => absurd hx0 q⟩
