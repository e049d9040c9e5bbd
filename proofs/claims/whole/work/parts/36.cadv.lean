theorem SR.w12 {n b c : Nat} {M : Mm} {S : Sc} {x : Int32} (hb : isB b) (hc : c < 8) (h : SR n M b S) : SR n (wr M (b + 3 + 1 + c) 12 x) b S := by
  have hbl := hb.lt
  obtain ⟨g, r, k, t⟩ := h
  refine ⟨?_, fun d hd w hw => ?_, fun q hq => ?_, fun u hu => ?_⟩
  · unfold SRg; rw [wr_oth (by omega)]; exact g
  · by_cases e : d = c
    · subst e; rw [wr_idx (by omega)]; exact r d hd w hw
    · rw [wr_oth (by omega)]; exact r d hd w hw
  · rw [wr_oth (by omega)]; exact k q hq
  · obtain ⟨id, a1, a2⟩ := t u hu
    refine ⟨id, by rw [wr_oth (by omega)]; exact a1, ?_⟩
    obtain ⟨⟨h1, h2⟩, h3, h4, h5, h6, h7⟩ := a2
    have hlo := (tx_lo h1).1
    exact ⟨⟨h1, h2⟩, by rw [wr_oth (by omega)]; exact h3, by rw [wr_oth (by omega)]; exact h4, by rw [wr_oth (by omega)]; exact h5, by rw [wr_oth (by omega)]; exact h6, fun k hk => by rw [wr_oth (by omega)]; exact h7 k hk⟩
theorem FrA.w12 {b c : Nat} {x : Int32} {M : Mm} (hb : isB b) (hc : c < 8) : FrA b M (wr M (b + 3 + 1 + c) 12 x) := by
  have hbl := hb.lt
  exact ⟨fun i hi _ => wr_oth (fun e => hi (by omega)), fun i hi => by rw [wr_oth (fun e => by unfold isP at hi; omega)], wr_oth (by omega), wr_oth (by omega)⟩
section C3o
variable {n : Nat} {M : Mm}
theorem e3_min {K : Mm → Int32 → Prop} {Z : Mm → Int32 → Int32 → Prop} {b : Nat} {S : Sc} {p1 x2 x3 : Int32} (hb : isB b) (hn : n ≤ 1000) (hS : SOK S) (hR : SR n M b S) (hZ : ∀ M' : Mm, SR n M' b (mi1 (-1) S) → FrA b M M' → Z M' (x2 + msb S) (x3 + 1)) : ∃ kf : Nat, wl_X3_advance_21 n b p1 Z K kf M x2 x3 0 := by
  obtain ⟨hz, h0⟩ := hS.co
  refine ⟨nCo S + 1, ?_⟩
  suffices h : ∀ (j c : Nat) (M1 : Mm), c + j = nCo S → SR n M1 b S → FrA b M M1 → (∀ q : Nat, q < c → M1 (b + 3 + 1 + q) 12 = S (cx q 5)) → wl_X3_advance_21 n b p1 Z K (j + 1) M1 x2 x3 (nI c) by
    exact h _ 0 M (by omega) hR (FrA.rf b M) (fun q hq => absurd hq (by omega))
  intro j
  induction j with
  | zero =>
    intro c M1 hc h1 hF h12
    have hcz : c = nCo S := by omega
    subst hcz
    have e4 := h1.n0 hS (Kp.rf S)
    rw [wl_X3_advance_21]
    refine ⟨fun _ => ?_, fun h => absurd (by rw [e4]; exact nI_le (Nat.le_refl _) (by omega)) h⟩
    refine e3_letLeave hb hn hS h1 (fun M2 h2 f2 => ?_)
    have k2 : Kp S (lvK S (nCo S)) := kp_lvK _ hz
    refine e3_letCome hb hn (hS.kp k2) h2 (fun M3 h3 f3 => ?_)
    rw [k2.co] at h3 ⊢
    have h3 : SR n M3 b (pt1 S) := h3
    have k3 : Kp S (pt1 S) := kp_pt1 hz
    have F3 : FrB b M1 M3 := f2.tr f3
    refine e3_letWait (B := fun c => S (cx c 5)) hb hn (hS.kp k3) h3 (fun q hq => ?_) (fun M5 h5 f5 => ?_)
    · rw [k3.co] at hq
      rw [F3.2.2.2.2 q (by omega)]; exact h12 q hq
    · rw [k3.co] at h5
      have k5 : Kp S (wtK (fun c => S (cx c 5)) (pt1 S) (nCo S)) := k3.tr (kp_wtK _ hz)
      have F5 : FrB b M1 M5 := F3.tr f5
      refine e3_letReachHome (B := fun c => S (cx c 5)) hb (hS.kp k5) h5 (fun q hq => ?_) (fun M7 h7 f7 => ?_)
      · rw [k5.co] at hq
        rw [F5.2.2.2.2 q (by omega)]; exact h12 q hq
      · rw [k5.co, pt2_e hz] at h7
        have k7 : Kp S (pt2 S) := kp_pt2 hz
        have F7 : FrA b M M7 := hF.tr (F5.tr f7).A
        have hcn := cnt_le (pt2 S) (nCo S)
        have hend : ∀ x : Int32, x = bi (cbK (lvK S (nCo S)) (nCo S) = 0 ∧ cnt (pt2 S) (nCo S) = 0) → ∀ y : Int32, y = x2 + msb S → wb_X3_advance_112 n b p1 Z K M7 y x3 x := by
          intro x hx y hy
          refine e3_fill hb hx h7 (fun M16 h16 f16 => e3_endMinute hb ((hS.kp k7).kp kp_qui) h16 (fun M18 h18 f18 => ?_))
          rintro v20 rfl
          rw [hy]
          exact hZ M18 h18 (F7.tr (f16.tr f18).A)
        have h96 : ∀ y : Int32, y = x2 + msb S → wb_X3_advance_96 n b p1 Z K M7 y x3 (cbK (lvK S (nCo S)) (nCo S)) (bi (¬ cnt (pt2 S) (nCo S) = 0)) := by
          intro y hy
          refine ⟨fun q => hend 0 ?_ y hy, fun q => ⟨fun r => hend 0 ?_ y hy, fun r => hend 1 ?_ y hy⟩⟩
          · rw [bi_ne] at q; rw [bi_f (fun z => q z.2)]
          · rw [bi_f (fun z => r z.1)]
          · rw [bi_eq] at q; rw [bi_t ⟨r, Decidable.of_not_not q⟩]
        refine e3_standing hb (by rw [k7.co]; exact hz) (hS.kp k7).co.2 h7 ?_
        rw [k7.co]
        refine ⟨fun q => ?_, fun q => ?_⟩
        · have hc0 : cnt (pt2 S) (nCo S) = 0 := by
            rcases Nat.eq_zero_or_pos (cnt (pt2 S) (nCo S)) with z | z
            · exact z
            · exact absurd q (nI_nle z (by omega))
          have hx := h96 x2 (by unfold msb; rw [bi_f (fun z => z hc0), Int32.add_zero])
          rw [bi_f (fun z => z hc0)] at hx
          exact ⟨fun _ => hx, fun z => absurd rfl z⟩
        · have hc0 : ¬ cnt (pt2 S) (nCo S) = 0 := fun z => q (by rw [z]; decide)
          refine ⟨fun z => absurd z (by decide), fun _ => ?_⟩
          rintro v15 rfl
          have hx := h96 (x2 + 1) (by unfold msb; rw [bi_t hc0])
          rw [bi_t hc0] at hx
          exact hx
  | succ j ih =>
    intro c M1 hc h1 hF h12
    have hc8 : c < 8 := by omega
    have e4 := h1.n0 hS (Kp.rf S)
    rw [wl_X3_advance_21]
    refine ⟨fun h => absurd h (by rw [e4]; exact nI_ge (by omega) (by omega)), fun _ => ⟨in8 hc8, in8 hc8, ?_⟩⟩
    rintro M13 rfl v14 rfl
    rw [nI_s, nI_clamp (by omega), h1.2.1 c (by omega) 5 (by decide)]
    refine ih (c + 1) _ (by omega) (h1.w12 hb hc8) (hF.tr (FrA.w12 hb hc8)) (fun q hq => ?_)
    by_cases e : q = c
    · subst e; rw [wr_at]
    · rw [wr_oth (by omega)]; exact h12 q (by omega)
/-! the minutes' number -/
theorem keep2 {S : Sc} {c : Nat} : lv1 S c 2 = S 2 ∧ cm1 S c 2 = S 2 := by
  have hn : ∀ v : Nat, (2 : Nat) ≠ cx c v := fun v => Ne.symm (cx_lo (by decide))
  have ar : ∀ T : Sc, arr T c 2 = T 2 := by
    intro T
    unfold arr ar1 ar0 tke stn emp goB
    repeat' split
    all_goals simp [pk_un (hn _), pk_un (show (2 : Nat) ≠ 5 by decide)]
  constructor
  · unfold lv1 sinc goO drw
    repeat' split
    all_goals simp [pk_un (hn _), pk_un (show (2 : Nat) ≠ 10 by decide)]
  · unfold cm1 les
    repeat' split
    · rw [ar, pk_un (hn _)]
    · rw [pk_un (hn _)]
    · rfl
theorem keep2w {B : Nat → Int32} {S : Sc} {c : Nat} : wt1 B S c 2 = S 2 ∧ hm1 B S c 2 = S 2 := by
  have hn : ∀ v : Nat, (2 : Nat) ≠ cx c v := fun v => Ne.symm (cx_lo (by decide))
  constructor
  · unfold wt1 wai emp goB
    repeat' split
    all_goals simp [pk_un (hn _), pk_un (show (2 : Nat) ≠ 9 by decide)]
  · unfold hm1 les
    repeat' split
    all_goals simp [pk_un (hn _)]
theorem min2 (o : Int32) (S : Sc) : mi1 o S 2 = S 2 + 1 := by
  have a1 : ∀ c : Nat, lvK S c 2 = S 2 := fun c => by induction c with | zero => rfl | succ c ih => rw [lvK, keep2.1, ih]
  have a2 : ∀ (T : Sc) (c : Nat), cmK T c 2 = T 2 := fun T c => by induction c with | zero => rfl | succ c ih => rw [cmK, keep2.2, ih]
  have a3 : ∀ (B : Nat → Int32) (T : Sc) (c : Nat), wgK B T c 2 = T 2 := fun B T c => by induction c with | zero => rfl | succ c ih => rw [wgK, keep2w.2, keep2w.1, ih]
  have a4 : ∀ (T : Sc) (x : Int32) (y : Nat), qui T x y 2 = T 2 := fun T x y => by
    unfold qui
    repeat' split
    all_goals simp [pk_un (show (2 : Nat) ≠ 8 by decide), pk_un (show (2 : Nat) ≠ 5 by decide)]
  have a5 : ∀ (T : Sc) (c : Nat), wnK o T c 2 = T 2 := fun T c => by
    induction c with
    | zero => rfl
    | succ c ih => rw [wnK, wnt, pk_un (Ne.symm (cx_lo (by decide))), ih]
  have a6 : pt2 S 2 = S 2 := by unfold pt2 pt1; rw [a3, a2, a1]
  unfold mi1 eod
  split
  · rw [a5]; unfold mnt; rw [pk_us, a4, a6]
  · unfold mnt; rw [pk_us, a4, a6]
theorem miK2 {o : Int32} {S : Sc} {m : Nat} (h : S 2 = nI m) : ∀ k : Nat, miK o S k 2 = nI (m + k)
  | 0 => h
  | k + 1 => by rw [miK, min2, miK2 h k, nI_s]; rfl
theorem e3_advance {K : Mm → Int32 → Prop} {b p m : Nat} {S : Sc} {p1 : Int32} (hb : isB b) (hn : n ≤ 1000) (hS : SOK S) (hp : p1 = nI p) (hp3 : p ≤ 300) (hm : S 2 = nI m) (hmp : m + p ≤ 99999) (hR : SR n M b S) (hK : ∀ M' : Mm, SR n M' b (miK (-1) S p) → FrA b M M' → K M' (sbK (-1) S p)) : wp_X3_advance n M b p1 K := by
  subst hp
  have hz := hS.co.1
  refine ⟨hb.t, p + 1, ?_⟩
  suffices h : ∀ (j k : Nat) (M1 : Mm), k + j = p → SR n M1 b (miK (-1) S k) → FrA b M M1 → wl_X3_advance_4 n b (nI p) K (j + 1) M1 (sbK (-1) S k) (nI k) by
    exact h _ 0 M (by omega) hR (FrA.rf b M)
  intro j
  induction j with
  | zero =>
    intro k M1 hk h1 hF
    have : k = p := by omega
    subst this
    rw [wl_X3_advance_4]
    exact ⟨fun _ => hK M1 h1 hF, fun h => absurd (nI_le (Nat.le_refl _) (by omega)) h⟩
  | succ j ih =>
    intro k M1 hk h1 hF
    rw [wl_X3_advance_4]
    refine ⟨fun h => absurd h (nI_ge (by omega) (by omega)), fun _ => ⟨fun h => absurd h ?_, fun _ => ?_⟩⟩
    · rw [h1.1.2.2.1, miK2 hm, show (99999 : Int32) = nI 99999 from rfl]
      exact nI_ge (by omega) (by omega)
    · refine e3_min hb hn (hS.kp (kp_miK hz k)) h1 (fun M' h' f' => ?_)
      rw [nI_s]
      exact ih (k + 1) M' (by omega) h' (hF.tr f')
end C3o
