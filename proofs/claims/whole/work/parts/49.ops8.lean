section OPS8
variable {n j : Nat} {M : Mm} {Z : Mm → Prop} {R : Mm → Int32 → Prop} {K : Mm → Int32 → Prop}
theorem e3_home {K : Mm → Prop} {c : Nat} {S : Sc} (hO : SOK S) (hR : SR n M 13 S) (hK : ∀ M' : Mm, SR n M' 13 (hcK S c (nCo S)) → FI [] M M' → K M') (hc : c < 8) : wp_X3_keepOthersHome n M 13 (nI c) K := by
  obtain ⟨hz, h0⟩ := hO.co
  refine ⟨rfl, nCo S + 1, ?_⟩
  suffices h : ∀ (q d : Nat) (M1 : Mm), d + q = nCo S → SR n M1 13 (hcK S c d) → FI [] M M1 → wl_X3_keepOthersHome_2 n 13 (nI c) K (q + 1) M1 (nI d) by
    exact h _ 0 M (by omega) hR (FI.rf [] M)
  intro q
  induction q with
  | zero =>
    intro d M1 hd h1 hF
    have : d = nCo S := by omega
    subst this
    have e4 : M1 13 4 = nI (nCo S) := by rw [h1.1.1, (kp_hcK _ hz).1, h0]
    rw [wl_X3_keepOthersHome_2, e4]
    exact ⟨fun _ => hK M1 h1 hF, fun h => absurd (nI_le (Nat.le_refl _) (by omega)) h⟩
  | succ q ih =>
    intro d M1 hd h1 hF
    have kp := kp_hcK (S := S) (c := c) d (by omega)
    have e4 : M1 13 4 = nI (nCo S) := by rw [h1.1.1, kp.1, h0]
    have hn := ih (d + 1)
    rw [wl_X3_keepOthersHome_2, e4]
    refine ⟨fun h => absurd h (nI_ge (by omega) (by omega)), fun _ => ⟨fun h => ?_, fun h => ?_⟩⟩
    · have hdc : ¬ d = c := fun e => h (by rw [e])
      refine ⟨in8 (by omega), ?_⟩
      rintro M2 rfl
      refine ⟨in8 (by omega), ?_⟩
      rintro M4 rfl
      refine ⟨in8 (by omega), ?_⟩
      rintro M6 rfl v7 rfl
      rw [nI_s, nI_clamp (by omega)]
      have b13 : isB 13 := Or.inr (Or.inl rfl)
      have hz1 : nCo (hcK S c d) ≤ 8 := by rw [kp.co]; exact hz
      have hd1 : d < nCo (hcK S c d) := by rw [kp.co]; omega
      have g1 := h1.wc (c := d) (w := 5) (x := 0) b13 hd1 hz1 (by decide)
      have k1 : Kp (hcK S c d) (upd (hcK S c d) (cx d 5) 0) := (Kp.rf _).up cx_1 (cx_108 (by omega) (by decide))
      have g2 := g1.wc (c := d) (w := 4) (x := 0) b13 (by rw [k1.co]; exact hd1) (by rw [k1.co]; exact hz1) (by decide)
      have k2 : Kp (hcK S c d) (upd (upd (hcK S c d) (cx d 5) 0) (cx d 4) 0) := k1.up cx_1 (cx_108 (by omega) (by decide))
      have g3 := g2.wc (c := d) (w := 3) (x := 0) b13 (by rw [k2.co]; exact hd1) (by rw [k2.co]; exact hz1) (by decide)
      refine hn _ (by omega) ?_ (hF.t0 ((FI.w (by omega)).t0 ((FI.w (by omega)).t0 (FI.w (by omega)))))
      rw [hcK, if_neg hdc]; exact g3
    · rintro v8 rfl
      rw [nI_s]
      have hdc : d = c := (nI_eq (by omega) (by omega)).mp h
      refine hn _ (by omega) ?_ hF
      rw [hcK, if_pos hdc]; exact h1
theorem nz_hc {c z : Nat} {S : Sc} (hz : z ≤ 8) (hzz : nCo S = z) {M : Mm} (h : SR n M 13 (hcK S c z)) : SR n M 13 (nz c (hoK S c z)) := by
  have k1 := kp_hcK (S := S) (c := c) z hz
  have k2 : Kp S (nz c (hoK S c z)) := (kp_hoK z hz).tr kp_nz
  have kk : Kp (hcK S c z) (nz c (hoK S c z)) := ⟨k2.1.trans k1.1.symm, k2.2.1.trans k1.2.1.symm, fun k hk => (k2.2.2 k hk).trans (k1.2.2 k hk).symm⟩
  refine h.cg kk (fun q hq => ?_) (fun d hd w hw => ?_)
  · rw [nz_lo hq, hc_ho, if_neg]
    rintro ⟨e, _, _, h4⟩
    exact cx_lo hq h4.symm
  · rw [k1.co, hzz] at hd
    rw [hc_ho]
    by_cases hN : isN c (cx d w)
    · have := (isN_cx hw).mp hN
      obtain ⟨_, rfl, h3⟩ := this
      rw [nz_0 hN, if_pos ⟨d, hd, h3, rfl⟩]
    · rw [nz_at hN, if_neg]
      rintro ⟨e, h1, h2, h4⟩
      have : e = d ∧ w = 3 := by unfold cx at h4; omega
      obtain ⟨rfl, rfl⟩ := this
      exact hN ((isN_cx (by decide)).mpr ⟨by omega, rfl, h2⟩)
theorem k8_alone {c p : Nat} {S : Sc} {x3 : Int32} (hO : SOK S) (hc : c < nCo S) (hp : p ≤ 300) (eS : M 75 = S) (e87 : ∀ k : Nat, k < 108 → M 87 k = S k) (eo : M 74 13 = -1) (hK : ∀ M' : Mm, FQ M M' → M' 75 = S → K M' (miK (nI c) (hoK S c (nCo S)) p (cx c 9) - x3)) : ∃ kf : Nat, wl_X8_alone_47 n (nI c) (nI p) K kf M x3 0 := by
  obtain ⟨hz, h0⟩ := hO.co
  refine ⟨nCo S + 1, ?_⟩
  suffices h : ∀ (q d : Nat) (M1 : Mm), d + q = nCo S → M1 75 = hoK S c d → (∀ i : Nat, i ≠ 75 → M1 i = M i) → wl_X8_alone_47 n (nI c) (nI p) K (q + 1) M1 x3 (nI d) by
    exact h _ 0 M (by omega) eS (fun _ _ => rfl)
  intro q
  induction q with
  | zero =>
    intro d M1 hd h5 hF
    have : d = nCo S := by omega
    subst this
    have kp := kp_hoK (S := S) (c := c) (nCo S) hz
    rw [wl_X8_alone_47, h5, kp.1, h0]
    refine ⟨fun _ => ?_, fun h => absurd (nI_le (Nat.le_refl _) (by omega)) h⟩
    rintro M2 rfl
    have e5 : wr M1 74 13 (nI c) 75 = hoK S c (nCo S) := by rw [wr_oth (by decide), h5]
    refine e8_many rfl hp (by rw [e5]; exact hO.kp kp) (fun M3 a5 a4 aF => ?_)
    rw [e5, wr_at] at a5
    rintro M4 rfl
    refine e8_of (w := 9) rfl (by omega) (by decide) (e8_laysBack (fun M5 b1 b2 => ?_))
    have kp2 := kp.tr (kp_miK (o := nI c) (S := hoK S c (nCo S)) (by rw [kp.co]; exact hz) p)
    have f5 : wr M3 74 13 (-1) 75 = miK (nI c) (hoK S c (nCo S)) p := by rw [wr_oth (by decide), a5]
    have f87 : ∀ k : Nat, k < 108 → wr M3 74 13 (-1) 87 k = S k := fun k hk => by rw [wr_oth (by decide), aF 87 (by decide) (by decide) (by decide) (by decide) (by decide), wr_oth (by decide), hF 87 (by decide)]; exact e87 k hk
    rw [f5]
    refine hK M5 ⟨fun i hs h75 => ?_, fun q hq => ?_, ?_⟩ (by rw [b1, f5]; exact lb_e f87 kp2)
    · unfold scr at hs
      rw [b2 i h75, wr_oth (by omega), aF i (by omega) h75 (by omega) (by omega) (by omega), wr_oth (by omega), hF i h75]
    · rw [b2 74 (by decide)]
      by_cases e : q = 13
      · subst e; rw [wr_at, eo]
      · rw [wr_idx e, a4, pk_un (by omega), wr_idx e, hF 74 (by decide)]
    · rw [b2 14 (by decide), wr_oth (by decide), aF 14 (by decide) (by decide) (by decide) (by decide) (by decide), wr_oth (by decide), hF 14 (by decide)]
  | succ q ih =>
    intro d M1 hd h5 hF
    have kp := kp_hoK (S := S) (c := c) d (by omega)
    rw [wl_X8_alone_47, h5, kp.1, h0]
    refine ⟨fun h => absurd h (nI_ge (by omega) (by omega)), fun _ => ⟨fun h => ?_, fun h => ?_⟩⟩
    · rintro v rfl
      rw [nI_s]
      have hdc : d = c := (nI_eq (by omega) (by omega)).mp h
      exact ih (d + 1) M1 (by omega) (by rw [hoK, if_pos hdc]; exact h5) hF
    · have hdc : ¬ d = c := fun e => h (by rw [e])
      refine e8_sets' (w := 5) rfl (by omega) (by decide) (fun M2 a5 aF => e8_sets' (w := 4) rfl (by omega) (by decide) (fun M3 b5 bF => ?_))
      rintro v rfl
      rw [nI_s]
      exact ih (d + 1) M3 (by omega) (by rw [b5, a5, h5, hoK, if_neg hdc]) (fun i hi => by rw [bF i hi, aF i hi]; exact hF i hi)
theorem op_alone {p1 p2 : Int32} (I : Inv n j M) (hj : j ≤ 64) (hZ : ∀ M' : Mm, Inv n (j + 1) M' → Z M') (hR : ∀ (M1 : Mm) (r : Int32), wp_X8_alone n M1 p1 p2 (fun M3 r4 => (r = r4 → Z M3) ∧ (¬ r = r4 → False)) → R M1 r) : wp_X7_alone n M p1 p2 R := by
  obtain ⟨hS, hO, hI⟩ := I.a
  obtain ⟨hz, h0⟩ := hO.co
  obtain ⟨m, hm, em⟩ := hI.1.1
  have hsk := hZ _ I.sk
  refine e7_com I (fun hN => ⟨fun _ => ?_, fun t ht => absurd ht (by simp)⟩) (fun c hc hc8 hx => ⟨fun h => absurd h (by simp), fun t3 ht => ?_⟩)
  · exact hR _ _ (e8_cn hO rfl hN ⟨fun _ => en rfl hsk, fun h => absurd rfl h⟩)
  · subst hx
    have ht : 1 + 3 + 1 + c = t3 := Option.some.inj ht
    subst ht
    have b13 : isB 13 := Or.inr (Or.inl rfl)
    refine ⟨isB.c (b := 1) (Or.inl rfl) hc8, ?_⟩
    by_cases hp : 1 ≤ p2 ∧ p2 ≤ 300
    · obtain ⟨p, hp3, rfl⟩ := bd_of (k := 300) (by decide) (by decide) hp
      refine e7_y hp ⟨fun _ => e7_think I hj (fun M2 h2 f2 => ?_), fun h => absurd h i1⟩
      refine e3_comerAt b13 hz (by rw [h2.1.1, h0]) (fun hN => absurd ⟨c, hc, rfl⟩ hN) (fun c' hc' hx => ⟨fun h => absurd h (by simp), fun t4 h4 => ?_⟩)
      have : c' = c := by rw [nI_eq (by omega) (by omega)] at hx; exact hx.symm
      subst this
      cases h4
      have kp := kp_miK (o := -1) hz p
      refine ⟨isB.c b13 hc8, e3_advance b13 (I.n1k hj) hO rfl hp3 em (by omega) h2 (fun M3 h3 f3 => ?_)⟩
      have F3 : FI [] M M3 := f2.t0 (FI.A13 f3)
      rintro v15 hv
      have hv : v15 = miK (-1) (M 75) p (cx c' 9) := by rw [hv]; exact h3.2.1 c' (by rw [kp.co]; exact hc) 9 (by decide)
      subst hv
      refine e7_think (I.fi (Nat.le_refl _) F3) hj (fun M4 h4 f4 => ?_)
      rw [F3.e75] at h4
      refine e3_home (c := c') hO h4 (fun M5 h5 f5 => ?_) hc8
      have h5' := nz_hc hz rfl h5
      have kh := kp_hoK (S := M 75) (c := c') _ hz
      have khz := kh.tr (kp_nz (c := c'))
      refine e3_advance b13 (I.n1k hj) (hO.kp khz) rfl hp3 (by rw [nz_lo (by decide), hoK_lo (by decide)]; exact em) (by omega) h5' (fun M6 h6 f6 => ?_)
      have F6 : FI [] M M6 := F3.t0 (f4.t0 (f5.t0 (FI.A13 f6)))
      have kn : nCo (hoK (M 75) c' (nCo (M 75))) ≤ 8 := by rw [kh.co]; exact hz
      rw [nz_miK hc8 kn] at h6
      have e6 : M6 (13 + 3 + 1 + c') 9 = miK (nI c') (hoK (M 75) c' (nCo (M 75))) p (cx c' 9) := by
        rw [h6.2.1 c' (by rw [kp_nz.co, (kp_miK kn p).co, kh.co]; exact hc) 9 (by decide)]
        exact nz_cx (by decide) (by decide)
      rw [e6]
      refine hR _ _ (e8_cy hO F6.e75 hc ⟨fun h => absurd h i1, fun _ => e8_y (lo := 1) (hi := 300) rfl (by decide) (by decide) hp ⟨fun _ => e8_laysBy (fun M7 a1 a2 => ?_), fun h => absurd h i1⟩⟩)
      have e7 : M7 75 = M 75 := by rw [a2 75 (by decide), F6.e75]
      have eo : M7 74 13 = -1 := by rw [a2 74 (by decide), F6.2.1 13 (by decide) (by simp)]; exact I.o
      refine e8_many rfl hp3 (by rw [e7]; exact hO) (fun M8 b5 b4 bF => e8_of (w := 9) rfl (by omega) (by decide) (e8_laysBack (fun M9 d1 d2 => ?_)))
      rw [e7, eo] at b5
      have e87 : ∀ k : Nat, k < 108 → M8 87 k = M 75 k := fun k hk => by rw [bF 87 (by decide) (by decide) (by decide) (by decide) (by decide), a1 k hk, F6.e75]
      have e9 : M9 75 = M 75 := by rw [d1, b5]; exact lb_e e87 kp
      have q9 : FQ M6 M9 := (FQ.of87 a2).tr ((FQ.ofG bF b4).tr (FQ.of5 d2))
      refine k8_alone hO hc hp3 e9 (fun k hk => by rw [d2 87 (by decide)]; exact e87 k hk) (by rw [d2 74 (by decide), b4, pk_un (by decide), eo]) (fun M10 q10 e10 => ?_)
      rw [b5]
      exact en rfl (hZ _ (I.fi (by omega) (F6.t0 (FI.ofQ (q9.tr q10) (by rw [e10, F6.e75])))))
    · exact e7_n hp ⟨fun h => absurd rfl h, fun _ => hR _ _ (e8_cy hO rfl hc ⟨fun h => absurd h i1, fun _ => e8_n (lo := 1) (hi := 300) rfl (by decide) (by decide) hp ⟨fun h => absurd rfl h, fun _ => en rfl hsk⟩⟩)⟩
end OPS8
