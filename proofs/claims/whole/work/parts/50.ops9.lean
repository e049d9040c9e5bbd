/-! a comer more -/
def K8 (S T : Sc) : Prop := T 1 = S 1 ∧ ∀ k : Nat, 108 ≤ k → T k = S k
theorem K8.tx {S T : Sc} (h : K8 S T) : nTx T = nTx S := by unfold nTx; rw [h.1]
theorem K8.dp {S T : Sc} (h : K8 S T) (t : Nat) : ∀ k : Nat, dpt T t k = dpt S t k
  | 0 => rfl
  | k + 1 => by unfold dpt sW sV; rw [K8.dp h t k, h.2 _ (by omega), h.2 _ (by omega)]
theorem K8.lst {S T : Sc} (h : K8 S T) (key : Int32) : ∀ k : Nat, lastT T key k = lastT S key k
  | 0 => rfl
  | k + 1 => by unfold lastT; rw [K8.lst h key k, h.2 _ (by omega)]
theorem K8.tok {S T : Sc} (h : K8 S T) {t : Nat} (g : TOK S t) : TOK T t := by
  obtain ⟨m, w, a1, a2, a3, a4, a5, a6, a7, a8⟩ := g
  refine ⟨m, w, a1, by rw [h.2 _ (by omega)]; exact a2, by rw [h.2 _ (by omega)]; exact a3, a4, by rw [h.dp]; exact a5, by rw [h.2 _ (by omega)]; exact a6, fun k hk => by rw [h.dp]; exact a7 k hk, fun k hk => ?_⟩
  unfold sW sV
  rw [h.2 _ (by omega), h.2 _ (by omega), h.dp, h.2 (108 + 200 * t) (by omega)]
  exact a8 k hk
theorem K8.tr {n id t : Nat} {M : Mm} {S T : Sc} (k : K8 S T) (h : TR n M id S t) : TR n M id T t := by
  obtain ⟨h1, h3, h4, h5, h6, h7⟩ := h
  refine ⟨h1, by rw [k.2 _ (by omega)]; exact h3, by rw [k.2 _ (by omega)]; exact h4, by rw [k.2 _ (by omega)]; exact h5, by rw [k.2 _ (by omega)]; exact h6, fun q hq => ?_⟩
  rw [k.2 _ (by omega)] at hq
  have := h7 q hq
  unfold sW sV at this ⊢
  rw [k.2 _ (by omega), k.2 _ (by omega), k.2 _ (by omega)]
  exact this
def fld (k a v d : Int32) (w : Nat) : Int32 := if w = 0 then k else if w = 1 then a else if w = 2 then v else if w = 3 ∨ w = 4 then d else 0
def adT (S : Sc) (k a v d : Int32) : Sc := fun q => if q = 0 then nI (nCo S + 1) else if 12 + 12 * nCo S ≤ q ∧ q < 24 + 12 * nCo S then fld k a v d (q - (12 + 12 * nCo S)) else S q
section AD
variable {S : Sc} {k a v d : Int32}
theorem adT_0 : adT S k a v d 0 = nI (nCo S + 1) := if_pos rfl
theorem adT_lo {q : Nat} (h : q < 12) (h0 : q ≠ 0) : adT S k a v d q = S q := by
  unfold adT; rw [if_neg h0, if_neg (by omega)]
theorem adT_hi {q : Nat} (hz : nCo S < 8) (h : 108 ≤ q) : adT S k a v d q = S q := by
  unfold adT; rw [if_neg (by omega), if_neg (by omega)]
theorem adT_old {c w : Nat} (hc : c < nCo S) (hw : w < 12) : adT S k a v d (cx c w) = S (cx c w) := by
  unfold adT cx; rw [if_neg (by omega), if_neg (by omega)]
theorem adT_new {w : Nat} (hw : w < 12) : adT S k a v d (cx (nCo S) w) = fld k a v d w := by
  unfold adT cx; rw [if_neg (by omega), if_pos (by omega)]; congr 1; omega
theorem adT_co (hz : nCo S < 8) : nCo (adT S k a v d) = nCo S + 1 := by
  unfold nCo; rw [adT_0, nI_clamp (by omega)]; rfl
theorem adT_K (hz : nCo S < 8) : K8 S (adT S k a v d) := ⟨adT_lo (by decide) (by decide), fun q hq => adT_hi hz hq⟩
theorem adT_ok (hO : SOK S) (hz : nCo S < 8) : SOK (adT S k a v d) := by
  have h8 := adT_K (k := k) (a := a) (v := v) (d := d) hz
  obtain ⟨x14, x1, xt⟩ := hO.tx
  exact ⟨⟨nCo S + 1, by omega, adT_0⟩, nTx S, x14, by rw [h8.1]; exact x1, fun t ht => h8.tok (xt t ht)⟩
theorem adT_ri {m : Nat} (hI : RI S m) (hz : nCo S < 8) (hk : bd k 5) (hd : bd d 9) : RI (adT S k a v d) m := by
  obtain ⟨g, c⟩ := hI
  refine ⟨?_, fun q hq => ?_⟩
  · unfold RG
    rw [adT_lo (by decide) (by decide), adT_lo (by decide) (by decide), adT_lo (by decide) (by decide), adT_lo (by decide) (by decide), adT_lo (by decide) (by decide)]; exact g
  · rw [adT_co hz] at hq
    by_cases e : q = nCo S
    · subst e
      unfold RC
      rw [adT_new (by decide), adT_new (by decide), adT_new (by decide), adT_new (by decide), adT_new (by decide)]
      exact ⟨hk, hd, hd, bd_0 _, bd_0 _⟩
    · exact RC.o (fun w hw => adT_old (by omega) hw) (c q (by omega))
end AD
section OPS9
variable {n j : Nat} {M : Mm} {Z : Mm → Prop} {R : Mm → Int32 → Prop} {K : Mm → Int32 → Prop}
theorem e3_admit {K : Mm → Prop} {S : Sc} {k a v d : Int32} (hO : SOK S) (hz : nCo S < 8) (hR : SR n M 1 S) (hK : ∀ M' : Mm, SR n M' 1 (adT S k a v d) → FrA 1 M M' → K M') : wp_X3_admit n M 1 k a v d K := by
  have h4 : M 1 4 = nI (nCo S) := by rw [hR.1.1]; exact hO.co.2
  refine ⟨rfl, fun _ => ?_, fun h => absurd h (by rw [h4, show (8 : Int32) = nI 8 from rfl]; exact fun q => q (nI_lt hz (by decide)))⟩
  rw [h4, nI_clamp (by omega)]
  have ht := isB.c (b := 1) (c := nCo S) (Or.inl rfl) hz
  refine ⟨in8 hz, ht, ?_⟩
  rintro M1 rfl M2 rfl M3 rfl M4 rfl M5 rfl M6 rfl M7 rfl M8 rfl M9 rfl M10 rfl M11 rfl M12 rfl
  have hw : ∀ w : Nat, w < 12 → wr (wr (wr (wr (wr (wr (wr (wr (wr (wr (wr (wr M (1 + 3 + 1 + nCo S) 0 k) (1 + 3 + 1 + nCo S) 1 a) (1 + 3 + 1 + nCo S) 2 v) (1 + 3 + 1 + nCo S) 3 d) (1 + 3 + 1 + nCo S) 4 d) (1 + 3 + 1 + nCo S) 5 0) (1 + 3 + 1 + nCo S) 6 0) (1 + 3 + 1 + nCo S) 7 0) (1 + 3 + 1 + nCo S) 8 0) (1 + 3 + 1 + nCo S) 9 0) (1 + 3 + 1 + nCo S) 10 0) (1 + 3 + 1 + nCo S) 11 0 (1 + 3 + 1 + nCo S) w = fld k a v d w := by
    intro w hw
    have : w = 0 ∨ w = 1 ∨ w = 2 ∨ w = 3 ∨ w = 4 ∨ w = 5 ∨ w = 6 ∨ w = 7 ∨ w = 8 ∨ w = 9 ∨ w = 10 ∨ w = 11 := by omega
    rcases this with rfl | rfl | rfl | rfl | rfl | rfl | rfl | rfl | rfl | rfl | rfl | rfl <;> simp [wr_row, upd, fld]
  have ho : ∀ i : Nat, i ≠ 1 + 3 + 1 + nCo S → wr (wr (wr (wr (wr (wr (wr (wr (wr (wr (wr (wr M (1 + 3 + 1 + nCo S) 0 k) (1 + 3 + 1 + nCo S) 1 a) (1 + 3 + 1 + nCo S) 2 v) (1 + 3 + 1 + nCo S) 3 d) (1 + 3 + 1 + nCo S) 4 d) (1 + 3 + 1 + nCo S) 5 0) (1 + 3 + 1 + nCo S) 6 0) (1 + 3 + 1 + nCo S) 7 0) (1 + 3 + 1 + nCo S) 8 0) (1 + 3 + 1 + nCo S) 9 0) (1 + 3 + 1 + nCo S) 10 0) (1 + 3 + 1 + nCo S) 11 0 i = M i := fun i hi => by simp only [wr_oth hi]
  generalize wr (wr (wr (wr (wr (wr (wr (wr (wr (wr (wr (wr M (1 + 3 + 1 + nCo S) 0 k) (1 + 3 + 1 + nCo S) 1 a) (1 + 3 + 1 + nCo S) 2 v) (1 + 3 + 1 + nCo S) 3 d) (1 + 3 + 1 + nCo S) 4 d) (1 + 3 + 1 + nCo S) 5 0) (1 + 3 + 1 + nCo S) 6 0) (1 + 3 + 1 + nCo S) 7 0) (1 + 3 + 1 + nCo S) 8 0) (1 + 3 + 1 + nCo S) 9 0) (1 + 3 + 1 + nCo S) 10 0) (1 + 3 + 1 + nCo S) 11 0 = A at hw ho ⊢
  rintro M13 rfl
  rw [ho 1 (by omega), h4, nI_s]
  have h8 := adT_K (S := S) (k := k) (a := a) (v := v) (d := d) hz
  have hall : ∀ i : Nat, i ≠ 1 → i ≠ 1 + 3 + 1 + nCo S → wr A 1 4 (nI (nCo S + 1)) i = M i := fun i x y => by rw [wr_oth x, ho i y]
  obtain ⟨g0, g1, g2, g3, g4, g5, g6, g7, g8, g9, g10⟩ := hR.1
  refine hK _ ⟨?_, fun c hc w hw' => ?_, fun q hq => ?_, fun t ht => ?_⟩ ⟨fun i hi hp => hall i (by omega) (by omega), fun i hp => by have := hiP hp; rw [hall i (by omega) (by omega)], hall _ (by omega) (by omega), hall _ (by omega) (by omega)⟩
  · unfold SRg
    rw [adT_0, adT_lo (by decide) (by decide), adT_lo (by decide) (by decide), adT_lo (by decide) (by decide), adT_lo (by decide) (by decide), adT_lo (by decide) (by decide), adT_lo (by decide) (by decide), adT_lo (by decide) (by decide), adT_lo (by decide) (by decide), adT_lo (by decide) (by decide), adT_lo (by decide) (by decide), wr_at, wr_idx (by decide), wr_idx (by decide), wr_idx (by decide), wr_idx (by decide), wr_idx (by decide), wr_idx (by decide), wr_idx (by decide), wr_idx (by decide), wr_idx (by decide), wr_idx (by decide), ho 1 (by omega)]
    exact ⟨rfl, g1, g2, g3, g4, g5, g6, g7, g8, g9, g10⟩
  · rw [adT_co hz] at hc
    rw [wr_oth (by omega)]
    by_cases e : c = nCo S
    · subst e; rw [hw w hw', adT_new hw']
    · rw [ho _ (by omega), adT_old (by omega) hw']; exact hR.2.1 c (by omega) w hw'
  · rw [hall _ (by omega) (by omega), h8.lst, h8.tx]; exact hR.2.2.1 q hq
  · rw [h8.tx] at ht
    obtain ⟨id, a1, a2⟩ := hR.2.2.2 t ht
    exact ⟨id, by rw [hall _ (by omega) (by omega)]; exact a1, h8.tr (a2.eq (fun i hi => hall i (by omega) (by omega)))⟩
theorem e8_comes {K : Mm → Prop} {S : Sc} {k a v d : Int32} (hO : SOK S) (hz : nCo S < 8) (eS : M 75 = S) (hK : ∀ M' : Mm, M' 75 = adT S k a v d → (∀ i : Nat, i ≠ 75 → M' i = M i) → K M') : wp_X8_comes n M k a v d K := by
  obtain ⟨-, h0⟩ := hO.co
  rintro v1 hv
  have hv1 : v1 = nI (12 + 12 * nCo S) := by rw [hv, eS, h0, show (12 : Int32) = nI 12 from rfl, pk_mul, nI_add]
  subst hv1
  clear hv
  refine ⟨13, ?_⟩
  suffices h : ∀ (q w : Nat) (M1 : Mm), w + q = 12 → M1 75 = (fun x => if 12 + 12 * nCo S ≤ x ∧ x < 12 + 12 * nCo S + w then 0 else S x) → (∀ i : Nat, i ≠ 75 → M1 i = M i) → wl_X8_comes_17 n k a v d K (q + 1) M1 (nI (12 + 12 * nCo S)) (nI w) by
    exact h 12 0 M (by omega) (by rw [eS]; funext x; rw [if_neg (by omega)]) (fun _ _ => rfl)
  intro q
  induction q with
  | zero =>
    intro w M1 hw h5 hF
    have : w = 12 := by omega
    subst this
    rw [wl_X8_comes_17]
    have ix : ∀ r : Nat, r < 12 → vp_in (nI (12 + 12 * nCo S) + nI r) 3108 ∧ (nI (12 + 12 * nCo S) + nI r).toNatClampNeg = 12 + 12 * nCo S + r := fun r hr => by rw [nI_add]; exact ⟨inS (by omega), nI_lt31 (by omega)⟩
    refine ⟨fun _ => ⟨inS (by omega), ?_⟩, fun h => absurd (by decide) h⟩
    rintro M2 rfl
    refine ⟨(ix 1 (by decide)).1, ?_⟩
    rintro M3 rfl
    refine ⟨(ix 2 (by decide)).1, ?_⟩
    rintro M4 rfl
    refine ⟨(ix 3 (by decide)).1, ?_⟩
    rintro M5 rfl
    refine ⟨(ix 4 (by decide)).1, ?_⟩
    rintro M6 rfl M7 rfl
    rw [show (1 : Int32) = nI 1 from rfl, show (2 : Int32) = nI 2 from rfl, show (3 : Int32) = nI 3 from rfl, show (4 : Int32) = nI 4 from rfl, (ix 1 (by decide)).2, (ix 2 (by decide)).2, (ix 3 (by decide)).2, (ix 4 (by decide)).2, nI_lt31 (by omega)]
    refine hK _ ?_ (fun i hi => by simp only [wr_oth hi]; exact hF i hi)
    simp only [wr_row, h5]
    funext x
    unfold upd adT fld
    dsimp only
    by_cases e0 : x = 0
    · subst e0
      simp only [if_pos]
      rw [if_neg (by omega), if_neg (by omega), if_neg (by omega), if_neg (by omega), if_neg (by omega), if_neg (by omega), h0, nI_add]
    · rw [if_neg e0, if_neg e0]
      by_cases e1 : 12 + 12 * nCo S ≤ x ∧ x < 24 + 12 * nCo S
      · rw [if_pos e1]
        obtain ⟨w, hw, rfl⟩ : ∃ w : Nat, w < 12 ∧ x = 12 + 12 * nCo S + w := ⟨x - (12 + 12 * nCo S), by omega, by omega⟩
        rw [show 12 + 12 * nCo S + w - (12 + 12 * nCo S) = w by omega]
        have : w = 0 ∨ w = 1 ∨ w = 2 ∨ w = 3 ∨ w = 4 ∨ 5 ≤ w := by omega
        rcases this with rfl | rfl | rfl | rfl | rfl | h5
        · simp
        · simp
        · simp
        · simp
        · simp
        · rw [if_neg (by omega), if_neg (by omega), if_neg (by omega), if_neg (by omega), if_neg (by omega), if_pos (by omega), if_neg (by omega), if_neg (by omega), if_neg (by omega), if_neg (by omega)]
      · rw [if_neg e1, if_neg (by omega), if_neg (by omega), if_neg (by omega), if_neg (by omega), if_neg (by omega), if_neg (by omega)]
  | succ q ih =>
    intro w M1 hw h5 hF
    rw [wl_X8_comes_17]
    refine ⟨fun h => absurd h (by rw [show (12 : Int32) = nI 12 from rfl]; exact nI_ge (by omega) (by decide)), fun _ => ?_⟩
    rw [nI_add]
    refine ⟨inS (by omega), ?_⟩
    rintro M2 rfl v9 rfl
    rw [nI_s, nI_lt31 (by omega)]
    refine ih (w + 1) _ (by omega) ?_ (fun i hi => by rw [wr_oth hi]; exact hF i hi)
    rw [wr_row, h5]
    funext x
    unfold upd
    dsimp only
    by_cases e : x = 12 + 12 * nCo S + w
    · rw [if_pos e, if_pos (by omega)]
    · rw [if_neg e]
      by_cases e2 : 12 + 12 * nCo S ≤ x ∧ x < 12 + 12 * nCo S + w
      · rw [if_pos e2, if_pos (by omega)]
      · rw [if_neg e2, if_neg (by omega)]
theorem op_comer {p1 p2 p3 p4 : Int32} (I : Inv n j M) (hZ : ∀ M' : Mm, Inv n (j + 1) M' → Z M') (hR : ∀ (M1 : Mm) (r : Int32), wp_X8_comer n M1 p1 p2 p3 p4 (fun M3 r4 => (r = r4 → Z M3) ∧ (¬ r = r4 → False)) → R M1 r) : wp_X7_comer n M p1 p2 p3 p4 R := by
  obtain ⟨hS, hO, hI⟩ := I.a
  obtain ⟨hz, h0⟩ := hO.co
  have hsk := hZ _ I.sk
  by_cases h1 : 0 ≤ p1 ∧ p1 ≤ 5
  · refine kind_y h1 ⟨fun h => absurd h i1, fun _ => e7_fit (w := 1) (by decide) (by decide) ?_⟩
    have g1 : ∀ {M1 : Mm} {r : Int32}, _ → R M1 r := fun {M1 r} h => hR M1 r (e8_y (lo := 0) (hi := 5) rfl (by decide) (by decide) h1 ⟨fun h => absurd h i1, fun _ => h⟩)
    by_cases h2 : hlo 1 ≤ p2 ∧ p2 ≤ hhi 1
    · rw [bi_t h2]
      refine ⟨fun h => absurd h i1, fun _ => e7_fit (w := 2) (by decide) (by decide) ?_⟩
      have g2 : ∀ {M1 : Mm} {r : Int32}, _ → R M1 r := fun {M1 r} h => g1 (e8_y (lo := hlo 1) (hi := hhi 1) rfl (by decide) (by decide) h2 ⟨fun h => absurd h i1, fun _ => h⟩)
      by_cases h3 : hlo 2 ≤ p3 ∧ p3 ≤ hhi 2
      · rw [bi_t h3]
        refine ⟨fun h => absurd h i1, fun _ => e7_fit (w := 3) (by decide) (by decide) ?_⟩
        have g3 : ∀ {M1 : Mm} {r : Int32}, _ → R M1 r := fun {M1 r} h => g2 (e8_y (lo := hlo 2) (hi := hhi 2) rfl (by decide) (by decide) h3 ⟨fun h => absurd h i1, fun _ => h⟩)
        by_cases h4 : hlo 3 ≤ p4 ∧ p4 ≤ hhi 3
        · rw [bi_t h4]
          refine ⟨fun _ => ?_, fun h => absurd h i1⟩
          have g4 : ∀ {M1 : Mm} {r : Int32}, _ → R M1 r := fun {M1 r} h => g3 (e8_y (lo := hlo 3) (hi := hhi 3) rfl (by decide) (by decide) h4 ⟨fun _ => h, fun h => absurd h i1⟩)
          have e4 : M 1 4 = nI (nCo (M 75)) := by rw [hS.1.1, h0]
          rw [e4]
          refine ⟨fun h => ?_, fun h => ?_⟩
          · rw [show (8 : Int32) = nI 8 from rfl, nI_ltI (by omega) (by decide)] at h
            refine e3_admit hO h hS (fun M1 a1 aF => g4 ⟨fun _ => ?_, fun hh => absurd hh ?_⟩)
            · have e5 : M1 75 = M 75 := aF.1 75 (by omega) (notP_lt (by decide))
              refine e8_comes hO h e5 (fun M2 b5 bF => en ?_ (hZ _ (I.cs (by omega) aF a1 (adT_ok hO h) (adT_ri (hI.mono (by omega)) h (bd_of (by decide) (by decide) h1) (bd_of (lo := hlo 3) (hi := hhi 3) (by decide) (by decide) h4)) (FQ.of5 bF) b5)))
              rw [b5, a1.1.1]
            · rw [aF.1 75 (by omega) (notP_lt (by decide)), h0, show (8 : Int32) = nI 8 from rfl, nI_eq (by omega) (by decide)]; omega
          · rw [show (8 : Int32) = nI 8 from rfl, nI_ltI (by omega) (by decide)] at h
            have : nCo (M 75) = 8 := by omega
            exact g4 ⟨fun hh => absurd (by rw [h0, this]; rfl) hh, fun _ => en rfl hsk⟩
        · rw [bi_f h4]
          exact ⟨fun h => absurd rfl h, fun _ => g3 (e8_n (lo := hlo 3) (hi := hhi 3) rfl (by decide) (by decide) h4 ⟨fun h => absurd rfl h, fun _ => en rfl hsk⟩)⟩
      · rw [bi_f h3]
        exact ⟨fun _ => g2 (e8_n (lo := hlo 2) (hi := hhi 2) rfl (by decide) (by decide) h3 ⟨fun _ => en rfl hsk, fun h => absurd rfl h⟩), fun h => absurd rfl h⟩
    · rw [bi_f h2]
      exact ⟨fun _ => g1 (e8_n (lo := hlo 1) (hi := hhi 1) rfl (by decide) (by decide) h2 ⟨fun _ => en rfl hsk, fun h => absurd rfl h⟩), fun h => absurd rfl h⟩
  · exact kind_n h1 ⟨fun _ => hR _ _ (e8_n (lo := 0) (hi := 5) rfl (by decide) (by decide) h1 ⟨fun _ => en rfl hsk, fun h => absurd rfl h⟩), fun h => absurd rfl h⟩
end OPS9
