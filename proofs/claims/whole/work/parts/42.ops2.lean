theorem RI.uc {S : Sc} {m c w : Nat} {x : Int32} (h : RI S m) (hw : w < 12) (h0 : w = 0 → bd x 5) (h3 : w = 3 → bd x 9) (h4 : w = 4 → bd x 9) (h9 : w = 9 → bd x (9 * m)) (h11 : w = 11 → bd x m) : RI (upd S (cx c w) x) m := by
  obtain ⟨⟨a, b, d, e, f⟩, h⟩ := h
  have n1 : ∀ k : Nat, k < 12 → k ≠ cx c w := fun k hk => Ne.symm (cx_lo hk)
  have hz : nCo (upd S (cx c w) x) = nCo S := by unfold nCo; rw [pk_un (n1 0 (by decide))]
  refine ⟨⟨by rw [pk_un (n1 _ (by decide))]; exact a, by rw [pk_un (n1 _ (by decide))]; exact b, by rw [pk_un (n1 _ (by decide))]; exact d, by rw [pk_un (n1 _ (by decide))]; exact e, by rw [pk_un (n1 _ (by decide))]; exact f⟩, fun q hq => ?_⟩
  rw [hz] at hq
  obtain ⟨k0, k3, k4, k9, k11⟩ := h q hq
  have go : ∀ (v : Nat) (y : Nat), v < 12 → bd (S (cx q v)) y → (w = v → bd x y) → bd (upd S (cx c w) x (cx q v)) y := by
    intro v y hv h1 h2
    by_cases e : cx q v = cx c w
    · rw [e, pk_us]; exact h2 (by unfold cx at e; omega)
    · rw [pk_un e]; exact h1
  exact ⟨go 0 5 (by decide) k0 h0, go 3 9 (by decide) k3 h3, go 4 9 (by decide) k4 h4, go 9 _ (by decide) k9 h9, go 11 _ (by decide) k11 h11⟩
theorem RI.ug {S : Sc} {m k : Nat} {x : Int32} (h : RI S m) (hk : k < 12) (hk0 : k ≠ 0) (h2 : k = 2 → bd x m) (h4 : k = 4 → bd x 99) (h5 : k = 5 → bd x 99) (h6 : k = 6 → bd x 9) (h9 : k = 9 → bd x (8 * m)) : RI (upd S k x) m := by
  obtain ⟨⟨a, b, d, e, f⟩, h⟩ := h
  have hz : nCo (upd S k x) = nCo S := by unfold nCo; rw [pk_un (Ne.symm hk0)]
  have go : ∀ (v : Nat) (y : Nat), bd (S v) y → (k = v → bd x y) → bd (upd S k x v) y := by
    intro v y h1 h2
    by_cases e : v = k
    · rw [e, pk_us]; exact h2 e.symm
    · rw [pk_un e]; exact h1
  refine ⟨⟨go _ _ a h2, go _ _ b h4, go _ _ d h5, go _ _ e h6, go _ _ f h9⟩, fun q hq => ?_⟩
  rw [hz] at hq
  exact RC.o (fun w hw => pk_un (cx_lo hk)) (h q hq)
theorem bd_of {x lo hi : Int32} {k : Nat} (h0 : 0 ≤ lo) (hk : hi.toInt = k) (h : lo ≤ x ∧ x ≤ hi) : bd x k := by
  obtain ⟨j, h1, h2⟩ := nI_of2 hk (Int32.not_lt.mpr (Int32.le_trans h0 h.1)) h.2
  exact ⟨j, h1, h2⟩
def und (k w : Nat) : Int32 := if k = w ∨ w = 0 ∨ (w = 1 ∧ k = 3) ∨ (w = 2 ∧ k = 4) then 1 else 0
section OPS2
variable {n j : Nat} {M : Mm} {Z : Mm → Prop} {R : Mm → Int32 → Prop} {K : Mm → Int32 → Prop}
theorem u_step {p0 p1 x3 : Int32} {f k : Nat} (hk : k ≤ 5) (h6 : ¬ 6 ≤ x3) (h1 : nI k = p1 → K M 1) (h2 : ¬ nI k = p1 → wl_X7_isUnder_4 n p0 p1 K f M (([-1, 0, 0, 1, 2, 0] : List Int32).getD k 0) (x3 + 1)) : wl_X7_isUnder_4 n p0 p1 K (f + 1) M (nI k) x3 := by
  rw [wl_X7_isUnder_4]
  refine ⟨fun h => absurd h h6, fun _ => e7_y ⟨nI_pos' (by omega), by rw [show (6 - 1 : Int32) = nI 5 from by decide]; exact nI_le hk (by decide)⟩ ⟨Or.inr rfl, fun h => absurd h i1, fun _ => ⟨fun h => ⟨vp_in_nI (by omega) (by decide), ?_⟩, h1⟩⟩⟩
  rintro v3 rfl v4 rfl
  rw [nI_clamp (by omega)]
  exact h2 h
theorem u_end {p0 p1 x3 : Int32} {f : Nat} (hK : K M 0) : wl_X7_isUnder_4 n p0 p1 K (f + 1) M (-1) x3 := by
  rw [wl_X7_isUnder_4]
  exact ⟨fun _ => hK, fun _ => e7_n (by decide) ⟨Or.inl rfl, fun _ => hK, fun h => absurd rfl h⟩⟩
theorem e7_under {k w : Nat} (hk : k ≤ 5) (hw : w ≤ 5) (hK : K M (und k w)) : wp_X7_isUnder n M (nI k) (nI w) K := by
  refine ⟨4, ?_⟩
  have hy : ∀ q : Nat, q ≤ 5 → und k w = und q w → nI q = nI w → K M 1 := by
    intro q hq e h
    rw [nI_eq (by omega) (by omega)] at h
    have : und q w = 1 := by unfold und; rw [if_pos (Or.inl h)]
    rw [e, this] at hK; exact hK
  have L0 : und k w = und 0 w → ∀ (f : Nat) (x3 : Int32), ¬ 6 ≤ x3 → wl_X7_isUnder_4 n (nI k) (nI w) K (f + 2) M (nI 0) x3 := by
    intro e f x3 h6
    refine u_step (by decide) h6 (hy 0 (by decide) e) (fun h => ?_)
    have h0 : ¬ 0 = w := fun q => h (by rw [q])
    have : und 0 w = 0 := by unfold und; rw [if_neg (by omega)]
    rw [e, this] at hK
    exact u_end hK
  have L1 : ∀ q : Nat, (q = 1 ∨ q = 2 ∨ q = 5) → und k w = und q w → ∀ (f : Nat) (x3 : Int32), ¬ 6 ≤ x3 → ¬ 6 ≤ x3 + 1 → wl_X7_isUnder_4 n (nI k) (nI w) K (f + 3) M (nI q) x3 := by
    intro q hq e f x3 h6 h7
    refine u_step (by omega) h6 (hy q (by omega) e) (fun h => ?_)
    have h0 : ¬ q = w := fun z => h (by rw [z])
    have e2 : und k w = und 0 w := by
      rw [e]; unfold und
      by_cases z : w = 0
      · rw [if_pos (by omega), if_pos (by omega)]
      · rw [if_neg (by omega), if_neg (by omega)]
    have := L0 e2 f (x3 + 1) h7
    rcases hq with rfl | rfl | rfl <;> exact this
  have hc : k = 0 ∨ (k = 1 ∨ k = 2 ∨ k = 5) ∨ k = 3 ∨ k = 4 := by omega
  rcases hc with rfl | h | rfl | rfl
  · exact L0 rfl 2 0 (by decide)
  · exact L1 k h rfl 1 0 (by decide) (by decide)
  · refine u_step (by decide) (by decide) (hy 3 (by decide) rfl) (fun h => ?_)
    have h0 : ¬ 3 = w := fun q => h (by rw [q])
    refine L1 1 (by decide) ?_ 0 (0 + 1) (by decide) (by decide)
    unfold und
    by_cases z : w = 0 ∨ w = 1
    · rw [if_pos (by omega), if_pos (by omega)]
    · rw [if_neg (by omega), if_neg (by omega)]
  · refine u_step (by decide) (by decide) (hy 4 (by decide) rfl) (fun h => ?_)
    have h0 : ¬ 4 = w := fun q => h (by rw [q])
    refine L1 2 (by decide) ?_ 0 (0 + 1) (by decide) (by decide)
    unfold und
    by_cases z : w = 0 ∨ w = 2
    · rw [if_pos (by omega), if_pos (by omega)]
    · rw [if_neg (by omega), if_neg (by omega)]
theorem e8_isOf {k w : Nat} (hk : k ≤ 5) (hw : w ≤ 5) (hK : K M (und k w)) : wp_X8_isOf n M (nI k) (nI w) K := by
  have e : ∀ a b : Nat, a ≤ 5 → b ≤ 5 → (nI a = nI b ↔ a = b) := fun a b ha hb => nI_eq (by omega) (by omega)
  have y : (k = w ∨ w = 0 ∨ (w = 1 ∧ k = 3) ∨ (w = 2 ∧ k = 4)) → K M 1 := fun h => by unfold und at hK; rw [if_pos h] at hK; exact hK
  have z : ¬ (k = w ∨ w = 0 ∨ (w = 1 ∧ k = 3) ∨ (w = 2 ∧ k = 4)) → K M 0 := fun h => by unfold und at hK; rw [if_neg h] at hK; exact hK
  unfold wp_X8_isOf wb_X8_isOf_19
  rw [show (0 : Int32) = nI 0 from rfl, show (1 : Int32) = nI 1 from rfl, show (2 : Int32) = nI 2 from rfl, show (3 : Int32) = nI 3 from rfl, show (4 : Int32) = nI 4 from rfl, e k w hk hw, e w 0 hw (by decide), e w 1 hw (by decide), e w 2 hw (by decide), e k 3 hk (by decide), e k 4 hk (by decide)]
  refine ⟨fun h => y (by omega), fun h1 => ⟨fun h => y (by omega), fun h2 => ⟨fun h3 => ⟨fun h => z (by omega), fun h4 => ⟨fun h => z (by omega), fun h => y (by omega)⟩⟩, fun h3 => ⟨fun h => y (by omega), fun h4 => ⟨fun h => z (by omega), fun h5 => ⟨fun h => z (by omega), fun h => y (by omega)⟩⟩⟩⟩⟩⟩
theorem kind_y {x : Int32} (h : 0 ≤ x ∧ x ≤ 5) (k : K M 1) : wp_X7_isKind n M x K := e7_y (lo := 0) (hi := 6 - 1) h ⟨Or.inr rfl, k⟩
theorem kind_n {x : Int32} (h : ¬ (0 ≤ x ∧ x ≤ 5)) (k : K M 0) : wp_X7_isKind n M x K := e7_n (lo := 0) (hi := 6 - 1) h ⟨Or.inl rfl, k⟩
/-- a call that names a comer -/
theorem e7_com {K : Mm → Option Nat → Prop} {p1 : Int32} (I : Inv n j M) (hN : (¬ ∃ c : Nat, c < nCo (M 75) ∧ p1 = nI c) → K M none) (hY : ∀ c : Nat, c < nCo (M 75) → c < 8 → p1 = nI c → K M (some (1 + 3 + 1 + c))) : wp_X3_comerAt n M 1 p1 K := by
  obtain ⟨hS, hO, -⟩ := I.a
  obtain ⟨hz, h0⟩ := hO.co
  exact e3_comerAt (Or.inl rfl) hz (by rw [hS.1.1, h0]) hN (fun c hc hx => hY c hc (by omega) hx)
theorem op_as {p1 p2 : Int32} (I : Inv n j M) (hZ : ∀ M' : Mm, Inv n (j + 1) M' → Z M') (hR : ∀ (M1 : Mm) (r : Int32), wp_X8_as n M1 p1 p2 (fun M3 r4 => (r = r4 → Z M3) ∧ (¬ r = r4 → False)) → R M1 r) : wp_X7_as n M p1 p2 R := by
  obtain ⟨hS, hO, hI⟩ := I.a
  have hz := hZ _ I.sk
  refine e7_com I (fun hN => ⟨fun _ => ?_, fun t ht => absurd ht (by simp)⟩) (fun c hc hc8 hx => ⟨fun h => absurd h (by simp), fun t3 ht => ?_⟩)
  · exact hR _ _ (e8_cn hO rfl hN ⟨fun _ => en rfl hz, fun h => absurd rfl h⟩)
  · subst hx
    have ht : 1 + 3 + 1 + c = t3 := Option.some.inj ht
    subst ht
    refine ⟨isB.c (b := 1) (Or.inl rfl) hc8, ?_⟩
    by_cases hp : 0 ≤ p2 ∧ p2 ≤ 5
    · obtain ⟨w, hw, rfl⟩ := bd_of (k := 5) (by decide) (by decide) hp
      obtain ⟨k, hk, ek⟩ := (hI.2 c hc).1
      refine kind_y hp ⟨fun _ => ?_, fun h => absurd h i1⟩
      have hr : ∀ r : Int32, (und k w = 0 → r = -1000000012) → (¬ und k w = 0 → r = M 75 (cx c 1)) → R M r := by
        intro r h1 h2
        refine hR _ _ (e8_cy hO rfl hc ⟨fun h => absurd h i1, fun _ => e8_y (lo := 0) (hi := 5) rfl (by decide) (by decide) hp ⟨fun _ => e8_of (w := 0) rfl (by omega) (by decide) ?_, fun h => absurd h i1⟩⟩)
        rw [ek]
        exact e8_isOf hk hw ⟨fun h => en (h1 h) hz, fun h => e8_of (w := 1) rfl (by omega) (by decide) (en (h2 h) hz)⟩
      rw [hS.2.1 c hc 0 (by decide), ek]
      exact e7_under hk hw ⟨fun h => hr _ (fun _ => rfl) (fun q => absurd h q), fun h => hr _ (fun q => absurd q h) (fun _ => hS.2.1 c hc 1 (by decide))⟩
    · exact kind_n hp ⟨fun h => absurd rfl h, fun _ => hR _ _ (e8_cy hO rfl hc ⟨fun h => absurd h i1, fun _ => e8_n (lo := 0) (hi := 5) rfl (by decide) (by decide) hp ⟨fun h => absurd rfl h, fun _ => en rfl hz⟩⟩)⟩
theorem Inv.wc {c w : Nat} {x : Int32} (I : Inv n j M) (hc : c < nCo (M 75)) (hw : w < 12) (h0 : w = 0 → bd x 5) (h3 : w = 3 → bd x 9) (h4 : w = 4 → bd x 9) (hx : w < 9) : Inv n (j + 1) (wr (wr M (1 + 3 + 1 + c) w x) 75 (cx c w) x) := by
  obtain ⟨hS, hO, hI⟩ := I.a
  have hz := hO.co.1
  refine I.cs (by omega) (FrB.A (FrB.wc (Or.inl rfl) (by omega) hw)) (hS.wc (x := x) (Or.inl rfl) hc hz hw) (hO.kp ((Kp.rf _).up cx_1 (cx_108 (by omega) hw))) ((hI.uc hw h0 h3 h4 (fun h => absurd h (by omega)) (fun h => absurd h (by omega))).mono (by omega)) (FQ.of5 (fun i hi => wr_oth hi)) ?_
  rw [wr_row, wr_oth (by omega)]
theorem e8_bec {k : Nat} {x v : Int32} (hx : x = nI k) (hk : k < 3108) (h : K (wr M 75 k v) (M 75 k)) : wp_X8_becomes n M x v K := by
  subst hx
  refine ⟨inS hk, ?_⟩
  rintro v1 rfl
  refine ⟨inS hk, ?_⟩
  rintro M2 rfl
  rw [nI_lt31 hk]; exact h
theorem op_turns {p1 p2 : Int32} (I : Inv n j M) (hZ : ∀ M' : Mm, Inv n (j + 1) M' → Z M') (hR : ∀ (M1 : Mm) (r : Int32), wp_X8_turns n M1 p1 p2 (fun M3 r4 => (r = r4 → Z M3) ∧ (¬ r = r4 → False)) → R M1 r) : wp_X7_turns n M p1 p2 R := by
  obtain ⟨hS, hO, hI⟩ := I.a
  have hz := hZ _ I.sk
  refine e7_com I (fun hN => ⟨fun _ => ?_, fun t ht => absurd ht (by simp)⟩) (fun c hc hc8 hx => ⟨fun h => absurd h (by simp), fun t3 ht => ?_⟩)
  · exact hR _ _ (e8_cn hO rfl hN ⟨fun _ => en rfl hz, fun h => absurd rfl h⟩)
  · subst hx
    have ht : 1 + 3 + 1 + c = t3 := Option.some.inj ht
    subst ht
    refine ⟨isB.c (b := 1) (Or.inl rfl) hc8, ?_⟩
    by_cases hp : 0 ≤ p2 ∧ p2 ≤ 5
    · refine kind_y hp ⟨fun _ => ?_, fun h => absurd h i1⟩
      rintro v7 rfl M8 rfl
      have e8 : wr M (1 + 3 + 1 + c) 0 p2 75 = M 75 := wr_oth (by omega)
      refine hR _ _ (e8_cy hO e8 hc ⟨fun h => absurd h i1, fun _ => e8_y (lo := 0) (hi := 5) rfl (by decide) (by decide) hp ⟨fun h => absurd h i1, fun _ => e8_bec (k := cx c 0) ?_ (cx_lt (by omega) (by decide)) ?_⟩⟩)
      · have := ixc c 0; rw [← this]; exact (Int32.add_zero _).symm
      · exact en (by rw [e8]; exact hS.2.1 c hc 0 (by decide)) (hZ _ (I.wc hc (by decide) (fun _ => bd_of (by decide) (by decide) hp) (fun h => absurd h (by decide)) (fun h => absurd h (by decide)) (by decide)))
    · exact kind_n hp ⟨fun h => absurd rfl h, fun _ => hR _ _ (e8_cy hO rfl hc ⟨fun h => absurd h i1, fun _ => e8_n (lo := 0) (hi := 5) rfl (by decide) (by decide) hp ⟨fun _ => en rfl hz, fun h => absurd rfl h⟩⟩)⟩
end OPS2
