/-! the calls, one by one: first helpers -/
theorem en {P : Prop} {r s : Int32} (e : r = s) (h : P) : (r = s → P) ∧ (¬ r = s → False) := ⟨fun _ => h, fun q => q e⟩
/-- what the reference may change beside s -/
def FQ (M M' : Mm) : Prop := (∀ i : Nat, ¬ scr i → i ≠ 75 → M' i = M i) ∧ (∀ q : Nat, (q = 3 ∨ q = 13 ∨ q = 17 ∨ q = 32) → M' 74 q = M 74 q) ∧ M' 14 = M 14
theorem FQ.rf (M : Mm) : FQ M M := ⟨fun _ _ _ => rfl, fun _ _ => rfl, rfl⟩
theorem FQ.tr {A B C : Mm} (h : FQ A B) (g : FQ B C) : FQ A C := ⟨fun i a b => (g.1 i a b).trans (h.1 i a b), fun q a => (g.2.1 q a).trans (h.2.1 q a), g.2.2.trans h.2.2⟩
theorem FQ.of5 {M M' : Mm} (h : ∀ i : Nat, i ≠ 75 → M' i = M i) : FQ M M' := ⟨fun i _ b => h i b, fun q _ => by rw [h 74 (by decide)], h 14 (by decide)⟩
theorem FQ.of87 {M M' : Mm} (h : ∀ i : Nat, i ≠ 87 → M' i = M i) : FQ M M' := ⟨fun i a _ => h i (fun e => a (by subst e; unfold scr; decide)), fun q _ => by rw [h 74 (by decide)], h 14 (by decide)⟩
theorem FQ.of8 {M M' : Mm} (h : Fr8 M M') : FQ M M' := ⟨fun i a _ => h i (fun e => a (by subst e; unfold scr; decide)) (fun e => a (by subst e; unfold scr; decide)), fun q _ => by rw [h 74 (by decide) (by decide)], h 14 (by decide) (by decide)⟩
theorem FQ.ofG {M M' : Mm} {x : Int32} (h : FrG M M') (e : M' 74 = upd (M 74) 14 x) : FQ M M' := by
  refine ⟨fun i a b => h i (fun e => a (by subst e; unfold scr; decide)) b (fun e => a (by subst e; unfold scr; decide)) (fun e => a (by subst e; unfold scr; decide)) (fun e => a (by subst e; unfold scr; decide)), fun q hq => ?_, h 14 (by decide) (by decide) (by decide) (by decide) (by decide)⟩
  rw [e, pk_un (by omega)]
theorem FQ.w74 {M : Mm} {k : Nat} {x : Int32} (hk : k ≠ 3 ∧ k ≠ 13 ∧ k ≠ 17 ∧ k ≠ 32) : FQ M (wr M 74 k x) := ⟨fun i a _ => wr_oth (fun e => a (by subst e; unfold scr; decide)), fun q hq => wr_idx (by omega), wr_oth (by decide)⟩
abbrev cSc : List Nat := [1, 4, 5, 6, 7, 8, 9, 10, 11, 12, 75]
theorem not_cSc {i : Nat} (h : i ∉ cSc) (h9 : i < 94) : (i = 0 ∨ i = 2 ∨ i = 3 ∨ 13 ≤ i) ∧ i ≠ 75 := by
  have : ∀ i : Nat, i < 94 → i ∉ cSc → (i = 0 ∨ i = 2 ∨ i = 3 ∨ 13 ≤ i) ∧ i ≠ 75 := by decide +kernel
  exact this i h9 h
theorem hiscr {i : Nat} (h : 94 ≤ i) : ¬ scr i := by unfold scr; omega
theorem hiP {i : Nat} (h : isP i) : 94 ≤ i := h.1
theorem FI.cs {M M1 M3 : Mm} (hF : FrA 1 M M1) (hQ : FQ M1 M3) : FI cSc M M3 := by
  refine ⟨fun i h9 hx hs => ?_, fun q hq _ => ?_, fun q => Or.inl ?_, fun i h9 hp => ?_, fun i hp => ?_⟩
  · obtain ⟨h1, h2⟩ := not_cSc hx h9
    rw [hQ.1 i hs h2]
    rcases h1 with rfl | rfl | rfl | h1
    · exact hF.1 0 (by omega) (notP_lt (by decide))
    · exact hF.2.2.1
    · exact hF.2.2.2
    · exact hF.1 i (by omega) (notP_lt h9)
  · rw [hQ.2.1 q hq, hF.1 74 (by omega) (notP_lt (by decide))]
  · rw [hQ.2.2, hF.1 14 (by omega) (notP_lt (by decide))]
  · rw [hQ.1 i (hiscr h9) (by omega), hF.1 i (by omega) hp]
  · have := hiP hp
    rw [hQ.1 i (hiscr this) (by omega), hF.2.1 i hp]
/-- s and the scene now changed alike -/
theorem Inv.cs {n j j' : Nat} {M M1 M3 : Mm} {T : Sc} (I : Inv n j M) (hj : j ≤ j') (hF : FrA 1 M M1) (hR : SR n M1 1 T) (hT : SOK T) (hr : RI T (300 * j')) (hQ : FQ M1 M3) (e : M3 75 = T) : Inv n j' M3 := by
  refine I.fi hj (FI.cs hF hQ) (a := Or.inl ⟨?_, by rw [e]; exact hT, by rw [e]; exact hr⟩)
  rw [e]
  exact hR.fi hT.co.1 (fun i a b => hQ.1 i (nscr (by omega)) (by omega)) (fun i a b => hQ.1 i (hiscr a) (by omega)) (fun i a => by have := hiP a; rw [hQ.1 i (hiscr this) (by omega)])
/-- nothing but scratch changed -/
theorem Inv.rd {n j : Nat} {M M1 M3 : Mm} (I : Inv n j M) (hF : FrP M M1) (hQ : FQ M1 M3) (e : M3 75 = M1 75) : Inv n (j + 1) M3 :=
  I.cs (by omega) (FrB.A (hF.B (Or.inl rfl))) (I.a.1.frp (Or.inl rfl) I.a.2.1.co.1 hF) I.a.2.1 (I.a.2.2.mono (by omega)) hQ (by rw [e, hF.lo (by decide)])
theorem Inv.sk {n j : Nat} {M : Mm} (I : Inv n j M) : Inv n (j + 1) M := I.up (by omega)
section OPS1
variable {n j : Nat} {M : Mm} {Z : Mm → Prop} {R : Mm → Int32 → Prop} {K : Mm → Int32 → Prop}
theorem e8_y {x lo hi : Int32} {a b c : Int64} (ha : a = x.toInt64) (hb : b = lo.toInt64) (hc : c = hi.toInt64) (h : lo ≤ x ∧ x ≤ hi) (k : K M 1) : wp_X8_isIn n M a b c K := e8_isIn ha hb hc (by rw [bi_t h]; exact k)
theorem e8_n {x lo hi : Int32} {a b c : Int64} (ha : a = x.toInt64) (hb : b = lo.toInt64) (hc : c = hi.toInt64) (h : ¬ (lo ≤ x ∧ x ≤ hi)) (k : K M 0) : wp_X8_isIn n M a b c K := e8_isIn ha hb hc (by rw [bi_f h]; exact k)
theorem e7_y {x lo hi : Int32} (h : lo ≤ x ∧ x ≤ hi) (k : K M 1) : wp_X7_within n M x lo hi K := e7_within (by rw [bi_t h]; exact k)
theorem e7_n {x lo hi : Int32} (h : ¬ (lo ≤ x ∧ x ≤ hi)) (k : K M 0) : wp_X7_within n M x lo hi K := e7_within (by rw [bi_f h]; exact k)
theorem e8_cy {c : Nat} {S : Sc} (hS : SOK S) (e : M 75 = S) (hc : c < nCo S) (k : K M 1) : wp_X8_isComer n M (nI c) K := e8_isComer (by rw [e, hS.co.2, bi_t ((le_pred (by have := hS.co.1; omega)).mpr ⟨c, hc, rfl⟩)]; exact k)
theorem e8_cn {x : Int32} {S : Sc} (hS : SOK S) (e : M 75 = S) (hc : ¬ ∃ c : Nat, c < nCo S ∧ x = nI c) (k : K M 0) : wp_X8_isComer n M x K := e8_isComer (by rw [e, hS.co.2, bi_f (fun h => hc ((le_pred (by have := hS.co.1; omega)).mp h))]; exact k)
theorem i1 : ¬ (1 : Int32) = 0 := by decide
theorem op_seed {p1 : Int32} (I : Inv n j M) (hZ : ∀ M' : Mm, Inv n (j + 1) M' → Z M') (hR : ∀ (M1 : Mm) (r : Int32), wp_X8_seed n M1 p1 (fun M3 r4 => (r = r4 → Z M3) ∧ (¬ r = r4 → False)) → R M1 r) : wp_X7_seed n M p1 R := by
  rintro v1 rfl M2 rfl
  refine hR _ _ ⟨inS (k := 10) (by decide), ?_⟩
  rintro v rfl
  refine ⟨inS (k := 10) (by decide), ?_⟩
  rintro M3 rfl
  have hg := I.a
  refine en ?_ (hZ _ (I.cs (by omega) (FrB.A (FrB.wb (Or.inl rfl))) (hg.1.wg (k := 10) (x := p1) (Or.inl rfl) (by decide) (by decide)) (hg.2.1.kp ((Kp.rf _).up (by decide) (by decide))) (?_) (FQ.of5 (fun i hi => wr_oth hi)) ?_))
  · rw [wr_oth (by decide)]
    exact hg.1.1.2.2.2.2.2.2.2.2.2.2
  · exact (show RI (upd (M 75) 10 p1) (300 * j) from ⟨((RK.rf _).ug (by decide)).g hg.2.2.1, fun c hc => ((RK.rf _).ug (by decide)).c (hg.2.2.2 c hc)⟩).mono (by omega)
  · rw [wr_row, wr_oth (by decide)]; rfl
theorem sub55 (x : Int32) : (60 - x) - 5 = 55 - x := by
  rw [Int32.sub_eq_add_neg, Int32.sub_eq_add_neg, Int32.sub_eq_add_neg, Int32.add_assoc, Int32.add_comm (-x) (-5), ← Int32.add_assoc, show (60 : Int32) + -5 = 55 from by decide]
theorem e0_worth {b c : Nat} {k a : Int32} (hc : tp (b + c) = 5) (h0 : M (b + c) 0 = k) (h1 : M (b + c) 1 = a) (hK : K M (wth k a)) : wp_X0_worth n M (b + c) K := by
  refine ⟨hc, ?_⟩
  rw [h0, h1]
  unfold wth at hK
  refine ⟨fun h => ?_, fun h => ?_, fun h => ?_, fun h => ?_, fun h => ?_, fun a1 a2 a3 a4 a5 => ?_⟩
  · rw [if_pos h] at hK; exact hK
  · subst h; exact hK
  · subst h; exact hK
  · subst h; rw [sub55]; exact hK
  · subst h; exact hK
  · rw [if_neg a1, if_neg a2, if_neg a3, if_neg a4, if_neg a5] at hK; exact hK
theorem e8_worth {c : Nat} (hc : c < 8) (hK : K M (wrt (M 75) c)) : wp_X8_worth n M (nI c) K := by
  refine e8_of (w := 1) rfl (by omega) (by decide) (e8_of (w := 0) rfl (by omega) (by decide) ?_)
  rw [wrt_e] at hK
  generalize M 75 (cx c 0) = k at hK ⊢
  generalize M 75 (cx c 1) = a at hK ⊢
  unfold wth at hK
  refine ⟨fun h => ?_, fun h => ?_, fun h => ?_, fun h => ?_, fun h => ?_, fun a1 a2 a3 a4 a5 => ?_⟩
  · rw [if_pos h] at hK; exact hK
  · subst h; exact hK
  · subst h; exact hK
  · subst h; exact hK
  · subst h; exact hK
  · rw [if_neg a1, if_neg a2, if_neg a3, if_neg a4, if_neg a5] at hK; exact hK
theorem n14 {x : Int32} (h : 0 ≤ x ∧ x ≤ 14) : ∃ w : Nat, w ≤ 14 ∧ x = nI w := nI_of2 (M := 14) (n := 14) rfl (Int32.not_lt.mpr h.1) h.2
theorem Inv.n1k (I : Inv n j M) (hj : j ≤ 64) : n ≤ 1000 := by have := I.n.2.2; omega
theorem op_told {p1 p2 : Int32} (I : Inv n j M) (hj : j ≤ 64) (hZ : ∀ M' : Mm, Inv n (j + 1) M' → Z M') (hR : ∀ (M1 : Mm) (r : Int32), wp_X8_told n M1 p1 p2 (fun M3 r4 => (r = r4 → Z M3) ∧ (¬ r = r4 → False)) → R M1 r) : wp_X7_told n M p1 p2 R := by
  obtain ⟨hS, hO, -⟩ := I.a
  obtain ⟨hz, h0⟩ := hO.co
  have hn := I.n1k hj
  refine e3_comerAt (Or.inl rfl) hz (by rw [hS.1.1, h0]) (fun hN => ⟨fun _ => ?_, fun t ht => absurd ht (by simp)⟩) (fun c hc hx => ⟨fun h => absurd h (by simp), fun t3 ht => ?_⟩)
  · exact hR _ _ (e8_cn hO rfl hN ⟨fun _ => en rfl (hZ _ I.sk), fun h => absurd rfl h⟩)
  · subst hx
    have ht : 1 + 3 + 1 + c = t3 := Option.some.inj ht
    subst ht
    have hc8 : c < 8 := by omega
    have ht5 := isB.c (b := 1) (Or.inl rfl) hc8
    refine ⟨ht5, ?_⟩
    by_cases hp : 0 ≤ p2 ∧ p2 ≤ 14
    · refine e7_y hp ⟨fun _ => ?_, fun h => absurd h i1⟩
      have hY : ∀ (M1 : Mm) (r : Int32), FrP M M1 → ((12 ≤ p2 → (¬ p2 = 12 → (¬ p2 = 14 → wp_X8_wouldLeave n M1 (nI c) (fun M5 r6 => (r6 = 0 → (r = 0 → Z M5) ∧ (¬ r = 0 → False)) ∧ (¬ r6 = 0 → (r = 1 → Z M5) ∧ (¬ r = 1 → False)))) ∧ (p2 = 14 → wp_X8_stays n M1 (nI c) (fun M7 r8 => (r = r8 → Z M7) ∧ (¬ r = r8 → False)))) ∧ (p2 = 12 → wp_X8_worth n M1 (nI c) (fun M9 r10 => (r = r10 → Z M9) ∧ (¬ r = r10 → False)))) ∧ (¬ 12 ≤ p2 → wp_X8_of n M1 (nI c) p2 (fun M11 r12 => (r = r12 → Z M11) ∧ (¬ r = r12 → False)))) → R M1 r := by
        intro M1 r hf h
        exact hR _ _ (e8_cy hO (hf.lo (by decide)) hc ⟨fun h => absurd h i1, fun _ => e8_y (lo := 0) (hi := 14) rfl (by decide) (by decide) hp ⟨fun _ => h, fun h => absurd h i1⟩⟩)
      have hof : ∀ (w : Nat) (r : Int32), w < 12 → p2 = nI w → r = M 75 (cx c w) → R M r := by
        intro w r hw e er
        subst e
        refine hY M r (FrP.rf M) ⟨fun h => absurd h (by rw [show (12 : Int32) = nI 12 from rfl]; exact nI_ge hw (by decide)), fun _ => e8_of rfl (by omega) hw (en er (hZ _ I.sk))⟩
      have hrd : ∀ w : Nat, w < 12 → M (1 + 3 + 1 + c) w = M 75 (cx c w) := hS.2.1 c hc
      have h171 : ∀ w : Nat, 1 ≤ w → w ≤ 4 → p2 = nI w → wb_X7_told_171 n (nI c) p2 R M (1 + 3 + 1 + c) := by
        intro w h1 h4 e
        refine ⟨ht5, ht5, fun h => ?_, fun h => ?_, fun h => ?_, fun a1 a2 a3 => ?_⟩
        · exact hof 1 _ (by decide) h (hrd 1 (by decide))
        · exact hof 2 _ (by decide) h (hrd 2 (by decide))
        · exact hof 3 _ (by decide) h (hrd 3 (by decide))
        · refine hof 4 _ (by decide) ?_ (hrd 4 (by decide))
          have : w = 1 ∨ w = 2 ∨ w = 3 ∨ w = 4 := by omega
          rcases this with rfl | rfl | rfl | rfl
          · exact absurd e a1
          · exact absurd e a2
          · exact absurd e a3
          · exact e
      refine ⟨fun h => hof 0 _ (by decide) h (hrd 0 (by decide)), fun h => h171 1 (by decide) (by decide) h, fun h => h171 2 (by decide) (by decide) h, fun h => h171 3 (by decide) (by decide) h, fun h => h171 4 (by decide) (by decide) h, fun h => hof 5 _ (by decide) h (hrd 5 (by decide)), fun h => hof 6 _ (by decide) h (hrd 6 (by decide)), fun h => hof 7 _ (by decide) h (hrd 7 (by decide)), fun h => hof 8 _ (by decide) h (hrd 8 (by decide)), fun h => hof 9 _ (by decide) h (hrd 9 (by decide)), fun h => hof 10 _ (by decide) h (hrd 10 (by decide)), fun h => hof 11 _ (by decide) h (hrd 11 (by decide)), fun h => ?_, fun h => ?_, fun h => ?_, fun a0 a1 a2 a3 a4 a5 a6 a7 a8 a9 a10 a11 a12 a13 a14 => ?_⟩
      · subst h
        refine e0_worth (b := 1 + 3 + 1) ht5 (hrd 0 (by decide)) (hrd 1 (by decide)) (hY M _ (FrP.rf M) ⟨fun _ => ⟨fun h => absurd rfl h, fun _ => e8_worth hc8 (en (wrt_e _ _).symm (hZ _ I.sk))⟩, fun h => absurd (by decide) h⟩)
      · subst h
        refine e3_wouldLeave (b := 1) (Or.inl rfl) hn hc hO hS (fun M9 f9 => ?_)
        have e9 : M9 75 = M 75 := f9.lo (by decide)
        have hgo : ∀ r : Int32, (wlv (M 75) c = 0 → r = 0) → (¬ wlv (M 75) c = 0 → r = 1) → R M9 r := by
          intro r q1 q2
          refine hY M9 r f9 ⟨fun _ => ⟨fun _ => ⟨fun _ => ?_, fun h => absurd h (by decide)⟩, fun h => absurd h (by decide)⟩, fun h => absurd (by decide) h⟩
          refine e8_wl hc8 (by rw [e9]; exact hO) (fun M10 f10 => ?_)
          rw [e9]
          have hi := hZ _ (I.rd f9 (FQ.of8 f10) f10.s)
          exact ⟨fun h => en (q1 h) hi, fun h => en (q2 h) hi⟩
        exact ⟨fun h => hgo 0 (fun _ => rfl) (fun q => absurd h q), fun h => hgo 1 (fun q => absurd q h) (fun _ => rfl)⟩
      · subst h
        refine e3_staysOf (b := 1) (Or.inl rfl) hn hc hO hS (fun M9 f9 => ?_)
        have e9 : M9 75 = M 75 := f9.lo (by decide)
        refine hY M9 _ f9 ⟨fun _ => ⟨fun _ => ⟨fun h => absurd rfl h, fun _ => ?_⟩, fun h => absurd h (by decide)⟩, fun h => absurd (by decide) h⟩
        refine e8_stays hc8 (by rw [e9]; exact hO) (fun M10 f10 => ?_)
        rw [e9]
        exact en rfl (hZ _ (I.rd f9 (FQ.of8 f10) f10.s))
      · exfalso
        obtain ⟨w, hw, rfl⟩ := n14 hp
        have : w = 0 ∨ w = 1 ∨ w = 2 ∨ w = 3 ∨ w = 4 ∨ w = 5 ∨ w = 6 ∨ w = 7 ∨ w = 8 ∨ w = 9 ∨ w = 10 ∨ w = 11 ∨ w = 12 ∨ w = 13 ∨ w = 14 := by omega
        rcases this with rfl | rfl | rfl | rfl | rfl | rfl | rfl | rfl | rfl | rfl | rfl | rfl | rfl | rfl | rfl <;> first | exact a0 rfl | exact a1 rfl | exact a2 rfl | exact a3 rfl | exact a4 rfl | exact a5 rfl | exact a6 rfl | exact a7 rfl | exact a8 rfl | exact a9 rfl | exact a10 rfl | exact a11 rfl | exact a12 rfl | exact a13 rfl | exact a14 rfl
    · refine e7_n hp ⟨fun h => absurd rfl h, fun _ => hR _ _ ?_⟩
      exact e8_cy hO rfl hc ⟨fun h => absurd h i1, fun _ => e8_n (lo := 0) (hi := 14) rfl (by decide) (by decide) hp ⟨fun h => absurd rfl h, fun _ => en rfl (hZ _ I.sk)⟩⟩
end OPS1
