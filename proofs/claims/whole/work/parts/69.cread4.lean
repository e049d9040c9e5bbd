/-! the class's reader keeps to the grammar -/
theorem pr_up {B : Nat → Int32} {s : Nat} {key : Int32} {f g m b t : Nat} {k : Tk} {r : Bool} {k' : Tk} {N : List (Int32 × Int32)} (h : PRs B s key f m b t k r k' N) (hg : f ≤ g) : PRs B s key g m b t k r k' N := by
  have := pr_mm h (g - f)
  rw [show f + (g - f) = g by omega] at this
  exact this
section PRC
variable {B : Nat → Int32} {s : Nat} {key : Int32} {f g b t : Nat} {k k1 k' : Tk} {r : Bool} {N N1 N2 : List (Int32 × Int32)}
theorem pc_num (h : k.2.2 = 2) : PRs B s key 1 5 b t k true (nk B s k) [(0, nmv B k.1 (k.2.1 - k.1))] := by
  rw [PRs]; exact Or.inl ⟨rfl, h, rfl, rfl, rfl⟩
theorem pc_name (h : k.2.2 = 1) (hn : nmH B key k) : PRs B s key 1 5 b t k true (nk B s k) [(1, B k.1)] := by
  rw [PRs]; exact Or.inr (Or.inl ⟨rfl, h, hn, rfl, rfl, rfl⟩)
theorem pc_nname (h : k.2.2 = 1) (hn : ¬ nmH B key k) : PRs B s key 1 5 b t k false k [] := by
  rw [PRs]; exact Or.inr (Or.inr (Or.inl ⟨rfl, h, hn, rfl, rfl⟩))
theorem pc_not (h : isS B k 33) (ht : t < 8) (p : PRs B s key f 5 b (t + 1) (nk B s k) r k' N) : PRs B s key (f + 1) 5 b t k r k' (N ++ [(2, 33)]) := by
  rw [PRs]; exact Or.inr (Or.inr (Or.inr (Or.inl ⟨rfl, h, ht, N, p, rfl⟩)))
theorem pc_nnot (h : isS B k 33) (ht : ¬ t < 8) : PRs B s key 1 5 b t k false k [] := by
  rw [PRs]; exact Or.inr (Or.inr (Or.inr (Or.inr (Or.inl ⟨rfl, h, ht, rfl, rfl⟩))))
theorem pc_br0 (h : isS B k 40) (hb : b < 8) (p : PRs B s key f 0 (b + 1) t (nk B s k) false k1 N1) : PRs B s key (f + 1) 5 b t k false k1 [] := by
  rw [PRs]; exact Or.inr (Or.inr (Or.inr (Or.inr (Or.inr (Or.inl ⟨rfl, h, hb, k1, N1, Or.inl ⟨p, rfl, rfl⟩⟩)))))
theorem pc_br1 (h : isS B k 40) (hb : b < 8) (p : PRs B s key f 0 (b + 1) t (nk B s k) true k1 N1) (h1 : isS B k1 41) : PRs B s key (f + 1) 5 b t k true (nk B s k1) N1 := by
  rw [PRs]; exact Or.inr (Or.inr (Or.inr (Or.inr (Or.inr (Or.inl ⟨rfl, h, hb, k1, N1, Or.inr (Or.inl ⟨p, h1, rfl, rfl, rfl⟩)⟩)))))
theorem pc_br2 (h : isS B k 40) (hb : b < 8) (p : PRs B s key f 0 (b + 1) t (nk B s k) true k1 N1) (h1 : ¬ isS B k1 41) : PRs B s key (f + 1) 5 b t k false k1 [] := by
  rw [PRs]; exact Or.inr (Or.inr (Or.inr (Or.inr (Or.inr (Or.inl ⟨rfl, h, hb, k1, N1, Or.inr (Or.inr ⟨p, h1, rfl, rfl⟩)⟩)))))
theorem pc_nbr (h : isS B k 40) (hb : ¬ b < 8) : PRs B s key 1 5 b t k false k [] := by
  rw [PRs]; exact Or.inr (Or.inr (Or.inr (Or.inr (Or.inr (Or.inr (Or.inl ⟨rfl, h, hb, rfl, rfl⟩))))))
theorem pc_el (h2 : ¬ k.2.2 = 2) (h1 : ¬ k.2.2 = 1) (h3 : ¬ isS B k 33) (h4 : ¬ isS B k 40) : PRs B s key 1 5 b t k false k [] := by
  rw [PRs]; exact Or.inr (Or.inr (Or.inr (Or.inr (Or.inr (Or.inr (Or.inr (Or.inl ⟨rfl, h2, h1, h3, h4, rfl, rfl⟩)))))))
theorem pc_lv0 {l : Nat} (hl : l < 5) (p : PRs B s key f (l + 1) b t k false k1 N1) : PRs B s key (f + 1) l b t k false k1 [] := by
  rw [PRs]; exact Or.inr (Or.inr (Or.inr (Or.inr (Or.inr (Or.inr (Or.inr (Or.inr (Or.inl ⟨hl, k1, N1, [], Or.inl ⟨p, rfl, rfl⟩⟩))))))))
theorem pc_lv1 {l : Nat} (hl : l < 5) (p : PRs B s key f (l + 1) b t k true k1 N1) (q : PRs B s key g (10 + l) b t k1 r k' N2) : PRs B s key (f + g + 1) l b t k r k' (N1 ++ N2) := by
  rw [PRs]; exact Or.inr (Or.inr (Or.inr (Or.inr (Or.inr (Or.inr (Or.inr (Or.inr (Or.inl ⟨hl, k1, N1, N2, Or.inr ⟨pr_up p (by omega), pr_up q (by omega), rfl⟩⟩))))))))
theorem pc_lp0 {l : Nat} (h : ¬ opl B k l) : PRs B s key 1 (10 + l) b t k true k [] := by
  rw [PRs]; exact Or.inr (Or.inr (Or.inr (Or.inr (Or.inr (Or.inr (Or.inr (Or.inr (Or.inr (Or.inl ⟨by omega, by rw [show 10 + l - 10 = l by omega]; exact h, rfl, rfl, rfl⟩)))))))))
theorem pc_lp1 {l : Nat} (h : opl B k l) (p : PRs B s key f (l + 1) b t (nk B s k) false k1 N1) : PRs B s key (f + 1) (10 + l) b t k false k1 [] := by
  rw [PRs, show 10 + l - 10 = l by omega]; exact Or.inr (Or.inr (Or.inr (Or.inr (Or.inr (Or.inr (Or.inr (Or.inr (Or.inr (Or.inr ⟨by omega, h, k1, N1, [], Or.inl ⟨p, rfl, rfl⟩⟩)))))))))
theorem pc_lp2 (h : opl B k 2) (p : PRs B s key f 3 b t (nk B s k) true k1 N1) : PRs B s key (f + 1) (10 + 2) b t k true k1 (N1 ++ [(2, B k.1)]) := by
  rw [PRs]; exact Or.inr (Or.inr (Or.inr (Or.inr (Or.inr (Or.inr (Or.inr (Or.inr (Or.inr (Or.inr ⟨by omega, h, k1, N1, [], Or.inr (Or.inl ⟨p, rfl, rfl, rfl, rfl⟩)⟩)))))))))
theorem pc_lp3 {l : Nat} (h : opl B k l) (h2 : ¬ l = 2) (p : PRs B s key f (l + 1) b t (nk B s k) true k1 N1) (q : PRs B s key g (10 + l) b t k1 r k' N2) : PRs B s key (f + g + 1) (10 + l) b t k r k' (N1 ++ (2, B k.1) :: N2) := by
  rw [PRs, show 10 + l - 10 = l by omega]; exact Or.inr (Or.inr (Or.inr (Or.inr (Or.inr (Or.inr (Or.inr (Or.inr (Or.inr (Or.inr ⟨by omega, h, k1, N1, N2, Or.inr (Or.inr ⟨pr_up p (by omega), by omega, pr_up q (by omega), rfl⟩)⟩)))))))))
end PRC
theorem good_ne {key : Int32} {m : Nat} {N : List (Int32 × Int32)} (hm : m < 10) (h : good key m N) : 1 ≤ N.length := by
  have := ((good_s hm).mp h 0).1
  cases N with
  | nil => exact absurd this (by decide)
  | cons x r => simp only [List.length_cons]; omega
/-- what the class's reading must lead to -/
def RKc (K : Mm → Int32 → Prop) (M : Mm) (B : Nat → Int32) (s : Nat) (key : Int32) (m b t : Nat) (k : Tk) (L : List (Int32 × Int32)) (w : Nat) : Prop := ∀ (M' : Mm) (f : Nat) (r : Bool) (k' : Tk) (N : List (Int32 × Int32)), PRs B s key f m b t k r k' N → (r = true → CS M' B s key k' (L ++ N) (w + nWd N)) → M' 37 2 = nI k'.1 → FC M M' → K M' (if r = true then 1 else 0)
def RGc (B : Nat → Int32) (s : Nat) (key : Int32) (k : Tk) (L : List (Int32 × Int32)) : Prop := tkO B s k ∧ (key = 0 ∨ key = 1 ∨ key = 2) ∧ L.length ≤ k.1 ∧ 1 ≤ k.2.1 ∧ s ≤ 96
theorem RGc.nx {B : Nat → Int32} {s : Nat} {key : Int32} {k : Tk} {L : List (Int32 × Int32)} (h : RGc B s key k L) : RGc B s key (nk B s k) L := by
  have h1 := nk_ok (B := B) (s := s) (k := k) h.1.2.1
  refine ⟨h1.1, h.2.1, ?_, ?_, h.2.2.2.2⟩
  · have := h.2.2.1; have := h.1.1; omega
  · have := h.2.2.2.1; have := h1.1.1; omega
theorem RGc.pr {B : Nat → Int32} {s : Nat} {key : Int32} {k k' : Tk} {L N : List (Int32 × Int32)} {f m b t : Nat} (h : RGc B s key k L) (p : PRs B s key f m b t k true k' N) : RGc B s key k' (L ++ N) := by
  obtain ⟨a1, a2, a3, a4⟩ := pr_p _ _ _ _ _ _ _ _ p h.1
  refine ⟨a1, h.2.1, ?_, ?_, h.2.2.2.2⟩
  · rw [List.length_append]; have := (a4 rfl).1; have := h.2.2.1; omega
  · have := h.2.2.2.1; omega
section RDC
variable {n : Nat} {B : Nat → Int32} {s : Nat} {key : Int32}
def LvP (PL : Mm → Int32 → Int32 → Int32 → (Mm → Int32 → Prop) → Prop) (B : Nat → Int32) (s : Nat) (key : Int32) (l b t : Nat) : Prop := ∀ (M : Mm) (k : Tk) (L : List (Int32 × Int32)) (w : Nat) (K : Mm → Int32 → Prop), CS M B s key k L w → RGc B s key k L → RKc K M B s key l b t k L w → PL M (nI l) (nI b) (nI t) K
def PcP (PP : Mm → Int32 → Int32 → (Mm → Int32 → Prop) → Prop) (B : Nat → Int32) (s : Nat) (key : Int32) (b t : Nat) : Prop := ∀ (M : Mm) (k : Tk) (L : List (Int32 × Int32)) (w : Nat) (K : Mm → Int32 → Prop), CS M B s key k L w → RGc B s key k L → RKc K M B s key 5 b t k L w → PP M (nI b) (nI t) K
theorem rd_loop {PL : Mm → Int32 → Int32 → Int32 → (Mm → Int32 → Prop) → Prop} {PP : Mm → Int32 → Int32 → (Mm → Int32 → Prop) → Prop} {l b t : Nat} (hl : l < 5) (hPL : LvP PL B s key (l + 1) b t) : ∀ (fu i : Nat) (M : Mm) (k : Tk) (L : List (Int32 × Int32)) (w : Nat) (K : Mm → Int32 → Prop), i < k.2.1 → 97 ≤ i + fu → CS M B s key k L w → RGc B s key k L → RKc K M B s key (10 + l) b t k L w → wl_X1_readsLevel_29 n PL PP (nI l) (nI b) (nI t) K fu M (nI i) := by
  intro fu
  induction fu with
  | zero => intro i M k L w K hi h97 hc hg; have := hg.1.2.1; have := hg.2.2.2.2; omega
  | succ fu ih =>
    intro i M k L w K hi h97 hc hg hK
    have hs := hg.1.2.1
    have h96 := hg.2.2.2.2
    rw [wl_X1_readsLevel_29, show (96 : Int32) = nI 96 from rfl]
    refine ⟨fun q => absurd q (nI_ge (by omega) (by decide)), fun _ => c1_level hc hg.1 (fun l' hl' ho => ?_) (fun hno => ?_)⟩
    · rw [nI_eq (by omega) (by omega)]
      refine ⟨fun q => ?_, fun q => ?_⟩
      · exact hK M 1 true k [] (pc_lp0 (fun z => q (opl_u ho z))) (fun _ => by simpa [nWd] using hc) hc.2.1.1 (FC.rf M)
      · subst q
        have hlt := hg.1.2.2.2.1 (by have := ho.1; omega)
        rw [hc.2.1.1]
        refine e2_at hc.1 (by omega) ?_
        rw [show atv B s k.1 = B k.1 from if_pos (by omega)]
        refine cs_next hc hg.1 (fun M1 c1 f1 => ?_)
        rw [nI_s]
        refine hPL M1 (nk B s k) L w _ c1 hg.nx (fun M2 f r k1 N1 p1 hs1 h2 hf2 => ?_)
        have hk1 := nk_ok (B := B) (s := s) (k := k) hs
        obtain ⟨g1, g2, g3, g4⟩ := pr_p _ _ _ _ _ _ _ _ p1 hk1.1
        cases r with
        | false =>
          refine ⟨fun q => absurd rfl q, fun _ => ?_⟩
          exact hK M2 _ false k1 [] (pc_lp1 ho p1) (fun q => absurd q (by decide)) h2 (f1.tr hf2)
        | true =>
          refine ⟨fun _ => ?_, fun q => absurd q i1⟩
          obtain ⟨g5, g6⟩ := g4 rfl
          have hn1 := good_ne (by omega) g6
          have hL := hg.2.2.1
          have hg1 := g1.1
          have hg2 := g1.2.1
          have hk2 := hk1.2
          refine cs_add (y := (2, B k.1)) (hs1 rfl) (by rw [List.length_append]; omega) (Or.inr (Or.inr ⟨rfl, rfl⟩)) (fun M3 c3 f3 => ?_)
          have hG3 : RGc B s key k1 (L ++ N1 ++ [(2, B k.1)]) := by
            refine ⟨g1, hg.2.1, ?_, by omega, h96⟩
            rw [List.length_append, List.length_append, List.length_singleton]; omega
          have fF : FC M M3 := (f1.tr hf2).tr (fun j x1 x2 x3 => f3 j x2 x3)
          rw [show (2 : Int32) = nI 2 from rfl, nI_eq (by omega) (by decide)]
          refine ⟨fun q => ?_, fun q => ?_⟩
          · rintro v rfl
            rw [nI_s]
            refine ih (i + 1) M3 k1 _ _ K (by omega) (by omega) c3 hG3 (fun M4 f' r' k' N2 p2 hs2 h42 hf4 => ?_)
            refine hK M4 _ r' k' _ (pc_lp3 ho q p1 p2) (fun e => ?_) h42 (fF.tr hf4)
            have := hs2 e
            rw [List.append_assoc, List.append_assoc] at this
            rw [nWd_app, show nWd ((2, B k.1) :: N2) = nWd N2 from by show (if (2 : Int32) = 2 then 0 else 1) + nWd N2 = _; rw [if_pos rfl, Nat.zero_add]]
            rw [Nat.add_assoc] at this
            exact this
          · subst q
            refine hK M3 _ true k1 _ (pc_lp2 ho p1) (fun _ => ?_) c3.2.1.1 fF
            rw [List.append_assoc] at c3
            rw [nWd_app, show nWd [(2, B k.1)] = 0 from by show (if (2 : Int32) = 2 then 0 else 1) + 0 = _; rw [if_pos rfl], Nat.add_zero]
            exact c3
    · refine ⟨fun _ => ?_, fun q => absurd q (by intro q; have := nI_pos' (show l < 2147483648 by omega); rw [← q] at this; exact absurd this (by decide))⟩
      exact hK M 1 true k [] (pc_lp0 (hno l)) (fun _ => by simpa [nWd] using hc) hc.2.1.1 (FC.rf M)
theorem rd_level {PL : Mm → Int32 → Int32 → Int32 → (Mm → Int32 → Prop) → Prop} {PP : Mm → Int32 → Int32 → (Mm → Int32 → Prop) → Prop} {l b t : Nat} (hl : l ≤ 5) (hPL : l < 5 → LvP PL B s key (l + 1) b t) (hPP : l = 5 → PcP PP B s key b t) : LvP (wq_X1_readsLevel n PL PP) B s key l b t := by
  intro M k L w K hc hg hK
  unfold wq_X1_readsLevel
  rw [show (5 : Int32) = nI 5 from rfl, nI_ltI (by omega) (by decide), nI_s]
  refine ⟨fun q => hPL q M k L w _ hc hg (fun M1 f r k1 N1 p1 hs1 h2 hf => ?_), fun q => ?_⟩
  · cases r with
    | false => exact ⟨fun q => absurd rfl q, fun _ => hK M1 _ false k1 [] (pc_lv0 q p1) (fun q => absurd q (by decide)) h2 hf⟩
    | true =>
      refine ⟨fun _ => ⟨97, ?_⟩, fun q => absurd q i1⟩
      have hG := hg.pr p1
      refine rd_loop q (hPL q) 97 0 M1 k1 (L ++ N1) (w + nWd N1) K (by have := hG.2.2.2.1; omega) (by omega) (hs1 rfl) hG (fun M2 f' r' k' N2 p2 hs2 h22 hf2 => ?_)
      refine hK M2 _ r' k' _ (pc_lv1 q p1 p2) (fun e => ?_) h22 (hf.tr hf2)
      have := hs2 e
      rw [List.append_assoc, Nat.add_assoc, ← nWd_app] at this
      exact this
  · have : l = 5 := by omega
    subst this
    refine hPP rfl M k L w _ hc hg (fun M1 f r k1 N1 p1 hs1 h2 hf => ⟨?_, hK M1 f r k1 N1 p1 hs1 h2 hf⟩)
    cases r
    · exact Or.inl rfl
    · exact Or.inr rfl
theorem rd_piece {PL : Mm → Int32 → Int32 → Int32 → (Mm → Int32 → Prop) → Prop} {PP : Mm → Int32 → Int32 → (Mm → Int32 → Prop) → Prop} {b t : Nat} (hb : b ≤ 8) (ht : t ≤ 8) (hPL : b < 8 → LvP PL B s key 0 (b + 1) t) (hPP : t < 8 → PcP PP B s key b (t + 1)) : PcP (wq_X1_readsPiece n PL PP) B s key b t := by
  intro M k L w K hc hg hK
  have hs := hg.1.2.1
  have h96 := hg.2.2.2.2
  have hk4 := hg.1.2.2.1
  have hL := hg.2.2.1
  have hlt := hg.1.2.2.2.1
  unfold wq_X1_readsPiece
  rw [hc.2.1.2.2, show (2 : Int32) = nI 2 from rfl, show (1 : Int32) = nI 1 from rfl, nI_eq (by omega) (by decide), nI_eq (by omega) (by decide)]
  refine ⟨fun q2 => ⟨fun q1 => ?_, fun q1 => ?_⟩, fun q2 => ?_⟩
  · refine c1_sign hc hg.1 (fun hS => ⟨fun q => absurd q i1, fun _ => ?_⟩) (fun hS => ⟨fun _ => ?_, fun q => absurd rfl q⟩)
    · have := hlt (by have := hS.1; omega)
      rw [show (8 : Int32) = nI 8 from rfl, nI_ltI (by omega) (by decide)]
      refine ⟨fun q => ?_, fun q => hK M 1 false k [] (pc_nnot hS q) (fun q => absurd q (by decide)) hc.2.1.1 (FC.rf M)⟩
      refine cs_next hc hg.1 (fun M1 c1 f1 => ?_)
      rw [show nI t + nI 1 = nI (t + 1) from nI_s t]
      have hk1 := nk_ok (B := B) (s := s) (k := k) hs
      refine hPP q M1 (nk B s k) L w _ c1 hg.nx (fun M2 f r k1 N1 p1 hs1 h2 hf2 => ?_)
      obtain ⟨g1, g2, g3, g4⟩ := pr_p _ _ _ _ _ _ _ _ p1 hk1.1
      cases r with
      | false => exact ⟨fun q => absurd rfl q, fun _ => hK M2 _ false k1 _ (pc_not hS q p1) (fun q => absurd q (by decide)) h2 (f1.tr hf2)⟩
      | true =>
        refine ⟨fun _ => ?_, fun q => absurd q i1⟩
        obtain ⟨g5, g6⟩ := g4 rfl
        have hg1 := g1.1
        have hg2 := g1.2.1
        have hk2 := hk1.2
        refine cs_add (y := (2, 33)) (hs1 rfl) (by rw [List.length_append]; omega) (Or.inr (Or.inr ⟨rfl, rfl⟩)) (fun M3 c3 f3 => ?_)
        refine hK M3 _ true k1 _ (pc_not hS q p1) (fun _ => ?_) c3.2.1.1 ((f1.tr hf2).tr (fun j x1 x2 x3 => f3 j x2 x3))
        rw [List.append_assoc] at c3
        rw [nWd_app, show nWd [(2, (33 : Int32))] = 0 from rfl, Nat.add_zero]
        exact c3
    · refine c1_sign hc hg.1 (fun hS4 => ⟨fun q => absurd q i1, fun _ => ?_⟩) (fun hS4 => ⟨fun _ => ?_, fun q => absurd rfl q⟩)
      · rw [show (8 : Int32) = nI 8 from rfl, nI_ltI (by omega) (by decide)]
        refine ⟨fun q => ?_, fun q => hK M 1 false k [] (pc_nbr hS4 q) (fun q => absurd q (by decide)) hc.2.1.1 (FC.rf M)⟩
        refine cs_next hc hg.1 (fun M1 c1 f1 => ?_)
        rw [show nI b + nI 1 = nI (b + 1) from nI_s b]
        refine hPL q M1 (nk B s k) L w _ c1 hg.nx (fun M2 f r k1 N1 p1 hs1 h2 hf2 => ?_)
        cases r with
        | false => exact ⟨fun _ => hK M2 _ false k1 _ (pc_br0 hS4 q p1) (fun q => absurd q (by decide)) h2 (f1.tr hf2), fun q => absurd rfl q⟩
        | true =>
          refine ⟨fun q => absurd q i1, fun _ => ?_⟩
          have c2 := hs1 rfl
          have hG2 := hg.nx.pr p1
          refine c1_sign c2 hG2.1 (fun hS1 => ⟨fun _ => ?_, fun q => absurd q i1⟩) (fun hS1 => ⟨fun q => absurd rfl q, fun _ => ?_⟩)
          · exact cs_next c2 hG2.1 (fun M3 c3 f3 => hK M3 _ true (nk B s k1) _ (pc_br1 hS4 q p1 hS1) (fun _ => c3) c3.2.1.1 ((f1.tr hf2).tr f3))
          · exact hK M2 _ false k1 _ (pc_br2 hS4 q p1 hS1) (fun q => absurd q (by decide)) h2 (f1.tr hf2)
      · exact hK M 1 false k [] (pc_el q2 q1 hS hS4) (fun q => absurd q (by decide)) hc.2.1.1 (FC.rf M)
  · have := hlt (by omega)
    refine cr_name hc hg.1 q1 hg.2.1 (by omega) (fun hn M1 c1 f1 => ⟨Or.inr rfl, hK M1 1 true (nk B s k) _ (pc_name q1 hn) (fun _ => c1) c1.2.1.1 f1⟩) (fun hn => ⟨Or.inl rfl, hK M 1 false k [] (pc_nname q1 hn) (fun q => absurd q (by decide)) hc.2.1.1 (FC.rf M)⟩)
  · have := hlt (by omega)
    exact cr_num hc hg.1 (by omega) (fun M1 c1 f1 => ⟨Or.inr rfl, hK M1 1 true (nk B s k) _ (pc_num q2) (fun _ => c1) c1.2.1.1 f1⟩)
theorem rd_all : ∀ F : Nat, (∀ l b t : Nat, l ≤ 5 → b ≤ 8 → t ≤ 8 → (8 - b) * 7 + (8 - t) + (6 - l) + 1 ≤ F → LvP (wp_rd n F).1 B s key l b t) ∧ (∀ b t : Nat, b ≤ 8 → t ≤ 8 → (8 - b) * 7 + (8 - t) + 1 ≤ F → PcP (wp_rd n F).2 B s key b t)
  | 0 => ⟨fun _ _ _ _ _ _ h => absurd h (by omega), fun _ _ _ _ h => absurd h (by omega)⟩
  | F + 1 => by
    obtain ⟨h1, h2⟩ := rd_all F
    refine ⟨fun l b t hl hb ht hF => ?_, fun b t hb ht hF => ?_⟩
    · exact rd_level hl (fun q => h1 (l + 1) b t (by omega) hb ht (by omega)) (fun q => h2 b t hb ht (by omega))
    · exact rd_piece hb ht (fun q => h1 0 (b + 1) t (by omega) (by omega) ht (by omega)) (fun q => h2 b (t + 1) hb (by omega) (by omega))
end RDC
