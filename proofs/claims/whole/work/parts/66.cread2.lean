section CRE
variable {n : Nat} {M : Mm} {B : Nat → Int32} {s : Nat} {key : Int32} {k : Tk} {L : List (Int32 × Int32)} {w : Nat}
theorem cr_num {K : Mm → Int32 → Prop} (h : CS M B s key k L w) (ho : tkO B s k) (hl : L.length < 96) (hK : ∀ M' : Mm, CS M' B s key (nk B s k) (L ++ [(0, nmv B k.1 (k.2.1 - k.1))]) (w + 1) → FC M M' → K M' 1) : wp_X1_readsNumber n M K := by
  obtain ⟨h1, ⟨h2, h3, h4⟩, h5, h6, h7, h8⟩ := h
  have hE := ho.1
  have hs := ho.2.1
  have h96 := h1.1
  rintro v1 rfl
  rw [h2]
  refine ⟨k.2.1 - k.1 + 1, ?_⟩
  suffices hh : ∀ (f i : Nat), i + f = k.2.1 - k.1 → wl_X1_readsNumber_7 n K (f + 1) M (nmv B k.1 i) (nI (k.1 + i)) by
    exact hh _ 0 (by omega)
  intro f
  induction f with
  | zero =>
    intro i hi
    have : i = k.2.1 - k.1 := by omega
    subst this
    rw [wl_X1_readsNumber_7, h3]
    refine ⟨fun _ => cs_piece ⟨h1, ⟨h2, h3, h4⟩, h5, h6, h7, h8⟩ ho hl (y := (0, nmv B k.1 (k.2.1 - k.1))) (Or.inl ⟨rfl, rfl⟩) hK, fun q => absurd (nI_le (by omega) (by omega)) q⟩
  | succ f ih =>
    intro i hi
    rw [wl_X1_readsNumber_7, h3]
    refine ⟨fun q => absurd q (nI_ge (by omega) (by omega)), fun _ => e2_at h1 (by omega) ?_⟩
    have ea : atv B s (k.1 + i) = B (k.1 + i) := if_pos (by omega)
    rw [ea]
    rintro v6 rfl v7 rfl
    rw [nI_s]
    exact ih (i + 1) (by omega)
theorem nm_ix {key c : Int32} (hk : key = 0 ∨ key = 1 ∨ key = 2) : ∀ q : Nat, q = (if key = 0 then 3 else if key = 1 then 4 else 5) → (nmOK key c → ∃ i : Nat, i < 3 ∧ ixB (sByt.getD q []) c (sLen.getD q 0) 0 = nI i ∧ stR key ((-1) - nI i) 1 c) ∧ (¬ nmOK key c → ixB (sByt.getD q []) c (sLen.getD q 0) 0 = -1) := by
  have tsa : ∀ c : Int32, ixB (sByt.getD 3 []) c (sLen.getD 3 0) 0 = if 116 = c then nI 0 else if 115 = c then nI 1 else if 97 = c then nI 2 else -1 := fun c => rfl
  have awn : ∀ c : Int32, ixB (sByt.getD 4 []) c (sLen.getD 4 0) 0 = if 97 = c then nI 0 else if 119 = c then nI 1 else if 110 = c then nI 2 else -1 := fun c => rfl
  have ge : ∀ c : Int32, ixB (sByt.getD 5 []) c (sLen.getD 5 0) 0 = if 103 = c then nI 0 else if 101 = c then nI 1 else -1 := fun c => rfl
  rcases hk with rfl | rfl | rfl
  · rintro q rfl
    rw [if_pos rfl, tsa]
    refine ⟨fun h => ?_, fun h => ?_⟩
    · rcases h with ⟨-, rfl | rfl | rfl⟩ | ⟨h, -⟩ | ⟨h, -⟩
      · exact ⟨0, by decide, rfl, by unfold stR; decide⟩
      · exact ⟨1, by decide, rfl, by unfold stR; decide⟩
      · exact ⟨2, by decide, rfl, by unfold stR; decide⟩
      · exact absurd h (by decide)
      · exact absurd h (by decide)
    · rw [if_neg (fun e => h (Or.inl ⟨rfl, Or.inl e.symm⟩)), if_neg (fun e => h (Or.inl ⟨rfl, Or.inr (Or.inl e.symm)⟩)), if_neg (fun e => h (Or.inl ⟨rfl, Or.inr (Or.inr e.symm)⟩))]
  · rintro q rfl
    rw [if_neg (by decide), if_pos rfl, awn]
    refine ⟨fun h => ?_, fun h => ?_⟩
    · rcases h with ⟨h, -⟩ | ⟨-, rfl | rfl | rfl⟩ | ⟨h, -⟩
      · exact absurd h (by decide)
      · exact ⟨0, by decide, rfl, by unfold stR; decide⟩
      · exact ⟨1, by decide, rfl, by unfold stR; decide⟩
      · exact ⟨2, by decide, rfl, by unfold stR; decide⟩
      · exact absurd h (by decide)
    · rw [if_neg (fun e => h (Or.inr (Or.inl ⟨rfl, Or.inl e.symm⟩))), if_neg (fun e => h (Or.inr (Or.inl ⟨rfl, Or.inr (Or.inl e.symm)⟩))), if_neg (fun e => h (Or.inr (Or.inl ⟨rfl, Or.inr (Or.inr e.symm)⟩)))]
  · rintro q rfl
    rw [if_neg (by decide), if_neg (by decide), ge]
    refine ⟨fun h => ?_, fun h => ?_⟩
    · rcases h with ⟨h, -⟩ | ⟨h, -⟩ | ⟨-, rfl | rfl⟩
      · exact absurd h (by decide)
      · exact absurd h (by decide)
      · exact ⟨0, by decide, rfl, by unfold stR; decide⟩
      · exact ⟨1, by decide, rfl, by unfold stR; decide⟩
    · rw [if_neg (fun e => h (Or.inr (Or.inr ⟨rfl, Or.inl e.symm⟩))), if_neg (fun e => h (Or.inr (Or.inr ⟨rfl, Or.inr e.symm⟩)))]
theorem cr_name {K : Mm → Int32 → Prop} (h : CS M B s key k L w) (ho : tkO B s k) (hS : k.2.2 = 1) (hkey : key = 0 ∨ key = 1 ∨ key = 2) (hl : L.length < 96) (hY : nmH B key k → ∀ M' : Mm, CS M' B s key (nk B s k) (L ++ [(1, B k.1)]) (w + 1) → FC M M' → K M' 1) (hN : ¬ nmH B key k → K M 0) : wp_X1_readsName n M K := by
  have hc := h
  obtain ⟨h1, ⟨h2, h3, h4⟩, h5, h6, h7, h8⟩ := h
  have hE := ho.1
  have hs := ho.2.1
  have h96 := h1.1
  have hlt := ho.2.2.2.1 (by omega)
  obtain ⟨l1, l2⟩ := ho.2.2.2.2.2 hS
  unfold wp_X1_readsName
  rw [h3, h2, pk_sub hE, show (1 : Int32) = nI 1 from rfl, nI_eq (by omega) (by decide), h5]
  refine ⟨fun q => ⟨fun z => absurd z (by decide), fun _ => hN (fun z => q z.1)⟩, fun q => ?_⟩
  have main : ∀ r : Nat, r = (if key = 0 then 3 else if key = 1 then 4 else 5) → r < 6 ∧ wp_X2_at n M 38 (M 37 2) (fun M4 r5 => wp_J0_indexOf_0f7a4 n M4 r ((r5.toUInt32 % 65536).toInt32) (fun M6 r7 => wb_X1_readsName_39 n K M6 r7)) := by
    intro r hr
    have hr35 : r = 3 ∨ r = 4 ∨ r = 5 := by
      rw [hr]
      split
      · exact Or.inl rfl
      · split
        · exact Or.inr (Or.inl rfl)
        · exact Or.inr (Or.inr rfl)
    refine ⟨by omega, ?_⟩
    rw [h2]
    refine e2_at h1 (by omega) ?_
    have ea : atv B s k.1 = B k.1 := if_pos (by omega)
    obtain ⟨b, hb, eb⟩ := bd_of (k := 122) (lo := 97) (hi := 122) (by decide) (by decide) ⟨l1, l2⟩
    have ec : ((B k.1).toUInt32 % 65536).toInt32 = B k.1 := by
      rw [eb]
      have : ∀ b : Nat, b < 123 → ((nI b).toUInt32 % 65536).toInt32 = nI b := by decide +kernel
      exact this b (by omega)
    rw [ea, ec]
    have hlen : 0 < sLen.getD r 0 ∧ sLen.getD r 0 < 100 := by rcases hr35 with rfl | rfl | rfl <;> decide
    refine sj_idx (by omega) hlen (Int32.le_trans (by decide) l1) (Int32.le_trans l2 (by decide)) ?_
    obtain ⟨y, z⟩ := nm_ix (c := B k.1) hkey r hr
    by_cases hn : nmOK key (B k.1)
    · obtain ⟨i, hi, e1, e2⟩ := y hn
      rw [e1]
      exact ⟨fun _ => cs_piece hc ho hl (y := (1, B k.1)) e2 (hY ⟨q, hn⟩), fun z => absurd (nI_pos' (by omega)) z⟩
    · rw [z hn]
      exact ⟨fun z => absurd z (by decide), fun _ => hN (fun z => hn z.2)⟩
  refine ⟨fun e => main 3 (by rw [if_pos e]), fun e => main 4 (by rw [if_neg (by rw [e]; decide), if_pos e]), fun e1 e2 => main 5 (by rw [if_neg e1, if_neg e2])⟩
end CRE
