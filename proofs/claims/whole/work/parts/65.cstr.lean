/-! the names' strings: their length, and where a letter stands in them -/
section CST
variable {n : Nat} {M : Mm} {K : Mm → Int32 → Prop}
theorem sj_len {q : Nat} (hq : q < 6) (hK : K M (nI (sLen.getD q 0))) : wp_J0_length_8abf5 n M q K := by
  refine ⟨hq, hq, fun h => absurd h i1, fun _ => ⟨rfl, ?_⟩⟩
  have : ∀ q : Nat, q < 6 → Int32.ofNat (sLen.getD q 0) >>> ((0 : Int32) &&& 31) = nI (sLen.getD q 0) := by decide +kernel
  show K M (Int32.ofNat (sLen.getD q 0) >>> ((0 : Int32) &&& 31))
  rw [this q hq]; exact hK
theorem sj_lat {q : Nat} (hq : q < 6) (hK : K M 1) : wp_J0_isLatin1_aae02 n M q K := ⟨hq, fun h => absurd h i1, fun _ => ⟨fun h => absurd rfl h, fun _ => hK⟩⟩
/-- the first index of c among the first m bytes of text q, or -1 -/
def ixB (l : List Int32) (c : Int32) : Nat → Nat → Int32
  | 0, _ => -1
  | f + 1, i => if l.getD i 0 = c then nI i else ixB l c f (i + 1)
theorem sj_idx {q : Nat} {c : Int32} (hq : q < 6) (hl : 0 < sLen.getD q 0 ∧ sLen.getD q 0 < 100) (h0 : 0 ≤ c) (h1 : c ≤ 127) (hK : K M (ixB (sByt.getD q []) c (sLen.getD q 0) 0)) : wp_J0_indexOf_0f7a4 n M q c K := by
  refine ⟨hq, hq, sj_lat hq ⟨fun h => absurd h i1, fun _ => sj_len hq ⟨hq, fun h => absurd h (Int32.not_lt.mpr h0), fun _ => ⟨fun h => absurd (Int32.le_trans (Int32.le_of_lt h) h1) (by decide), fun _ => ⟨fun _ => ?_, fun h => absurd h i1⟩⟩⟩⟩⟩
  rintro v3 rfl v4 hv
  have hv4 : v4 = nI (sLen.getD q 0) := by
    rw [hv]
    show (if Int32.ofNat (sLen.getD q 0) < nI (sLen.getD q 0) then _ else _) = _
    exact if_neg (Int32.lt_irrefl)
  subst hv4
  clear hv
  refine ⟨fun _ => ⟨hq, ?_⟩, fun h => absurd (show (0 : Int32) < nI (sLen.getD q 0) from by rw [show (0 : Int32) = nI 0 from rfl]; exact nI_lt hl.1 (by omega)) h⟩
  rintro v1 hv1
  have e1 : v1 = c := by
    rw [hv1]
    obtain ⟨j, hj, rfl⟩ := bd_of (k := 127) (lo := 0) (hi := 127) (by decide) (by decide) ⟨h0, h1⟩
    exact lg_i2b_small (by rw [nI_toInt (by omega)]; omega) (by rw [nI_toInt (by omega)]; omega)
  subst e1
  clear hv1
  refine ⟨sLen.getD q 0 + 1, ?_⟩
  suffices h : ∀ (f i : Nat), i + f = sLen.getD q 0 → ixB (sByt.getD q []) v1 f i = ixB (sByt.getD q []) v1 (sLen.getD q 0) 0 → wl_J1_indexOfChar_4cfef_7 n q v1 0 (nI (sLen.getD q 0)) K (f + 1) M v1 (nI i) by
    exact h _ 0 (by omega) rfl
  intro f
  induction f with
  | zero =>
    intro i hi e
    rw [wl_J1_indexOfChar_4cfef_7]
    rw [← e] at hK
    exact ⟨fun _ => hK, fun h => absurd (nI_le (by omega) (by omega)) h⟩
  | succ f ih =>
    intro i hi e
    rw [wl_J1_indexOfChar_4cfef_7, nI_clamp (by omega)]
    refine ⟨fun h => absurd h (nI_ge (by omega) (by omega)), fun _ => ⟨vp_in_nI (by omega) (by omega), fun h => ?_, fun h => ?_⟩⟩
    · rintro v2 rfl
      rw [nI_s]
      rw [ixB, if_neg h] at e
      exact ih (i + 1) (by omega) e
    · rw [ixB, if_pos h] at e
      rw [← e] at hK
      exact hK
end CST
