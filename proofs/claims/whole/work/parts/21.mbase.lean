/-! the reference's helpers -/
theorem l64_lt {x y : Int32} : x.toInt64 < y.toInt64 ↔ x < y := by rw [Int64.lt_iff_toInt_lt, Int32.lt_iff_toInt_lt, Int32.toInt_toInt64, Int32.toInt_toInt64]
theorem l64_eq {x y : Int32} : x.toInt64 = y.toInt64 ↔ x = y := by rw [← Int64.toInt_inj, ← Int32.toInt_inj, Int32.toInt_toInt64, Int32.toInt_toInt64]
theorem in8 {c : Nat} (h : c < 8) : vp_in (nI c) 8 := vp_in_nI h (by decide)
theorem inS {k : Nat} (h : k < 3108) : vp_in (nI k) 3108 := vp_in_nI h (by decide)
theorem nI_lt31 {k : Nat} (h : k < 3108) : (nI k).toNatClampNeg = k := nI_clamp (by omega)
theorem inC {c w : Nat} (hc : c < 9) (hw : w < 12) : vp_in (((12 : Int32) + (12 * nI c)) + nI w) 3108 ∧ (((12 : Int32) + (12 * nI c)) + nI w).toNatClampNeg = cx c w := by
  rw [ixc]
  exact ⟨inS (cx_lt hc hw), nI_lt31 (cx_lt hc hw)⟩
section M8
variable {n : Nat} {M : Mm}
theorem e8_of {K : Mm → Int32 → Prop} {c w : Nat} {x : Int32} (hx : x = nI w) (hc : c < 9) (hw : w < 12) (h : K M (M 75 (cx c w))) : wp_X8_of n M (nI c) x K := by
  subst hx
  obtain ⟨h1, h2⟩ := inC hc hw
  exact ⟨h1, by rw [h2]; exact h⟩
theorem e8_sets {K : Mm → Prop} {c w : Nat} {x v : Int32} (hx : x = nI w) (hc : c < 9) (hw : w < 12) (h : K (wr M 75 (cx c w) v)) : wp_X8_sets n M (nI c) x v K := by
  subst hx
  obtain ⟨h1, h2⟩ := inC hc hw
  refine ⟨h1, ?_⟩
  rintro M1 rfl
  rw [h2]; exact h
theorem e8_more {K : Mm → Prop} {c w : Nat} {x : Int32} (hx : x = nI w) (hc : c < 9) (hw : w < 12) (h : K (wr M 75 (cx c w) (M 75 (cx c w) + 1))) : wp_X8_more n M (nI c) x K := by
  subst hx
  obtain ⟨h1, h2⟩ := inC hc hw
  refine ⟨h1, h1, ?_⟩
  rintro M1 rfl
  rw [h2]; exact h
theorem nI_s (c : Nat) : nI c + 1 = nI (c + 1) := nI_1 c
theorem l8_standing {K : Mm → Int32 → Prop} {z : Nat} (hz : z ≤ 8) (h0 : M 75 0 = nI z) (hK : K M (nI (cnt (M 75) z))) : ∀ (j c : Nat), c + j = z → wl_X8_standing_4 n K (j + 1) M (nI (cnt (M 75) c)) (nI c)
  | 0, c, hc => by
    have : c = z := by omega
    subst this
    rw [wl_X8_standing_4]
    exact ⟨fun _ => hK, fun h => absurd (by rw [h0]; exact nI_le (Nat.le_refl _) (by omega)) h⟩
  | j + 1, c, hc => by
    rw [wl_X8_standing_4]
    refine ⟨fun h => absurd h (by rw [h0]; exact nI_ge (by omega) (by omega)), fun _ => e8_of (w := 5) rfl (by omega) (by decide) ?_⟩
    have ih := l8_standing hz h0 hK j (c + 1) (by omega)
    refine ⟨fun h => ?_, fun h => ?_⟩
    · rintro v3 rfl v4 rfl
      have e : cnt (M 75) (c + 1) = cnt (M 75) c := by rw [cnt, if_neg h, Nat.add_zero]
      rw [e] at ih
      rw [nI_s, show nI (cnt (M 75) c) + 0 = nI (cnt (M 75) c) from by rw [Int32.add_zero]]
      exact ih
    · rintro v3 rfl v4 rfl
      have e : cnt (M 75) (c + 1) = cnt (M 75) c + 1 := by rw [cnt, if_pos h]
      rw [e] at ih
      rw [nI_s, nI_s]
      exact ih
theorem e8_standing {K : Mm → Int32 → Prop} {z : Nat} (hz : z ≤ 8) (h0 : M 75 0 = nI z) (hK : K M (nI (cnt (M 75) z))) : wp_X8_standing n M K := ⟨z + 1, l8_standing hz h0 hK z 0 (by omega)⟩
theorem l8_ofAll {K : Mm → Int32 → Prop} {z w : Nat} {x : Int32} (hx : x = nI w) (hw : w < 12) (hz : z ≤ 8) (h0 : M 75 0 = nI z) (hK : K M (sumT (M 75) w z)) : ∀ (j c : Nat), c + j = z → wl_X8_ofAll_4 n x K (j + 1) M (sumT (M 75) w c) (nI c)
  | 0, c, hc => by
    have : c = z := by omega
    subst this
    rw [wl_X8_ofAll_4]
    exact ⟨fun _ => hK, fun h => absurd (by rw [h0]; exact nI_le (Nat.le_refl _) (by omega)) h⟩
  | j + 1, c, hc => by
    rw [wl_X8_ofAll_4]
    refine ⟨fun h => absurd h (by rw [h0]; exact nI_ge (by omega) (by omega)), fun _ => e8_of (w := w) hx (by omega) hw ?_⟩
    have ih := l8_ofAll hx hw hz h0 hK j (c + 1) (by omega)
    rintro v3 rfl v4 rfl
    rw [nI_s]
    exact ih
theorem e8_ofAll {K : Mm → Int32 → Prop} {z w : Nat} {x : Int32} (hx : x = nI w) (hw : w < 12) (hz : z ≤ 8) (h0 : M 75 0 = nI z) (hK : K M (sumT (M 75) w z)) : wp_X8_ofAll n M x K := ⟨z + 1, l8_ofAll hx hw hz h0 hK z 0 (by omega)⟩
theorem ixt (t : Nat) : (108 : Int32) + (200 * nI t) = nI (108 + 200 * t) := by
  rw [show (108 : Int32) = nI 108 from rfl, show (200 : Int32) = nI 200 from rfl, pk_mul, nI_add]
theorem l8_counts {K : Mm → Int32 → Prop} {x : Nat} {key : Int32} (hx : x ≤ 14) (h1 : M 75 1 = nI x) (hK : K M (lastT (M 75) key x)) : ∀ (j t : Nat), t + j = x → wl_X8_counts_4 n key K (j + 1) M (lastT (M 75) key t) (nI t)
  | 0, t, ht => by
    have : t = x := by omega
    subst this
    rw [wl_X8_counts_4]
    exact ⟨fun _ => hK, fun h => absurd (by rw [h1]; exact nI_le (Nat.le_refl _) (by omega)) h⟩
  | j + 1, t, ht => by
    rw [wl_X8_counts_4]
    refine ⟨fun h => absurd h (by rw [h1]; exact nI_ge (by omega) (by omega)), fun _ => ?_⟩
    show vp_in _ 3108 ∧ _
    rw [ixt]
    refine ⟨inS (by omega), ?_⟩
    rw [nI_lt31 (by omega)]
    have ih := l8_counts hx h1 hK j (t + 1) (by omega)
    refine ⟨fun h => ?_, fun h => ?_⟩
    · rintro v3 rfl
      rw [lastT, if_neg h] at ih
      rw [nI_s]; exact ih
    · rintro v3 rfl
      rw [lastT, if_pos h] at ih
      rw [nI_s]; exact ih
theorem e8_counts {K : Mm → Int32 → Prop} {x : Nat} {key : Int32} (hx : x ≤ 14) (h1 : M 75 1 = nI x) (hK : K M (lastT (M 75) key x)) : wp_X8_counts n M key K := ⟨x + 1, l8_counts hx h1 hK x 0 (by omega)⟩
end M8
