section M8q
variable {n : Nat} {M : Mm}
/-- many minutes: s, its own fields, scratch -/
theorem e8_many {K : Mm → Prop} {p : Nat} {p1 : Int32} (hp : p1 = nI p) (hp3 : p ≤ 300) (hS : SOK (M 75)) (hK : ∀ M' : Mm, M' 75 = miK (M 74 13) (M 75) p → M' 74 = upd (M 74) 14 (M 74 14 + sbK (M 74 13) (M 75) p) → FrG M M' → K M') : wp_X8_goesOnMany n M p1 K := by
  subst hp
  have hz := hS.co.1
  refine ⟨p + 1, ?_⟩
  suffices h : ∀ (j k : Nat) (M1 : Mm), k + j = p → M1 75 = miK (M 74 13) (M 75) k → M1 74 = upd (M 74) 14 (M 74 14 + sbK (M 74 13) (M 75) k) → FrG M M1 → wl_X8_goesOnMany_2 n (nI p) K (j + 1) M1 (nI k) by
    exact h _ 0 M (by omega) rfl (by show M 74 = upd (M 74) 14 (M 74 14 + 0); rw [Int32.add_zero, upd_self]) (FrG.rf M)
  intro j
  induction j with
  | zero =>
    intro k M1 hk h5 h4 hF
    have : k = p := by omega
    subst this
    rw [wl_X8_goesOnMany_2]
    exact ⟨fun _ => hK M1 h5 h4 hF, fun h => absurd (nI_le (Nat.le_refl _) (by omega)) h⟩
  | succ j ih =>
    intro k M1 hk h5 h4 hF
    rw [wl_X8_goesOnMany_2]
    refine ⟨fun h => absurd h (nI_ge (by omega) (by omega)), fun _ => e8_goesOn (by rw [h5]; exact hS.kp (kp_miK hz k)) (fun M2 a5 a4 aF => ?_)⟩
    rintro v3 rfl
    rw [nI_s]
    have e13 : M1 74 13 = M 74 13 := by rw [h4, pk_un (by decide)]
    refine ih (k + 1) M2 (by omega) (by rw [a5, e13, h5]; rfl) ?_ (hF.tr aF)
    rw [a4, h4, pk_us, upd_upd, h5]
    show upd (M 74) 14 (M 74 14 + sbK (M 74 13) (M 75) k + _) = upd (M 74) 14 (M 74 14 + (sbK (M 74 13) (M 75) k + _))
    rw [Int32.add_assoc]
theorem e8_laysBy {K : Mm → Prop} (hK : ∀ M' : Mm, (∀ k : Nat, k < 108 → M' 87 k = M 75 k) → (∀ i : Nat, i ≠ 87 → M' i = M i) → K M') : wp_X8_laysBy n M K := by
  refine ⟨109, ?_⟩
  suffices h : ∀ (j c : Nat) (M1 : Mm), c + j = 108 → (∀ k : Nat, k < c → M1 87 k = M 75 k) → (∀ i : Nat, i ≠ 87 → M1 i = M i) → wl_X8_laysBy_2 n K (j + 1) M1 (nI c) by
    exact h 108 0 M (by omega) (fun k hk => absurd hk (by omega)) (fun _ _ => rfl)
  intro j
  induction j with
  | zero =>
    intro c M1 hc h1 h2
    have : c = 108 := by omega
    subst this
    rw [wl_X8_laysBy_2]
    exact ⟨fun _ => hK M1 h1 h2, fun h => absurd (by decide) h⟩
  | succ j ih =>
    intro c M1 hc h1 h2
    rw [wl_X8_laysBy_2]
    refine ⟨fun h => absurd h (by rw [show (108 : Int32) = nI 108 from rfl]; exact nI_ge (by omega) (by omega)), fun _ => ⟨inS (by omega), vp_in_nI (by omega) (by decide), ?_⟩⟩
    rintro M2 rfl v2 rfl
    rw [nI_s, nI_clamp (by omega), h2 75 (by decide)]
    refine ih (c + 1) _ (by omega) (fun k hk => ?_) (fun i hi => by rw [wr_oth hi]; exact h2 i hi)
    by_cases e : k = c
    · subst e; rw [wr_at]
    · rw [wr_idx e]; exact h1 k (by omega)
theorem e8_laysBack {K : Mm → Prop} (hK : ∀ M' : Mm, M' 75 = (fun k => if k < 108 then M 87 k else M 75 k) → (∀ i : Nat, i ≠ 75 → M' i = M i) → K M') : wp_X8_laysBack n M K := by
  refine ⟨109, ?_⟩
  suffices h : ∀ (j c : Nat) (M1 : Mm), c + j = 108 → M1 75 = (fun k => if k < c then M 87 k else M 75 k) → (∀ i : Nat, i ≠ 75 → M1 i = M i) → wl_X8_laysBack_2 n K (j + 1) M1 (nI c) by
    exact h 108 0 M (by omega) (by funext k; rw [if_neg (by omega)]) (fun _ _ => rfl)
  intro j
  induction j with
  | zero =>
    intro c M1 hc h1 h2
    have : c = 108 := by omega
    subst this
    rw [wl_X8_laysBack_2]
    exact ⟨fun _ => hK M1 h1 h2, fun h => absurd (by decide) h⟩
  | succ j ih =>
    intro c M1 hc h1 h2
    rw [wl_X8_laysBack_2]
    refine ⟨fun h => absurd h (by rw [show (108 : Int32) = nI 108 from rfl]; exact nI_ge (by omega) (by omega)), fun _ => ⟨vp_in_nI (by omega) (by decide), inS (by omega), ?_⟩⟩
    rintro M2 rfl v2 rfl
    rw [nI_s, nI_clamp (by omega), h2 87 (by decide)]
    refine ih (c + 1) _ (by omega) ?_ (fun i hi => by rw [wr_oth hi]; exact h2 i hi)
    rw [wr_row, h1]
    funext k
    unfold upd
    by_cases e : k = c
    · subst e; rw [if_pos rfl, if_pos (by omega)]
    · rw [if_neg e]
      show (if k < c then M 87 k else M 75 k) = _
      by_cases e2 : k < c
      · rw [if_pos e2, if_pos (by omega)]
      · rw [if_neg e2, if_neg (by omega)]
theorem e8_setAside {K : Mm → Prop} {a b : Nat} (ha : tp a = 4108) (hb : tp b = 4108) (hab : a ≠ b) (hK : ∀ M' : Mm, M' b = (fun k => if k < 2908 then M a k else M b k) → (∀ i : Nat, i ≠ b → M' i = M i) → K M') : wp_X8_setAside n M a b K := by
  refine ⟨ha, hb, 2909, ?_⟩
  suffices h : ∀ (j c : Nat) (M1 : Mm), c + j = 2908 → M1 b = (fun k => if k < c then M a k else M b k) → (∀ i : Nat, i ≠ b → M1 i = M i) → wl_X8_setAside_2 n a b K (j + 1) M1 (nI c) by
    exact h 2908 0 M (by omega) (by funext k; rw [if_neg (by omega)]) (fun _ _ => rfl)
  intro j
  induction j with
  | zero =>
    intro c M1 hc h1 h2
    have : c = 2908 := by omega
    subst this
    rw [wl_X8_setAside_2]
    exact ⟨fun _ => hK M1 h1 h2, fun h => absurd (by decide) h⟩
  | succ j ih =>
    intro c M1 hc h1 h2
    rw [wl_X8_setAside_2]
    refine ⟨fun h => absurd h (by rw [show (2908 : Int32) = nI 2908 from rfl]; exact nI_ge (by omega) (by omega)), fun _ => ⟨inS (by omega), inS (by omega), ?_⟩⟩
    rintro M2 rfl v2 rfl
    rw [nI_s, nI_clamp (by omega), h2 a hab]
    refine ih (c + 1) _ (by omega) ?_ (fun i hi => by rw [wr_oth hi]; exact h2 i hi)
    rw [wr_row, h1]
    funext k
    unfold upd
    by_cases e : k = c
    · subst e; rw [if_pos rfl, if_pos (by omega)]
    · rw [if_neg e]
      show (if k < c then M a k else M b k) = _
      by_cases e2 : k < c
      · rw [if_pos e2, if_pos (by omega)]
      · rw [if_neg e2, if_neg (by omega)]
end M8q
