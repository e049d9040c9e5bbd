theorem stp_0 (v : Int32) (env : Int32 → Int32) (l : List Int32) : stp 0 v env l = v :: l := by unfold stp; rw [if_neg (by decide), if_pos rfl]
theorem stp_1 (v : Int32) (env : Int32 → Int32) (l : List Int32) : stp 1 v env l = env v :: l := by unfold stp; rw [if_neg (by decide), if_neg (by decide)]
theorem stp_n (a : Int32) (env : Int32 → Int32) (r : List Int32) : stp 2 33 env (a :: r) = bi (a = 0) :: r := by unfold stp; rw [if_pos rfl, if_pos rfl]
theorem stp_o {v : Int32} (h : ¬ v = 33) (a b : Int32) (env : Int32 → Int32) (r : List Int32) : stp 2 v env (b :: a :: r) = jn v a b :: r := by unfold stp; rw [if_pos rfl, if_neg h]
section M8t
variable {n : Nat} {M : Mm}
/-- is x within lo .. hi (as longs) -/
theorem e8_isIn {K : Mm → Int32 → Prop} {x lo hi : Int32} {a b c : Int64} (ha : a = x.toInt64) (hb : b = lo.toInt64) (hc : c = hi.toInt64) (h : K M (bi (lo ≤ x ∧ x ≤ hi))) : wp_X8_isIn n M a b c K := by
  subst ha hb hc
  unfold wp_X8_isIn
  rw [lg_cmp_lt, lg_cmp_gt, l64_lt, l64_lt]
  refine ⟨fun h1 => ?_, fun h1 => ⟨fun h2 => ?_, fun h2 => ?_⟩⟩
  · rw [bi_f (fun q => absurd q.1 (Int32.not_le.mpr h1))] at h; exact h
  · rw [bi_f (fun q => absurd q.2 (Int32.not_le.mpr h2))] at h; exact h
  · rw [bi_t ⟨Int32.not_lt.mp h1, Int32.not_lt.mp h2⟩] at h; exact h
theorem e8_isComer {K : Mm → Int32 → Prop} {x : Int32} (h : K M (bi (0 ≤ x ∧ x ≤ M 75 0 - 1))) : wp_X8_isComer n M x K := e8_isIn (lo := 0) rfl (by decide) rfl ⟨bi_01 _, h⟩
theorem neg1_div (x : Int32) : x / (-1) = -x := by
  rw [← Int32.toInt_inj, Int32.toInt_div, show (-1 : Int32).toInt = -1 from by decide, Int32.toInt_neg, Int.tdiv_neg, Int.tdiv_one]
theorem e8_joined {K : Mm → Int32 → Prop} {v a b : Int32} (hv : opOK v) (h : K M (jn v a b)) : wp_X8_joined n M v a b K := by
  have hor : (v = 124) → wb_X8_joined_197 n v a b K M := by
    rintro rfl
    have e : jn 124 a b = bi (¬ a = 0 ∨ ¬ b = 0) := if_pos rfl
    rw [e] at h
    unfold wb_X8_joined_197
    refine ⟨fun h1 => ?_, fun h1 => ⟨fun h2 => ?_, fun h2 => ?_⟩⟩
    · rw [bi_t (Or.inl h1)] at h; exact h
    · rw [bi_f (fun q => q.elim (fun z => z h1) (fun z => z h2))] at h; exact h
    · rw [bi_t (Or.inr h2)] at h; exact h
  unfold wp_X8_joined
  rcases hv with rfl | rfl | rfl | rfl | rfl | rfl | rfl | rfl | rfl
  · simp [jn] at h ⊢; exact hor rfl
  · simp [jn, bi] at h ⊢; exact ⟨fun h1 => by simp [h1] at h; exact h, fun h1 => ⟨fun h2 => by simp [h2] at h; exact h, fun h2 => by simp [h1, h2] at h; exact h⟩⟩
  · simp [jn, bi] at h ⊢; exact ⟨fun h1 => by rw [if_neg (Int32.not_lt.mpr h1)] at h; exact h, fun h1 => by rw [if_pos h1] at h; exact h⟩
  · simp [jn, bi] at h ⊢; exact ⟨fun h1 => by rw [if_neg h1] at h; exact h, fun h1 => by rw [if_pos h1] at h; exact h⟩
  · simp [jn, bi] at h ⊢; exact ⟨fun h1 => by rw [if_neg (Int32.not_lt.mpr h1)] at h; exact h, fun h1 => by rw [if_pos h1] at h; exact h⟩
  · simp [jn] at h ⊢; exact h
  · simp [jn] at h ⊢; exact h
  · simp [jn] at h ⊢; exact h
  · simp [jn] at h ⊢
    exact ⟨fun h1 => ⟨fun _ => ⟨h1, by rw [if_neg h1] at h; exact h⟩, fun h2 => by subst h2; rw [if_neg h1, neg1_div] at h; exact h⟩, fun h1 => by rw [if_pos h1] at h; exact h⟩
theorem ixs (t k : Nat) : (((108 : Int32) + (200 * nI t)) + 4) + (2 * nI k) = nI (112 + 200 * t + 2 * k) := by
  rw [ixt, show (4 : Int32) = nI 4 from rfl, show (2 : Int32) = nI 2 from rfl, pk_mul, nI_add, nI_add]
  congr 1; omega
theorem nm_in {key v : Int32} (h : nmOK key v) : vp_in v 128 := by
  rcases h with ⟨-, h | h | h⟩ | ⟨-, h | h | h⟩ | ⟨-, h | h⟩ <;> rw [h] <;> (unfold vp_in; decide)
theorem e8_worked {K : Mm → Int32 → Prop} {t : Nat} {env : Int32 → Int32} (ht : t < 14) (hT : TOK (M 75) t) (hE : ∀ v : Int32, nmOK (M 75 (108 + 200 * t)) v → M 89 v.toNatClampNeg = env v) (hK : ∀ M' : Mm, (∀ i : Nat, i ≠ 90 → M' i = M i) → K M' (evT (M 75) t env)) : wp_X8_worked n M (nI t) K := by
  obtain ⟨m, w, hm, em, ew, hw, hd, hkey, hdw, hv⟩ := hT
  have hev : evT (M 75) t env = (stk (M 75) t env m).headD 0 := by unfold evT; rw [em, nI_clamp (by omega)]
  have hlen := stk_len (env := env) hv
  refine ⟨m + 1, ?_⟩
  suffices h : ∀ (j k : Nat) (M1 : Mm), k + j = m → (∀ i : Nat, i ≠ 90 → M1 i = M i) → PR (M1 90) (stk (M 75) t env k) → wl_X8_worked_4 n (nI t) K (j + 1) M1 (nI (dpt (M 75) t k)) (nI k) by
    exact h m 0 M (by omega) (fun _ _ => rfl) trivial
  intro j
  induction j with
  | zero =>
    intro k M1 hk hM hP
    have hkm : k = m := by omega
    subst hkm
    rw [wl_X8_worked_4]
    show vp_in _ 3108 ∧ _
    have h75 : M1 75 = M 75 := hM 75 (by decide)
    rw [ixt, show (2 : Int32) = nI 2 from rfl, nI_add]
    refine ⟨inS (by omega), fun _ => ?_, fun h => absurd ?_ h⟩
    · have hl := hlen k (Nat.le_refl _)
      rw [hd] at hl
      match hq : stk (M 75) t env k, hl with
      | [a], _ =>
        rw [hq] at hP
        have e : M1 90 0 = a := hP.1
        rw [e]
        have h2 := hK M1 hM
        rw [hev, hq] at h2
        exact h2
    · rw [nI_lt31 (by omega), h75, show 108 + 200 * t + 2 = 110 + 200 * t from by omega, em]
      exact nI_le (Nat.le_refl _) (by omega)
  | succ j ih =>
    intro k M1 hk hM hP
    have h75 : M1 75 = M 75 := hM 75 (by decide)
    have h89 : M1 89 = M 89 := hM 89 (by decide)
    rw [wl_X8_worked_4]
    show vp_in _ 3108 ∧ _
    rw [ixt, show (2 : Int32) = nI 2 from rfl, nI_add]
    refine ⟨inS (by omega), fun h => absurd h ?_, fun _ => ?_⟩
    · rw [nI_lt31 (by omega), h75, show 108 + 200 * t + 2 = 110 + 200 * t from by omega, em]
      exact nI_ge (by omega) (by omega)
    · show vp_in _ 3108 ∧ _
      rw [show nI 2 = (2 : Int32) from rfl, ixs]
      refine ⟨inS (by omega), ?_⟩
      rintro v5 hv5
      rw [nI_lt31 (by omega), h75] at hv5
      show vp_in _ 3108 ∧ _
      rw [ixs, show (1 : Int32) = nI 1 from rfl, nI_add]
      refine ⟨inS (by omega), ?_⟩
      rintro v8 hv8
      rw [nI_lt31 (by omega), h75, show 112 + 200 * t + 2 * k + 1 = 113 + 200 * t + 2 * k from by omega] at hv8
      have hv5 : v5 = sW (M 75) t k := hv5
      have hv8 : v8 = sV (M 75) t k := hv8
      have hl := hlen k (by omega)
      have hdk := dpt_le (M 75) t k
      have hpile : ∀ (P : Int32) (q : Nat), (∀ i : Nat, i ≠ 90 → wr M1 90 q P i = M i) := fun P q i hi => by rw [wr_oth hi]; exact hM i hi
      rw [show nI 1 = (1 : Int32) from rfl]
      rcases hv k (by omega) with ⟨a1, -⟩ | ⟨a1, a2⟩ | ⟨a1, a2, a3⟩ | ⟨a1, a2, a3⟩
      · rw [a1] at hv5
        refine ⟨fun h => absurd (h.symm.trans hv5) (by decide), fun _ => ⟨fun h => absurd hv5 h, fun _ => ?_⟩⟩
        refine ⟨vp_in_nI (by omega) (by decide), ?_⟩
        rintro M21 rfl v22 rfl v23 rfl
        rw [nI_clamp (by omega), nI_s, nI_s]
        have e : dpt (M 75) t (k + 1) = dpt (M 75) t k + 1 := by rw [dpt, a1, if_neg (by decide)]
        have e2 : stk (M 75) t env (k + 1) = v8 :: stk (M 75) t env k := by rw [stk, a1, stp_0, hv8]
        rw [← e]
        refine ih (k + 1) _ (by omega) (hpile _ _) ?_
        rw [e2, wr_row, ← hl]
        exact PR_push hP
      · rw [a1] at hv5
        refine ⟨fun h => absurd (h.symm.trans hv5) (by decide), fun _ => ⟨fun _ => ?_, fun h => absurd (h.symm.trans hv5) (by decide)⟩⟩
        have hin : vp_in v8 128 := by rw [hv8]; exact nm_in a2
        refine ⟨hin, vp_in_nI (by omega) (by decide), ?_⟩
        rintro M21 rfl v22 rfl v23 rfl
        rw [nI_clamp (by omega), nI_s, nI_s]
        have e : dpt (M 75) t (k + 1) = dpt (M 75) t k + 1 := by rw [dpt, a1, if_neg (by decide)]
        have e2 : stk (M 75) t env (k + 1) = env v8 :: stk (M 75) t env k := by rw [stk, a1, stp_1, hv8]
        rw [← e]
        refine ih (k + 1) _ (by omega) (hpile _ _) ?_
        rw [e2, wr_row, ← hl, h89, hE v8 (by rw [hv8]; exact a2)]
        exact PR_push hP
      · rw [a1] at hv5
        rw [a2] at hv8
        refine ⟨fun _ => ⟨fun h => absurd hv8 h, fun _ => ?_⟩, fun h => absurd hv5 h⟩
        have e : dpt (M 75) t (k + 1) = dpt (M 75) t k := by rw [dpt, a1, if_pos rfl, a2, if_pos rfl]
        match hq : stk (M 75) t env k, hl with
        | [], hl => have : 0 = dpt (M 75) t k := hl; omega
        | a :: r, hl =>
          have hl : r.length + 1 = dpt (M 75) t k := hl
          rw [← hl, show nI (r.length + 1) - 1 = nI r.length from nI_pred _]
          have hin : vp_in (nI r.length) 100 := vp_in_nI (by omega) (by decide)
          have hcl : (nI r.length).toNatClampNeg = r.length := nI_clamp (by omega)
          have e2 : stk (M 75) t env (k + 1) = bi (a = 0) :: r := by rw [stk, a1, a2, hq, stp_n]
          rw [hq] at hP
          have ha : M1 90 r.length = a := hP.1
          rw [hcl, ha]
          rw [← hl] at e
          refine ⟨hin, fun h => ⟨hin, ?_⟩, fun h => ⟨hin, ?_⟩⟩
          · rintro M14 rfl v15 rfl
            rw [nI_s, ← e]
            refine ih (k + 1) _ (by omega) (hpile _ _) ?_
            rw [e2, wr_row, bi_f h]
            exact PR_top hP
          · rintro M14 rfl v15 rfl
            rw [nI_s, ← e]
            refine ih (k + 1) _ (by omega) (hpile _ _) ?_
            rw [e2, wr_row, bi_t h]
            exact PR_top hP
      · rw [a1] at hv5
        refine ⟨fun _ => ⟨fun _ => ?_, fun h => absurd (hv8.symm.trans h) (op_ne a2)⟩, fun h => absurd hv5 h⟩
        have e : dpt (M 75) t (k + 1) = dpt (M 75) t k - 1 := by rw [dpt, a1, if_pos rfl, if_neg (op_ne a2)]
        match hq : stk (M 75) t env k, hl with
        | [], hl => have : 0 = dpt (M 75) t k := hl; omega
        | [x], hl => have : 1 = dpt (M 75) t k := hl; omega
        | b :: a :: r, hl =>
          have hl : r.length + 2 = dpt (M 75) t k := hl
          rw [← hl] at e ⊢
          rintro v9 hv9
          have hv9 : v9 = nI (r.length + 1) := by rw [hv9]; exact pk_m1 _
          subst hv9
          rw [show nI (r.length + 1) - 1 = nI r.length from nI_pred _]
          have hin : vp_in (nI r.length) 100 := vp_in_nI (by omega) (by decide)
          have hcl : (nI r.length).toNatClampNeg = r.length := nI_clamp (by omega)
          have e2 : stk (M 75) t env (k + 1) = jn v8 a b :: r := by rw [stk, a1, hq, stp_o (op_ne a2), hv8]
          rw [hq] at hP
          have hb : M1 90 (r.length + 1) = b := hP.1
          have ha : M1 90 r.length = a := hP.2.1
          rw [hcl, nI_clamp (by omega), ha, hb]
          refine ⟨hin, vp_in_nI (by omega) (by decide), e8_joined (by rw [hv8]; exact a2) ⟨hin, ?_⟩⟩
          rintro M14 rfl v15 rfl
          rw [nI_s]
          have e3 : dpt (M 75) t (k + 1) = r.length + 1 := by omega
          rw [← e3]
          refine ih (k + 1) _ (by omega) (hpile _ _) ?_
          rw [e2, wr_row]
          exact PR_top hP.2
end M8t
