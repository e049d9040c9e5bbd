section C6
variable {n : Nat} {M : Mm}
theorem k6_joined {K : Mm → Int32 → Prop} {v a b : Int32} (hv : opOK v) (h : K M (jn v a b)) : wp_X6_joined n M v a b K := by
  unfold wp_X6_joined
  rcases hv with rfl | rfl | rfl | rfl | rfl | rfl | rfl | rfl | rfl
  · simp [jn, bi] at h ⊢
    exact ⟨fun h1 => by simp [h1] at h; exact h, fun h1 => ⟨fun h2 => by simp [h1, h2] at h; exact h, fun h2 => by simp [h2] at h; exact h⟩⟩
  · simp [jn, bi] at h ⊢; exact ⟨fun h1 => by simp [h1] at h; exact h, fun h1 => ⟨fun h2 => by simp [h2] at h; exact h, fun h2 => by simp [h1, h2] at h; exact h⟩⟩
  · simp [jn, bi] at h ⊢; exact ⟨fun h1 => by rw [if_neg (Int32.not_lt.mpr h1)] at h; exact h, fun h1 => by rw [if_pos h1] at h; exact h⟩
  · simp [jn, bi] at h ⊢; exact ⟨fun h1 => by rw [if_neg h1] at h; exact h, fun h1 => by rw [if_pos h1] at h; exact h⟩
  · simp [jn, bi] at h ⊢; exact ⟨fun h1 => by rw [if_neg (Int32.not_lt.mpr h1)] at h; exact h, fun h1 => by rw [if_pos h1] at h; exact h⟩
  · simp [jn] at h ⊢; exact h
  · simp [jn] at h ⊢; exact h
  · simp [jn] at h ⊢; exact h
  · simp [jn] at h ⊢
    exact ⟨fun h1 => ⟨h1, by rw [if_neg h1] at h; exact h⟩, fun h1 => by rw [if_pos h1] at h; exact h⟩
def envR (key p1 p2 p3 : Int32) (env : Int32 → Int32) : Prop := (key = 0 → env 116 = p1 ∧ env 115 = p2 ∧ env 97 = p3) ∧ (key = 1 → env 97 = p1 ∧ env 119 = p2 ∧ env 110 = p3) ∧ (key = 2 → env 103 = p1 ∧ env 101 = p2)
theorem op_neg {v : Int32} (h : opOK v) : ¬ (-v) = -33 ∧ ¬ (-3 ≤ -v) ∧ - -v = v := by
  rcases h with rfl | rfl | rfl | rfl | rfl | rfl | rfl | rfl | rfl <;> decide
theorem nI_m3 {v : Int32} (h : ¬ v < 0) : ¬ v = -33 ∧ -3 ≤ v := by
  refine ⟨fun e => by rw [e] at h; exact h (by decide), ?_⟩
  exact Int32.le_trans (by decide) (Int32.not_lt.mp h)
theorem nI_le0 {k : Nat} (hk : k < 2 ^ 31) : nI k ≤ 0 ↔ k = 0 := by
  rw [show (0 : Int32) = nI 0 from rfl, nI_leI hk (by decide)]; omega
theorem k6_value {K : Mm → Int32 → Prop} {id t : Nat} {S : Sc} {env : Int32 → Int32} {p1 p2 p3 : Int32} (hR : TR n M id S t) (hT : TOK S t) (hE : envR (S (108 + 200 * t)) p1 p2 p3 env) (hK : ∀ M' : Mm, (∀ i : Nat, i ≠ id + 2 → M' i = M i) → M' (id + 2) LEN = M (id + 2) LEN → K M' (evT S t env)) : wp_X6_value n M id p1 p2 p3 K := by
  obtain ⟨htp, r0, r1, r2, r3, r4⟩ := hR
  obtain ⟨m, w, hm, em, ew, hw, hd, hkey, hdw, hv⟩ := hT
  have hev : evT S t env = (stk S t env m).headD 0 := by unfold evT; rw [em, nI_clamp (by omega)]
  have hlen := stk_len (env := env) hv
  have htp1 : tp (id + 1) = 21 := ly_20_2 htp.1
  refine ⟨htp, ?_⟩
  rintro v1 rfl
  rw [r2, em, nI_clamp (by omega)]
  refine ⟨m + 1, ?_⟩
  suffices h : ∀ (j k : Nat) (M1 : Mm), k + j = m → (∀ i : Nat, i ≠ id + 2 → M1 i = M i) → M1 (id + 2) LEN = M (id + 2) LEN → PR (M1 (id + 2)) (stk S t env k) → wl_X6_value_17 n id p1 p2 p3 K (j + 1) M1 (nI (dpt S t k)) (id + 1) (Int32.ofNat m) (nI k) by
    exact h m 0 M (by omega) (fun _ _ => rfl) rfl trivial
  intro j
  induction j with
  | zero =>
    intro k M1 hk hM hL hP
    have hkm : k = m := by omega
    subst hkm
    have hLw : (M1 (id + 2) LEN).toNatClampNeg = w := by rw [hL, r3, ew, nI_clamp (by omega)]
    rw [wl_X6_value_17]
    have hx5 : tp (id + 1) = 21 ∧ id + 1 < n := ⟨htp1, by have := htp.2; omega⟩
    refine ⟨hx5, fun _ => ⟨fun h => ?_, fun h => ⟨?_, ?_⟩⟩, fun h => absurd (nI_le (Nat.le_refl _) (by omega)) h⟩
    · rw [hd] at h; exact absurd h (by decide)
    · rw [hLw]
      have := hdw k (Nat.le_refl _)
      exact vp_in_nI (n := 0) (by omega) (by omega)
    · have hl := hlen k (Nat.le_refl _)
      rw [hd] at hl
      match hq : stk S t env k, hl with
      | [a], _ =>
        rw [hq] at hP
        have e : M1 (id + 2) 0 = a := hP.1
        rw [e]
        have h2 := hK M1 hM hL
        rw [hev, hq] at h2
        exact h2
  | succ j ih =>
    intro k M1 hk hM hL hP
    have hLw : (M1 (id + 2) LEN).toNatClampNeg = w := by rw [hL, r3, ew, nI_clamp (by omega)]
    have h1 : M1 (id + 1) = M (id + 1) := hM (id + 1) (by omega)
    have hl := hlen k (by omega)
    have hdk := dpt_le S t k
    have hdwk := hdw k (by omega)
    have hdwk1 := hdw (k + 1) (by omega)
    have hx5 : tp (id + 1) = 21 ∧ id + 1 < n := ⟨htp1, by have := htp.2; omega⟩
    have hst := r4 k (by rw [em, nI_clamp (by omega)]; omega)
    have hfr : ∀ (q : Nat) (x : Int32), (∀ i : Nat, i ≠ id + 2 → wr M1 (id + 2) q x i = M i) := fun q x i hi => by rw [wr_oth hi]; exact hM i hi
    have hfl : ∀ (q : Nat) (x : Int32), q < 100 → wr M1 (id + 2) q x (id + 2) LEN = M (id + 2) LEN := fun q x hq => by rw [wr_idx (by unfold LEN; omega)]; exact hL
    rw [wl_X6_value_17]
    refine ⟨hx5, fun h => absurd h (nI_ge (by omega) (by omega)), fun _ => ⟨?_, ?_⟩⟩
    · rw [h1, r2, em, nI_clamp (by omega)]
      exact vp_in_nI (by omega) (by omega)
    · intro v2 hv2
      rw [nI_clamp (by omega), h1] at hv2
      rw [← hv2] at hst
      rw [hLw, show Int32.ofNat w = nI w from rfl]
      -- a push
      have push : ∀ x : Int32, dpt S t (k + 1) = dpt S t k + 1 → stk S t env (k + 1) = x :: stk S t env k → vp_in (nI (dpt S t k)) w ∧ ∀ M4 : Mm, M4 = wr M1 (id + 2) (nI (dpt S t k)).toNatClampNeg x → ∀ v5 : Int32, v5 = nI (dpt S t k) + 1 → ∀ v6 : Int32, v6 = nI k + 1 → wl_X6_value_17 n id p1 p2 p3 K (j + 1) M4 v5 (id + 1) (Int32.ofNat m) v6 := by
        intro x e e2
        refine ⟨vp_in_nI (by omega) (by omega), ?_⟩
        rintro M4 rfl v5 rfl v6 rfl
        rw [nI_clamp (by omega), nI_s, nI_s, ← e]
        refine ih (k + 1) _ (by omega) (hfr _ _) (hfl _ _ (by omega)) ?_
        rw [e2, wr_row, ← hl]
        exact PR_push hP
      have room : ∀ {A : Prop}, dpt S t (k + 1) = dpt S t k + 1 → nI w ≤ nI (dpt S t k) → A := fun e h => absurd h (nI_ge (by omega) (by omega))
      rcases hv k (by omega) with ⟨a1, a2⟩ | ⟨a1, a2⟩ | ⟨a1, a2, a3⟩ | ⟨a1, a2, a3⟩
      · have ex : v2 = sV S t k := by
          rcases hst with ⟨-, q⟩ | ⟨q, -⟩ | ⟨q, -⟩
          · exact q
          · rw [a1] at q; exact absurd q (by decide)
          · rw [a1] at q; exact absurd q (by decide)
        rw [← ex] at a2
        have e : dpt S t (k + 1) = dpt S t k + 1 := by rw [dpt, a1, if_neg (by decide)]
        have e2 : stk S t env (k + 1) = v2 :: stk S t env k := by rw [stk, a1, stp_0, ex]
        obtain ⟨n1, n2⟩ := nI_m3 a2
        exact ⟨fun _ => ⟨fun _ => ⟨fun h => room e h, fun _ => ⟨fun h => absurd h a2, fun _ => push v2 e e2⟩⟩, fun h => absurd n2 h⟩, fun h => absurd h n1⟩
      · have e : dpt S t (k + 1) = dpt S t k + 1 := by rw [dpt, a1, if_neg (by decide)]
        have e2 : stk S t env (k + 1) = env (sV S t k) :: stk S t env k := by rw [stk, a1, stp_1]
        have hx : (v2 = -1 ∧ env (sV S t k) = p1) ∨ (v2 = -2 ∧ env (sV S t k) = p2) ∨ (v2 = -3 ∧ env (sV S t k) = p3) := by
          rcases hst with ⟨q, -⟩ | ⟨-, q⟩ | ⟨q, -⟩
          · rw [a1] at q; exact absurd q (by decide)
          · rcases q with ⟨z, ⟨q1, q2⟩ | ⟨q1, q2⟩ | ⟨q1, q2⟩⟩ | ⟨z, ⟨q1, q2⟩ | ⟨q1, q2⟩ | ⟨q1, q2⟩⟩ | ⟨z, ⟨q1, q2⟩ | ⟨q1, q2⟩⟩
            · exact Or.inl ⟨q2, by rw [q1]; exact (hE.1 z).1⟩
            · exact Or.inr (Or.inl ⟨q2, by rw [q1]; exact (hE.1 z).2.1⟩)
            · exact Or.inr (Or.inr ⟨q2, by rw [q1]; exact (hE.1 z).2.2⟩)
            · exact Or.inl ⟨q2, by rw [q1]; exact (hE.2.1 z).1⟩
            · exact Or.inr (Or.inl ⟨q2, by rw [q1]; exact (hE.2.1 z).2.1⟩)
            · exact Or.inr (Or.inr ⟨q2, by rw [q1]; exact (hE.2.1 z).2.2⟩)
            · exact Or.inl ⟨q2, by rw [q1]; exact (hE.2.2 z).1⟩
            · exact Or.inr (Or.inl ⟨q2, by rw [q1]; exact (hE.2.2 z).2⟩)
          · rw [a1] at q; exact absurd q (by decide)
        rcases hx with ⟨x1, x2⟩ | ⟨x1, x2⟩ | ⟨x1, x2⟩
        · rw [x2] at e2
          subst x1
          exact ⟨fun _ => ⟨fun _ => ⟨fun h => room e h, fun _ => ⟨fun _ => ⟨fun h => absurd rfl h, fun _ => push p1 e e2⟩, fun h => absurd (by decide) h⟩⟩, fun h => absurd (by decide) h⟩, fun h => absurd h (by decide)⟩
        · rw [x2] at e2
          subst x1
          exact ⟨fun _ => ⟨fun _ => ⟨fun h => room e h, fun _ => ⟨fun _ => ⟨fun _ => ⟨fun h => absurd rfl h, fun _ => push p2 e e2⟩, fun h => absurd h (by decide)⟩, fun h => absurd (by decide) h⟩⟩, fun h => absurd (by decide) h⟩, fun h => absurd h (by decide)⟩
        · rw [x2] at e2
          subst x1
          exact ⟨fun _ => ⟨fun _ => ⟨fun h => room e h, fun _ => ⟨fun _ => ⟨fun _ => ⟨fun _ => push p3 e e2, fun h => absurd h (by decide)⟩, fun h => absurd h (by decide)⟩, fun h => absurd (by decide) h⟩⟩, fun h => absurd (by decide) h⟩, fun h => absurd h (by decide)⟩
      · have ex : v2 = -33 := by
          rcases hst with ⟨q, -⟩ | ⟨q, -⟩ | ⟨-, q⟩
          · rw [a1] at q; exact absurd q (by decide)
          · rw [a1] at q; exact absurd q (by decide)
          · rw [a2] at q; exact q
        refine ⟨fun h => absurd ex h, fun _ => ⟨fun h => absurd ((nI_le0 (by omega)).mp h) (by omega), fun _ => ?_⟩⟩
        have e : dpt S t (k + 1) = dpt S t k := by rw [dpt, a1, if_pos rfl, a2, if_pos rfl]
        match hq : stk S t env k, hl with
        | [], hl => have : 0 = dpt S t k := hl; omega
        | a :: r, hl =>
          have hl : r.length + 1 = dpt S t k := hl
          rw [← hl, show nI (r.length + 1) - 1 = nI r.length from nI_pred _]
          have hin : vp_in (nI r.length) w := vp_in_nI (by omega) (by omega)
          have hcl : (nI r.length).toNatClampNeg = r.length := nI_clamp (by omega)
          have e2 : stk S t env (k + 1) = bi (a = 0) :: r := by rw [stk, a1, a2, hq, stp_n]
          rw [hq] at hP
          have ha : M1 (id + 2) r.length = a := hP.1
          rw [hcl, ha]
          rw [← hl] at e
          refine ⟨hin, fun h => ⟨hin, ?_⟩, fun h => ⟨hin, ?_⟩⟩
          · rintro M14 rfl v15 rfl
            rw [nI_s, ← e]
            refine ih (k + 1) _ (by omega) (hfr _ _) (hfl _ _ (by omega)) ?_
            rw [e2, wr_row, bi_f h]
            exact PR_top hP
          · rintro M14 rfl v15 rfl
            rw [nI_s, ← e]
            refine ih (k + 1) _ (by omega) (hfr _ _) (hfl _ _ (by omega)) ?_
            rw [e2, wr_row, bi_t h]
            exact PR_top hP
      · have ex : v2 = - sV S t k := by
          rcases hst with ⟨q, -⟩ | ⟨q, -⟩ | ⟨-, q⟩
          · rw [a1] at q; exact absurd q (by decide)
          · rw [a1] at q; exact absurd q (by decide)
          · exact q
        obtain ⟨o1, o2, o3⟩ := op_neg a2
        rw [← ex] at o1 o2 o3
        refine ⟨fun _ => ⟨fun h => absurd h o2, fun _ => ⟨fun h => absurd h (by rw [show (1 : Int32) = nI 1 from rfl]; exact nI_ge (by omega) (by omega)), fun _ => ?_⟩⟩, fun h => absurd h o1⟩
        have e : dpt S t (k + 1) = dpt S t k - 1 := by rw [dpt, a1, if_pos rfl, if_neg (op_ne a2)]
        match hq : stk S t env k, hl with
        | [], hl => have : 0 = dpt S t k := hl; omega
        | [x], hl => have : 1 = dpt S t k := hl; omega
        | b :: a :: r, hl =>
          have hl : r.length + 2 = dpt S t k := hl
          rw [← hl] at e ⊢
          rintro v9 hv9
          have hv9 : v9 = nI (r.length + 1) := by rw [hv9]; exact pk_m1 _
          subst hv9
          rw [show nI (r.length + 1) - 1 = nI r.length from nI_pred _, o3]
          have hin : vp_in (nI r.length) w := vp_in_nI (by omega) (by omega)
          have hcl : (nI r.length).toNatClampNeg = r.length := nI_clamp (by omega)
          have e2 : stk S t env (k + 1) = jn (sV S t k) a b :: r := by rw [stk, a1, hq, stp_o (op_ne a2)]
          rw [hq] at hP
          have hb : M1 (id + 2) (r.length + 1) = b := hP.1
          have ha : M1 (id + 2) r.length = a := hP.2.1
          rw [hcl, nI_clamp (by omega), ha, hb]
          refine ⟨hin, vp_in_nI (by omega) (by omega), k6_joined a2 ⟨by rw [hLw]; exact hin, ?_⟩⟩
          rintro M14 rfl v15 rfl
          rw [nI_s]
          have e3 : dpt S t (k + 1) = r.length + 1 := by omega
          rw [← e3]
          refine ih (k + 1) _ (by omega) (hfr _ _) (hfl _ _ (by omega)) ?_
          rw [e2, wr_row]
          exact PR_top hP.2
end C6
