def SOK (S : Sc) : Prop := (∃ z : Nat, z ≤ 8 ∧ S 0 = nI z) ∧ ∃ x : Nat, x ≤ 14 ∧ S 1 = nI x ∧ ∀ t : Nat, t < x → TOK S t
theorem SOK.co {S : Sc} (h : SOK S) : nCo S ≤ 8 ∧ S 0 = nI (nCo S) := by
  obtain ⟨⟨z, h1, h2⟩, -⟩ := h
  have : nCo S = z := by unfold nCo; rw [h2, nI_clamp (by omega)]
  rw [this]; exact ⟨h1, h2⟩
theorem SOK.tx {S : Sc} (h : SOK S) : nTx S ≤ 14 ∧ S 1 = nI (nTx S) ∧ ∀ t : Nat, t < nTx S → TOK S t := by
  obtain ⟨-, x, h1, h2, h3⟩ := h
  have : nTx S = x := by unfold nTx; rw [h2, nI_clamp (by omega)]
  rw [this]; exact ⟨h1, h2, h3⟩
def Kp (S T : Sc) : Prop := T 0 = S 0 ∧ T 1 = S 1 ∧ ∀ k : Nat, 108 ≤ k → T k = S k
theorem Kp.rf (S : Sc) : Kp S S := ⟨rfl, rfl, fun _ _ => rfl⟩
theorem Kp.tr {S T U : Sc} (h : Kp S T) (g : Kp T U) : Kp S U := ⟨g.1.trans h.1, g.2.1.trans h.2.1, fun k hk => (g.2.2 k hk).trans (h.2.2 k hk)⟩
theorem Kp.up {S T : Sc} (h : Kp S T) {k : Nat} {x : Int32} (h0 : 1 < k) (h1 : k < 108) : Kp S (upd T k x) := ⟨by rw [pk_un (by omega)]; exact h.1, by rw [pk_un (by omega)]; exact h.2.1, fun q hq => by rw [pk_un (by omega)]; exact h.2.2 q hq⟩
theorem Kp.co {S T : Sc} (h : Kp S T) : nCo T = nCo S := by unfold nCo; rw [h.1]
theorem Kp.tx {S T : Sc} (h : Kp S T) : nTx T = nTx S := by unfold nTx; rw [h.2.1]
theorem dpt_kp {S T : Sc} (h : Kp S T) (t : Nat) : ∀ k : Nat, dpt T t k = dpt S t k
  | 0 => rfl
  | k + 1 => by
    unfold dpt sW sV
    rw [h.2.2 _ (by omega), h.2.2 _ (by omega), dpt_kp h t k]
theorem stk_kp {S T : Sc} (h : Kp S T) (t : Nat) (env : Int32 → Int32) : ∀ k : Nat, stk T t env k = stk S t env k
  | 0 => rfl
  | k + 1 => by
    unfold stk sW sV
    rw [h.2.2 _ (by omega), h.2.2 _ (by omega), stk_kp h t env k]
theorem evT_kp {S T : Sc} (h : Kp S T) (t : Nat) (env : Int32 → Int32) : evT T t env = evT S t env := by
  unfold evT
  rw [h.2.2 _ (by omega), stk_kp h]
theorem lastT_kp {S T : Sc} (h : Kp S T) (key : Int32) : ∀ k : Nat, lastT T key k = lastT S key k
  | 0 => rfl
  | k + 1 => by
    unfold lastT
    rw [h.2.2 _ (by omega), lastT_kp h key k]
theorem TOK.kp {S T : Sc} (h : Kp S T) {t : Nat} (g : TOK S t) : TOK T t := by
  obtain ⟨m, w, hm, em, ew, hw, hd, hkey, hdw, hv⟩ := g
  refine ⟨m, w, hm, by rw [h.2.2 _ (by omega)]; exact em, by rw [h.2.2 _ (by omega)]; exact ew, hw, by rw [dpt_kp h]; exact hd, by rw [h.2.2 _ (by omega)]; exact hkey, fun k hk => by rw [dpt_kp h]; exact hdw k hk, fun k hk => ?_⟩
  have a := hv k hk
  unfold sW sV at a ⊢
  rw [h.2.2 _ (by omega), h.2.2 _ (by omega), h.2.2 _ (by omega), dpt_kp h]
  exact a
theorem SOK.kp {S T : Sc} (h : Kp S T) (g : SOK S) : SOK T := by
  obtain ⟨⟨z, h1, h2⟩, x, h3, h4, h5⟩ := g
  exact ⟨⟨z, h1, h.1.trans h2⟩, x, h3, h.2.1.trans h4, fun t ht => (h5 t ht).kp h⟩
theorem cx_1 {c w : Nat} : 1 < cx c w := by unfold cx; omega
theorem cx_108 {c w : Nat} (hc : c < 8) (hw : w < 12) : cx c w < 108 := by unfold cx; omega
theorem kp_sinc {S : Sc} {c : Nat} (hc : c < 8) : Kp S (sinc S c) := (Kp.rf S).up cx_1 (cx_108 hc (by decide))
theorem kp_drw {S : Sc} : Kp S (drw S) := (Kp.rf S).up (by decide) (by decide)
theorem kp_goO {S : Sc} {c : Nat} (hc : c < 8) : Kp S (goO S c) := ((Kp.rf S).up cx_1 (cx_108 hc (by decide))).up cx_1 (cx_108 hc (by decide))
theorem kp_goB {S : Sc} {c : Nat} (hc : c < 8) : Kp S (goB S c) := ((Kp.rf S).up cx_1 (cx_108 hc (by decide))).up cx_1 (cx_108 hc (by decide))
theorem kp_emp {S : Sc} {c : Nat} (hc : c < 8) : Kp S (emp S c) := (Kp.rf S).up cx_1 (cx_108 hc (by decide))
theorem kp_les {S : Sc} {c : Nat} (hc : c < 8) : Kp S (les S c) := (Kp.rf S).up cx_1 (cx_108 hc (by decide))
theorem kp_stn {S : Sc} {c : Nat} (hc : c < 8) : Kp S (stn S c) := ((Kp.rf S).up cx_1 (cx_108 hc (by decide))).up cx_1 (cx_108 hc (by decide))
theorem kp_wai {S : Sc} {c : Nat} (hc : c < 8) : Kp S (wai S c) := ((Kp.rf S).up cx_1 (cx_108 hc (by decide))).up (by decide) (by decide)
theorem kp_tke {S : Sc} {c : Nat} {k : Int32} (hc : c < 8) : Kp S (tke S c k) := ((((Kp.rf S).up (by decide) (by decide)).up cx_1 (cx_108 hc (by decide))).up cx_1 (cx_108 hc (by decide))).tr (kp_goB hc)
theorem kp_lv1 {S : Sc} {c : Nat} (hc : c < 8) : Kp S (lv1 S c) := by
  unfold lv1
  repeat' split
  all_goals first | exact kp_sinc hc | exact kp_drw.tr (kp_sinc hc) | exact kp_drw.tr (kp_goO hc) | exact Kp.rf S
theorem kp_lvK {S : Sc} : ∀ c : Nat, c ≤ 8 → Kp S (lvK S c)
  | 0, _ => Kp.rf S
  | c + 1, h => (kp_lvK c (by omega)).tr (kp_lv1 (by omega))
theorem kp_ar0 {S : Sc} {c : Nat} (hc : c < 8) : Kp S (ar0 S c) := by
  unfold ar0
  split
  · exact (kp_goB hc).tr (kp_emp hc)
  · exact kp_stn hc
theorem kp_ar1 {S : Sc} {c : Nat} (hc : c < 8) : Kp S (ar1 S c) := by
  unfold ar1
  split
  · exact kp_tke hc
  · exact kp_ar0 hc
theorem kp_arr {S : Sc} {c : Nat} (hc : c < 8) : Kp S (arr S c) := ((Kp.rf S).up cx_1 (cx_108 hc (by decide))).tr (kp_ar1 hc)
theorem kp_cm1 {S : Sc} {c : Nat} (hc : c < 8) : Kp S (cm1 S c) := by
  unfold cm1
  repeat' split
  all_goals first | exact (kp_les hc).tr (kp_arr hc) | exact kp_les hc | exact Kp.rf S
theorem kp_cmK {S : Sc} : ∀ c : Nat, c ≤ 8 → Kp S (cmK S c)
  | 0, _ => Kp.rf S
  | c + 1, h => (kp_cmK c (by omega)).tr (kp_cm1 (by omega))
theorem kp_wt1 {B : Nat → Int32} {S : Sc} {c : Nat} (hc : c < 8) : Kp S (wt1 B S c) := by
  unfold wt1
  repeat' split
  all_goals first | exact kp_wai hc | exact ((kp_wai hc).tr (kp_goB hc)).tr (kp_emp hc) | exact Kp.rf S
theorem kp_hm1 {B : Nat → Int32} {S : Sc} {c : Nat} (hc : c < 8) : Kp S (hm1 B S c) := by
  unfold hm1
  repeat' split
  all_goals first | exact ((kp_les hc).up cx_1 (cx_108 hc (by decide))).up cx_1 (cx_108 hc (by decide)) | exact kp_les hc | exact Kp.rf S
theorem kp_wgK {B : Nat → Int32} {S : Sc} : ∀ c : Nat, c ≤ 8 → Kp S (wgK B S c)
  | 0, _ => Kp.rf S
  | c + 1, h => ((kp_wgK c (by omega)).tr (kp_wt1 (by omega))).tr (kp_hm1 (by omega))
theorem kp_qui {S : Sc} {a : Int32} {b : Nat} : Kp S (qui S a b) := by
  unfold qui
  repeat' split
  all_goals first | exact (Kp.rf S).up (by decide) (by decide) | exact ((Kp.rf S).up (by decide) (by decide)).up (by decide) (by decide)
theorem kp_wnK {o : Int32} {S : Sc} : ∀ c : Nat, c ≤ 8 → Kp S (wnK o S c)
  | 0, _ => Kp.rf S
  | c + 1, h => (kp_wnK c (by omega)).up cx_1 (cx_108 (by omega) (by decide))
theorem kp_mnt {S : Sc} : Kp S (mnt S) := (Kp.rf S).up (by decide) (by decide)
theorem kp_eod {o : Int32} {S : Sc} (h : nCo S ≤ 8) : Kp S (eod o S) := by
  unfold eod
  split
  · exact kp_mnt.tr (kp_wnK _ h)
  · exact kp_mnt
theorem kp_pt1 {S : Sc} (h : nCo S ≤ 8) : Kp S (pt1 S) := (kp_lvK _ h).tr (kp_cmK _ h)
theorem kp_pt2 {S : Sc} (h : nCo S ≤ 8) : Kp S (pt2 S) := (kp_pt1 h).tr (kp_wgK _ h)
theorem kp_mi1 {o : Int32} {S : Sc} (h : nCo S ≤ 8) : Kp S (mi1 o S) := by
  have h1 := (kp_pt2 h).tr (kp_qui (a := cbK (lvK S (nCo S)) (nCo S)) (b := cnt (pt2 S) (nCo S)))
  exact h1.tr (kp_eod (by rw [h1.co]; exact h))
theorem kp_miK {o : Int32} {S : Sc} (h : nCo S ≤ 8) : ∀ k : Nat, Kp S (miK o S k)
  | 0 => Kp.rf S
  | k + 1 => (kp_miK h k).tr (kp_mi1 (by rw [(kp_miK h k).co]; exact h))
/-- only the two scratch rows -/
def Fr8 (M M' : Mm) : Prop := ∀ i : Nat, i ≠ 89 → i ≠ 90 → M' i = M i
section M8m
variable {n : Nat} {M : Mm}
theorem e8_plain {K : Mm → Int32 → Prop} {c : Nat} (hc : c < 8) (hS : SOK (M 75)) (hK : ∀ M' : Mm, Fr8 M M' → K M' (plv (M 75) c)) : wp_X8_plainLeaves n M (nI c) K := by
  obtain ⟨hx, e1, hT⟩ := hS.tx
  refine e8_counts hx e1 ?_
  have hp : plv (M 75) c = if lastT (M 75) 0 (nTx (M 75)) < 0 then bi (jrem (M 75 2) 60 = M 75 (cx c 1)) else bi (¬ evT (M 75) (lastT (M 75) 0 (nTx (M 75))).toNatClampNeg (envL (M 75) c) = 0) := rfl
  refine ⟨fun h => ?_, fun h => ?_⟩
  · rintro M3 rfl
    refine e8_of (w := 8) rfl (by omega) (by decide) ?_
    rintro M6 rfl
    refine e8_of (w := 1) rfl (by omega) (by decide) ?_
    rintro M9 rfl
    have hn0 : ¬ lastT (M 75) 0 (nTx (M 75)) < 0 := Int32.not_lt.mpr h
    rw [if_neg hn0] at hp
    rcases lastT_cases (M 75) 0 (nTx (M 75)) with hl | ⟨t, ht, hl, hk⟩
    · rw [hl] at h; exact absurd h (by decide)
    · rw [hl] at hp ⊢
      rw [nI_clamp (by omega)] at hp
      have e75 : ∀ (x y z : Int32), wr (wr (wr M 89 116 x) 89 115 y) 89 97 z 75 = M 75 := fun x y z => by rw [wr_oth (by decide), wr_oth (by decide), wr_oth (by decide)]
      refine e8_worked (t := t) (env := envL (M 75) c) (by omega) (by rw [e75]; exact hT t ht) (fun v hv => ?_) (fun M' hM' => ?_)
      · rw [e75, hk] at hv
        simp only [wr_oth (show (75 : Nat) ≠ 89 by decide)]
        rcases hv with ⟨-, hv | hv | hv⟩ | ⟨hz, -⟩ | ⟨hz, -⟩
        · subst hv
          show wr (wr (wr M 89 116 _) 89 115 _) 89 97 _ 89 116 = _
          rw [wr_idx (by decide), wr_idx (by decide), wr_at]
          rfl
        · subst hv
          show wr (wr (wr M 89 116 _) 89 115 _) 89 97 _ 89 115 = _
          rw [wr_idx (by decide), wr_at]
          rfl
        · subst hv
          show wr (wr (wr M 89 116 _) 89 115 _) 89 97 _ 89 97 = _
          rw [wr_at]
          rfl
        · exact absurd hz (by decide)
        · exact absurd hz (by decide)
      · have hF : Fr8 M M' := fun i h1 h2 => by rw [hM' i h2, wr_oth h1, wr_oth h1, wr_oth h1]
        have h2 := hK M' hF
        rw [hp] at h2
        rw [e75]
        refine ⟨fun q => ?_, fun q => ?_⟩
        · rw [bi_f (fun z => z q)] at h2; exact h2
        · rw [bi_t q] at h2; exact h2
  · have h : lastT (M 75) 0 (nTx (M 75)) < 0 := Int32.not_le.mp h
    rw [if_pos h] at hp
    refine e8_of (w := 1) rfl (by omega) (by decide) ?_
    have h2 := hK M (fun _ _ _ => rfl)
    rw [hp] at h2
    refine ⟨fun q => ?_, fun q => ?_⟩
    · rw [bi_f q] at h2; exact h2
    · rw [bi_t q] at h2; exact h2
end M8m
