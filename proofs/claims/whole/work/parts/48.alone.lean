/-! one alone: the others' needs count for nothing -/
def isN (c k : Nat) : Prop := 12 ≤ k ∧ k < 108 ∧ k % 12 = 3 ∧ k / 12 ≠ c + 1
theorem isN_cx {c d w : Nat} (hw : w < 12) : isN c (cx d w) ↔ d < 8 ∧ w = 3 ∧ d ≠ c := by unfold isN cx; omega
noncomputable def nz (c : Nat) (S : Sc) : Sc := fun k => @ite _ (isN c k) (Classical.propDecidable _) 0 (S k)
theorem nz_at {c k : Nat} {S : Sc} (h : ¬ isN c k) : nz c S k = S k := if_neg h
theorem nz_0 {c k : Nat} {S : Sc} (h : isN c k) : nz c S k = 0 := if_pos h
theorem nz_lo {c k : Nat} {S : Sc} (h : k < 12) : nz c S k = S k := nz_at (by unfold isN; omega)
theorem nz_cx {c d w : Nat} {S : Sc} (hw : w < 12) (h : w ≠ 3) : nz c S (cx d w) = S (cx d w) := nz_at (by rw [isN_cx hw]; omega)
theorem nz_up {c k : Nat} {S : Sc} {x : Int32} (h : ¬ isN c k) : upd (nz c S) k x = nz c (upd S k x) := by
  funext q
  by_cases e : q = k
  · subst e; rw [pk_us, nz_at h, pk_us]
  · rw [pk_un e]
    by_cases hq : isN c q
    · rw [nz_0 hq, nz_0 hq]
    · rw [nz_at hq, nz_at hq, pk_un e]
theorem nz_uc {c d w : Nat} {S : Sc} {x : Int32} (hw : w < 12) (h : w ≠ 3) : upd (nz c S) (cx d w) x = nz c (upd S (cx d w) x) := nz_up (by rw [isN_cx hw]; omega)
theorem nz_ul {c k : Nat} {S : Sc} {x : Int32} (h : k < 12) : upd (nz c S) k x = nz c (upd S k x) := nz_up (by unfold isN; omega)
theorem kp_nz {c : Nat} {S : Sc} : Kp S (nz c S) := ⟨nz_lo (by decide), nz_lo (by decide), fun k hk => nz_at (by unfold isN; omega)⟩
theorem nz_cnt {c : Nat} {S : Sc} : ∀ z : Nat, cnt (nz c S) z = cnt S z
  | 0 => rfl
  | z + 1 => by unfold cnt; rw [nz_cnt z, nz_cx (by decide) (by decide)]
theorem nz_envL {c d : Nat} {S : Sc} : envL (nz c S) d = envL S d := by
  funext v; unfold envL; rw [nz_lo (by decide), nz_cx (by decide) (by decide), nz_cx (by decide) (by decide)]
theorem nz_envS {c d : Nat} {S : Sc} : envS (nz c S) d = envS S d := by
  funext v; unfold envS; rw [nz_lo (k := 5) (by decide), nz_cx (by decide) (by decide), nz_cnt, kp_nz.co]
theorem nz_plv {c d : Nat} {S : Sc} : plv (nz c S) d = plv S d := by
  unfold plv
  rw [kp_nz.tx, lastT_kp kp_nz, evT_kp kp_nz, nz_envL, nz_lo (by decide), nz_cx (by decide) (by decide)]
theorem nz_wlv {c d : Nat} {S : Sc} : wlv (nz c S) d = wlv S d := by
  unfold wlv
  rw [nz_plv, nz_cnt, kp_nz.co, nz_lo (k := 5) (by decide), nz_cx (by decide) (by decide), nz_cx (by decide) (by decide), nz_cx (by decide) (by decide)]
theorem nz_stg {c d : Nat} {S : Sc} : stg (nz c S) d = stg S d := by
  unfold stg
  rw [kp_nz.tx, lastT_kp kp_nz, evT_kp kp_nz, nz_envS]
theorem nz_stv {c d : Nat} {S : Sc} : stv (nz c S) d = stv S d := by
  unfold stv
  rw [nz_stg, nz_cx (by decide) (by decide), nz_cx (by decide) (by decide)]
theorem nz_sinc {c d : Nat} {S : Sc} : sinc (nz c S) d = nz c (sinc S d) := by unfold sinc; rw [nz_cx (by decide) (by decide), nz_uc (by decide) (by decide)]
theorem nz_drw {c : Nat} {S : Sc} : drw (nz c S) = nz c (drw S) := by unfold drw; rw [nz_lo (by decide), nz_ul (by decide)]
theorem nz_goO {c d : Nat} {S : Sc} : goO (nz c S) d = nz c (goO S d) := by unfold goO; rw [nz_cx (by decide) (by decide), nz_uc (by decide) (by decide), nz_uc (by decide) (by decide)]
theorem nz_goB {c d : Nat} {S : Sc} : goB (nz c S) d = nz c (goB S d) := by unfold goB; rw [nz_cx (by decide) (by decide), nz_uc (by decide) (by decide), nz_uc (by decide) (by decide)]
theorem nz_emp {c d : Nat} {S : Sc} : emp (nz c S) d = nz c (emp S d) := by unfold emp; rw [nz_cx (by decide) (by decide), nz_uc (by decide) (by decide)]
theorem nz_les {c d : Nat} {S : Sc} : les (nz c S) d = nz c (les S d) := by unfold les; rw [nz_cx (by decide) (by decide), nz_uc (by decide) (by decide)]
theorem nz_stn {c d : Nat} {S : Sc} : stn (nz c S) d = nz c (stn S d) := by unfold stn; rw [nz_uc (by decide) (by decide), nz_uc (by decide) (by decide)]
theorem nz_tke {c d : Nat} {S : Sc} {k : Int32} : tke (nz c S) d k = nz c (tke S d k) := by
  unfold tke
  rw [nz_lo (by decide), nz_cx (by decide) (by decide), nz_cx (by decide) (by decide), nz_ul (by decide), nz_uc (by decide) (by decide), nz_uc (by decide) (by decide), nz_goB]
theorem nz_wai {c d : Nat} {S : Sc} : wai (nz c S) d = nz c (wai S d) := by
  unfold wai
  rw [nz_cx (by decide) (by decide), nz_uc (by decide) (by decide), nz_lo (by decide), nz_ul (by decide)]
theorem nz_if {c : Nat} {p : Prop} [Decidable p] {A B : Sc} : (if p then nz c A else nz c B) = nz c (if p then A else B) := by split <;> rfl
theorem nz_lv1 {c d : Nat} {S : Sc} : lv1 (nz c S) d = nz c (lv1 S d) := by
  unfold lv1
  rw [nz_cx (by decide) (by decide), nz_cx (by decide) (by decide), nz_wlv, nz_drw, nz_sinc, nz_sinc, nz_goO, nz_lo (by decide)]
  have : drv (nz c (drw S)) = drv (drw S) := by unfold drv; rw [nz_lo (by decide)]
  rw [this]
  simp only [nz_if]
theorem nz_lvK {c : Nat} {S : Sc} : ∀ d : Nat, lvK (nz c S) d = nz c (lvK S d)
  | 0 => rfl
  | d + 1 => by rw [lvK, nz_lvK d, nz_lv1]; rfl
theorem nz_arr {c d : Nat} {S : Sc} : arr (nz c S) d = nz c (arr S d) := by
  unfold arr
  rw [nz_cx (by decide) (by decide), nz_uc (by decide) (by decide)]
  generalize upd S (cx d 11) (S (cx d 11) + 1) = T
  have h0 : ar0 (nz c T) d = nz c (ar0 T d) := by unfold ar0; rw [nz_stv, nz_goB, nz_emp, nz_stn]; exact nz_if
  unfold ar1
  rw [nz_cnt, kp_nz.co, nz_lo (by decide), nz_lo (by decide), nz_cx (by decide) (by decide), nz_tke, h0]
  exact nz_if
theorem nz_cm1 {c d : Nat} {S : Sc} : cm1 (nz c S) d = nz c (cm1 S d) := by
  unfold cm1
  rw [nz_cx (by decide) (by decide), nz_les, nz_cx (by decide) (by decide), nz_arr]
  simp only [nz_if]
theorem nz_cmK {c : Nat} {S : Sc} : ∀ d : Nat, cmK (nz c S) d = nz c (cmK S d)
  | 0 => rfl
  | d + 1 => by rw [cmK, nz_cmK d, nz_cm1]; rfl
theorem nz_cmb {c d : Nat} {S : Sc} {b : Int32} : cmb (nz c S) d b = cmb S d b := by
  unfold cmb
  rw [nz_cx (by decide) (by decide), nz_les, nz_cx (by decide) (by decide)]
theorem nz_cbK {c : Nat} {S : Sc} : ∀ d : Nat, cbK (nz c S) d = cbK S d
  | 0 => rfl
  | d + 1 => by rw [cbK, nz_cbK d, nz_cmK, nz_cmb]; rfl
theorem nz_wt1 {B : Nat → Int32} {c d : Nat} {S : Sc} : wt1 B (nz c S) d = nz c (wt1 B S d) := by
  unfold wt1
  rw [nz_wai, nz_cx (by decide) (by decide), nz_stv, nz_goB, nz_emp]
  simp only [nz_if]
theorem nz_hm1 {B : Nat → Int32} {c d : Nat} {S : Sc} : hm1 B (nz c S) d = nz c (hm1 B S d) := by
  unfold hm1
  rw [nz_les, nz_cx (by decide) (by decide), nz_uc (by decide) (by decide), nz_uc (by decide) (by decide)]
  simp only [nz_if]
theorem nz_wgK {B : Nat → Int32} {c : Nat} {S : Sc} : ∀ d : Nat, wgK B (nz c S) d = nz c (wgK B S d)
  | 0 => rfl
  | d + 1 => by rw [wgK, nz_wgK d, nz_wt1, nz_hm1]; rfl
theorem nz_qui {c : Nat} {S : Sc} {x : Int32} {y : Nat} : qui (nz c S) x y = nz c (qui S x y) := by
  unfold qui
  rw [nz_lo (by decide), nz_lo (by decide), nz_lo (by decide), nz_lo (by decide), nz_ul (by decide), nz_ul (by decide), nz_ul (by decide)]
  simp only [nz_if]
theorem nz_pt2 {c : Nat} {S : Sc} : pt2 (nz c S) = nz c (pt2 S) := by
  unfold pt2 pt1
  rw [kp_nz.co, nz_lvK, nz_cmK]
  have : (fun d => nz c S (cx d 5)) = fun d => S (cx d 5) := by funext d; exact nz_cx (by decide) (by decide)
  rw [this, nz_wgK]
theorem nz_wnK {c : Nat} {S : Sc} (hc : c < 8) : ∀ d : Nat, d ≤ 8 → wnK (-1) (nz c S) d = nz c (wnK (nI c) S d)
  | 0, _ => rfl
  | d + 1, hd => by
    rw [wnK, nz_wnK hc d (by omega), wnK]
    unfold wnt
    rw [if_pos (Or.inl (by decide))]
    have e : nz c (wnK (nI c) S d) (cx d 3) = if nI c < 0 ∨ nI c = nI d then wnK (nI c) S d (cx d 3) else 0 := by
      by_cases h : d = c
      · subst h
        rw [if_pos (Or.inr rfl)]
        exact nz_at (by rw [isN_cx (by decide)]; omega)
      · rw [if_neg (fun q => q.elim (fun q => absurd q (nI_pos (by omega))) (fun q => h ((nI_eq (by omega) (by omega)).mp q).symm))]
        exact nz_0 ((isN_cx (by decide)).mpr ⟨by omega, rfl, h⟩)
    rw [e, nz_uc (by decide) (by decide)]
theorem nz_mi1 {c : Nat} {S : Sc} (hc : c < 8) (hz : nCo S ≤ 8) : mi1 (-1) (nz c S) = nz c (mi1 (nI c) S) := by
  unfold mi1
  rw [nz_pt2, kp_nz.co, nz_lvK, nz_cbK, nz_cnt, nz_qui]
  have hk : Kp S (qui (pt2 S) (cbK (lvK S (nCo S)) (nCo S)) (cnt (pt2 S) (nCo S))) := (kp_pt2 hz).tr kp_qui
  have hz2 := hk.co
  generalize qui (pt2 S) (cbK (lvK S (nCo S)) (nCo S)) (cnt (pt2 S) (nCo S)) = T at hz2 ⊢
  have hm : mnt (nz c T) = nz c (mnt T) := by unfold mnt; rw [nz_lo (by decide), nz_ul (by decide)]
  unfold eod
  rw [hm, nz_lo (by decide), kp_nz.co, nz_wnK hc _ (by omega)]
  exact nz_if
theorem nz_miK {c : Nat} {S : Sc} (hc : c < 8) (hz : nCo S ≤ 8) : ∀ k : Nat, miK (-1) (nz c S) k = nz c (miK (nI c) S k)
  | 0 => rfl
  | k + 1 => by rw [miK, nz_miK hc hz k, nz_mi1 hc (by rw [(kp_miK hz k).co]; exact hz)]; rfl
theorem SR.cg {n b : Nat} {M : Mm} {S T : Sc} (h : SR n M b S) (k : Kp S T) (hg : ∀ q : Nat, q < 12 → T q = S q) (hc : ∀ c : Nat, c < nCo S → ∀ w : Nat, w < 12 → T (cx c w) = S (cx c w)) : SR n M b T := by
  obtain ⟨h1, h2, h3, h4⟩ := h
  refine ⟨?_, fun c hc' w hw => ?_, fun q hq => ?_, fun t ht => ?_⟩
  · unfold SRg
    rw [hg 0 (by decide), hg 1 (by decide), hg 2 (by decide), hg 3 (by decide), hg 4 (by decide), hg 5 (by decide), hg 6 (by decide), hg 7 (by decide), hg 8 (by decide), hg 9 (by decide), hg 10 (by decide)]; exact h1
  · rw [k.co] at hc'
    rw [hc c hc' w hw]; exact h2 c hc' w hw
  · rw [lastT_kp k, k.tx]; exact h3 q hq
  · rw [k.tx] at ht
    obtain ⟨id, a1, a2⟩ := h4 t ht
    exact ⟨id, a1, a2.kp k⟩
/-- the others at home, as the reference puts them -/
def hoK (S : Sc) (c : Nat) : Nat → Sc
  | 0 => S
  | d + 1 => if d = c then hoK S c d else upd (upd (hoK S c d) (cx d 5) 0) (cx d 4) 0
/-- and as the class does -/
def hcK (S : Sc) (c : Nat) : Nat → Sc
  | 0 => S
  | d + 1 => if d = c then hcK S c d else upd (upd (upd (hcK S c d) (cx d 5) 0) (cx d 4) 0) (cx d 3) 0
theorem kp_hoK {S : Sc} {c : Nat} : ∀ d : Nat, d ≤ 8 → Kp S (hoK S c d)
  | 0, _ => Kp.rf S
  | d + 1, h => by
    unfold hoK
    split
    · exact kp_hoK d (by omega)
    · exact ((kp_hoK d (by omega)).up cx_1 (cx_108 (by omega) (by decide))).up cx_1 (cx_108 (by omega) (by decide))
theorem kp_hcK {S : Sc} {c : Nat} : ∀ d : Nat, d ≤ 8 → Kp S (hcK S c d)
  | 0, _ => Kp.rf S
  | d + 1, h => by
    unfold hcK
    split
    · exact kp_hcK d (by omega)
    · exact (((kp_hcK d (by omega)).up cx_1 (cx_108 (by omega) (by decide))).up cx_1 (cx_108 (by omega) (by decide))).up cx_1 (cx_108 (by omega) (by decide))
theorem hoK_lo {S : Sc} {c q : Nat} (hq : q < 12) : ∀ d : Nat, hoK S c d q = S q
  | 0 => rfl
  | d + 1 => by
    unfold hoK
    split
    · exact hoK_lo hq d
    · rw [pk_un (Ne.symm (cx_lo hq)), pk_un (Ne.symm (cx_lo hq))]; exact hoK_lo hq d
/-- alike but for the needs of those sent home -/
theorem hc_ho {S : Sc} {c : Nat} : ∀ d : Nat, ∀ k : Nat, hcK S c d k = if ∃ e : Nat, e < d ∧ e ≠ c ∧ k = cx e 3 then 0 else hoK S c d k
  | 0, k => by rw [if_neg (fun ⟨e, h, _⟩ => absurd h (by omega))]; rfl
  | d + 1, k => by
    have ih := hc_ho (S := S) (c := c) d
    unfold hcK hoK
    by_cases hdc : d = c
    · rw [if_pos hdc, if_pos hdc, ih k]
      congr 1
      refine propext ⟨fun ⟨e, h1, h2, h3⟩ => ⟨e, by omega, h2, h3⟩, fun ⟨e, h1, h2, h3⟩ => ⟨e, by omega, h2, h3⟩⟩
    · rw [if_neg hdc, if_neg hdc]
      by_cases h3 : k = cx d 3
      · subst h3
        rw [pk_us, if_pos ⟨d, by omega, hdc, rfl⟩]
      · rw [pk_un h3]
        have e1 : (∃ e : Nat, e < d + 1 ∧ e ≠ c ∧ k = cx e 3) ↔ ∃ e : Nat, e < d ∧ e ≠ c ∧ k = cx e 3 := by
          refine ⟨fun ⟨e, h1, h2, h4⟩ => ⟨e, ?_, h2, h4⟩, fun ⟨e, h1, h2, h4⟩ => ⟨e, by omega, h2, h4⟩⟩
          have : e ≠ d := fun q => h3 (by rw [h4, q])
          omega
        have n5 : ∀ w : Nat, w < 12 → w ≠ 3 → k = cx d w → ¬ ∃ e : Nat, e < d ∧ e ≠ c ∧ k = cx e 3 := by
          rintro w hw hw3 rfl ⟨e, _, _, h4⟩
          exact cx_ne hw (by decide) (Or.inr hw3) h4
        by_cases h4 : k = cx d 4
        · rw [if_neg (fun q => n5 4 (by decide) (by decide) h4 (e1.mp q))]
          subst h4; rw [pk_us, pk_us]
        · rw [pk_un h4, pk_un h4]
          by_cases h5 : k = cx d 5
          · rw [if_neg (fun q => n5 5 (by decide) (by decide) h5 (e1.mp q))]
            subst h5; rw [pk_us, pk_us]
          · rw [pk_un h5, pk_un h5, ih k]
            congr 1
            exact propext e1.symm
