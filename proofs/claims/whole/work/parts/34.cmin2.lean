/-! the two loops of waiting and reaching home are one -/
def wtK (B : Nat → Int32) (S : Sc) : Nat → Sc
  | 0 => S
  | c + 1 => wt1 B (wtK B S c) c
def hmK (B : Nat → Int32) (S : Sc) : Nat → Sc
  | 0 => S
  | c + 1 => hm1 B (hmK B S c) c
theorem kp_wtK {B : Nat → Int32} {S : Sc} : ∀ c : Nat, c ≤ 8 → Kp S (wtK B S c)
  | 0, _ => Kp.rf S
  | c + 1, h => (kp_wtK c (by omega)).tr (kp_wt1 (by omega))
theorem kp_hmK {B : Nat → Int32} {S : Sc} : ∀ c : Nat, c ≤ 8 → Kp S (hmK B S c)
  | 0, _ => Kp.rf S
  | c + 1, h => (kp_hmK c (by omega)).tr (kp_hm1 (by omega))
theorem cnt_upd {T : Sc} {d w : Nat} {x : Int32} (hw : w < 12) (h : w ≠ 5 ∨ (¬ T (cx d 5) = 2 ∧ ¬ x = 2)) : ∀ z : Nat, cnt (upd T (cx d w) x) z = cnt T z
  | 0 => rfl
  | z + 1 => by
    unfold cnt
    rw [cnt_upd hw h z]
    by_cases e : cx z 5 = cx d w
    · have e1 : z = d ∧ w = 5 := by unfold cx at e; omega
      obtain ⟨rfl, rfl⟩ := e1
      rw [pk_us]
      rcases h with h | ⟨h1, h2⟩
      · exact absurd rfl h
      · rw [if_neg h1, if_neg h2]
    · rw [pk_un e]
theorem stv_upd {T : Sc} {c d w : Nat} {x : Int32} (hcd : d ≠ c) (hd : d < 8) (hw : w < 12) (h : w ≠ 5 ∨ (¬ T (cx d 5) = 2 ∧ ¬ x = 2)) : stv (upd T (cx d w) x) c = stv T c := by
  have k : Kp T (upd T (cx d w) x) := (Kp.rf T).up cx_1 (cx_108 hd hw)
  have e0 : upd T (cx d w) x (cx c 0) = T (cx c 0) := pk_un (cx_ne (by decide) hw (Or.inl (Ne.symm hcd)))
  have e1 : upd T (cx d w) x (cx c 1) = T (cx c 1) := pk_un (cx_ne (by decide) hw (Or.inl (Ne.symm hcd)))
  have e5 : upd T (cx d w) x 5 = T 5 := pk_un (Ne.symm (cx_lo (by decide)))
  have eE : envS (upd T (cx d w) x) c = envS T c := by
    funext v
    unfold envS
    rw [e1, e5, k.co, cnt_upd hw h]
  have eG : stg (upd T (cx d w) x) c = stg T c := by
    unfold stg
    rw [lastT_kp k, k.tx, evT_kp k, eE]
  unfold stv
  rw [eG, e0, e1]
theorem wai_f {T : Sc} {c k : Nat} {x : Int32} (h7 : k ≠ cx c 7) (h9 : k ≠ 9) : wai (upd T k x) c = upd (wai T c) k x := by
  unfold wai
  have n97 : (9 : Nat) ≠ cx c 7 := Ne.symm (cx_lo (by decide))
  rw [pk_un (Ne.symm h7), pk_un n97, pk_un (Ne.symm h9), pk_un n97, upd_comm h7, upd_comm h9]
theorem goB_f {T : Sc} {c k : Nat} {x : Int32} (h5 : k ≠ cx c 5) (h6 : k ≠ cx c 6) (h2 : k ≠ cx c 2) : goB (upd T k x) c = upd (goB T c) k x := by
  unfold goB
  rw [pk_un (Ne.symm h2), upd_comm h5, upd_comm h6]
theorem emp_f {T : Sc} {c k : Nat} {x : Int32} (h : k ≠ cx c 10) : emp (upd T k x) c = upd (emp T c) k x := by
  unfold emp
  rw [pk_un (Ne.symm h), upd_comm h]
theorem wai_o {T : Sc} {c d w : Nat} (hw : w < 12) (hcd : d ≠ c) : wai T c (cx d w) = T (cx d w) := by
  unfold wai
  rw [pk_un (cx_lo (by decide)), pk_un (cx_ne hw (by decide) (Or.inl hcd))]
theorem goB_o {T : Sc} {c d w : Nat} (hw : w < 12) (hcd : d ≠ c) : goB T c (cx d w) = T (cx d w) := by
  unfold goB
  rw [pk_un (cx_ne hw (by decide) (Or.inl hcd)), pk_un (cx_ne hw (by decide) (Or.inl hcd))]
theorem emp_o {T : Sc} {c d w : Nat} (hw : w < 12) (hcd : d ≠ c) : emp T c (cx d w) = T (cx d w) := by
  unfold emp
  rw [pk_un (cx_ne hw (by decide) (Or.inl hcd))]
theorem wt1_o {B : Nat → Int32} {T : Sc} {c d w : Nat} (hw : w < 12) (hcd : d ≠ c) : wt1 B T c (cx d w) = T (cx d w) := by
  unfold wt1
  repeat' split
  · exact wai_o hw hcd
  · rw [emp_o hw hcd, goB_o hw hcd, wai_o hw hcd]
  · rfl
theorem les_o {T : Sc} {c d w : Nat} (hw : w < 12) (hcd : d ≠ c) : les T c (cx d w) = T (cx d w) := by
  unfold les
  rw [pk_un (cx_ne hw (by decide) (Or.inl hcd))]
theorem hm1_o {B : Nat → Int32} {T : Sc} {c d w : Nat} (hw : w < 12) (hcd : d ≠ c) : hm1 B T c (cx d w) = T (cx d w) := by
  unfold hm1
  repeat' split
  · rw [pk_un (cx_ne hw (by decide) (Or.inl hcd)), pk_un (cx_ne hw (by decide) (Or.inl hcd)), les_o hw hcd]
  · exact les_o hw hcd
  · rfl
/-- waiting of c and a number of another comer -/
theorem wt1_upd {B : Nat → Int32} {T : Sc} {c d w : Nat} {x : Int32} (hcd : d ≠ c) (hd : d < 8) (hw : w < 12) (h : w ≠ 5 ∨ (¬ T (cx d 5) = 2 ∧ ¬ x = 2)) : wt1 B (upd T (cx d w) x) c = upd (wt1 B T c) (cx d w) x := by
  have hn : ∀ v : Nat, v < 12 → cx d w ≠ cx c v := fun v hv => cx_ne hw hv (Or.inl hcd)
  have ew : wai (upd T (cx d w) x) c = upd (wai T c) (cx d w) x := wai_f (hn 7 (by decide)) (cx_lo (by decide))
  have h' : w ≠ 5 ∨ (¬ wai T c (cx d 5) = 2 ∧ ¬ x = 2) := by rw [wai_o (by decide) hcd]; exact h
  have es : stv (upd (wai T c) (cx d w) x) c = stv (wai T c) c := stv_upd hcd hd hw h'
  unfold wt1
  rw [ew, es, pk_un (Ne.symm (hn 7 (by decide)))]
  repeat' split
  · rfl
  · rw [goB_f (hn 5 (by decide)) (hn 6 (by decide)) (hn 2 (by decide)), emp_f (hn 10 (by decide))]
  · rfl
theorem wt_hm {B : Nat → Int32} {T : Sc} {c d : Nat} (hcd : d ≠ c) (hd : d < 8) (hB : B d = 3 → ¬ T (cx d 5) = 2) : hm1 B (wt1 B T c) d = wt1 B (hm1 B T d) c := by
  have e6 : wt1 B T c (cx d 6) = T (cx d 6) := wt1_o (by decide) hcd
  have el : les (wt1 B T c) d = wt1 B (les T d) c := by
    unfold les
    rw [e6, wt1_upd hcd hd (by decide) (Or.inl (by decide))]
  have el6 : les (wt1 B T c) d (cx d 6) = les T d (cx d 6) := by
    unfold les
    rw [pk_us, pk_us, e6]
  by_cases h3 : B d = 3
  · have hne := hB h3
    have e5 : les T d (cx d 5) = T (cx d 5) := by unfold les; exact pk_un (cx_ne (by decide) (by decide) (Or.inr (by decide)))
    by_cases h0 : les T d (cx d 6) = 0
    · have a1 : hm1 B (wt1 B T c) d = upd (upd (les (wt1 B T c) d) (cx d 5) 0) (cx d 8) 0 := by unfold hm1; rw [if_pos h3, el6, if_pos h0]
      have a2 : hm1 B T d = upd (upd (les T d) (cx d 5) 0) (cx d 8) 0 := by unfold hm1; rw [if_pos h3, if_pos h0]
      rw [a1, a2, el, wt1_upd hcd hd (by decide) (Or.inl (by decide)), wt1_upd hcd hd (by decide) (Or.inr ⟨by rw [e5]; exact hne, by decide⟩)]
    · have a1 : hm1 B (wt1 B T c) d = les (wt1 B T c) d := by unfold hm1; rw [if_pos h3, el6, if_neg h0]
      have a2 : hm1 B T d = les T d := by unfold hm1; rw [if_pos h3, if_neg h0]
      rw [a1, a2, el]
  · have a1 : hm1 B (wt1 B T c) d = wt1 B T c := by unfold hm1; rw [if_neg h3]
    have a2 : hm1 B T d = T := by unfold hm1; rw [if_neg h3]
    rw [a1, a2]
theorem hmK_o {B : Nat → Int32} {T : Sc} {d w : Nat} (hw : w < 12) : ∀ c : Nat, c ≤ d → hmK B T c (cx d w) = T (cx d w)
  | 0, _ => rfl
  | c + 1, h => by rw [hmK, hm1_o hw (by omega)]; exact hmK_o hw c (by omega)
theorem wt_hmK {B : Nat → Int32} {T : Sc} {c : Nat} (hc : c ≤ 8) (hB : ∀ d : Nat, d < 8 → B d = 3 → T (cx d 5) = 3) : ∀ d : Nat, d ≤ c → hmK B (wt1 B T c) d = wt1 B (hmK B T d) c
  | 0, _ => rfl
  | d + 1, h => by
    rw [hmK, hmK, wt_hmK hc hB d (by omega)]
    exact wt_hm (by omega) (by omega) (fun h3 => by rw [hmK_o (by decide) d (Nat.le_refl _), hB d (by omega) h3]; decide)
theorem wtK_B {B : Nat → Int32} {S : Sc} (hB : ∀ d : Nat, d < 8 → B d = 3 → S (cx d 5) = 3) : ∀ c : Nat, ∀ d : Nat, d < 8 → B d = 3 → wtK B S c (cx d 5) = 3
  | 0, d, hd, h3 => hB d hd h3
  | c + 1, d, hd, h3 => by
    rw [wtK]
    by_cases e : d = c
    · subst e
      have : wt1 B (wtK B S d) d = wtK B S d := by unfold wt1; rw [if_neg (by rw [h3]; decide)]
      rw [this]; exact wtK_B hB d d hd h3
    · rw [wt1_o (by decide) e]; exact wtK_B hB c d hd h3
theorem hw_wg {B : Nat → Int32} {S : Sc} (hB : ∀ d : Nat, d < 8 → B d = 3 → S (cx d 5) = 3) : ∀ c : Nat, c ≤ 8 → hmK B (wtK B S c) c = wgK B S c
  | 0, _ => rfl
  | c + 1, h => by
    rw [hmK, wgK, wtK, wt_hmK (by omega) (fun d hd h3 => wtK_B hB c d hd h3) c (Nat.le_refl _), hw_wg hB c (by omega)]
/-! a comer who was on the way back is so behind leaving and coming -/
theorem lv1_o {T : Sc} {c d w : Nat} (hw : w < 12) (hcd : d ≠ c) : lv1 T c (cx d w) = T (cx d w) := by
  have hn : ∀ v : Nat, v < 12 → cx d w ≠ cx c v := fun v hv => cx_ne hw hv (Or.inl hcd)
  have hd10 : drw T (cx d w) = T (cx d w) := pk_un (cx_lo (by decide))
  unfold lv1
  repeat' split
  · exact pk_un (hn 8 (by decide))
  · exact pk_un (hn 8 (by decide))
  · exact (pk_un (hn 8 (by decide))).trans hd10
  · exact ((pk_un (hn 6 (by decide))).trans (pk_un (hn 5 (by decide)))).trans hd10
  · rfl
theorem ar0_o {T : Sc} {c d w : Nat} (hw : w < 12) (hcd : d ≠ c) : ar0 T c (cx d w) = T (cx d w) := by
  have hn : ∀ v : Nat, v < 12 → cx d w ≠ cx c v := fun v hv => cx_ne hw hv (Or.inl hcd)
  unfold ar0
  split
  · rw [emp_o hw hcd, goB_o hw hcd]
  · exact (pk_un (hn 7 (by decide))).trans (pk_un (hn 5 (by decide)))
theorem arr_o {T : Sc} {c d w : Nat} (hw : w < 12) (hcd : d ≠ c) : arr T c (cx d w) = T (cx d w) := by
  have hn : ∀ v : Nat, v < 12 → cx d w ≠ cx c v := fun v hv => cx_ne hw hv (Or.inl hcd)
  have e11 : ∀ x : Int32, upd T (cx c 11) x (cx d w) = T (cx d w) := fun x => pk_un (hn 11 (by decide))
  unfold arr ar1
  split
  · unfold tke
    rw [goB_o hw hcd, pk_un (hn 9 (by decide)), pk_un (hn 4 (by decide)), pk_un (cx_lo (by decide)), e11]
  · rw [ar0_o hw hcd, e11]
theorem cm1_o {T : Sc} {c d w : Nat} (hw : w < 12) (hcd : d ≠ c) : cm1 T c (cx d w) = T (cx d w) := by
  unfold cm1
  repeat' split
  · rw [arr_o hw hcd, les_o hw hcd]
  · exact les_o hw hcd
  · rfl
theorem lvK_3 {S : Sc} {d : Nat} (h : S (cx d 5) = 3) : ∀ c : Nat, lvK S c (cx d 5) = 3
  | 0 => h
  | c + 1 => by
    rw [lvK]
    by_cases e : d = c
    · subst e
      have h3 := lvK_3 h d
      have : lv1 (lvK S d) d = lvK S d := by unfold lv1; rw [if_neg (by rw [h3]; decide)]
      rw [this]; exact h3
    · rw [lv1_o (by decide) e]; exact lvK_3 h c
theorem cmK_3 {S : Sc} {d : Nat} (h : S (cx d 5) = 3) : ∀ c : Nat, cmK S c (cx d 5) = 3
  | 0 => h
  | c + 1 => by
    rw [cmK]
    by_cases e : d = c
    · subst e
      have h3 := cmK_3 h d
      have : cm1 (cmK S d) d = cmK S d := by unfold cm1; rw [if_neg (by rw [h3]; decide)]
      rw [this]; exact h3
    · rw [cm1_o (by decide) e]; exact cmK_3 h c
theorem pt2_e {S : Sc} (hz : nCo S ≤ 8) : hmK (fun c => S (cx c 5)) (wtK (fun c => S (cx c 5)) (pt1 S) (nCo S)) (nCo S) = pt2 S := by
  unfold pt2
  exact hw_wg (fun d _ h3 => by
    have h3 : S (cx d 5) = 3 := h3
    exact cmK_3 (lvK_3 h3 _) _) _ hz
