-- ===== end of PART A; then your names; then what follows =====
/-! THE CLAIM OUT OF ONE WALK OF THE LAW'S BODY. Your part is whole_start (and what it stands on); all else here is the same for every law, but numbers. -/
def R_law : String := "ShyWellLaw"
def lw_P (b : Addr) (xs : List Int32) (args : Array Value) (s : State) : Prop := args = #[.ref b] ∧ s.IntsAt b xs ∧ xs.length ≤ 384 ∧ (Jvm.Cond.and given_1 narrow_1).before args s = true
def lw_Q (_ : Array Value) (s : State) (o : Outcome) (t : State) : Prop := o = .returned (some (.int 1)) ∧ Framed s o t [] 600000 7302250
def lw_Z (below : List Frame) (a : Array Value) (s : State) : State → Prop := fun t => ∃ o, t.status = .running ∧ Ended t below o ∧ lw_Q a s o t
/-- the law's own end, with 1 on the stack, nothing written that was there before, its room as the claim has it -/
theorem lw_ret {p : Program} {l : Launch} {e : Env} {s : State} {m : MethodId} {below : List Frame} {meth : Method} {c : Code} {b : Nat} (hx : p.tables.exec = Jvm.exec) (hb : c.code = code) (hr : meth.sig.returnType = ret) (hlocks : meth.locks = false) {pc : Nat} {H : Heap} {ls : Array Slot} (hdg : decode code pc = .ok (.ireturn, 1)) : W p l e room_1 s m #[Value.ref b] below meth c H [] 600000 7302250 (lw_Z below #[Value.ref b] s) (F0 m pc ls [.int 1]) := by
  intro T hT X
  obtain ⟨fs, hret, hrun, hended, hW, hframe⟩ := X.leave (v := some (.int 1)) (hlocks := hlocks) (fun h => by rw [hr] at h; cases h)
  have hmeth' : T.vm.method? m = some meth := X.method'
  refine ⟨T.setFrames fs, ?_, .returned (some (.int 1)), hrun, hended, rfl, ⟨_, rfl⟩, hW, hframe⟩
  jvm_step X.here [X.here.top, hx, hb, hdg, hmeth', hr, ret, narrow_b1]
  (try refine ⟨rfl, ?_⟩); (try refine ⟨rfl, ?_⟩)
  first | (intro acts; rw [hret _ acts rfl rfl rfl]) | rw [hret _ _ rfl rfl rfl]
  exact Steps.refl _
/-- what holds at the law's entry: the machine, the code, the tables' words (any of lw_tbl by 'hts w (by decide +kernel)'), the script of L ints xs at the cell b, what the Statement gives of the start (any of its parts by flat_of_before) -/
def lw_At (p : Program) (s : State) (m : MethodId) (meth : Method) (c : Code) (b L : Nat) (xs : Nat → Int32) : Prop :=
  p.tables.exec = Jvm.exec ∧ c.code = code ∧ meth.sig.returnType = ret ∧ c.maxLocals = 4 ∧ s.vm.findClass R_law = some m.cls ∧ (∀ w ∈ lw_tbl, w.before #[Value.ref b] s = true) ∧ va_X b L xs s s.heap ∧ b < s.heap.size ∧ meth.locks = false ∧ (Jvm.Cond.and given_1 narrow_1).before #[Value.ref b] s = true


section LAWR
variable {g : Gm} {own : String} {ret : Option FieldType} {d : Nat} {E : En} {A : Nat → Prop} {nL : Nat} {Q : State → Prop} {pc : Nat} {lv : List (Nat × Value)} {st : List Value} {M : Mm} {b L : Nat} {xs : Nat → Int32}
theorem aw_sld {cc : ByteArray} (X : CX g cc own ret d E A nL) (hX : va_X b L xs (gS g) (gS g).heap ∧ b < (gS g).heap.size ∧ ¬ A b) {i : Int32} (hd : decode cc pc = .ok (.iaload, 1)) (hin : vp_in i L) (k : AW g E A nL Q (pc + 1) lv (.int (xs i.toNatClampNeg) :: st) M) : AW g E A nL Q pc lv (.int i :: .ref b :: st) M := fun H locs ls hP hS hl => va_sld X.hx X.hb hX.1 hX.2.1 hX.2.2 hS hin hd (k H locs ls hP hS hl)
theorem aw_slen {cc : ByteArray} (X : CX g cc own ret d E A nL) (hX : va_X b L xs (gS g) (gS g).heap ∧ b < (gS g).heap.size ∧ ¬ A b) (hd : decode cc pc = .ok (.arraylength, 1)) (k : AW g E A nL Q (pc + 1) lv (.int (Int32.ofNat L) :: st) M) : AW g E A nL Q pc lv (.ref b :: st) M := fun H locs ls hP hS hl => va_slen X.hx X.hb hX.1 hX.2.1 hX.2.2 hS hd (k H locs ls hP hS hl)
end LAWR
/-- the law's own frame with its counts -/
abbrev gl (p : Program) (l : Launch) (e : Env) (s : State) (m : MethodId) (b : Nat) (below : List Frame) (meth : Method) (c : Code) (kc ks : Nat) : Gm := (p, l, e, room_1, s, m, #[Value.ref b], below, meth, c, kc, ks)
theorem ax_lawret {p : Program} {l : Launch} {e : Env} {s : State} {m : MethodId} {b : Nat} {below : List Frame} {meth : Method} {c : Code} {kc ks : Nat} {E : En} {pc : Nat} {lv : List (Nat × Value)} {M : Mm} {d : Nat} (X : CX (gl p l e s m b below meth c kc ks) code RL ret d E (fun q : Nat => s.heap.size ≤ q) 4) (hd : decode code pc = .ok (.ireturn, 1)) : AW (gl p l e s m b below meth c kc ks) E (fun q : Nat => s.heap.size ≤ q) 4 (lw_Z below #[Value.ref b] s) pc lv [.int 1] M := fun H locs ls hP hS hl => va_forget hS.2.2 (W.widen X.cs.1 X.cs.2 (lw_ret X.hx X.hb X.hr X.lk hd))
set_option maxHeartbeats 4000000 in
/-- the call of text(), and the world behind it -/
theorem ax_text {p : Program} {l : Launch} {e : Env} {s : State} {m : MethodId} {b : Nat} {below : List Frame} {meth : Method} {c : Code} {kc ks : Nat} {E : En} {A : Nat → Prop} {Q : State → Prop} {pc index d : Nat} {lv : List (Nat × Value)} {M : Mm} {K : Nat → Mm → Int32 → Prop} (X : CX (gl p l e s m b below meth c kc ks) code RL ret d E A 4) (hao : AO4 s) (hd : decode code pc = .ok (.invokevirtual index, 3)) (hw : Cond.methodLink RL index yX7_text ∈ tbG) (hdd : 113 ≤ d) (hk : kc + 3 ≤ 600000) (hn : ks + 196 ≤ 7302250) (h : wp_X7_text (eN E) M K)
    (k : ∀ (E2 : En) (M1 : Mm) (r : Int32), Ext E E2 → CX (gl p l e s m b below meth c (kc + 3) (ks + 196)) code RL ret d E2 A 4 → K (eN E2) M1 r → AW (gl p l e s m b below meth c (kc + 3) (ks + 196)) E2 A 4 Q (pc + 3) lv [.int r] M1) : AW (gl p l e s m b below meth c kc ks) E A 4 Q pc lv [.ref (eA E 0)] M := fun H locs ls hP hS hl => by
  have hr := va_runV (e := e) (below := below) (meth := meth) (g := F0 m pc ls [.ref (eA E 0)]) (H := H) (locs := locs) (cells := kc) (slots := ks) (R := room_1) (C := RX7) (As := []) (rest := []) (Ts := tbG) (n := 0) ⟨X.hx, X.hb, X.hml, X.hown, X.hts⟩ (c_X7_text (l := l) h H.size) ⟨callB_of 0 X.hts (good_code cal_yX7_text.1.1) rfl rfl rfl (X.w cal_yX7_text.1.2) (X.w hw) cal_yX7_text.2.1 (by
    have h1 := X.rm.1
    have h2 := X.rm.2
    refine ⟨by show 112 + 1 ≤ _; exact Nat.le_trans hdd h1, ?_⟩
    show 8 + (2 + 11) + 40 * 112 ≤ _
    exact Nat.le_trans (by omega) h2), X.w kw638, X.w kw639⟩ ⟨fun a U g mk q => by
      obtain ⟨q0, q1, q2⟩ := q
      exact ⟨q0, (pre_blind (av := [.ref (eA E 0)]) a U g mk ⟨q0, q1⟩).2, AO4.moved (u := U) (U := U.calling g mk a) (Vm.Alike.refl U.vm) q2⟩, va_recv X.hK hP (ci := 7) (q := (RX7, TX7, 9)) rfl (wd_at (i := 0) (X.lt (by decide)) (sh_1 rfl _)), fun U hU hW => ⟨rfl, X.pre hP hS hU hW, hao.moved hW.alike⟩⟩ rfl rfl hl.1 rfl (lv_room (Nat.le_of_ble_eq_true rfl)) hd ⟨hk, hn⟩
  refine va_calli hr hS (fun q _ h => X.sub hS q h) (X.sub hS) (fun r u t H1 l1 ht _ hK hB _ _ hS1 => ?_)
  obtain ⟨hK1, hE, haD⟩ := hK
  have hD2 : aD A u.1 := ⟨haD.1, fun i hi => X.sub hS _ (haD.2 i hi)⟩
  have hx := k u.1 u.2 r hE ⟨X.hx, X.hb, X.hml, X.hown, X.hts, X.nst, by rw [hE.1, hE.2.1]; exact X.hK, hD2, by rw [hE.2.2.1]; exact X.sta, by rw [hE.2.2.1]; exact X.str, ⟨Nat.le_trans X.lo hE.2.2.2.1, hE.2.2.2.2.2⟩, X.hA, ⟨X.hr, X.lk⟩, X.rm, ⟨hk, hn⟩⟩ hK1
  exact hx H1 l1 ls (by rw [← ht]; exact hB) hS1 hl

def wl_law (L : Nat) (xs : Nat → Int32) : Nat → Nat → Mm → Int32 → Prop
  | 0, _, _, _ => False
  | k + 1, n, M, x3 => (((Int32.ofNat L) - 6) < x3 → True) ∧ (¬ ((Int32.ofNat L) - 6) < x3 → vp_in x3 L ∧ ((((xs x3.toNatClampNeg) &&& 63) = 0 → vp_in (x3 + 1) L ∧ (vp_in (x3 + 2) L ∧ (vp_in (x3 + 3) L ∧ (vp_in (x3 + 4) L ∧ (wp_X7_comer n M (xs (x3 + 1).toNatClampNeg) (xs (x3 + 2).toNatClampNeg) (xs (x3 + 3).toNatClampNeg) (xs (x3 + 4).toNatClampNeg) (fun M1 r2 => vp_in (x3 + 1) L ∧ (vp_in (x3 + 2) L ∧ (vp_in (x3 + 3) L ∧ (vp_in (x3 + 4) L ∧ (wp_X8_comer n M1 (xs (x3 + 1).toNatClampNeg) (xs (x3 + 2).toNatClampNeg) (xs (x3 + 3).toNatClampNeg) (xs (x3 + 4).toNatClampNeg) (fun M3 r4 => (r2 = r4 → ∀ v5 : Int32, v5 = x3 + 6 → wl_law L xs k n M3 v5) ∧ (¬ r2 = r4 → False)))))))))))) ∧ (((xs x3.toNatClampNeg) &&& 63) = 1 → vp_in (x3 + 1) L ∧ (vp_in (x3 + 2) L ∧ (wp_X7_told n M (xs (x3 + 1).toNatClampNeg) (xs (x3 + 2).toNatClampNeg) (fun M6 r7 => vp_in (x3 + 1) L ∧ (vp_in (x3 + 2) L ∧ (wp_X8_told n M6 (xs (x3 + 1).toNatClampNeg) (xs (x3 + 2).toNatClampNeg) (fun M8 r9 => (r7 = r9 → ∀ v10 : Int32, v10 = x3 + 6 → wl_law L xs k n M8 v10) ∧ (¬ r7 = r9 → False)))))))) ∧ (((xs x3.toNatClampNeg) &&& 63) = 2 → vp_in (x3 + 1) L ∧ (vp_in (x3 + 2) L ∧ (wp_X7_as n M (xs (x3 + 1).toNatClampNeg) (xs (x3 + 2).toNatClampNeg) (fun M11 r12 => vp_in (x3 + 1) L ∧ (vp_in (x3 + 2) L ∧ (wp_X8_as n M11 (xs (x3 + 1).toNatClampNeg) (xs (x3 + 2).toNatClampNeg) (fun M13 r14 => (r12 = r14 → ∀ v15 : Int32, v15 = x3 + 6 → wl_law L xs k n M13 v15) ∧ (¬ r12 = r14 → False)))))))) ∧ (((xs x3.toNatClampNeg) &&& 63) = 3 → vp_in (x3 + 1) L ∧ (vp_in (x3 + 2) L ∧ (wp_X7_turns n M (xs (x3 + 1).toNatClampNeg) (xs (x3 + 2).toNatClampNeg) (fun M16 r17 => vp_in (x3 + 1) L ∧ (vp_in (x3 + 2) L ∧ (wp_X8_turns n M16 (xs (x3 + 1).toNatClampNeg) (xs (x3 + 2).toNatClampNeg) (fun M18 r19 => (r17 = r19 → ∀ v20 : Int32, v20 = x3 + 6 → wl_law L xs k n M18 v20) ∧ (¬ r17 = r19 → False)))))))) ∧ (((xs x3.toNatClampNeg) &&& 63) = 4 → vp_in (x3 + 1) L ∧ (vp_in (x3 + 2) L ∧ (vp_in (x3 + 3) L ∧ (wp_X7_set n M (xs (x3 + 1).toNatClampNeg) (xs (x3 + 2).toNatClampNeg) (xs (x3 + 3).toNatClampNeg) (fun M21 r22 => vp_in (x3 + 1) L ∧ (vp_in (x3 + 2) L ∧ (vp_in (x3 + 3) L ∧ (wp_X8_set n M21 (xs (x3 + 1).toNatClampNeg) (xs (x3 + 2).toNatClampNeg) (xs (x3 + 3).toNatClampNeg) (fun M23 r24 => (r22 = r24 → ∀ v25 : Int32, v25 = x3 + 6 → wl_law L xs k n M23 v25) ∧ (¬ r22 = r24 → False)))))))))) ∧ (((xs x3.toNatClampNeg) &&& 63) = 5 → vp_in (x3 + 1) L ∧ (vp_in (x3 + 2) L ∧ (wp_X7_well n M (xs (x3 + 1).toNatClampNeg) (xs (x3 + 2).toNatClampNeg) (fun M26 r27 => vp_in (x3 + 1) L ∧ (vp_in (x3 + 2) L ∧ (wp_X8_well n M26 (xs (x3 + 1).toNatClampNeg) (xs (x3 + 2).toNatClampNeg) (fun M28 r29 => (r27 = r29 → ∀ v30 : Int32, v30 = x3 + 6 → wl_law L xs k n M28 v30) ∧ (¬ r27 = r29 → False)))))))) ∧ (((xs x3.toNatClampNeg) &&& 63) = 6 → vp_in (x3 + 1) L ∧ (wp_X7_deal n M (xs (x3 + 1).toNatClampNeg) (fun M31 r32 => vp_in (x3 + 1) L ∧ (wp_X8_deal n M31 (xs (x3 + 1).toNatClampNeg) (fun M33 r34 => (r32 = r34 → ∀ v35 : Int32, v35 = x3 + 6 → wl_law L xs k n M33 v35) ∧ (¬ r32 = r34 → False)))))) ∧ (((xs x3.toNatClampNeg) &&& 63) = 7 → vp_in (x3 + 1) L ∧ (wp_X7_seed n M (xs (x3 + 1).toNatClampNeg) (fun M36 r37 => vp_in (x3 + 1) L ∧ (wp_X8_seed n M36 (xs (x3 + 1).toNatClampNeg) (fun M38 r39 => (r37 = r39 → ∀ v40 : Int32, v40 = x3 + 6 → wl_law L xs k n M38 v40) ∧ (¬ r37 = r39 → False)))))) ∧ (((xs x3.toNatClampNeg) &&& 63) = 8 → vp_in (x3 + 1) L ∧ (wp_X7_run n M (xs (x3 + 1).toNatClampNeg) (fun M41 r42 => vp_in (x3 + 1) L ∧ (wp_X8_run n M41 (xs (x3 + 1).toNatClampNeg) (fun M43 r44 => (r42 = r44 → ∀ v45 : Int32, v45 = x3 + 6 → wl_law L xs k n M43 v45) ∧ (¬ r42 = r44 → False)))))) ∧ (((xs x3.toNatClampNeg) &&& 63) = 9 → vp_in (x3 + 1) L ∧ (vp_in (x3 + 2) L ∧ (wp_X7_behind n M (xs (x3 + 1).toNatClampNeg) (xs (x3 + 2).toNatClampNeg) (fun M46 r47 => vp_in (x3 + 1) L ∧ (vp_in (x3 + 2) L ∧ (wp_X8_behind n M46 (xs (x3 + 1).toNatClampNeg) (xs (x3 + 2).toNatClampNeg) (fun M48 r49 => (r47 = r49 → ∀ v50 : Int32, v50 = x3 + 6 → wl_law L xs k n M48 v50) ∧ (¬ r47 = r49 → False)))))))) ∧ (((xs x3.toNatClampNeg) &&& 63) = 10 → vp_in (x3 + 1) L ∧ (wp_X7_fullIn n M (xs (x3 + 1).toNatClampNeg) (fun M51 r52 => vp_in (x3 + 1) L ∧ (wp_X8_fullIn n M51 (xs (x3 + 1).toNatClampNeg) (fun M53 r54 => (r52 = r54 → ∀ v55 : Int32, v55 = x3 + 6 → wl_law L xs k n M53 v55) ∧ (¬ r52 = r54 → False)))))) ∧ (((xs x3.toNatClampNeg) &&& 63) = 11 → vp_in (x3 + 1) L ∧ (vp_in (x3 + 2) L ∧ (vp_in (x3 + 3) L ∧ (wp_X7_best n M (xs (x3 + 1).toNatClampNeg) (xs (x3 + 2).toNatClampNeg) (xs (x3 + 3).toNatClampNeg) (fun M56 r57 => vp_in (x3 + 1) L ∧ (vp_in (x3 + 2) L ∧ (vp_in (x3 + 3) L ∧ (wp_X8_best n M56 (xs (x3 + 1).toNatClampNeg) (xs (x3 + 2).toNatClampNeg) (xs (x3 + 3).toNatClampNeg) (fun M58 r59 => (r57 = r59 → ∀ v60 : Int32, v60 = x3 + 6 → wl_law L xs k n M58 v60) ∧ (¬ r57 = r59 → False)))))))))) ∧ (((xs x3.toNatClampNeg) &&& 63) = 12 → vp_in (x3 + 1) L ∧ (vp_in (x3 + 2) L ∧ (wp_X7_alone n M (xs (x3 + 1).toNatClampNeg) (xs (x3 + 2).toNatClampNeg) (fun M61 r62 => vp_in (x3 + 1) L ∧ (vp_in (x3 + 2) L ∧ (wp_X8_alone n M61 (xs (x3 + 1).toNatClampNeg) (xs (x3 + 2).toNatClampNeg) (fun M63 r64 => (r62 = r64 → ∀ v65 : Int32, v65 = x3 + 6 → wl_law L xs k n M63 v65) ∧ (¬ r62 = r64 → False)))))))) ∧ (((xs x3.toNatClampNeg) &&& 63) = 13 → vp_in (x3 + 1) L ∧ (wp_X7_mean n M (xs (x3 + 1).toNatClampNeg) (fun M66 r67 => vp_in (x3 + 1) L ∧ (wp_X8_mean n M66 (xs (x3 + 1).toNatClampNeg) (fun M68 r69 => ((lg_cmp r67 r69) = 0 → ∀ v70 : Int32, v70 = x3 + 6 → wl_law L xs k n M68 v70) ∧ (¬ (lg_cmp r67 r69) = 0 → False)))))) ∧ (((xs x3.toNatClampNeg) &&& 63) = 14 → wp_X7_least n M (fun M71 r72 => wp_X8_least n M71 (fun M73 r74 => (r72 = r74 → ∀ v75 : Int32, v75 = x3 + 6 → wl_law L xs k n M73 v75) ∧ (¬ r72 = r74 → False)))) ∧ (((xs x3.toNatClampNeg) &&& 63) = 15 → vp_in (x3 + 1) L ∧ (wp_X7_fine n M (xs (x3 + 1).toNatClampNeg) (fun M76 r77 => vp_in (x3 + 1) L ∧ (wp_X8_fine n M76 (xs (x3 + 1).toNatClampNeg) (fun M78 r79 => (r77 = r79 → ∀ v80 : Int32, v80 = x3 + 6 → wl_law L xs k n M78 v80) ∧ (¬ r77 = r79 → False)))))) ∧ (((xs x3.toNatClampNeg) &&& 63) = 16 → vp_in (x3 + 1) L ∧ (vp_in (x3 + 2) L ∧ (vp_in (x3 + 3) L ∧ (wp_X7_feed n M (xs (x3 + 1).toNatClampNeg) (xs (x3 + 2).toNatClampNeg) (xs (x3 + 3).toNatClampNeg) (fun M81 r82 => vp_in (x3 + 1) L ∧ (vp_in (x3 + 2) L ∧ (vp_in (x3 + 3) L ∧ (wp_X8_feed n M81 (xs (x3 + 1).toNatClampNeg) (xs (x3 + 2).toNatClampNeg) (xs (x3 + 3).toNatClampNeg) (fun M83 r84 => (r82 = r84 → ∀ v85 : Int32, v85 = x3 + 6 → wl_law L xs k n M83 v85) ∧ (¬ r82 = r84 → False)))))))))) ∧ (((xs x3.toNatClampNeg) &&& 63) = 17 → vp_in (x3 + 1) L ∧ (wp_X7_trim n M (xs (x3 + 1).toNatClampNeg) (fun M86 r87 => vp_in (x3 + 1) L ∧ (wp_X8_trim n M86 (xs (x3 + 1).toNatClampNeg) (fun M88 r89 => (r87 = r89 → ∀ v90 : Int32, v90 = x3 + 6 → wl_law L xs k n M88 v90) ∧ (¬ r87 = r89 → False)))))) ∧ (((xs x3.toNatClampNeg) &&& 63) = 18 → wp_X7_text n M (fun n93 M91 r92 => wp_X8_text n93 M91 (fun M94 r95 => (r92 = r95 → ∀ v96 : Int32, v96 = x3 + 6 → wl_law L xs k n93 M94 v96) ∧ (¬ r92 = r95 → False)))) ∧ (((xs x3.toNatClampNeg) &&& 63) = 19 → vp_in (x3 + 1) L ∧ (vp_in (x3 + 2) L ∧ (wp_X7_textTold n M (xs (x3 + 1).toNatClampNeg) (xs (x3 + 2).toNatClampNeg) (fun M97 r98 => vp_in (x3 + 1) L ∧ (vp_in (x3 + 2) L ∧ (wp_X8_textTold n M97 (xs (x3 + 1).toNatClampNeg) (xs (x3 + 2).toNatClampNeg) (fun M99 r100 => (r98 = r100 → ∀ v101 : Int32, v101 = x3 + 6 → wl_law L xs k n M99 v101) ∧ (¬ r98 = r100 → False)))))))) ∧ (((xs x3.toNatClampNeg) &&& 63) = 20 → vp_in (x3 + 1) L ∧ (wp_X7_why n M (xs (x3 + 1).toNatClampNeg) (fun M102 r103 => vp_in (x3 + 1) L ∧ (wp_X8_why n M102 (xs (x3 + 1).toNatClampNeg) (fun M104 r105 => (r103 = r105 → ∀ v106 : Int32, v106 = x3 + 6 → wl_law L xs k n M104 v106) ∧ (¬ r103 = r105 → False)))))) ∧ (((xs x3.toNatClampNeg) &&& 63) = 21 → vp_in (x3 + 1) L ∧ (vp_in (x3 + 2) L ∧ (vp_in (x3 + 3) L ∧ (wp_X7_sheet n M (xs (x3 + 1).toNatClampNeg) (xs (x3 + 2).toNatClampNeg) (xs (x3 + 3).toNatClampNeg) (fun M107 r108 => vp_in (x3 + 1) L ∧ (vp_in (x3 + 2) L ∧ (vp_in (x3 + 3) L ∧ (wp_X8_sheet n M107 (xs (x3 + 1).toNatClampNeg) (xs (x3 + 2).toNatClampNeg) (xs (x3 + 3).toNatClampNeg) (fun M109 r110 => (r108 = r110 → ∀ v111 : Int32, v111 = x3 + 6 → wl_law L xs k n M109 v111) ∧ (¬ r108 = r110 → False)))))))))) ∧ (((xs x3.toNatClampNeg) &&& 63) = 22 → vp_in (x3 + 1) L ∧ (vp_in (x3 + 2) L ∧ (vp_in (x3 + 3) L ∧ (wp_X7_mark n M (xs (x3 + 1).toNatClampNeg) (xs (x3 + 2).toNatClampNeg) (xs (x3 + 3).toNatClampNeg) (fun M112 r113 => vp_in (x3 + 1) L ∧ (vp_in (x3 + 2) L ∧ (vp_in (x3 + 3) L ∧ (wp_X8_mark n M112 (xs (x3 + 1).toNatClampNeg) (xs (x3 + 2).toNatClampNeg) (xs (x3 + 3).toNatClampNeg) (fun M114 r115 => (r113 = r115 → ∀ v116 : Int32, v116 = x3 + 6 → wl_law L xs k n M114 v116) ∧ (¬ r113 = r115 → False)))))))))) ∧ (((xs x3.toNatClampNeg) &&& 63) = 23 → vp_in (x3 + 1) L ∧ (wp_X7_pour n M (xs (x3 + 1).toNatClampNeg) (fun M117 r118 => vp_in (x3 + 1) L ∧ (wp_X8_pour n M117 (xs (x3 + 1).toNatClampNeg) (fun M119 r120 => (r118 = r120 → ∀ v121 : Int32, v121 = x3 + 6 → wl_law L xs k n M119 v121) ∧ (¬ r118 = r120 → False)))))) ∧ (((xs x3.toNatClampNeg) &&& 63) = 24 → vp_in (x3 + 1) L ∧ (vp_in (x3 + 2) L ∧ (wp_X7_explained n M (xs (x3 + 1).toNatClampNeg) (xs (x3 + 2).toNatClampNeg) (fun M122 r123 => vp_in (x3 + 1) L ∧ (vp_in (x3 + 2) L ∧ (wp_X8_explained n M122 (xs (x3 + 1).toNatClampNeg) (xs (x3 + 2).toNatClampNeg) (fun M124 r125 => (r123 = r125 → ∀ v126 : Int32, v126 = x3 + 6 → wl_law L xs k n M124 v126) ∧ (¬ r123 = r125 → False)))))))) ∧ (((xs x3.toNatClampNeg) &&& 63) = 25 → vp_in (x3 + 1) L ∧ (vp_in (x3 + 2) L ∧ (vp_in (x3 + 3) L ∧ (vp_in (x3 + 4) L ∧ (vp_in (x3 + 5) L ∧ (wp_X7_copy n M (xs (x3 + 1).toNatClampNeg) (xs (x3 + 2).toNatClampNeg) (xs (x3 + 3).toNatClampNeg) (xs (x3 + 4).toNatClampNeg) (xs (x3 + 5).toNatClampNeg) (fun M127 r128 => vp_in (x3 + 1) L ∧ (vp_in (x3 + 2) L ∧ (vp_in (x3 + 3) L ∧ (vp_in (x3 + 4) L ∧ (vp_in (x3 + 5) L ∧ (wp_X8_copy n M127 (xs (x3 + 1).toNatClampNeg) (xs (x3 + 2).toNatClampNeg) (xs (x3 + 3).toNatClampNeg) (xs (x3 + 4).toNatClampNeg) (xs (x3 + 5).toNatClampNeg) (fun M129 r130 => (r128 = r130 → ∀ v131 : Int32, v131 = x3 + 6 → wl_law L xs k n M129 v131) ∧ (¬ r128 = r130 → False)))))))))))))) ∧ (((xs x3.toNatClampNeg) &&& 63) = 26 → vp_in (x3 + 1) L ∧ (vp_in (x3 + 2) L ∧ (vp_in (x3 + 3) L ∧ (wp_X7_lay n M (xs (x3 + 1).toNatClampNeg) (xs (x3 + 2).toNatClampNeg) (xs (x3 + 3).toNatClampNeg) (fun M132 r133 => vp_in (x3 + 1) L ∧ (vp_in (x3 + 2) L ∧ (vp_in (x3 + 3) L ∧ (wp_X8_lay n M132 (xs (x3 + 1).toNatClampNeg) (xs (x3 + 2).toNatClampNeg) (xs (x3 + 3).toNatClampNeg) (fun M134 r135 => (r133 = r135 → ∀ v136 : Int32, v136 = x3 + 6 → wl_law L xs k n M134 v136) ∧ (¬ r133 = r135 → False)))))))))) ∧ (((xs x3.toNatClampNeg) &&& 63) = 27 → vp_in (x3 + 1) L ∧ (vp_in (x3 + 2) L ∧ (wp_X7_ask n M (xs (x3 + 1).toNatClampNeg) (xs (x3 + 2).toNatClampNeg) (fun M137 r138 => vp_in (x3 + 1) L ∧ (vp_in (x3 + 2) L ∧ (wp_X8_ask n M137 (xs (x3 + 1).toNatClampNeg) (xs (x3 + 2).toNatClampNeg) (fun M139 r140 => (r138 = r140 → ∀ v141 : Int32, v141 = x3 + 6 → wl_law L xs k n M139 v141) ∧ (¬ r138 = r140 → False)))))))) ∧ (((xs x3.toNatClampNeg) &&& 63) = 28 → vp_in (x3 + 1) L ∧ (vp_in (x3 + 2) L ∧ (wp_X7_item n M (xs (x3 + 1).toNatClampNeg) (xs (x3 + 2).toNatClampNeg) (fun M142 r143 => vp_in (x3 + 1) L ∧ (vp_in (x3 + 2) L ∧ (wp_X8_item n M142 (xs (x3 + 1).toNatClampNeg) (xs (x3 + 2).toNatClampNeg) (fun M144 r145 => (r143 = r145 → ∀ v146 : Int32, v146 = x3 + 6 → wl_law L xs k n M144 v146) ∧ (¬ r143 = r145 → False)))))))) ∧ (((xs x3.toNatClampNeg) &&& 63) = 29 → vp_in (x3 + 1) L ∧ (vp_in (x3 + 2) L ∧ (wp_X7_rest n M (xs (x3 + 1).toNatClampNeg) (xs (x3 + 2).toNatClampNeg) (fun M147 r148 => vp_in (x3 + 1) L ∧ (vp_in (x3 + 2) L ∧ (wp_X8_rest n M147 (xs (x3 + 1).toNatClampNeg) (xs (x3 + 2).toNatClampNeg) (fun M149 r150 => (r148 = r150 → ∀ v151 : Int32, v151 = x3 + 6 → wl_law L xs k n M149 v151) ∧ (¬ r148 = r150 → False)))))))) ∧ (((xs x3.toNatClampNeg) &&& 63) = 30 → vp_in (x3 + 1) L ∧ (wp_X7_tell n M (xs (x3 + 1).toNatClampNeg) (fun M152 r153 => vp_in (x3 + 1) L ∧ (wp_X8_tell n M152 (xs (x3 + 1).toNatClampNeg) (fun M154 r155 => (r153 = r155 → ∀ v156 : Int32, v156 = x3 + 6 → wl_law L xs k n M154 v156) ∧ (¬ r153 = r155 → False)))))) ∧ (((xs x3.toNatClampNeg) &&& 63) = 31 → vp_in (x3 + 1) L ∧ (wp_X7_check n M (xs (x3 + 1).toNatClampNeg) (fun M157 r158 => vp_in (x3 + 1) L ∧ (wp_X8_check n M157 (xs (x3 + 1).toNatClampNeg) (fun M159 r160 => (r158 = r160 → ∀ v161 : Int32, v161 = x3 + 6 → wl_law L xs k n M159 v161) ∧ (¬ r158 = r160 → False)))))) ∧ (((xs x3.toNatClampNeg) &&& 63) = 32 → wp_X7_keep n M (fun M162 r163 => wp_X8_keep n M162 (fun M164 r165 => (r163 = r165 → ∀ v166 : Int32, v166 = x3 + 6 → wl_law L xs k n M164 v166) ∧ (¬ r163 = r165 → False)))) ∧ (((xs x3.toNatClampNeg) &&& 63) = 33 → wp_X7_back n M (fun M167 r168 => wp_X8_back n M167 (fun M169 r170 => (r168 = r170 → ∀ v171 : Int32, v171 = x3 + 6 → wl_law L xs k n M169 v171) ∧ (¬ r168 = r170 → False)))) ∧ (((xs x3.toNatClampNeg) &&& 63) = 34 → vp_in (x3 + 1) L ∧ (wp_X7_count n M (xs (x3 + 1).toNatClampNeg) (fun M172 r173 => vp_in (x3 + 1) L ∧ (wp_X8_count n M172 (xs (x3 + 1).toNatClampNeg) (fun M174 r175 => (r173 = r175 → ∀ v176 : Int32, v176 = x3 + 6 → wl_law L xs k n M174 v176) ∧ (¬ r173 = r175 → False)))))) ∧ (¬ ((xs x3.toNatClampNeg) &&& 63) = 0 → ¬ ((xs x3.toNatClampNeg) &&& 63) = 1 → ¬ ((xs x3.toNatClampNeg) &&& 63) = 2 → ¬ ((xs x3.toNatClampNeg) &&& 63) = 3 → ¬ ((xs x3.toNatClampNeg) &&& 63) = 4 → ¬ ((xs x3.toNatClampNeg) &&& 63) = 5 → ¬ ((xs x3.toNatClampNeg) &&& 63) = 6 → ¬ ((xs x3.toNatClampNeg) &&& 63) = 7 → ¬ ((xs x3.toNatClampNeg) &&& 63) = 8 → ¬ ((xs x3.toNatClampNeg) &&& 63) = 9 → ¬ ((xs x3.toNatClampNeg) &&& 63) = 10 → ¬ ((xs x3.toNatClampNeg) &&& 63) = 11 → ¬ ((xs x3.toNatClampNeg) &&& 63) = 12 → ¬ ((xs x3.toNatClampNeg) &&& 63) = 13 → ¬ ((xs x3.toNatClampNeg) &&& 63) = 14 → ¬ ((xs x3.toNatClampNeg) &&& 63) = 15 → ¬ ((xs x3.toNatClampNeg) &&& 63) = 16 → ¬ ((xs x3.toNatClampNeg) &&& 63) = 17 → ¬ ((xs x3.toNatClampNeg) &&& 63) = 18 → ¬ ((xs x3.toNatClampNeg) &&& 63) = 19 → ¬ ((xs x3.toNatClampNeg) &&& 63) = 20 → ¬ ((xs x3.toNatClampNeg) &&& 63) = 21 → ¬ ((xs x3.toNatClampNeg) &&& 63) = 22 → ¬ ((xs x3.toNatClampNeg) &&& 63) = 23 → ¬ ((xs x3.toNatClampNeg) &&& 63) = 24 → ¬ ((xs x3.toNatClampNeg) &&& 63) = 25 → ¬ ((xs x3.toNatClampNeg) &&& 63) = 26 → ¬ ((xs x3.toNatClampNeg) &&& 63) = 27 → ¬ ((xs x3.toNatClampNeg) &&& 63) = 28 → ¬ ((xs x3.toNatClampNeg) &&& 63) = 29 → ¬ ((xs x3.toNatClampNeg) &&& 63) = 30 → ¬ ((xs x3.toNatClampNeg) &&& 63) = 31 → ¬ ((xs x3.toNatClampNeg) &&& 63) = 32 → ¬ ((xs x3.toNatClampNeg) &&& 63) = 33 → ¬ ((xs x3.toNatClampNeg) &&& 63) = 34 → ∀ v177 : Int32, v177 = x3 + 6 → wl_law L xs k n M v177)))
set_option maxHeartbeats 4000000 in
set_option maxRecDepth 100000 in
theorem lw_law {p : Program} {l : Launch} {e : Env} {s : State} {m : MethodId} {b L : Nat} {below : List Frame} {meth : Method} {c : Code} {xs : Nat → Int32} (hX : va_X b L xs s s.heap ∧ b < s.heap.size ∧ ¬ s.heap.size ≤ b) (hao : AO4 s) : ∀ (k : Nat) (E : En) (kc ks : Nat) (M : Mm) (x3 : Int32), kc + 3 * k ≤ 600000 → ks + 196 * k ≤ 7302250 → CX (gl p l e s m b below meth c kc ks) code RL ret 300 E (fun q : Nat => s.heap.size ≤ q) 4 → wl_law L xs k (eN E) M x3 → AW (gl p l e s m b below meth c kc ks) E (fun q : Nat => s.heap.size ≤ q) 4 (lw_Z below #[Value.ref b] s) 18 [(0, .ref b), (1, .ref (eA E 0)), (2, .ref (eA E 74)), (3, .int x3)] [] M := by
  intro k
  induction k with
  | zero => intro E kc ks M x3 _ _ _ h; exact h.elim
  | succ k ih =>
    intro E kc ks M x3 hk hs X h
    have X0 := X
    rw [wl_law] at h
    refine aw_iload_n X dL_law_18 3 rfl ?_
    refine aw_aload_n X dL_law_19 0 rfl ?_
    refine aw_slen X hX dL_law_20 ?_
    refine aw_bipush (v := 6) X dL_law_21 (by decide) ?_
    refine aw_isub X dL_law_23 ?_
    refine aw_icmp_gt (tgt := 1260) X dL_law_24 (by decide) (fun c => ?_) (fun c => ?_)
    · have h := h.1 c
      refine aw_iconst (v := 1) X dL_law_1260 (by decide) ?_
      exact ax_lawret X dL_law_1261
    · have h := h.2 c
      refine aw_aload_n X dL_law_27 0 rfl ?_
      refine aw_iload_n X dL_law_28 3 rfl ?_
      obtain ⟨hin, h⟩ := h
      refine aw_sld X hX dL_law_29 hin ?_
      refine aw_bipush (v := 63) X dL_law_30 (by decide) ?_
      refine aw_iand X dL_law_32 ?_
      by_cases c0 : ((xs x3.toNatClampNeg) &&& 63) = 0
      · have h := h.1 c0
        refine aw_tableIn (tgt := 188) X dL_law_33 0 c0 (by decide) (by decide) rfl (by decide) ?_
        refine aw_aload_n X dL_law_188 1 rfl ?_
        refine aw_aload_n X dL_law_189 0 rfl ?_
        refine aw_iload_n X dL_law_190 3 rfl ?_
        refine aw_iconst (v := 1) X dL_law_191 (by decide) ?_
        refine aw_iadd X dL_law_192 ?_
        obtain ⟨hin, h⟩ := h
        refine aw_sld X hX dL_law_193 hin ?_
        refine aw_aload_n X dL_law_194 0 rfl ?_
        refine aw_iload_n X dL_law_195 3 rfl ?_
        refine aw_iconst (v := 2) X dL_law_196 (by decide) ?_
        refine aw_iadd X dL_law_197 ?_
        obtain ⟨hin, h⟩ := h
        refine aw_sld X hX dL_law_198 hin ?_
        refine aw_aload_n X dL_law_199 0 rfl ?_
        refine aw_iload_n X dL_law_200 3 rfl ?_
        refine aw_iconst (v := 3) X dL_law_201 (by decide) ?_
        refine aw_iadd X dL_law_202 ?_
        obtain ⟨hin, h⟩ := h
        refine aw_sld X hX dL_law_203 hin ?_
        refine aw_aload_n X dL_law_204 0 rfl ?_
        refine aw_iload_n X dL_law_205 3 rfl ?_
        refine aw_iconst (v := 4) X dL_law_206 (by decide) ?_
        refine aw_iadd X dL_law_207 ?_
        obtain ⟨hin, h⟩ := h
        refine aw_sld X hX dL_law_208 hin ?_
        refine ca_i X (rn_v X [.int (xs (x3 + 1).toNatClampNeg), .int (xs (x3 + 2).toNatClampNeg), .int (xs (x3 + 3).toNatClampNeg), .int (xs (x3 + 4).toNatClampNeg)] [] (X.lt (by decide)) (sh_1 (rfl : tp 0 = 1) _) rfl rfl kw385 kw386 (c_X7_comer h) cal_yX7_comer kw384 (by decide) rfl rfl (Nat.le_of_ble_eq_true rfl) dL_law_209) (fun M1 r2 h => ?_)
        refine aw_aload_n X dL_law_212 2 rfl ?_
        refine aw_aload_n X dL_law_213 0 rfl ?_
        refine aw_iload_n X dL_law_214 3 rfl ?_
        refine aw_iconst (v := 1) X dL_law_215 (by decide) ?_
        refine aw_iadd X dL_law_216 ?_
        obtain ⟨hin, h⟩ := h
        refine aw_sld X hX dL_law_217 hin ?_
        refine aw_aload_n X dL_law_218 0 rfl ?_
        refine aw_iload_n X dL_law_219 3 rfl ?_
        refine aw_iconst (v := 2) X dL_law_220 (by decide) ?_
        refine aw_iadd X dL_law_221 ?_
        obtain ⟨hin, h⟩ := h
        refine aw_sld X hX dL_law_222 hin ?_
        refine aw_aload_n X dL_law_223 0 rfl ?_
        refine aw_iload_n X dL_law_224 3 rfl ?_
        refine aw_iconst (v := 3) X dL_law_225 (by decide) ?_
        refine aw_iadd X dL_law_226 ?_
        obtain ⟨hin, h⟩ := h
        refine aw_sld X hX dL_law_227 hin ?_
        refine aw_aload_n X dL_law_228 0 rfl ?_
        refine aw_iload_n X dL_law_229 3 rfl ?_
        refine aw_iconst (v := 4) X dL_law_230 (by decide) ?_
        refine aw_iadd X dL_law_231 ?_
        obtain ⟨hin, h⟩ := h
        refine aw_sld X hX dL_law_232 hin ?_
        refine ca_i X (rn_v X [.int (xs (x3 + 1).toNatClampNeg), .int (xs (x3 + 2).toNatClampNeg), .int (xs (x3 + 3).toNatClampNeg), .int (xs (x3 + 4).toNatClampNeg)] [.int r2] (X.lt (by decide)) (sh_12 (rfl : tp 74 = 12) _) rfl rfl kw1074 kw1075 (c_X8_comer h) cal_yX8_comer kw1073 (by decide) rfl rfl (Nat.le_of_ble_eq_true rfl) dL_law_233) (fun M3 r4 h => ?_)
        refine aw_icmp_eq (tgt := 1254) X dL_law_236 (by decide) (fun c => ?_) (fun c => ?_)
        · have h := h.1 c
          obtain ⟨v5, ev5⟩ : ∃ y : Int32, y = x3 + 6 := ⟨_, rfl⟩
          have h := h v5 ev5
          refine aw_iinc (v := v5) (lv' := [(3, .int v5), (0, .ref b), (1, .ref (eA E 0)), (2, .ref (eA E 74))]) X dL_law_1254 3 rfl (by rw [ev5]; rfl) (by decide) rfl ?_
          refine aw_goto (tgt := 18) X dL_law_1257 (by decide) ?_
          exact aw_sub [1, 2, 3, 0] rfl (ih E kc ks _ _ (by omega) (by omega) X h)
        · have h := h.2 c
          refine aw_iconst (v := 0) X dL_law_239 (by decide) ?_
          exact h.elim
      · by_cases c1 : ((xs x3.toNatClampNeg) &&& 63) = 1
        · have h := h.2.1 c1
          refine aw_tableIn (tgt := 241) X dL_law_33 1 c1 (by decide) (by decide) rfl (by decide) ?_
          refine aw_aload_n X dL_law_241 1 rfl ?_
          refine aw_aload_n X dL_law_242 0 rfl ?_
          refine aw_iload_n X dL_law_243 3 rfl ?_
          refine aw_iconst (v := 1) X dL_law_244 (by decide) ?_
          refine aw_iadd X dL_law_245 ?_
          obtain ⟨hin, h⟩ := h
          refine aw_sld X hX dL_law_246 hin ?_
          refine aw_aload_n X dL_law_247 0 rfl ?_
          refine aw_iload_n X dL_law_248 3 rfl ?_
          refine aw_iconst (v := 2) X dL_law_249 (by decide) ?_
          refine aw_iadd X dL_law_250 ?_
          obtain ⟨hin, h⟩ := h
          refine aw_sld X hX dL_law_251 hin ?_
          refine ca_i X (rn_v X [.int (xs (x3 + 1).toNatClampNeg), .int (xs (x3 + 2).toNatClampNeg)] [] (X.lt (by decide)) (sh_1 (rfl : tp 0 = 1) _) rfl rfl kw414 kw415 (c_X7_told h) cal_yX7_told kw413 (by decide) rfl rfl (Nat.le_of_ble_eq_true rfl) dL_law_252) (fun M6 r7 h => ?_)
          refine aw_aload_n X dL_law_255 2 rfl ?_
          refine aw_aload_n X dL_law_256 0 rfl ?_
          refine aw_iload_n X dL_law_257 3 rfl ?_
          refine aw_iconst (v := 1) X dL_law_258 (by decide) ?_
          refine aw_iadd X dL_law_259 ?_
          obtain ⟨hin, h⟩ := h
          refine aw_sld X hX dL_law_260 hin ?_
          refine aw_aload_n X dL_law_261 0 rfl ?_
          refine aw_iload_n X dL_law_262 3 rfl ?_
          refine aw_iconst (v := 2) X dL_law_263 (by decide) ?_
          refine aw_iadd X dL_law_264 ?_
          obtain ⟨hin, h⟩ := h
          refine aw_sld X hX dL_law_265 hin ?_
          refine ca_i X (rn_v X [.int (xs (x3 + 1).toNatClampNeg), .int (xs (x3 + 2).toNatClampNeg)] [.int r7] (X.lt (by decide)) (sh_12 (rfl : tp 74 = 12) _) rfl rfl kw1091 kw1092 (c_X8_told h) cal_yX8_told kw1090 (by decide) rfl rfl (Nat.le_of_ble_eq_true rfl) dL_law_266) (fun M8 r9 h => ?_)
          refine aw_icmp_eq (tgt := 1254) X dL_law_269 (by decide) (fun c => ?_) (fun c => ?_)
          · have h := h.1 c
            obtain ⟨v10, ev10⟩ : ∃ y : Int32, y = x3 + 6 := ⟨_, rfl⟩
            have h := h v10 ev10
            refine aw_iinc (v := v10) (lv' := [(3, .int v10), (0, .ref b), (1, .ref (eA E 0)), (2, .ref (eA E 74))]) X dL_law_1254 3 rfl (by rw [ev10]; rfl) (by decide) rfl ?_
            refine aw_goto (tgt := 18) X dL_law_1257 (by decide) ?_
            exact aw_sub [1, 2, 3, 0] rfl (ih E kc ks _ _ (by omega) (by omega) X h)
          · have h := h.2 c
            refine aw_iconst (v := 0) X dL_law_272 (by decide) ?_
            exact h.elim
        · by_cases c2 : ((xs x3.toNatClampNeg) &&& 63) = 2
          · have h := h.2.2.1 c2
            refine aw_tableIn (tgt := 274) X dL_law_33 2 c2 (by decide) (by decide) rfl (by decide) ?_
            refine aw_aload_n X dL_law_274 1 rfl ?_
            refine aw_aload_n X dL_law_275 0 rfl ?_
            refine aw_iload_n X dL_law_276 3 rfl ?_
            refine aw_iconst (v := 1) X dL_law_277 (by decide) ?_
            refine aw_iadd X dL_law_278 ?_
            obtain ⟨hin, h⟩ := h
            refine aw_sld X hX dL_law_279 hin ?_
            refine aw_aload_n X dL_law_280 0 rfl ?_
            refine aw_iload_n X dL_law_281 3 rfl ?_
            refine aw_iconst (v := 2) X dL_law_282 (by decide) ?_
            refine aw_iadd X dL_law_283 ?_
            obtain ⟨hin, h⟩ := h
            refine aw_sld X hX dL_law_284 hin ?_
            refine ca_i X (rn_v X [.int (xs (x3 + 1).toNatClampNeg), .int (xs (x3 + 2).toNatClampNeg)] [] (X.lt (by decide)) (sh_1 (rfl : tp 0 = 1) _) rfl rfl kw466 kw467 (c_X7_as h) cal_yX7_as kw465 (by decide) rfl rfl (Nat.le_of_ble_eq_true rfl) dL_law_285) (fun M11 r12 h => ?_)
            refine aw_aload_n X dL_law_288 2 rfl ?_
            refine aw_aload_n X dL_law_289 0 rfl ?_
            refine aw_iload_n X dL_law_290 3 rfl ?_
            refine aw_iconst (v := 1) X dL_law_291 (by decide) ?_
            refine aw_iadd X dL_law_292 ?_
            obtain ⟨hin, h⟩ := h
            refine aw_sld X hX dL_law_293 hin ?_
            refine aw_aload_n X dL_law_294 0 rfl ?_
            refine aw_iload_n X dL_law_295 3 rfl ?_
            refine aw_iconst (v := 2) X dL_law_296 (by decide) ?_
            refine aw_iadd X dL_law_297 ?_
            obtain ⟨hin, h⟩ := h
            refine aw_sld X hX dL_law_298 hin ?_
            refine ca_i X (rn_v X [.int (xs (x3 + 1).toNatClampNeg), .int (xs (x3 + 2).toNatClampNeg)] [.int r12] (X.lt (by decide)) (sh_12 (rfl : tp 74 = 12) _) rfl rfl kw1142 kw1143 (c_X8_as h) cal_yX8_as kw1141 (by decide) rfl rfl (Nat.le_of_ble_eq_true rfl) dL_law_299) (fun M13 r14 h => ?_)
            refine aw_icmp_eq (tgt := 1254) X dL_law_302 (by decide) (fun c => ?_) (fun c => ?_)
            · have h := h.1 c
              obtain ⟨v15, ev15⟩ : ∃ y : Int32, y = x3 + 6 := ⟨_, rfl⟩
              have h := h v15 ev15
              refine aw_iinc (v := v15) (lv' := [(3, .int v15), (0, .ref b), (1, .ref (eA E 0)), (2, .ref (eA E 74))]) X dL_law_1254 3 rfl (by rw [ev15]; rfl) (by decide) rfl ?_
              refine aw_goto (tgt := 18) X dL_law_1257 (by decide) ?_
              exact aw_sub [1, 2, 3, 0] rfl (ih E kc ks _ _ (by omega) (by omega) X h)
            · have h := h.2 c
              refine aw_iconst (v := 0) X dL_law_305 (by decide) ?_
              exact h.elim
          · by_cases c3 : ((xs x3.toNatClampNeg) &&& 63) = 3
            · have h := h.2.2.2.1 c3
              refine aw_tableIn (tgt := 307) X dL_law_33 3 c3 (by decide) (by decide) rfl (by decide) ?_
              refine aw_aload_n X dL_law_307 1 rfl ?_
              refine aw_aload_n X dL_law_308 0 rfl ?_
              refine aw_iload_n X dL_law_309 3 rfl ?_
              refine aw_iconst (v := 1) X dL_law_310 (by decide) ?_
              refine aw_iadd X dL_law_311 ?_
              obtain ⟨hin, h⟩ := h
              refine aw_sld X hX dL_law_312 hin ?_
              refine aw_aload_n X dL_law_313 0 rfl ?_
              refine aw_iload_n X dL_law_314 3 rfl ?_
              refine aw_iconst (v := 2) X dL_law_315 (by decide) ?_
              refine aw_iadd X dL_law_316 ?_
              obtain ⟨hin, h⟩ := h
              refine aw_sld X hX dL_law_317 hin ?_
              refine ca_i X (rn_v X [.int (xs (x3 + 1).toNatClampNeg), .int (xs (x3 + 2).toNatClampNeg)] [] (X.lt (by decide)) (sh_1 (rfl : tp 0 = 1) _) rfl rfl kw474 kw475 (c_X7_turns h) cal_yX7_turns kw473 (by decide) rfl rfl (Nat.le_of_ble_eq_true rfl) dL_law_318) (fun M16 r17 h => ?_)
              refine aw_aload_n X dL_law_321 2 rfl ?_
              refine aw_aload_n X dL_law_322 0 rfl ?_
              refine aw_iload_n X dL_law_323 3 rfl ?_
              refine aw_iconst (v := 1) X dL_law_324 (by decide) ?_
              refine aw_iadd X dL_law_325 ?_
              obtain ⟨hin, h⟩ := h
              refine aw_sld X hX dL_law_326 hin ?_
              refine aw_aload_n X dL_law_327 0 rfl ?_
              refine aw_iload_n X dL_law_328 3 rfl ?_
              refine aw_iconst (v := 2) X dL_law_329 (by decide) ?_
              refine aw_iadd X dL_law_330 ?_
              obtain ⟨hin, h⟩ := h
              refine aw_sld X hX dL_law_331 hin ?_
              refine ca_i X (rn_v X [.int (xs (x3 + 1).toNatClampNeg), .int (xs (x3 + 2).toNatClampNeg)] [.int r17] (X.lt (by decide)) (sh_12 (rfl : tp 74 = 12) _) rfl rfl kw1150 kw1151 (c_X8_turns h) cal_yX8_turns kw1149 (by decide) rfl rfl (Nat.le_of_ble_eq_true rfl) dL_law_332) (fun M18 r19 h => ?_)
              refine aw_icmp_eq (tgt := 1254) X dL_law_335 (by decide) (fun c => ?_) (fun c => ?_)
              · have h := h.1 c
                obtain ⟨v20, ev20⟩ : ∃ y : Int32, y = x3 + 6 := ⟨_, rfl⟩
                have h := h v20 ev20
                refine aw_iinc (v := v20) (lv' := [(3, .int v20), (0, .ref b), (1, .ref (eA E 0)), (2, .ref (eA E 74))]) X dL_law_1254 3 rfl (by rw [ev20]; rfl) (by decide) rfl ?_
                refine aw_goto (tgt := 18) X dL_law_1257 (by decide) ?_
                exact aw_sub [1, 2, 3, 0] rfl (ih E kc ks _ _ (by omega) (by omega) X h)
              · have h := h.2 c
                refine aw_iconst (v := 0) X dL_law_338 (by decide) ?_
                exact h.elim
            · by_cases c4 : ((xs x3.toNatClampNeg) &&& 63) = 4
              · have h := h.2.2.2.2.1 c4
                refine aw_tableIn (tgt := 340) X dL_law_33 4 c4 (by decide) (by decide) rfl (by decide) ?_
                refine aw_aload_n X dL_law_340 1 rfl ?_
                refine aw_aload_n X dL_law_341 0 rfl ?_
                refine aw_iload_n X dL_law_342 3 rfl ?_
                refine aw_iconst (v := 1) X dL_law_343 (by decide) ?_
                refine aw_iadd X dL_law_344 ?_
                obtain ⟨hin, h⟩ := h
                refine aw_sld X hX dL_law_345 hin ?_
                refine aw_aload_n X dL_law_346 0 rfl ?_
                refine aw_iload_n X dL_law_347 3 rfl ?_
                refine aw_iconst (v := 2) X dL_law_348 (by decide) ?_
                refine aw_iadd X dL_law_349 ?_
                obtain ⟨hin, h⟩ := h
                refine aw_sld X hX dL_law_350 hin ?_
                refine aw_aload_n X dL_law_351 0 rfl ?_
                refine aw_iload_n X dL_law_352 3 rfl ?_
                refine aw_iconst (v := 3) X dL_law_353 (by decide) ?_
                refine aw_iadd X dL_law_354 ?_
                obtain ⟨hin, h⟩ := h
                refine aw_sld X hX dL_law_355 hin ?_
                refine ca_i X (rn_v X [.int (xs (x3 + 1).toNatClampNeg), .int (xs (x3 + 2).toNatClampNeg), .int (xs (x3 + 3).toNatClampNeg)] [] (X.lt (by decide)) (sh_1 (rfl : tp 0 = 1) _) rfl rfl kw478 kw479 (c_X7_set h) cal_yX7_set kw477 (by decide) rfl rfl (Nat.le_of_ble_eq_true rfl) dL_law_356) (fun M21 r22 h => ?_)
                refine aw_aload_n X dL_law_359 2 rfl ?_
                refine aw_aload_n X dL_law_360 0 rfl ?_
                refine aw_iload_n X dL_law_361 3 rfl ?_
                refine aw_iconst (v := 1) X dL_law_362 (by decide) ?_
                refine aw_iadd X dL_law_363 ?_
                obtain ⟨hin, h⟩ := h
                refine aw_sld X hX dL_law_364 hin ?_
                refine aw_aload_n X dL_law_365 0 rfl ?_
                refine aw_iload_n X dL_law_366 3 rfl ?_
                refine aw_iconst (v := 2) X dL_law_367 (by decide) ?_
                refine aw_iadd X dL_law_368 ?_
                obtain ⟨hin, h⟩ := h
                refine aw_sld X hX dL_law_369 hin ?_
                refine aw_aload_n X dL_law_370 0 rfl ?_
                refine aw_iload_n X dL_law_371 3 rfl ?_
                refine aw_iconst (v := 3) X dL_law_372 (by decide) ?_
                refine aw_iadd X dL_law_373 ?_
                obtain ⟨hin, h⟩ := h
                refine aw_sld X hX dL_law_374 hin ?_
                refine ca_i X (rn_v X [.int (xs (x3 + 1).toNatClampNeg), .int (xs (x3 + 2).toNatClampNeg), .int (xs (x3 + 3).toNatClampNeg)] [.int r22] (X.lt (by decide)) (sh_12 (rfl : tp 74 = 12) _) rfl rfl kw1158 kw1159 (c_X8_set h) cal_yX8_set kw1157 (by decide) rfl rfl (Nat.le_of_ble_eq_true rfl) dL_law_375) (fun M23 r24 h => ?_)
                refine aw_icmp_eq (tgt := 1254) X dL_law_378 (by decide) (fun c => ?_) (fun c => ?_)
                · have h := h.1 c
                  obtain ⟨v25, ev25⟩ : ∃ y : Int32, y = x3 + 6 := ⟨_, rfl⟩
                  have h := h v25 ev25
                  refine aw_iinc (v := v25) (lv' := [(3, .int v25), (0, .ref b), (1, .ref (eA E 0)), (2, .ref (eA E 74))]) X dL_law_1254 3 rfl (by rw [ev25]; rfl) (by decide) rfl ?_
                  refine aw_goto (tgt := 18) X dL_law_1257 (by decide) ?_
                  exact aw_sub [1, 2, 3, 0] rfl (ih E kc ks _ _ (by omega) (by omega) X h)
                · have h := h.2 c
                  refine aw_iconst (v := 0) X dL_law_381 (by decide) ?_
                  exact h.elim
              · by_cases c5 : ((xs x3.toNatClampNeg) &&& 63) = 5
                · have h := h.2.2.2.2.2.1 c5
                  refine aw_tableIn (tgt := 383) X dL_law_33 5 c5 (by decide) (by decide) rfl (by decide) ?_
                  refine aw_aload_n X dL_law_383 1 rfl ?_
                  refine aw_aload_n X dL_law_384 0 rfl ?_
                  refine aw_iload_n X dL_law_385 3 rfl ?_
                  refine aw_iconst (v := 1) X dL_law_386 (by decide) ?_
                  refine aw_iadd X dL_law_387 ?_
                  obtain ⟨hin, h⟩ := h
                  refine aw_sld X hX dL_law_388 hin ?_
                  refine aw_aload_n X dL_law_389 0 rfl ?_
                  refine aw_iload_n X dL_law_390 3 rfl ?_
                  refine aw_iconst (v := 2) X dL_law_391 (by decide) ?_
                  refine aw_iadd X dL_law_392 ?_
                  obtain ⟨hin, h⟩ := h
                  refine aw_sld X hX dL_law_393 hin ?_
                  refine ca_i X (rn_v X [.int (xs (x3 + 1).toNatClampNeg), .int (xs (x3 + 2).toNatClampNeg)] [] (X.lt (by decide)) (sh_1 (rfl : tp 0 = 1) _) rfl rfl kw486 kw487 (c_X7_well h) cal_yX7_well kw485 (by decide) rfl rfl (Nat.le_of_ble_eq_true rfl) dL_law_394) (fun M26 r27 h => ?_)
                  refine aw_aload_n X dL_law_397 2 rfl ?_
                  refine aw_aload_n X dL_law_398 0 rfl ?_
                  refine aw_iload_n X dL_law_399 3 rfl ?_
                  refine aw_iconst (v := 1) X dL_law_400 (by decide) ?_
                  refine aw_iadd X dL_law_401 ?_
                  obtain ⟨hin, h⟩ := h
                  refine aw_sld X hX dL_law_402 hin ?_
                  refine aw_aload_n X dL_law_403 0 rfl ?_
                  refine aw_iload_n X dL_law_404 3 rfl ?_
                  refine aw_iconst (v := 2) X dL_law_405 (by decide) ?_
                  refine aw_iadd X dL_law_406 ?_
                  obtain ⟨hin, h⟩ := h
                  refine aw_sld X hX dL_law_407 hin ?_
                  refine ca_i X (rn_v X [.int (xs (x3 + 1).toNatClampNeg), .int (xs (x3 + 2).toNatClampNeg)] [.int r27] (X.lt (by decide)) (sh_12 (rfl : tp 74 = 12) _) rfl rfl kw1163 kw1164 (c_X8_well h) cal_yX8_well kw1162 (by decide) rfl rfl (Nat.le_of_ble_eq_true rfl) dL_law_408) (fun M28 r29 h => ?_)
                  refine aw_icmp_eq (tgt := 1254) X dL_law_411 (by decide) (fun c => ?_) (fun c => ?_)
                  · have h := h.1 c
                    obtain ⟨v30, ev30⟩ : ∃ y : Int32, y = x3 + 6 := ⟨_, rfl⟩
                    have h := h v30 ev30
                    refine aw_iinc (v := v30) (lv' := [(3, .int v30), (0, .ref b), (1, .ref (eA E 0)), (2, .ref (eA E 74))]) X dL_law_1254 3 rfl (by rw [ev30]; rfl) (by decide) rfl ?_
                    refine aw_goto (tgt := 18) X dL_law_1257 (by decide) ?_
                    exact aw_sub [1, 2, 3, 0] rfl (ih E kc ks _ _ (by omega) (by omega) X h)
                  · have h := h.2 c
                    refine aw_iconst (v := 0) X dL_law_414 (by decide) ?_
                    exact h.elim
                · by_cases c6 : ((xs x3.toNatClampNeg) &&& 63) = 6
                  · have h := h.2.2.2.2.2.2.1 c6
                    refine aw_tableIn (tgt := 416) X dL_law_33 6 c6 (by decide) (by decide) rfl (by decide) ?_
                    refine aw_aload_n X dL_law_416 1 rfl ?_
                    refine aw_aload_n X dL_law_417 0 rfl ?_
                    refine aw_iload_n X dL_law_418 3 rfl ?_
                    refine aw_iconst (v := 1) X dL_law_419 (by decide) ?_
                    refine aw_iadd X dL_law_420 ?_
                    obtain ⟨hin, h⟩ := h
                    refine aw_sld X hX dL_law_421 hin ?_
                    refine ca_i X (rn_v X [.int (xs (x3 + 1).toNatClampNeg)] [] (X.lt (by decide)) (sh_1 (rfl : tp 0 = 1) _) rfl rfl kw498 kw499 (c_X7_deal h) cal_yX7_deal kw497 (by decide) rfl rfl (Nat.le_of_ble_eq_true rfl) dL_law_422) (fun M31 r32 h => ?_)
                    refine aw_aload_n X dL_law_425 2 rfl ?_
                    refine aw_aload_n X dL_law_426 0 rfl ?_
                    refine aw_iload_n X dL_law_427 3 rfl ?_
                    refine aw_iconst (v := 1) X dL_law_428 (by decide) ?_
                    refine aw_iadd X dL_law_429 ?_
                    obtain ⟨hin, h⟩ := h
                    refine aw_sld X hX dL_law_430 hin ?_
                    refine ca_i X (rn_v X [.int (xs (x3 + 1).toNatClampNeg)] [.int r32] (X.lt (by decide)) (sh_12 (rfl : tp 74 = 12) _) rfl rfl kw1173 kw1174 (c_X8_deal h) cal_yX8_deal kw1172 (by decide) rfl rfl (Nat.le_of_ble_eq_true rfl) dL_law_431) (fun M33 r34 h => ?_)
                    refine aw_icmp_eq (tgt := 1254) X dL_law_434 (by decide) (fun c => ?_) (fun c => ?_)
                    · have h := h.1 c
                      obtain ⟨v35, ev35⟩ : ∃ y : Int32, y = x3 + 6 := ⟨_, rfl⟩
                      have h := h v35 ev35
                      refine aw_iinc (v := v35) (lv' := [(3, .int v35), (0, .ref b), (1, .ref (eA E 0)), (2, .ref (eA E 74))]) X dL_law_1254 3 rfl (by rw [ev35]; rfl) (by decide) rfl ?_
                      refine aw_goto (tgt := 18) X dL_law_1257 (by decide) ?_
                      exact aw_sub [1, 2, 3, 0] rfl (ih E kc ks _ _ (by omega) (by omega) X h)
                    · have h := h.2 c
                      refine aw_iconst (v := 0) X dL_law_437 (by decide) ?_
                      exact h.elim
                  · by_cases c7 : ((xs x3.toNatClampNeg) &&& 63) = 7
                    · have h := h.2.2.2.2.2.2.2.1 c7
                      refine aw_tableIn (tgt := 439) X dL_law_33 7 c7 (by decide) (by decide) rfl (by decide) ?_
                      refine aw_aload_n X dL_law_439 1 rfl ?_
                      refine aw_aload_n X dL_law_440 0 rfl ?_
                      refine aw_iload_n X dL_law_441 3 rfl ?_
                      refine aw_iconst (v := 1) X dL_law_442 (by decide) ?_
                      refine aw_iadd X dL_law_443 ?_
                      obtain ⟨hin, h⟩ := h
                      refine aw_sld X hX dL_law_444 hin ?_
                      refine ca_i X (rn_v X [.int (xs (x3 + 1).toNatClampNeg)] [] (X.lt (by decide)) (sh_1 (rfl : tp 0 = 1) _) rfl rfl kw507 kw508 (c_X7_seed h) cal_yX7_seed kw506 (by decide) rfl rfl (Nat.le_of_ble_eq_true rfl) dL_law_445) (fun M36 r37 h => ?_)
                      refine aw_aload_n X dL_law_448 2 rfl ?_
                      refine aw_aload_n X dL_law_449 0 rfl ?_
                      refine aw_iload_n X dL_law_450 3 rfl ?_
                      refine aw_iconst (v := 1) X dL_law_451 (by decide) ?_
                      refine aw_iadd X dL_law_452 ?_
                      obtain ⟨hin, h⟩ := h
                      refine aw_sld X hX dL_law_453 hin ?_
                      refine ca_i X (rn_v X [.int (xs (x3 + 1).toNatClampNeg)] [.int r37] (X.lt (by decide)) (sh_12 (rfl : tp 74 = 12) _) rfl rfl kw1183 kw1184 (c_X8_seed h) cal_yX8_seed kw1182 (by decide) rfl rfl (Nat.le_of_ble_eq_true rfl) dL_law_454) (fun M38 r39 h => ?_)
                      refine aw_icmp_eq (tgt := 1254) X dL_law_457 (by decide) (fun c => ?_) (fun c => ?_)
                      · have h := h.1 c
                        obtain ⟨v40, ev40⟩ : ∃ y : Int32, y = x3 + 6 := ⟨_, rfl⟩
                        have h := h v40 ev40
                        refine aw_iinc (v := v40) (lv' := [(3, .int v40), (0, .ref b), (1, .ref (eA E 0)), (2, .ref (eA E 74))]) X dL_law_1254 3 rfl (by rw [ev40]; rfl) (by decide) rfl ?_
                        refine aw_goto (tgt := 18) X dL_law_1257 (by decide) ?_
                        exact aw_sub [1, 2, 3, 0] rfl (ih E kc ks _ _ (by omega) (by omega) X h)
                      · have h := h.2 c
                        refine aw_iconst (v := 0) X dL_law_460 (by decide) ?_
                        exact h.elim
                    · by_cases c8 : ((xs x3.toNatClampNeg) &&& 63) = 8
                      · have h := h.2.2.2.2.2.2.2.2.1 c8
                        refine aw_tableIn (tgt := 462) X dL_law_33 8 c8 (by decide) (by decide) rfl (by decide) ?_
                        refine aw_aload_n X dL_law_462 1 rfl ?_
                        refine aw_aload_n X dL_law_463 0 rfl ?_
                        refine aw_iload_n X dL_law_464 3 rfl ?_
                        refine aw_iconst (v := 1) X dL_law_465 (by decide) ?_
                        refine aw_iadd X dL_law_466 ?_
                        obtain ⟨hin, h⟩ := h
                        refine aw_sld X hX dL_law_467 hin ?_
                        refine ca_i X (rn_v X [.int (xs (x3 + 1).toNatClampNeg)] [] (X.lt (by decide)) (sh_1 (rfl : tp 0 = 1) _) rfl rfl kw511 kw512 (c_X7_run h) cal_yX7_run kw510 (by decide) rfl rfl (Nat.le_of_ble_eq_true rfl) dL_law_468) (fun M41 r42 h => ?_)
                        refine aw_aload_n X dL_law_471 2 rfl ?_
                        refine aw_aload_n X dL_law_472 0 rfl ?_
                        refine aw_iload_n X dL_law_473 3 rfl ?_
                        refine aw_iconst (v := 1) X dL_law_474 (by decide) ?_
                        refine aw_iadd X dL_law_475 ?_
                        obtain ⟨hin, h⟩ := h
                        refine aw_sld X hX dL_law_476 hin ?_
                        refine ca_i X (rn_v X [.int (xs (x3 + 1).toNatClampNeg)] [.int r42] (X.lt (by decide)) (sh_12 (rfl : tp 74 = 12) _) rfl rfl kw1187 kw1188 (c_X8_run h) cal_yX8_run kw1186 (by decide) rfl rfl (Nat.le_of_ble_eq_true rfl) dL_law_477) (fun M43 r44 h => ?_)
                        refine aw_icmp_eq (tgt := 1254) X dL_law_480 (by decide) (fun c => ?_) (fun c => ?_)
                        · have h := h.1 c
                          obtain ⟨v45, ev45⟩ : ∃ y : Int32, y = x3 + 6 := ⟨_, rfl⟩
                          have h := h v45 ev45
                          refine aw_iinc (v := v45) (lv' := [(3, .int v45), (0, .ref b), (1, .ref (eA E 0)), (2, .ref (eA E 74))]) X dL_law_1254 3 rfl (by rw [ev45]; rfl) (by decide) rfl ?_
                          refine aw_goto (tgt := 18) X dL_law_1257 (by decide) ?_
                          exact aw_sub [1, 2, 3, 0] rfl (ih E kc ks _ _ (by omega) (by omega) X h)
                        · have h := h.2 c
                          refine aw_iconst (v := 0) X dL_law_483 (by decide) ?_
                          exact h.elim
                      · by_cases c9 : ((xs x3.toNatClampNeg) &&& 63) = 9
                        · have h := h.2.2.2.2.2.2.2.2.2.1 c9
                          refine aw_tableIn (tgt := 485) X dL_law_33 9 c9 (by decide) (by decide) rfl (by decide) ?_
                          refine aw_aload_n X dL_law_485 1 rfl ?_
                          refine aw_aload_n X dL_law_486 0 rfl ?_
                          refine aw_iload_n X dL_law_487 3 rfl ?_
                          refine aw_iconst (v := 1) X dL_law_488 (by decide) ?_
                          refine aw_iadd X dL_law_489 ?_
                          obtain ⟨hin, h⟩ := h
                          refine aw_sld X hX dL_law_490 hin ?_
                          refine aw_aload_n X dL_law_491 0 rfl ?_
                          refine aw_iload_n X dL_law_492 3 rfl ?_
                          refine aw_iconst (v := 2) X dL_law_493 (by decide) ?_
                          refine aw_iadd X dL_law_494 ?_
                          obtain ⟨hin, h⟩ := h
                          refine aw_sld X hX dL_law_495 hin ?_
                          refine ca_i X (rn_v X [.int (xs (x3 + 1).toNatClampNeg), .int (xs (x3 + 2).toNatClampNeg)] [] (X.lt (by decide)) (sh_1 (rfl : tp 0 = 1) _) rfl rfl kw560 kw561 (c_X7_behind h) cal_yX7_behind kw559 (by decide) rfl rfl (Nat.le_of_ble_eq_true rfl) dL_law_496) (fun M46 r47 h => ?_)
                          refine aw_aload_n X dL_law_499 2 rfl ?_
                          refine aw_aload_n X dL_law_500 0 rfl ?_
                          refine aw_iload_n X dL_law_501 3 rfl ?_
                          refine aw_iconst (v := 1) X dL_law_502 (by decide) ?_
                          refine aw_iadd X dL_law_503 ?_
                          obtain ⟨hin, h⟩ := h
                          refine aw_sld X hX dL_law_504 hin ?_
                          refine aw_aload_n X dL_law_505 0 rfl ?_
                          refine aw_iload_n X dL_law_506 3 rfl ?_
                          refine aw_iconst (v := 2) X dL_law_507 (by decide) ?_
                          refine aw_iadd X dL_law_508 ?_
                          obtain ⟨hin, h⟩ := h
                          refine aw_sld X hX dL_law_509 hin ?_
                          refine ca_i X (rn_v X [.int (xs (x3 + 1).toNatClampNeg), .int (xs (x3 + 2).toNatClampNeg)] [.int r47] (X.lt (by decide)) (sh_12 (rfl : tp 74 = 12) _) rfl rfl kw1229 kw1230 (c_X8_behind h) cal_yX8_behind kw1228 (by decide) rfl rfl (Nat.le_of_ble_eq_true rfl) dL_law_510) (fun M48 r49 h => ?_)
                          refine aw_icmp_eq (tgt := 1254) X dL_law_513 (by decide) (fun c => ?_) (fun c => ?_)
                          · have h := h.1 c
                            obtain ⟨v50, ev50⟩ : ∃ y : Int32, y = x3 + 6 := ⟨_, rfl⟩
                            have h := h v50 ev50
                            refine aw_iinc (v := v50) (lv' := [(3, .int v50), (0, .ref b), (1, .ref (eA E 0)), (2, .ref (eA E 74))]) X dL_law_1254 3 rfl (by rw [ev50]; rfl) (by decide) rfl ?_
                            refine aw_goto (tgt := 18) X dL_law_1257 (by decide) ?_
                            exact aw_sub [1, 2, 3, 0] rfl (ih E kc ks _ _ (by omega) (by omega) X h)
                          · have h := h.2 c
                            refine aw_iconst (v := 0) X dL_law_516 (by decide) ?_
                            exact h.elim
                        · by_cases c10 : ((xs x3.toNatClampNeg) &&& 63) = 10
                          · have h := h.2.2.2.2.2.2.2.2.2.2.1 c10
                            refine aw_tableIn (tgt := 518) X dL_law_33 10 c10 (by decide) (by decide) rfl (by decide) ?_
                            refine aw_aload_n X dL_law_518 1 rfl ?_
                            refine aw_aload_n X dL_law_519 0 rfl ?_
                            refine aw_iload_n X dL_law_520 3 rfl ?_
                            refine aw_iconst (v := 1) X dL_law_521 (by decide) ?_
                            refine aw_iadd X dL_law_522 ?_
                            obtain ⟨hin, h⟩ := h
                            refine aw_sld X hX dL_law_523 hin ?_
                            refine ca_i X (rn_v X [.int (xs (x3 + 1).toNatClampNeg)] [] (X.lt (by decide)) (sh_1 (rfl : tp 0 = 1) _) rfl rfl kw579 kw580 (c_X7_fullIn h) cal_yX7_fullIn kw578 (by decide) rfl rfl (Nat.le_of_ble_eq_true rfl) dL_law_524) (fun M51 r52 h => ?_)
                            refine aw_aload_n X dL_law_527 2 rfl ?_
                            refine aw_aload_n X dL_law_528 0 rfl ?_
                            refine aw_iload_n X dL_law_529 3 rfl ?_
                            refine aw_iconst (v := 1) X dL_law_530 (by decide) ?_
                            refine aw_iadd X dL_law_531 ?_
                            obtain ⟨hin, h⟩ := h
                            refine aw_sld X hX dL_law_532 hin ?_
                            refine ca_i X (rn_v X [.int (xs (x3 + 1).toNatClampNeg)] [.int r52] (X.lt (by decide)) (sh_12 (rfl : tp 74 = 12) _) rfl rfl kw1246 kw1247 (c_X8_fullIn h) cal_yX8_fullIn kw1245 (by decide) rfl rfl (Nat.le_of_ble_eq_true rfl) dL_law_533) (fun M53 r54 h => ?_)
                            refine aw_icmp_eq (tgt := 1254) X dL_law_536 (by decide) (fun c => ?_) (fun c => ?_)
                            · have h := h.1 c
                              obtain ⟨v55, ev55⟩ : ∃ y : Int32, y = x3 + 6 := ⟨_, rfl⟩
                              have h := h v55 ev55
                              refine aw_iinc (v := v55) (lv' := [(3, .int v55), (0, .ref b), (1, .ref (eA E 0)), (2, .ref (eA E 74))]) X dL_law_1254 3 rfl (by rw [ev55]; rfl) (by decide) rfl ?_
                              refine aw_goto (tgt := 18) X dL_law_1257 (by decide) ?_
                              exact aw_sub [1, 2, 3, 0] rfl (ih E kc ks _ _ (by omega) (by omega) X h)
                            · have h := h.2 c
                              refine aw_iconst (v := 0) X dL_law_539 (by decide) ?_
                              exact h.elim
                          · by_cases c11 : ((xs x3.toNatClampNeg) &&& 63) = 11
                            · have h := h.2.2.2.2.2.2.2.2.2.2.2.1 c11
                              refine aw_tableIn (tgt := 541) X dL_law_33 11 c11 (by decide) (by decide) rfl (by decide) ?_
                              refine aw_aload_n X dL_law_541 1 rfl ?_
                              refine aw_aload_n X dL_law_542 0 rfl ?_
                              refine aw_iload_n X dL_law_543 3 rfl ?_
                              refine aw_iconst (v := 1) X dL_law_544 (by decide) ?_
                              refine aw_iadd X dL_law_545 ?_
                              obtain ⟨hin, h⟩ := h
                              refine aw_sld X hX dL_law_546 hin ?_
                              refine aw_aload_n X dL_law_547 0 rfl ?_
                              refine aw_iload_n X dL_law_548 3 rfl ?_
                              refine aw_iconst (v := 2) X dL_law_549 (by decide) ?_
                              refine aw_iadd X dL_law_550 ?_
                              obtain ⟨hin, h⟩ := h
                              refine aw_sld X hX dL_law_551 hin ?_
                              refine aw_aload_n X dL_law_552 0 rfl ?_
                              refine aw_iload_n X dL_law_553 3 rfl ?_
                              refine aw_iconst (v := 3) X dL_law_554 (by decide) ?_
                              refine aw_iadd X dL_law_555 ?_
                              obtain ⟨hin, h⟩ := h
                              refine aw_sld X hX dL_law_556 hin ?_
                              refine ca_i X (rn_v X [.int (xs (x3 + 1).toNatClampNeg), .int (xs (x3 + 2).toNatClampNeg), .int (xs (x3 + 3).toNatClampNeg)] [] (X.lt (by decide)) (sh_1 (rfl : tp 0 = 1) _) rfl rfl kw584 kw585 (c_X7_best h) cal_yX7_best kw583 (by decide) rfl rfl (Nat.le_of_ble_eq_true rfl) dL_law_557) (fun M56 r57 h => ?_)
                              refine aw_aload_n X dL_law_560 2 rfl ?_
                              refine aw_aload_n X dL_law_561 0 rfl ?_
                              refine aw_iload_n X dL_law_562 3 rfl ?_
                              refine aw_iconst (v := 1) X dL_law_563 (by decide) ?_
                              refine aw_iadd X dL_law_564 ?_
                              obtain ⟨hin, h⟩ := h
                              refine aw_sld X hX dL_law_565 hin ?_
                              refine aw_aload_n X dL_law_566 0 rfl ?_
                              refine aw_iload_n X dL_law_567 3 rfl ?_
                              refine aw_iconst (v := 2) X dL_law_568 (by decide) ?_
                              refine aw_iadd X dL_law_569 ?_
                              obtain ⟨hin, h⟩ := h
                              refine aw_sld X hX dL_law_570 hin ?_
                              refine aw_aload_n X dL_law_571 0 rfl ?_
                              refine aw_iload_n X dL_law_572 3 rfl ?_
                              refine aw_iconst (v := 3) X dL_law_573 (by decide) ?_
                              refine aw_iadd X dL_law_574 ?_
                              obtain ⟨hin, h⟩ := h
                              refine aw_sld X hX dL_law_575 hin ?_
                              refine ca_i X (rn_v X [.int (xs (x3 + 1).toNatClampNeg), .int (xs (x3 + 2).toNatClampNeg), .int (xs (x3 + 3).toNatClampNeg)] [.int r57] (X.lt (by decide)) (sh_12 (rfl : tp 74 = 12) _) rfl rfl kw1251 kw1252 (c_X8_best h) cal_yX8_best kw1250 (by decide) rfl rfl (Nat.le_of_ble_eq_true rfl) dL_law_576) (fun M58 r59 h => ?_)
                              refine aw_icmp_eq (tgt := 1254) X dL_law_579 (by decide) (fun c => ?_) (fun c => ?_)
                              · have h := h.1 c
                                obtain ⟨v60, ev60⟩ : ∃ y : Int32, y = x3 + 6 := ⟨_, rfl⟩
                                have h := h v60 ev60
                                refine aw_iinc (v := v60) (lv' := [(3, .int v60), (0, .ref b), (1, .ref (eA E 0)), (2, .ref (eA E 74))]) X dL_law_1254 3 rfl (by rw [ev60]; rfl) (by decide) rfl ?_
                                refine aw_goto (tgt := 18) X dL_law_1257 (by decide) ?_
                                exact aw_sub [1, 2, 3, 0] rfl (ih E kc ks _ _ (by omega) (by omega) X h)
                              · have h := h.2 c
                                refine aw_iconst (v := 0) X dL_law_582 (by decide) ?_
                                exact h.elim
                            · by_cases c12 : ((xs x3.toNatClampNeg) &&& 63) = 12
                              · have h := h.2.2.2.2.2.2.2.2.2.2.2.2.1 c12
                                refine aw_tableIn (tgt := 584) X dL_law_33 12 c12 (by decide) (by decide) rfl (by decide) ?_
                                refine aw_aload_n X dL_law_584 1 rfl ?_
                                refine aw_aload_n X dL_law_585 0 rfl ?_
                                refine aw_iload_n X dL_law_586 3 rfl ?_
                                refine aw_iconst (v := 1) X dL_law_587 (by decide) ?_
                                refine aw_iadd X dL_law_588 ?_
                                obtain ⟨hin, h⟩ := h
                                refine aw_sld X hX dL_law_589 hin ?_
                                refine aw_aload_n X dL_law_590 0 rfl ?_
                                refine aw_iload_n X dL_law_591 3 rfl ?_
                                refine aw_iconst (v := 2) X dL_law_592 (by decide) ?_
                                refine aw_iadd X dL_law_593 ?_
                                obtain ⟨hin, h⟩ := h
                                refine aw_sld X hX dL_law_594 hin ?_
                                refine ca_i X (rn_v X [.int (xs (x3 + 1).toNatClampNeg), .int (xs (x3 + 2).toNatClampNeg)] [] (X.lt (by decide)) (sh_1 (rfl : tp 0 = 1) _) rfl rfl kw588 kw589 (c_X7_alone h) cal_yX7_alone kw587 (by decide) rfl rfl (Nat.le_of_ble_eq_true rfl) dL_law_595) (fun M61 r62 h => ?_)
                                refine aw_aload_n X dL_law_598 2 rfl ?_
                                refine aw_aload_n X dL_law_599 0 rfl ?_
                                refine aw_iload_n X dL_law_600 3 rfl ?_
                                refine aw_iconst (v := 1) X dL_law_601 (by decide) ?_
                                refine aw_iadd X dL_law_602 ?_
                                obtain ⟨hin, h⟩ := h
                                refine aw_sld X hX dL_law_603 hin ?_
                                refine aw_aload_n X dL_law_604 0 rfl ?_
                                refine aw_iload_n X dL_law_605 3 rfl ?_
                                refine aw_iconst (v := 2) X dL_law_606 (by decide) ?_
                                refine aw_iadd X dL_law_607 ?_
                                obtain ⟨hin, h⟩ := h
                                refine aw_sld X hX dL_law_608 hin ?_
                                refine ca_i X (rn_v X [.int (xs (x3 + 1).toNatClampNeg), .int (xs (x3 + 2).toNatClampNeg)] [.int r62] (X.lt (by decide)) (sh_12 (rfl : tp 74 = 12) _) rfl rfl kw1256 kw1257 (c_X8_alone h) cal_yX8_alone kw1255 (by decide) rfl rfl (Nat.le_of_ble_eq_true rfl) dL_law_609) (fun M63 r64 h => ?_)
                                refine aw_icmp_eq (tgt := 1254) X dL_law_612 (by decide) (fun c => ?_) (fun c => ?_)
                                · have h := h.1 c
                                  obtain ⟨v65, ev65⟩ : ∃ y : Int32, y = x3 + 6 := ⟨_, rfl⟩
                                  have h := h v65 ev65
                                  refine aw_iinc (v := v65) (lv' := [(3, .int v65), (0, .ref b), (1, .ref (eA E 0)), (2, .ref (eA E 74))]) X dL_law_1254 3 rfl (by rw [ev65]; rfl) (by decide) rfl ?_
                                  refine aw_goto (tgt := 18) X dL_law_1257 (by decide) ?_
                                  exact aw_sub [1, 2, 3, 0] rfl (ih E kc ks _ _ (by omega) (by omega) X h)
                                · have h := h.2 c
                                  refine aw_iconst (v := 0) X dL_law_615 (by decide) ?_
                                  exact h.elim
                              · by_cases c13 : ((xs x3.toNatClampNeg) &&& 63) = 13
                                · have h := h.2.2.2.2.2.2.2.2.2.2.2.2.2.1 c13
                                  refine aw_tableIn (tgt := 617) X dL_law_33 13 c13 (by decide) (by decide) rfl (by decide) ?_
                                  refine aw_aload_n X dL_law_617 1 rfl ?_
                                  refine aw_aload_n X dL_law_618 0 rfl ?_
                                  refine aw_iload_n X dL_law_619 3 rfl ?_
                                  refine aw_iconst (v := 1) X dL_law_620 (by decide) ?_
                                  refine aw_iadd X dL_law_621 ?_
                                  obtain ⟨hin, h⟩ := h
                                  refine aw_sld X hX dL_law_622 hin ?_
                                  refine ca_l X (rn_v X [.int (xs (x3 + 1).toNatClampNeg)] [] (X.lt (by decide)) (sh_1 (rfl : tp 0 = 1) _) rfl rfl kw596 kw597 (c_X7_mean h) cal_yX7_mean kw595 (by decide) rfl rfl (Nat.le_of_ble_eq_true rfl) dL_law_623) (fun M66 r67 h => ?_)
                                  refine aw_aload_n X dL_law_626 2 rfl ?_
                                  refine aw_aload_n X dL_law_627 0 rfl ?_
                                  refine aw_iload_n X dL_law_628 3 rfl ?_
                                  refine aw_iconst (v := 1) X dL_law_629 (by decide) ?_
                                  refine aw_iadd X dL_law_630 ?_
                                  obtain ⟨hin, h⟩ := h
                                  refine aw_sld X hX dL_law_631 hin ?_
                                  refine ca_l X (rn_v X [.int (xs (x3 + 1).toNatClampNeg)] [.long r67] (X.lt (by decide)) (sh_12 (rfl : tp 74 = 12) _) rfl rfl kw1260 kw1261 (c_X8_mean h) cal_yX8_mean kw1259 (by decide) rfl rfl (Nat.le_of_ble_eq_true rfl) dL_law_632) (fun M68 r69 h => ?_)
                                  refine aw_lcmp X dL_law_635 ?_
                                  refine aw_if_eq (tgt := 1254) X dL_law_636 (by decide) (fun c => ?_) (fun c => ?_)
                                  · have h := h.1 c
                                    obtain ⟨v70, ev70⟩ : ∃ y : Int32, y = x3 + 6 := ⟨_, rfl⟩
                                    have h := h v70 ev70
                                    refine aw_iinc (v := v70) (lv' := [(3, .int v70), (0, .ref b), (1, .ref (eA E 0)), (2, .ref (eA E 74))]) X dL_law_1254 3 rfl (by rw [ev70]; rfl) (by decide) rfl ?_
                                    refine aw_goto (tgt := 18) X dL_law_1257 (by decide) ?_
                                    exact aw_sub [1, 2, 3, 0] rfl (ih E kc ks _ _ (by omega) (by omega) X h)
                                  · have h := h.2 c
                                    refine aw_iconst (v := 0) X dL_law_639 (by decide) ?_
                                    exact h.elim
                                · by_cases c14 : ((xs x3.toNatClampNeg) &&& 63) = 14
                                  · have h := h.2.2.2.2.2.2.2.2.2.2.2.2.2.2.1 c14
                                    refine aw_tableIn (tgt := 641) X dL_law_33 14 c14 (by decide) (by decide) rfl (by decide) ?_
                                    refine aw_aload_n X dL_law_641 1 rfl ?_
                                    refine ca_i X (rn_v X [] [] (X.lt (by decide)) (sh_1 (rfl : tp 0 = 1) _) rfl rfl kw608 kw609 (c_X7_least h) cal_yX7_least kw607 (by decide) rfl rfl (Nat.le_of_ble_eq_true rfl) dL_law_642) (fun M71 r72 h => ?_)
                                    refine aw_aload_n X dL_law_645 2 rfl ?_
                                    refine ca_i X (rn_v X [] [.int r72] (X.lt (by decide)) (sh_12 (rfl : tp 74 = 12) _) rfl rfl kw1265 kw1266 (c_X8_least h) cal_yX8_least kw1264 (by decide) rfl rfl (Nat.le_of_ble_eq_true rfl) dL_law_646) (fun M73 r74 h => ?_)
                                    refine aw_icmp_eq (tgt := 1254) X dL_law_649 (by decide) (fun c => ?_) (fun c => ?_)
                                    · have h := h.1 c
                                      obtain ⟨v75, ev75⟩ : ∃ y : Int32, y = x3 + 6 := ⟨_, rfl⟩
                                      have h := h v75 ev75
                                      refine aw_iinc (v := v75) (lv' := [(3, .int v75), (0, .ref b), (1, .ref (eA E 0)), (2, .ref (eA E 74))]) X dL_law_1254 3 rfl (by rw [ev75]; rfl) (by decide) rfl ?_
                                      refine aw_goto (tgt := 18) X dL_law_1257 (by decide) ?_
                                      exact aw_sub [1, 2, 3, 0] rfl (ih E kc ks _ _ (by omega) (by omega) X h)
                                    · have h := h.2 c
                                      refine aw_iconst (v := 0) X dL_law_652 (by decide) ?_
                                      exact h.elim
                                  · by_cases c15 : ((xs x3.toNatClampNeg) &&& 63) = 15
                                    · have h := h.2.2.2.2.2.2.2.2.2.2.2.2.2.2.2.1 c15
                                      refine aw_tableIn (tgt := 654) X dL_law_33 15 c15 (by decide) (by decide) rfl (by decide) ?_
                                      refine aw_aload_n X dL_law_654 1 rfl ?_
                                      refine aw_aload_n X dL_law_655 0 rfl ?_
                                      refine aw_iload_n X dL_law_656 3 rfl ?_
                                      refine aw_iconst (v := 1) X dL_law_657 (by decide) ?_
                                      refine aw_iadd X dL_law_658 ?_
                                      obtain ⟨hin, h⟩ := h
                                      refine aw_sld X hX dL_law_659 hin ?_
                                      refine ca_i X (rn_v X [.int (xs (x3 + 1).toNatClampNeg)] [] (X.lt (by decide)) (sh_1 (rfl : tp 0 = 1) _) rfl rfl kw616 kw617 (c_X7_fine h) cal_yX7_fine kw615 (by decide) rfl rfl (Nat.le_of_ble_eq_true rfl) dL_law_660) (fun M76 r77 h => ?_)
                                      refine aw_aload_n X dL_law_663 2 rfl ?_
                                      refine aw_aload_n X dL_law_664 0 rfl ?_
                                      refine aw_iload_n X dL_law_665 3 rfl ?_
                                      refine aw_iconst (v := 1) X dL_law_666 (by decide) ?_
                                      refine aw_iadd X dL_law_667 ?_
                                      obtain ⟨hin, h⟩ := h
                                      refine aw_sld X hX dL_law_668 hin ?_
                                      refine ca_i X (rn_v X [.int (xs (x3 + 1).toNatClampNeg)] [.int r77] (X.lt (by decide)) (sh_12 (rfl : tp 74 = 12) _) rfl rfl kw1272 kw1273 (c_X8_fine h) cal_yX8_fine kw1271 (by decide) rfl rfl (Nat.le_of_ble_eq_true rfl) dL_law_669) (fun M78 r79 h => ?_)
                                      refine aw_icmp_eq (tgt := 1254) X dL_law_672 (by decide) (fun c => ?_) (fun c => ?_)
                                      · have h := h.1 c
                                        obtain ⟨v80, ev80⟩ : ∃ y : Int32, y = x3 + 6 := ⟨_, rfl⟩
                                        have h := h v80 ev80
                                        refine aw_iinc (v := v80) (lv' := [(3, .int v80), (0, .ref b), (1, .ref (eA E 0)), (2, .ref (eA E 74))]) X dL_law_1254 3 rfl (by rw [ev80]; rfl) (by decide) rfl ?_
                                        refine aw_goto (tgt := 18) X dL_law_1257 (by decide) ?_
                                        exact aw_sub [1, 2, 3, 0] rfl (ih E kc ks _ _ (by omega) (by omega) X h)
                                      · have h := h.2 c
                                        refine aw_iconst (v := 0) X dL_law_675 (by decide) ?_
                                        exact h.elim
                                    · by_cases c16 : ((xs x3.toNatClampNeg) &&& 63) = 16
                                      · have h := h.2.2.2.2.2.2.2.2.2.2.2.2.2.2.2.2.1 c16
                                        refine aw_tableIn (tgt := 677) X dL_law_33 16 c16 (by decide) (by decide) rfl (by decide) ?_
                                        refine aw_aload_n X dL_law_677 1 rfl ?_
                                        refine aw_aload_n X dL_law_678 0 rfl ?_
                                        refine aw_iload_n X dL_law_679 3 rfl ?_
                                        refine aw_iconst (v := 1) X dL_law_680 (by decide) ?_
                                        refine aw_iadd X dL_law_681 ?_
                                        obtain ⟨hin, h⟩ := h
                                        refine aw_sld X hX dL_law_682 hin ?_
                                        refine aw_aload_n X dL_law_683 0 rfl ?_
                                        refine aw_iload_n X dL_law_684 3 rfl ?_
                                        refine aw_iconst (v := 2) X dL_law_685 (by decide) ?_
                                        refine aw_iadd X dL_law_686 ?_
                                        obtain ⟨hin, h⟩ := h
                                        refine aw_sld X hX dL_law_687 hin ?_
                                        refine aw_aload_n X dL_law_688 0 rfl ?_
                                        refine aw_iload_n X dL_law_689 3 rfl ?_
                                        refine aw_iconst (v := 3) X dL_law_690 (by decide) ?_
                                        refine aw_iadd X dL_law_691 ?_
                                        obtain ⟨hin, h⟩ := h
                                        refine aw_sld X hX dL_law_692 hin ?_
                                        refine ca_i X (rn_v X [.int (xs (x3 + 1).toNatClampNeg), .int (xs (x3 + 2).toNatClampNeg), .int (xs (x3 + 3).toNatClampNeg)] [] (X.lt (by decide)) (sh_1 (rfl : tp 0 = 1) _) rfl rfl kw622 kw623 (c_X7_feed h) cal_yX7_feed kw621 (by decide) rfl rfl (Nat.le_of_ble_eq_true rfl) dL_law_693) (fun M81 r82 h => ?_)
                                        refine aw_aload_n X dL_law_696 2 rfl ?_
                                        refine aw_aload_n X dL_law_697 0 rfl ?_
                                        refine aw_iload_n X dL_law_698 3 rfl ?_
                                        refine aw_iconst (v := 1) X dL_law_699 (by decide) ?_
                                        refine aw_iadd X dL_law_700 ?_
                                        obtain ⟨hin, h⟩ := h
                                        refine aw_sld X hX dL_law_701 hin ?_
                                        refine aw_aload_n X dL_law_702 0 rfl ?_
                                        refine aw_iload_n X dL_law_703 3 rfl ?_
                                        refine aw_iconst (v := 2) X dL_law_704 (by decide) ?_
                                        refine aw_iadd X dL_law_705 ?_
                                        obtain ⟨hin, h⟩ := h
                                        refine aw_sld X hX dL_law_706 hin ?_
                                        refine aw_aload_n X dL_law_707 0 rfl ?_
                                        refine aw_iload_n X dL_law_708 3 rfl ?_
                                        refine aw_iconst (v := 3) X dL_law_709 (by decide) ?_
                                        refine aw_iadd X dL_law_710 ?_
                                        obtain ⟨hin, h⟩ := h
                                        refine aw_sld X hX dL_law_711 hin ?_
                                        refine ca_i X (rn_v X [.int (xs (x3 + 1).toNatClampNeg), .int (xs (x3 + 2).toNatClampNeg), .int (xs (x3 + 3).toNatClampNeg)] [.int r82] (X.lt (by decide)) (sh_12 (rfl : tp 74 = 12) _) rfl rfl kw1276 kw1277 (c_X8_feed h) cal_yX8_feed kw1275 (by decide) rfl rfl (Nat.le_of_ble_eq_true rfl) dL_law_712) (fun M83 r84 h => ?_)
                                        refine aw_icmp_eq (tgt := 1254) X dL_law_715 (by decide) (fun c => ?_) (fun c => ?_)
                                        · have h := h.1 c
                                          obtain ⟨v85, ev85⟩ : ∃ y : Int32, y = x3 + 6 := ⟨_, rfl⟩
                                          have h := h v85 ev85
                                          refine aw_iinc (v := v85) (lv' := [(3, .int v85), (0, .ref b), (1, .ref (eA E 0)), (2, .ref (eA E 74))]) X dL_law_1254 3 rfl (by rw [ev85]; rfl) (by decide) rfl ?_
                                          refine aw_goto (tgt := 18) X dL_law_1257 (by decide) ?_
                                          exact aw_sub [1, 2, 3, 0] rfl (ih E kc ks _ _ (by omega) (by omega) X h)
                                        · have h := h.2 c
                                          refine aw_iconst (v := 0) X dL_law_718 (by decide) ?_
                                          exact h.elim
                                      · by_cases c17 : ((xs x3.toNatClampNeg) &&& 63) = 17
                                        · have h := h.2.2.2.2.2.2.2.2.2.2.2.2.2.2.2.2.2.1 c17
                                          refine aw_tableIn (tgt := 720) X dL_law_33 17 c17 (by decide) (by decide) rfl (by decide) ?_
                                          refine aw_aload_n X dL_law_720 1 rfl ?_
                                          refine aw_aload_n X dL_law_721 0 rfl ?_
                                          refine aw_iload_n X dL_law_722 3 rfl ?_
                                          refine aw_iconst (v := 1) X dL_law_723 (by decide) ?_
                                          refine aw_iadd X dL_law_724 ?_
                                          obtain ⟨hin, h⟩ := h
                                          refine aw_sld X hX dL_law_725 hin ?_
                                          refine ca_i X (rn_v X [.int (xs (x3 + 1).toNatClampNeg)] [] (X.lt (by decide)) (sh_1 (rfl : tp 0 = 1) _) rfl rfl kw634 kw635 (c_X7_trim h) cal_yX7_trim kw633 (by decide) rfl rfl (Nat.le_of_ble_eq_true rfl) dL_law_726) (fun M86 r87 h => ?_)
                                          refine aw_aload_n X dL_law_729 2 rfl ?_
                                          refine aw_aload_n X dL_law_730 0 rfl ?_
                                          refine aw_iload_n X dL_law_731 3 rfl ?_
                                          refine aw_iconst (v := 1) X dL_law_732 (by decide) ?_
                                          refine aw_iadd X dL_law_733 ?_
                                          obtain ⟨hin, h⟩ := h
                                          refine aw_sld X hX dL_law_734 hin ?_
                                          refine ca_i X (rn_v X [.int (xs (x3 + 1).toNatClampNeg)] [.int r87] (X.lt (by decide)) (sh_12 (rfl : tp 74 = 12) _) rfl rfl kw1280 kw1281 (c_X8_trim h) cal_yX8_trim kw1279 (by decide) rfl rfl (Nat.le_of_ble_eq_true rfl) dL_law_735) (fun M88 r89 h => ?_)
                                          refine aw_icmp_eq (tgt := 1254) X dL_law_738 (by decide) (fun c => ?_) (fun c => ?_)
                                          · have h := h.1 c
                                            obtain ⟨v90, ev90⟩ : ∃ y : Int32, y = x3 + 6 := ⟨_, rfl⟩
                                            have h := h v90 ev90
                                            refine aw_iinc (v := v90) (lv' := [(3, .int v90), (0, .ref b), (1, .ref (eA E 0)), (2, .ref (eA E 74))]) X dL_law_1254 3 rfl (by rw [ev90]; rfl) (by decide) rfl ?_
                                            refine aw_goto (tgt := 18) X dL_law_1257 (by decide) ?_
                                            exact aw_sub [1, 2, 3, 0] rfl (ih E kc ks _ _ (by omega) (by omega) X h)
                                          · have h := h.2 c
                                            refine aw_iconst (v := 0) X dL_law_741 (by decide) ?_
                                            exact h.elim
                                        · by_cases c18 : ((xs x3.toNatClampNeg) &&& 63) = 18
                                          · have h := h.2.2.2.2.2.2.2.2.2.2.2.2.2.2.2.2.2.2.1 c18
                                            refine aw_tableIn (tgt := 743) X dL_law_33 18 c18 (by decide) (by decide) rfl (by decide) ?_
                                            refine aw_aload_n X dL_law_743 1 rfl ?_
                                            refine ax_text X hao dL_law_744 kw637 (by decide) (by omega) (by omega) h (fun E2 M91 r92 hE X h => ?_)
                                            have e0 : eA E2 0 = eA E 0 := hE.2.2.2.2.1 0 (Nat.lt_of_lt_of_le (by decide) X0.lo)
                                            have e1 : eA E2 74 = eA E 74 := hE.2.2.2.2.1 74 (Nat.lt_of_lt_of_le (by decide) X0.lo)
                                            rw [← e0, ← e1]
                                            refine aw_aload_n X dL_law_747 2 rfl ?_
                                            refine ca_i X (rn_v X [] [.int r92] (X.lt (by decide)) (sh_12 (rfl : tp 74 = 12) _) rfl rfl kw1284 kw1285 (c_X8_text h) cal_yX8_text kw1283 (by decide) rfl rfl (Nat.le_of_ble_eq_true rfl) dL_law_748) (fun M94 r95 h => ?_)
                                            refine aw_icmp_eq (tgt := 1254) X dL_law_751 (by decide) (fun c => ?_) (fun c => ?_)
                                            · have h := h.1 c
                                              obtain ⟨v96, ev96⟩ : ∃ y : Int32, y = x3 + 6 := ⟨_, rfl⟩
                                              have h := h v96 ev96
                                              refine aw_iinc (v := v96) (lv' := [(3, .int v96), (0, .ref b), (1, .ref (eA E2 0)), (2, .ref (eA E2 74))]) X dL_law_1254 3 rfl (by rw [ev96]; rfl) (by decide) rfl ?_
                                              refine aw_goto (tgt := 18) X dL_law_1257 (by decide) ?_
                                              exact aw_sub [1, 2, 3, 0] rfl (ih E2 (kc + 3) (ks + 196) _ _ (by omega) (by omega) X h)
                                            · have h := h.2 c
                                              refine aw_iconst (v := 0) X dL_law_754 (by decide) ?_
                                              exact h.elim
                                          · by_cases c19 : ((xs x3.toNatClampNeg) &&& 63) = 19
                                            · have h := h.2.2.2.2.2.2.2.2.2.2.2.2.2.2.2.2.2.2.2.1 c19
                                              refine aw_tableIn (tgt := 756) X dL_law_33 19 c19 (by decide) (by decide) rfl (by decide) ?_
                                              refine aw_aload_n X dL_law_756 1 rfl ?_
                                              refine aw_aload_n X dL_law_757 0 rfl ?_
                                              refine aw_iload_n X dL_law_758 3 rfl ?_
                                              refine aw_iconst (v := 1) X dL_law_759 (by decide) ?_
                                              refine aw_iadd X dL_law_760 ?_
                                              obtain ⟨hin, h⟩ := h
                                              refine aw_sld X hX dL_law_761 hin ?_
                                              refine aw_aload_n X dL_law_762 0 rfl ?_
                                              refine aw_iload_n X dL_law_763 3 rfl ?_
                                              refine aw_iconst (v := 2) X dL_law_764 (by decide) ?_
                                              refine aw_iadd X dL_law_765 ?_
                                              obtain ⟨hin, h⟩ := h
                                              refine aw_sld X hX dL_law_766 hin ?_
                                              refine ca_i X (rn_v X [.int (xs (x3 + 1).toNatClampNeg), .int (xs (x3 + 2).toNatClampNeg)] [] (X.lt (by decide)) (sh_1 (rfl : tp 0 = 1) _) rfl rfl kw849 kw850 (c_X7_textTold h) cal_yX7_textTold kw848 (by decide) rfl rfl (Nat.le_of_ble_eq_true rfl) dL_law_767) (fun M97 r98 h => ?_)
                                              refine aw_aload_n X dL_law_770 2 rfl ?_
                                              refine aw_aload_n X dL_law_771 0 rfl ?_
                                              refine aw_iload_n X dL_law_772 3 rfl ?_
                                              refine aw_iconst (v := 1) X dL_law_773 (by decide) ?_
                                              refine aw_iadd X dL_law_774 ?_
                                              obtain ⟨hin, h⟩ := h
                                              refine aw_sld X hX dL_law_775 hin ?_
                                              refine aw_aload_n X dL_law_776 0 rfl ?_
                                              refine aw_iload_n X dL_law_777 3 rfl ?_
                                              refine aw_iconst (v := 2) X dL_law_778 (by decide) ?_
                                              refine aw_iadd X dL_law_779 ?_
                                              obtain ⟨hin, h⟩ := h
                                              refine aw_sld X hX dL_law_780 hin ?_
                                              refine ca_i X (rn_v X [.int (xs (x3 + 1).toNatClampNeg), .int (xs (x3 + 2).toNatClampNeg)] [.int r98] (X.lt (by decide)) (sh_12 (rfl : tp 74 = 12) _) rfl rfl kw1355 kw1356 (c_X8_textTold h) cal_yX8_textTold kw1354 (by decide) rfl rfl (Nat.le_of_ble_eq_true rfl) dL_law_781) (fun M99 r100 h => ?_)
                                              refine aw_icmp_eq (tgt := 1254) X dL_law_784 (by decide) (fun c => ?_) (fun c => ?_)
                                              · have h := h.1 c
                                                obtain ⟨v101, ev101⟩ : ∃ y : Int32, y = x3 + 6 := ⟨_, rfl⟩
                                                have h := h v101 ev101
                                                refine aw_iinc (v := v101) (lv' := [(3, .int v101), (0, .ref b), (1, .ref (eA E 0)), (2, .ref (eA E 74))]) X dL_law_1254 3 rfl (by rw [ev101]; rfl) (by decide) rfl ?_
                                                refine aw_goto (tgt := 18) X dL_law_1257 (by decide) ?_
                                                exact aw_sub [1, 2, 3, 0] rfl (ih E kc ks _ _ (by omega) (by omega) X h)
                                              · have h := h.2 c
                                                refine aw_iconst (v := 0) X dL_law_787 (by decide) ?_
                                                exact h.elim
                                            · by_cases c20 : ((xs x3.toNatClampNeg) &&& 63) = 20
                                              · have h := h.2.2.2.2.2.2.2.2.2.2.2.2.2.2.2.2.2.2.2.2.1 c20
                                                refine aw_tableIn (tgt := 789) X dL_law_33 20 c20 (by decide) (by decide) rfl (by decide) ?_
                                                refine aw_aload_n X dL_law_789 1 rfl ?_
                                                refine aw_aload_n X dL_law_790 0 rfl ?_
                                                refine aw_iload_n X dL_law_791 3 rfl ?_
                                                refine aw_iconst (v := 1) X dL_law_792 (by decide) ?_
                                                refine aw_iadd X dL_law_793 ?_
                                                obtain ⟨hin, h⟩ := h
                                                refine aw_sld X hX dL_law_794 hin ?_
                                                refine ca_i X (rn_v X [.int (xs (x3 + 1).toNatClampNeg)] [] (X.lt (by decide)) (sh_1 (rfl : tp 0 = 1) _) rfl rfl kw857 kw858 (c_X7_why h) cal_yX7_why kw856 (by decide) rfl rfl (Nat.le_of_ble_eq_true rfl) dL_law_795) (fun M102 r103 h => ?_)
                                                refine aw_aload_n X dL_law_798 2 rfl ?_
                                                refine aw_aload_n X dL_law_799 0 rfl ?_
                                                refine aw_iload_n X dL_law_800 3 rfl ?_
                                                refine aw_iconst (v := 1) X dL_law_801 (by decide) ?_
                                                refine aw_iadd X dL_law_802 ?_
                                                obtain ⟨hin, h⟩ := h
                                                refine aw_sld X hX dL_law_803 hin ?_
                                                refine ca_i X (rn_v X [.int (xs (x3 + 1).toNatClampNeg)] [.int r103] (X.lt (by decide)) (sh_12 (rfl : tp 74 = 12) _) rfl rfl kw1363 kw1364 (c_X8_why h) cal_yX8_why kw1362 (by decide) rfl rfl (Nat.le_of_ble_eq_true rfl) dL_law_804) (fun M104 r105 h => ?_)
                                                refine aw_icmp_eq (tgt := 1254) X dL_law_807 (by decide) (fun c => ?_) (fun c => ?_)
                                                · have h := h.1 c
                                                  obtain ⟨v106, ev106⟩ : ∃ y : Int32, y = x3 + 6 := ⟨_, rfl⟩
                                                  have h := h v106 ev106
                                                  refine aw_iinc (v := v106) (lv' := [(3, .int v106), (0, .ref b), (1, .ref (eA E 0)), (2, .ref (eA E 74))]) X dL_law_1254 3 rfl (by rw [ev106]; rfl) (by decide) rfl ?_
                                                  refine aw_goto (tgt := 18) X dL_law_1257 (by decide) ?_
                                                  exact aw_sub [1, 2, 3, 0] rfl (ih E kc ks _ _ (by omega) (by omega) X h)
                                                · have h := h.2 c
                                                  refine aw_iconst (v := 0) X dL_law_810 (by decide) ?_
                                                  exact h.elim
                                              · by_cases c21 : ((xs x3.toNatClampNeg) &&& 63) = 21
                                                · have h := h.2.2.2.2.2.2.2.2.2.2.2.2.2.2.2.2.2.2.2.2.2.1 c21
                                                  refine aw_tableIn (tgt := 812) X dL_law_33 21 c21 (by decide) (by decide) rfl (by decide) ?_
                                                  refine aw_aload_n X dL_law_812 1 rfl ?_
                                                  refine aw_aload_n X dL_law_813 0 rfl ?_
                                                  refine aw_iload_n X dL_law_814 3 rfl ?_
                                                  refine aw_iconst (v := 1) X dL_law_815 (by decide) ?_
                                                  refine aw_iadd X dL_law_816 ?_
                                                  obtain ⟨hin, h⟩ := h
                                                  refine aw_sld X hX dL_law_817 hin ?_
                                                  refine aw_aload_n X dL_law_818 0 rfl ?_
                                                  refine aw_iload_n X dL_law_819 3 rfl ?_
                                                  refine aw_iconst (v := 2) X dL_law_820 (by decide) ?_
                                                  refine aw_iadd X dL_law_821 ?_
                                                  obtain ⟨hin, h⟩ := h
                                                  refine aw_sld X hX dL_law_822 hin ?_
                                                  refine aw_aload_n X dL_law_823 0 rfl ?_
                                                  refine aw_iload_n X dL_law_824 3 rfl ?_
                                                  refine aw_iconst (v := 3) X dL_law_825 (by decide) ?_
                                                  refine aw_iadd X dL_law_826 ?_
                                                  obtain ⟨hin, h⟩ := h
                                                  refine aw_sld X hX dL_law_827 hin ?_
                                                  refine ca_i X (rn_v X [.int (xs (x3 + 1).toNatClampNeg), .int (xs (x3 + 2).toNatClampNeg), .int (xs (x3 + 3).toNatClampNeg)] [] (X.lt (by decide)) (sh_1 (rfl : tp 0 = 1) _) rfl rfl kw861 kw862 (c_X7_sheet h) cal_yX7_sheet kw860 (by decide) rfl rfl (Nat.le_of_ble_eq_true rfl) dL_law_828) (fun M107 r108 h => ?_)
                                                  refine aw_aload_n X dL_law_831 2 rfl ?_
                                                  refine aw_aload_n X dL_law_832 0 rfl ?_
                                                  refine aw_iload_n X dL_law_833 3 rfl ?_
                                                  refine aw_iconst (v := 1) X dL_law_834 (by decide) ?_
                                                  refine aw_iadd X dL_law_835 ?_
                                                  obtain ⟨hin, h⟩ := h
                                                  refine aw_sld X hX dL_law_836 hin ?_
                                                  refine aw_aload_n X dL_law_837 0 rfl ?_
                                                  refine aw_iload_n X dL_law_838 3 rfl ?_
                                                  refine aw_iconst (v := 2) X dL_law_839 (by decide) ?_
                                                  refine aw_iadd X dL_law_840 ?_
                                                  obtain ⟨hin, h⟩ := h
                                                  refine aw_sld X hX dL_law_841 hin ?_
                                                  refine aw_aload_n X dL_law_842 0 rfl ?_
                                                  refine aw_iload_n X dL_law_843 3 rfl ?_
                                                  refine aw_iconst (v := 3) X dL_law_844 (by decide) ?_
                                                  refine aw_iadd X dL_law_845 ?_
                                                  obtain ⟨hin, h⟩ := h
                                                  refine aw_sld X hX dL_law_846 hin ?_
                                                  refine ca_i X (rn_v X [.int (xs (x3 + 1).toNatClampNeg), .int (xs (x3 + 2).toNatClampNeg), .int (xs (x3 + 3).toNatClampNeg)] [.int r108] (X.lt (by decide)) (sh_12 (rfl : tp 74 = 12) _) rfl rfl kw1368 kw1369 (c_X8_sheet h) cal_yX8_sheet kw1367 (by decide) rfl rfl (Nat.le_of_ble_eq_true rfl) dL_law_847) (fun M109 r110 h => ?_)
                                                  refine aw_icmp_eq (tgt := 1254) X dL_law_850 (by decide) (fun c => ?_) (fun c => ?_)
                                                  · have h := h.1 c
                                                    obtain ⟨v111, ev111⟩ : ∃ y : Int32, y = x3 + 6 := ⟨_, rfl⟩
                                                    have h := h v111 ev111
                                                    refine aw_iinc (v := v111) (lv' := [(3, .int v111), (0, .ref b), (1, .ref (eA E 0)), (2, .ref (eA E 74))]) X dL_law_1254 3 rfl (by rw [ev111]; rfl) (by decide) rfl ?_
                                                    refine aw_goto (tgt := 18) X dL_law_1257 (by decide) ?_
                                                    exact aw_sub [1, 2, 3, 0] rfl (ih E kc ks _ _ (by omega) (by omega) X h)
                                                  · have h := h.2 c
                                                    refine aw_iconst (v := 0) X dL_law_853 (by decide) ?_
                                                    exact h.elim
                                                · by_cases c22 : ((xs x3.toNatClampNeg) &&& 63) = 22
                                                  · have h := h.2.2.2.2.2.2.2.2.2.2.2.2.2.2.2.2.2.2.2.2.2.2.1 c22
                                                    refine aw_tableIn (tgt := 855) X dL_law_33 22 c22 (by decide) (by decide) rfl (by decide) ?_
                                                    refine aw_aload_n X dL_law_855 1 rfl ?_
                                                    refine aw_aload_n X dL_law_856 0 rfl ?_
                                                    refine aw_iload_n X dL_law_857 3 rfl ?_
                                                    refine aw_iconst (v := 1) X dL_law_858 (by decide) ?_
                                                    refine aw_iadd X dL_law_859 ?_
                                                    obtain ⟨hin, h⟩ := h
                                                    refine aw_sld X hX dL_law_860 hin ?_
                                                    refine aw_aload_n X dL_law_861 0 rfl ?_
                                                    refine aw_iload_n X dL_law_862 3 rfl ?_
                                                    refine aw_iconst (v := 2) X dL_law_863 (by decide) ?_
                                                    refine aw_iadd X dL_law_864 ?_
                                                    obtain ⟨hin, h⟩ := h
                                                    refine aw_sld X hX dL_law_865 hin ?_
                                                    refine aw_aload_n X dL_law_866 0 rfl ?_
                                                    refine aw_iload_n X dL_law_867 3 rfl ?_
                                                    refine aw_iconst (v := 3) X dL_law_868 (by decide) ?_
                                                    refine aw_iadd X dL_law_869 ?_
                                                    obtain ⟨hin, h⟩ := h
                                                    refine aw_sld X hX dL_law_870 hin ?_
                                                    refine ca_i X (rn_v X [.int (xs (x3 + 1).toNatClampNeg), .int (xs (x3 + 2).toNatClampNeg), .int (xs (x3 + 3).toNatClampNeg)] [] (X.lt (by decide)) (sh_1 (rfl : tp 0 = 1) _) rfl rfl kw878 kw879 (c_X7_mark h) cal_yX7_mark kw877 (by decide) rfl rfl (Nat.le_of_ble_eq_true rfl) dL_law_871) (fun M112 r113 h => ?_)
                                                    refine aw_aload_n X dL_law_874 2 rfl ?_
                                                    refine aw_aload_n X dL_law_875 0 rfl ?_
                                                    refine aw_iload_n X dL_law_876 3 rfl ?_
                                                    refine aw_iconst (v := 1) X dL_law_877 (by decide) ?_
                                                    refine aw_iadd X dL_law_878 ?_
                                                    obtain ⟨hin, h⟩ := h
                                                    refine aw_sld X hX dL_law_879 hin ?_
                                                    refine aw_aload_n X dL_law_880 0 rfl ?_
                                                    refine aw_iload_n X dL_law_881 3 rfl ?_
                                                    refine aw_iconst (v := 2) X dL_law_882 (by decide) ?_
                                                    refine aw_iadd X dL_law_883 ?_
                                                    obtain ⟨hin, h⟩ := h
                                                    refine aw_sld X hX dL_law_884 hin ?_
                                                    refine aw_aload_n X dL_law_885 0 rfl ?_
                                                    refine aw_iload_n X dL_law_886 3 rfl ?_
                                                    refine aw_iconst (v := 3) X dL_law_887 (by decide) ?_
                                                    refine aw_iadd X dL_law_888 ?_
                                                    obtain ⟨hin, h⟩ := h
                                                    refine aw_sld X hX dL_law_889 hin ?_
                                                    refine ca_i X (rn_v X [.int (xs (x3 + 1).toNatClampNeg), .int (xs (x3 + 2).toNatClampNeg), .int (xs (x3 + 3).toNatClampNeg)] [.int r113] (X.lt (by decide)) (sh_12 (rfl : tp 74 = 12) _) rfl rfl kw1377 kw1378 (c_X8_mark h) cal_yX8_mark kw1376 (by decide) rfl rfl (Nat.le_of_ble_eq_true rfl) dL_law_890) (fun M114 r115 h => ?_)
                                                    refine aw_icmp_eq (tgt := 1254) X dL_law_893 (by decide) (fun c => ?_) (fun c => ?_)
                                                    · have h := h.1 c
                                                      obtain ⟨v116, ev116⟩ : ∃ y : Int32, y = x3 + 6 := ⟨_, rfl⟩
                                                      have h := h v116 ev116
                                                      refine aw_iinc (v := v116) (lv' := [(3, .int v116), (0, .ref b), (1, .ref (eA E 0)), (2, .ref (eA E 74))]) X dL_law_1254 3 rfl (by rw [ev116]; rfl) (by decide) rfl ?_
                                                      refine aw_goto (tgt := 18) X dL_law_1257 (by decide) ?_
                                                      exact aw_sub [1, 2, 3, 0] rfl (ih E kc ks _ _ (by omega) (by omega) X h)
                                                    · have h := h.2 c
                                                      refine aw_iconst (v := 0) X dL_law_896 (by decide) ?_
                                                      exact h.elim
                                                  · by_cases c23 : ((xs x3.toNatClampNeg) &&& 63) = 23
                                                    · have h := h.2.2.2.2.2.2.2.2.2.2.2.2.2.2.2.2.2.2.2.2.2.2.2.1 c23
                                                      refine aw_tableIn (tgt := 898) X dL_law_33 23 c23 (by decide) (by decide) rfl (by decide) ?_
                                                      refine aw_aload_n X dL_law_898 1 rfl ?_
                                                      refine aw_aload_n X dL_law_899 0 rfl ?_
                                                      refine aw_iload_n X dL_law_900 3 rfl ?_
                                                      refine aw_iconst (v := 1) X dL_law_901 (by decide) ?_
                                                      refine aw_iadd X dL_law_902 ?_
                                                      obtain ⟨hin, h⟩ := h
                                                      refine aw_sld X hX dL_law_903 hin ?_
                                                      refine ca_i X (rn_v X [.int (xs (x3 + 1).toNatClampNeg)] [] (X.lt (by decide)) (sh_1 (rfl : tp 0 = 1) _) rfl rfl kw886 kw887 (c_X7_pour h) cal_yX7_pour kw885 (by decide) rfl rfl (Nat.le_of_ble_eq_true rfl) dL_law_904) (fun M117 r118 h => ?_)
                                                      refine aw_aload_n X dL_law_907 2 rfl ?_
                                                      refine aw_aload_n X dL_law_908 0 rfl ?_
                                                      refine aw_iload_n X dL_law_909 3 rfl ?_
                                                      refine aw_iconst (v := 1) X dL_law_910 (by decide) ?_
                                                      refine aw_iadd X dL_law_911 ?_
                                                      obtain ⟨hin, h⟩ := h
                                                      refine aw_sld X hX dL_law_912 hin ?_
                                                      refine ca_i X (rn_v X [.int (xs (x3 + 1).toNatClampNeg)] [.int r118] (X.lt (by decide)) (sh_12 (rfl : tp 74 = 12) _) rfl rfl kw1385 kw1386 (c_X8_pour h) cal_yX8_pour kw1384 (by decide) rfl rfl (Nat.le_of_ble_eq_true rfl) dL_law_913) (fun M119 r120 h => ?_)
                                                      refine aw_icmp_eq (tgt := 1254) X dL_law_916 (by decide) (fun c => ?_) (fun c => ?_)
                                                      · have h := h.1 c
                                                        obtain ⟨v121, ev121⟩ : ∃ y : Int32, y = x3 + 6 := ⟨_, rfl⟩
                                                        have h := h v121 ev121
                                                        refine aw_iinc (v := v121) (lv' := [(3, .int v121), (0, .ref b), (1, .ref (eA E 0)), (2, .ref (eA E 74))]) X dL_law_1254 3 rfl (by rw [ev121]; rfl) (by decide) rfl ?_
                                                        refine aw_goto (tgt := 18) X dL_law_1257 (by decide) ?_
                                                        exact aw_sub [1, 2, 3, 0] rfl (ih E kc ks _ _ (by omega) (by omega) X h)
                                                      · have h := h.2 c
                                                        refine aw_iconst (v := 0) X dL_law_919 (by decide) ?_
                                                        exact h.elim
                                                    · by_cases c24 : ((xs x3.toNatClampNeg) &&& 63) = 24
                                                      · have h := h.2.2.2.2.2.2.2.2.2.2.2.2.2.2.2.2.2.2.2.2.2.2.2.2.1 c24
                                                        refine aw_tableIn (tgt := 921) X dL_law_33 24 c24 (by decide) (by decide) rfl (by decide) ?_
                                                        refine aw_aload_n X dL_law_921 1 rfl ?_
                                                        refine aw_aload_n X dL_law_922 0 rfl ?_
                                                        refine aw_iload_n X dL_law_923 3 rfl ?_
                                                        refine aw_iconst (v := 1) X dL_law_924 (by decide) ?_
                                                        refine aw_iadd X dL_law_925 ?_
                                                        obtain ⟨hin, h⟩ := h
                                                        refine aw_sld X hX dL_law_926 hin ?_
                                                        refine aw_aload_n X dL_law_927 0 rfl ?_
                                                        refine aw_iload_n X dL_law_928 3 rfl ?_
                                                        refine aw_iconst (v := 2) X dL_law_929 (by decide) ?_
                                                        refine aw_iadd X dL_law_930 ?_
                                                        obtain ⟨hin, h⟩ := h
                                                        refine aw_sld X hX dL_law_931 hin ?_
                                                        refine ca_i X (rn_v X [.int (xs (x3 + 1).toNatClampNeg), .int (xs (x3 + 2).toNatClampNeg)] [] (X.lt (by decide)) (sh_1 (rfl : tp 0 = 1) _) rfl rfl kw891 kw892 (c_X7_explained h) cal_yX7_explained kw890 (by decide) rfl rfl (Nat.le_of_ble_eq_true rfl) dL_law_932) (fun M122 r123 h => ?_)
                                                        refine aw_aload_n X dL_law_935 2 rfl ?_
                                                        refine aw_aload_n X dL_law_936 0 rfl ?_
                                                        refine aw_iload_n X dL_law_937 3 rfl ?_
                                                        refine aw_iconst (v := 1) X dL_law_938 (by decide) ?_
                                                        refine aw_iadd X dL_law_939 ?_
                                                        obtain ⟨hin, h⟩ := h
                                                        refine aw_sld X hX dL_law_940 hin ?_
                                                        refine aw_aload_n X dL_law_941 0 rfl ?_
                                                        refine aw_iload_n X dL_law_942 3 rfl ?_
                                                        refine aw_iconst (v := 2) X dL_law_943 (by decide) ?_
                                                        refine aw_iadd X dL_law_944 ?_
                                                        obtain ⟨hin, h⟩ := h
                                                        refine aw_sld X hX dL_law_945 hin ?_
                                                        refine ca_i X (rn_v X [.int (xs (x3 + 1).toNatClampNeg), .int (xs (x3 + 2).toNatClampNeg)] [.int r123] (X.lt (by decide)) (sh_12 (rfl : tp 74 = 12) _) rfl rfl kw1389 kw1390 (c_X8_explained h) cal_yX8_explained kw1388 (by decide) rfl rfl (Nat.le_of_ble_eq_true rfl) dL_law_946) (fun M124 r125 h => ?_)
                                                        refine aw_icmp_eq (tgt := 1254) X dL_law_949 (by decide) (fun c => ?_) (fun c => ?_)
                                                        · have h := h.1 c
                                                          obtain ⟨v126, ev126⟩ : ∃ y : Int32, y = x3 + 6 := ⟨_, rfl⟩
                                                          have h := h v126 ev126
                                                          refine aw_iinc (v := v126) (lv' := [(3, .int v126), (0, .ref b), (1, .ref (eA E 0)), (2, .ref (eA E 74))]) X dL_law_1254 3 rfl (by rw [ev126]; rfl) (by decide) rfl ?_
                                                          refine aw_goto (tgt := 18) X dL_law_1257 (by decide) ?_
                                                          exact aw_sub [1, 2, 3, 0] rfl (ih E kc ks _ _ (by omega) (by omega) X h)
                                                        · have h := h.2 c
                                                          refine aw_iconst (v := 0) X dL_law_952 (by decide) ?_
                                                          exact h.elim
                                                      · by_cases c25 : ((xs x3.toNatClampNeg) &&& 63) = 25
                                                        · have h := h.2.2.2.2.2.2.2.2.2.2.2.2.2.2.2.2.2.2.2.2.2.2.2.2.2.1 c25
                                                          refine aw_tableIn (tgt := 954) X dL_law_33 25 c25 (by decide) (by decide) rfl (by decide) ?_
                                                          refine aw_aload_n X dL_law_954 1 rfl ?_
                                                          refine aw_aload_n X dL_law_955 0 rfl ?_
                                                          refine aw_iload_n X dL_law_956 3 rfl ?_
                                                          refine aw_iconst (v := 1) X dL_law_957 (by decide) ?_
                                                          refine aw_iadd X dL_law_958 ?_
                                                          obtain ⟨hin, h⟩ := h
                                                          refine aw_sld X hX dL_law_959 hin ?_
                                                          refine aw_aload_n X dL_law_960 0 rfl ?_
                                                          refine aw_iload_n X dL_law_961 3 rfl ?_
                                                          refine aw_iconst (v := 2) X dL_law_962 (by decide) ?_
                                                          refine aw_iadd X dL_law_963 ?_
                                                          obtain ⟨hin, h⟩ := h
                                                          refine aw_sld X hX dL_law_964 hin ?_
                                                          refine aw_aload_n X dL_law_965 0 rfl ?_
                                                          refine aw_iload_n X dL_law_966 3 rfl ?_
                                                          refine aw_iconst (v := 3) X dL_law_967 (by decide) ?_
                                                          refine aw_iadd X dL_law_968 ?_
                                                          obtain ⟨hin, h⟩ := h
                                                          refine aw_sld X hX dL_law_969 hin ?_
                                                          refine aw_aload_n X dL_law_970 0 rfl ?_
                                                          refine aw_iload_n X dL_law_971 3 rfl ?_
                                                          refine aw_iconst (v := 4) X dL_law_972 (by decide) ?_
                                                          refine aw_iadd X dL_law_973 ?_
                                                          obtain ⟨hin, h⟩ := h
                                                          refine aw_sld X hX dL_law_974 hin ?_
                                                          refine aw_aload_n X dL_law_975 0 rfl ?_
                                                          refine aw_iload_n X dL_law_976 3 rfl ?_
                                                          refine aw_iconst (v := 5) X dL_law_977 (by decide) ?_
                                                          refine aw_iadd X dL_law_978 ?_
                                                          obtain ⟨hin, h⟩ := h
                                                          refine aw_sld X hX dL_law_979 hin ?_
                                                          refine ca_i X (rn_v X [.int (xs (x3 + 1).toNatClampNeg), .int (xs (x3 + 2).toNatClampNeg), .int (xs (x3 + 3).toNatClampNeg), .int (xs (x3 + 4).toNatClampNeg), .int (xs (x3 + 5).toNatClampNeg)] [] (X.lt (by decide)) (sh_1 (rfl : tp 0 = 1) _) rfl rfl kw904 kw905 (c_X7_copy h) cal_yX7_copy kw903 (by decide) rfl rfl (Nat.le_of_ble_eq_true rfl) dL_law_980) (fun M127 r128 h => ?_)
                                                          refine aw_aload_n X dL_law_983 2 rfl ?_
                                                          refine aw_aload_n X dL_law_984 0 rfl ?_
                                                          refine aw_iload_n X dL_law_985 3 rfl ?_
                                                          refine aw_iconst (v := 1) X dL_law_986 (by decide) ?_
                                                          refine aw_iadd X dL_law_987 ?_
                                                          obtain ⟨hin, h⟩ := h
                                                          refine aw_sld X hX dL_law_988 hin ?_
                                                          refine aw_aload_n X dL_law_989 0 rfl ?_
                                                          refine aw_iload_n X dL_law_990 3 rfl ?_
                                                          refine aw_iconst (v := 2) X dL_law_991 (by decide) ?_
                                                          refine aw_iadd X dL_law_992 ?_
                                                          obtain ⟨hin, h⟩ := h
                                                          refine aw_sld X hX dL_law_993 hin ?_
                                                          refine aw_aload_n X dL_law_994 0 rfl ?_
                                                          refine aw_iload_n X dL_law_995 3 rfl ?_
                                                          refine aw_iconst (v := 3) X dL_law_996 (by decide) ?_
                                                          refine aw_iadd X dL_law_997 ?_
                                                          obtain ⟨hin, h⟩ := h
                                                          refine aw_sld X hX dL_law_998 hin ?_
                                                          refine aw_aload_n X dL_law_999 0 rfl ?_
                                                          refine aw_iload_n X dL_law_1000 3 rfl ?_
                                                          refine aw_iconst (v := 4) X dL_law_1001 (by decide) ?_
                                                          refine aw_iadd X dL_law_1002 ?_
                                                          obtain ⟨hin, h⟩ := h
                                                          refine aw_sld X hX dL_law_1003 hin ?_
                                                          refine aw_aload_n X dL_law_1004 0 rfl ?_
                                                          refine aw_iload_n X dL_law_1005 3 rfl ?_
                                                          refine aw_iconst (v := 5) X dL_law_1006 (by decide) ?_
                                                          refine aw_iadd X dL_law_1007 ?_
                                                          obtain ⟨hin, h⟩ := h
                                                          refine aw_sld X hX dL_law_1008 hin ?_
                                                          refine ca_i X (rn_v X [.int (xs (x3 + 1).toNatClampNeg), .int (xs (x3 + 2).toNatClampNeg), .int (xs (x3 + 3).toNatClampNeg), .int (xs (x3 + 4).toNatClampNeg), .int (xs (x3 + 5).toNatClampNeg)] [.int r128] (X.lt (by decide)) (sh_12 (rfl : tp 74 = 12) _) rfl rfl kw1397 kw1398 (c_X8_copy h) cal_yX8_copy kw1396 (by decide) rfl rfl (Nat.le_of_ble_eq_true rfl) dL_law_1009) (fun M129 r130 h => ?_)
                                                          refine aw_icmp_eq (tgt := 1254) X dL_law_1012 (by decide) (fun c => ?_) (fun c => ?_)
                                                          · have h := h.1 c
                                                            obtain ⟨v131, ev131⟩ : ∃ y : Int32, y = x3 + 6 := ⟨_, rfl⟩
                                                            have h := h v131 ev131
                                                            refine aw_iinc (v := v131) (lv' := [(3, .int v131), (0, .ref b), (1, .ref (eA E 0)), (2, .ref (eA E 74))]) X dL_law_1254 3 rfl (by rw [ev131]; rfl) (by decide) rfl ?_
                                                            refine aw_goto (tgt := 18) X dL_law_1257 (by decide) ?_
                                                            exact aw_sub [1, 2, 3, 0] rfl (ih E kc ks _ _ (by omega) (by omega) X h)
                                                          · have h := h.2 c
                                                            refine aw_iconst (v := 0) X dL_law_1015 (by decide) ?_
                                                            exact h.elim
                                                        · by_cases c26 : ((xs x3.toNatClampNeg) &&& 63) = 26
                                                          · have h := h.2.2.2.2.2.2.2.2.2.2.2.2.2.2.2.2.2.2.2.2.2.2.2.2.2.2.1 c26
                                                            refine aw_tableIn (tgt := 1017) X dL_law_33 26 c26 (by decide) (by decide) rfl (by decide) ?_
                                                            refine aw_aload_n X dL_law_1017 1 rfl ?_
                                                            refine aw_aload_n X dL_law_1018 0 rfl ?_
                                                            refine aw_iload_n X dL_law_1019 3 rfl ?_
                                                            refine aw_iconst (v := 1) X dL_law_1020 (by decide) ?_
                                                            refine aw_iadd X dL_law_1021 ?_
                                                            obtain ⟨hin, h⟩ := h
                                                            refine aw_sld X hX dL_law_1022 hin ?_
                                                            refine aw_aload_n X dL_law_1023 0 rfl ?_
                                                            refine aw_iload_n X dL_law_1024 3 rfl ?_
                                                            refine aw_iconst (v := 2) X dL_law_1025 (by decide) ?_
                                                            refine aw_iadd X dL_law_1026 ?_
                                                            obtain ⟨hin, h⟩ := h
                                                            refine aw_sld X hX dL_law_1027 hin ?_
                                                            refine aw_aload_n X dL_law_1028 0 rfl ?_
                                                            refine aw_iload_n X dL_law_1029 3 rfl ?_
                                                            refine aw_iconst (v := 3) X dL_law_1030 (by decide) ?_
                                                            refine aw_iadd X dL_law_1031 ?_
                                                            obtain ⟨hin, h⟩ := h
                                                            refine aw_sld X hX dL_law_1032 hin ?_
                                                            refine ca_i X (rn_v X [.int (xs (x3 + 1).toNatClampNeg), .int (xs (x3 + 2).toNatClampNeg), .int (xs (x3 + 3).toNatClampNeg)] [] (X.lt (by decide)) (sh_1 (rfl : tp 0 = 1) _) rfl rfl kw913 kw914 (c_X7_lay h) cal_yX7_lay kw912 (by decide) rfl rfl (Nat.le_of_ble_eq_true rfl) dL_law_1033) (fun M132 r133 h => ?_)
                                                            refine aw_aload_n X dL_law_1036 2 rfl ?_
                                                            refine aw_aload_n X dL_law_1037 0 rfl ?_
                                                            refine aw_iload_n X dL_law_1038 3 rfl ?_
                                                            refine aw_iconst (v := 1) X dL_law_1039 (by decide) ?_
                                                            refine aw_iadd X dL_law_1040 ?_
                                                            obtain ⟨hin, h⟩ := h
                                                            refine aw_sld X hX dL_law_1041 hin ?_
                                                            refine aw_aload_n X dL_law_1042 0 rfl ?_
                                                            refine aw_iload_n X dL_law_1043 3 rfl ?_
                                                            refine aw_iconst (v := 2) X dL_law_1044 (by decide) ?_
                                                            refine aw_iadd X dL_law_1045 ?_
                                                            obtain ⟨hin, h⟩ := h
                                                            refine aw_sld X hX dL_law_1046 hin ?_
                                                            refine aw_aload_n X dL_law_1047 0 rfl ?_
                                                            refine aw_iload_n X dL_law_1048 3 rfl ?_
                                                            refine aw_iconst (v := 3) X dL_law_1049 (by decide) ?_
                                                            refine aw_iadd X dL_law_1050 ?_
                                                            obtain ⟨hin, h⟩ := h
                                                            refine aw_sld X hX dL_law_1051 hin ?_
                                                            refine ca_i X (rn_v X [.int (xs (x3 + 1).toNatClampNeg), .int (xs (x3 + 2).toNatClampNeg), .int (xs (x3 + 3).toNatClampNeg)] [.int r133] (X.lt (by decide)) (sh_12 (rfl : tp 74 = 12) _) rfl rfl kw1401 kw1402 (c_X8_lay h) cal_yX8_lay kw1400 (by decide) rfl rfl (Nat.le_of_ble_eq_true rfl) dL_law_1052) (fun M134 r135 h => ?_)
                                                            refine aw_icmp_eq (tgt := 1254) X dL_law_1055 (by decide) (fun c => ?_) (fun c => ?_)
                                                            · have h := h.1 c
                                                              obtain ⟨v136, ev136⟩ : ∃ y : Int32, y = x3 + 6 := ⟨_, rfl⟩
                                                              have h := h v136 ev136
                                                              refine aw_iinc (v := v136) (lv' := [(3, .int v136), (0, .ref b), (1, .ref (eA E 0)), (2, .ref (eA E 74))]) X dL_law_1254 3 rfl (by rw [ev136]; rfl) (by decide) rfl ?_
                                                              refine aw_goto (tgt := 18) X dL_law_1257 (by decide) ?_
                                                              exact aw_sub [1, 2, 3, 0] rfl (ih E kc ks _ _ (by omega) (by omega) X h)
                                                            · have h := h.2 c
                                                              refine aw_iconst (v := 0) X dL_law_1058 (by decide) ?_
                                                              exact h.elim
                                                          · by_cases c27 : ((xs x3.toNatClampNeg) &&& 63) = 27
                                                            · have h := h.2.2.2.2.2.2.2.2.2.2.2.2.2.2.2.2.2.2.2.2.2.2.2.2.2.2.2.1 c27
                                                              refine aw_tableIn (tgt := 1060) X dL_law_33 27 c27 (by decide) (by decide) rfl (by decide) ?_
                                                              refine aw_aload_n X dL_law_1060 1 rfl ?_
                                                              refine aw_aload_n X dL_law_1061 0 rfl ?_
                                                              refine aw_iload_n X dL_law_1062 3 rfl ?_
                                                              refine aw_iconst (v := 1) X dL_law_1063 (by decide) ?_
                                                              refine aw_iadd X dL_law_1064 ?_
                                                              obtain ⟨hin, h⟩ := h
                                                              refine aw_sld X hX dL_law_1065 hin ?_
                                                              refine aw_aload_n X dL_law_1066 0 rfl ?_
                                                              refine aw_iload_n X dL_law_1067 3 rfl ?_
                                                              refine aw_iconst (v := 2) X dL_law_1068 (by decide) ?_
                                                              refine aw_iadd X dL_law_1069 ?_
                                                              obtain ⟨hin, h⟩ := h
                                                              refine aw_sld X hX dL_law_1070 hin ?_
                                                              refine ca_i X (rn_v X [.int (xs (x3 + 1).toNatClampNeg), .int (xs (x3 + 2).toNatClampNeg)] [] (X.lt (by decide)) (sh_1 (rfl : tp 0 = 1) _) rfl rfl kw927 kw928 (c_X7_ask h) cal_yX7_ask kw926 (by decide) rfl rfl (Nat.le_of_ble_eq_true rfl) dL_law_1071) (fun M137 r138 h => ?_)
                                                              refine aw_aload_n X dL_law_1074 2 rfl ?_
                                                              refine aw_aload_n X dL_law_1075 0 rfl ?_
                                                              refine aw_iload_n X dL_law_1076 3 rfl ?_
                                                              refine aw_iconst (v := 1) X dL_law_1077 (by decide) ?_
                                                              refine aw_iadd X dL_law_1078 ?_
                                                              obtain ⟨hin, h⟩ := h
                                                              refine aw_sld X hX dL_law_1079 hin ?_
                                                              refine aw_aload_n X dL_law_1080 0 rfl ?_
                                                              refine aw_iload_n X dL_law_1081 3 rfl ?_
                                                              refine aw_iconst (v := 2) X dL_law_1082 (by decide) ?_
                                                              refine aw_iadd X dL_law_1083 ?_
                                                              obtain ⟨hin, h⟩ := h
                                                              refine aw_sld X hX dL_law_1084 hin ?_
                                                              refine ca_i X (rn_v X [.int (xs (x3 + 1).toNatClampNeg), .int (xs (x3 + 2).toNatClampNeg)] [.int r138] (X.lt (by decide)) (sh_12 (rfl : tp 74 = 12) _) rfl rfl kw1408 kw1409 (c_X8_ask h) cal_yX8_ask kw1407 (by decide) rfl rfl (Nat.le_of_ble_eq_true rfl) dL_law_1085) (fun M139 r140 h => ?_)
                                                              refine aw_icmp_eq (tgt := 1254) X dL_law_1088 (by decide) (fun c => ?_) (fun c => ?_)
                                                              · have h := h.1 c
                                                                obtain ⟨v141, ev141⟩ : ∃ y : Int32, y = x3 + 6 := ⟨_, rfl⟩
                                                                have h := h v141 ev141
                                                                refine aw_iinc (v := v141) (lv' := [(3, .int v141), (0, .ref b), (1, .ref (eA E 0)), (2, .ref (eA E 74))]) X dL_law_1254 3 rfl (by rw [ev141]; rfl) (by decide) rfl ?_
                                                                refine aw_goto (tgt := 18) X dL_law_1257 (by decide) ?_
                                                                exact aw_sub [1, 2, 3, 0] rfl (ih E kc ks _ _ (by omega) (by omega) X h)
                                                              · have h := h.2 c
                                                                refine aw_iconst (v := 0) X dL_law_1091 (by decide) ?_
                                                                exact h.elim
                                                            · by_cases c28 : ((xs x3.toNatClampNeg) &&& 63) = 28
                                                              · have h := h.2.2.2.2.2.2.2.2.2.2.2.2.2.2.2.2.2.2.2.2.2.2.2.2.2.2.2.2.1 c28
                                                                refine aw_tableIn (tgt := 1093) X dL_law_33 28 c28 (by decide) (by decide) rfl (by decide) ?_
                                                                refine aw_aload_n X dL_law_1093 1 rfl ?_
                                                                refine aw_aload_n X dL_law_1094 0 rfl ?_
                                                                refine aw_iload_n X dL_law_1095 3 rfl ?_
                                                                refine aw_iconst (v := 1) X dL_law_1096 (by decide) ?_
                                                                refine aw_iadd X dL_law_1097 ?_
                                                                obtain ⟨hin, h⟩ := h
                                                                refine aw_sld X hX dL_law_1098 hin ?_
                                                                refine aw_aload_n X dL_law_1099 0 rfl ?_
                                                                refine aw_iload_n X dL_law_1100 3 rfl ?_
                                                                refine aw_iconst (v := 2) X dL_law_1101 (by decide) ?_
                                                                refine aw_iadd X dL_law_1102 ?_
                                                                obtain ⟨hin, h⟩ := h
                                                                refine aw_sld X hX dL_law_1103 hin ?_
                                                                refine ca_i X (rn_v X [.int (xs (x3 + 1).toNatClampNeg), .int (xs (x3 + 2).toNatClampNeg)] [] (X.lt (by decide)) (sh_1 (rfl : tp 0 = 1) _) rfl rfl kw931 kw932 (c_X7_item h) cal_yX7_item kw930 (by decide) rfl rfl (Nat.le_of_ble_eq_true rfl) dL_law_1104) (fun M142 r143 h => ?_)
                                                                refine aw_aload_n X dL_law_1107 2 rfl ?_
                                                                refine aw_aload_n X dL_law_1108 0 rfl ?_
                                                                refine aw_iload_n X dL_law_1109 3 rfl ?_
                                                                refine aw_iconst (v := 1) X dL_law_1110 (by decide) ?_
                                                                refine aw_iadd X dL_law_1111 ?_
                                                                obtain ⟨hin, h⟩ := h
                                                                refine aw_sld X hX dL_law_1112 hin ?_
                                                                refine aw_aload_n X dL_law_1113 0 rfl ?_
                                                                refine aw_iload_n X dL_law_1114 3 rfl ?_
                                                                refine aw_iconst (v := 2) X dL_law_1115 (by decide) ?_
                                                                refine aw_iadd X dL_law_1116 ?_
                                                                obtain ⟨hin, h⟩ := h
                                                                refine aw_sld X hX dL_law_1117 hin ?_
                                                                refine ca_i X (rn_v X [.int (xs (x3 + 1).toNatClampNeg), .int (xs (x3 + 2).toNatClampNeg)] [.int r143] (X.lt (by decide)) (sh_12 (rfl : tp 74 = 12) _) rfl rfl kw1412 kw1413 (c_X8_item h) cal_yX8_item kw1411 (by decide) rfl rfl (Nat.le_of_ble_eq_true rfl) dL_law_1118) (fun M144 r145 h => ?_)
                                                                refine aw_icmp_eq (tgt := 1254) X dL_law_1121 (by decide) (fun c => ?_) (fun c => ?_)
                                                                · have h := h.1 c
                                                                  obtain ⟨v146, ev146⟩ : ∃ y : Int32, y = x3 + 6 := ⟨_, rfl⟩
                                                                  have h := h v146 ev146
                                                                  refine aw_iinc (v := v146) (lv' := [(3, .int v146), (0, .ref b), (1, .ref (eA E 0)), (2, .ref (eA E 74))]) X dL_law_1254 3 rfl (by rw [ev146]; rfl) (by decide) rfl ?_
                                                                  refine aw_goto (tgt := 18) X dL_law_1257 (by decide) ?_
                                                                  exact aw_sub [1, 2, 3, 0] rfl (ih E kc ks _ _ (by omega) (by omega) X h)
                                                                · have h := h.2 c
                                                                  refine aw_iconst (v := 0) X dL_law_1124 (by decide) ?_
                                                                  exact h.elim
                                                              · by_cases c29 : ((xs x3.toNatClampNeg) &&& 63) = 29
                                                                · have h := h.2.2.2.2.2.2.2.2.2.2.2.2.2.2.2.2.2.2.2.2.2.2.2.2.2.2.2.2.2.1 c29
                                                                  refine aw_tableIn (tgt := 1126) X dL_law_33 29 c29 (by decide) (by decide) rfl (by decide) ?_
                                                                  refine aw_aload_n X dL_law_1126 1 rfl ?_
                                                                  refine aw_aload_n X dL_law_1127 0 rfl ?_
                                                                  refine aw_iload_n X dL_law_1128 3 rfl ?_
                                                                  refine aw_iconst (v := 1) X dL_law_1129 (by decide) ?_
                                                                  refine aw_iadd X dL_law_1130 ?_
                                                                  obtain ⟨hin, h⟩ := h
                                                                  refine aw_sld X hX dL_law_1131 hin ?_
                                                                  refine aw_aload_n X dL_law_1132 0 rfl ?_
                                                                  refine aw_iload_n X dL_law_1133 3 rfl ?_
                                                                  refine aw_iconst (v := 2) X dL_law_1134 (by decide) ?_
                                                                  refine aw_iadd X dL_law_1135 ?_
                                                                  obtain ⟨hin, h⟩ := h
                                                                  refine aw_sld X hX dL_law_1136 hin ?_
                                                                  refine ca_i X (rn_v X [.int (xs (x3 + 1).toNatClampNeg), .int (xs (x3 + 2).toNatClampNeg)] [] (X.lt (by decide)) (sh_1 (rfl : tp 0 = 1) _) rfl rfl kw935 kw936 (c_X7_rest h) cal_yX7_rest kw934 (by decide) rfl rfl (Nat.le_of_ble_eq_true rfl) dL_law_1137) (fun M147 r148 h => ?_)
                                                                  refine aw_aload_n X dL_law_1140 2 rfl ?_
                                                                  refine aw_aload_n X dL_law_1141 0 rfl ?_
                                                                  refine aw_iload_n X dL_law_1142 3 rfl ?_
                                                                  refine aw_iconst (v := 1) X dL_law_1143 (by decide) ?_
                                                                  refine aw_iadd X dL_law_1144 ?_
                                                                  obtain ⟨hin, h⟩ := h
                                                                  refine aw_sld X hX dL_law_1145 hin ?_
                                                                  refine aw_aload_n X dL_law_1146 0 rfl ?_
                                                                  refine aw_iload_n X dL_law_1147 3 rfl ?_
                                                                  refine aw_iconst (v := 2) X dL_law_1148 (by decide) ?_
                                                                  refine aw_iadd X dL_law_1149 ?_
                                                                  obtain ⟨hin, h⟩ := h
                                                                  refine aw_sld X hX dL_law_1150 hin ?_
                                                                  refine ca_i X (rn_v X [.int (xs (x3 + 1).toNatClampNeg), .int (xs (x3 + 2).toNatClampNeg)] [.int r148] (X.lt (by decide)) (sh_12 (rfl : tp 74 = 12) _) rfl rfl kw1416 kw1417 (c_X8_rest h) cal_yX8_rest kw1415 (by decide) rfl rfl (Nat.le_of_ble_eq_true rfl) dL_law_1151) (fun M149 r150 h => ?_)
                                                                  refine aw_icmp_eq (tgt := 1254) X dL_law_1154 (by decide) (fun c => ?_) (fun c => ?_)
                                                                  · have h := h.1 c
                                                                    obtain ⟨v151, ev151⟩ : ∃ y : Int32, y = x3 + 6 := ⟨_, rfl⟩
                                                                    have h := h v151 ev151
                                                                    refine aw_iinc (v := v151) (lv' := [(3, .int v151), (0, .ref b), (1, .ref (eA E 0)), (2, .ref (eA E 74))]) X dL_law_1254 3 rfl (by rw [ev151]; rfl) (by decide) rfl ?_
                                                                    refine aw_goto (tgt := 18) X dL_law_1257 (by decide) ?_
                                                                    exact aw_sub [1, 2, 3, 0] rfl (ih E kc ks _ _ (by omega) (by omega) X h)
                                                                  · have h := h.2 c
                                                                    refine aw_iconst (v := 0) X dL_law_1157 (by decide) ?_
                                                                    exact h.elim
                                                                · by_cases c30 : ((xs x3.toNatClampNeg) &&& 63) = 30
                                                                  · have h := h.2.2.2.2.2.2.2.2.2.2.2.2.2.2.2.2.2.2.2.2.2.2.2.2.2.2.2.2.2.2.1 c30
                                                                    refine aw_tableIn (tgt := 1159) X dL_law_33 30 c30 (by decide) (by decide) rfl (by decide) ?_
                                                                    refine aw_aload_n X dL_law_1159 1 rfl ?_
                                                                    refine aw_aload_n X dL_law_1160 0 rfl ?_
                                                                    refine aw_iload_n X dL_law_1161 3 rfl ?_
                                                                    refine aw_iconst (v := 1) X dL_law_1162 (by decide) ?_
                                                                    refine aw_iadd X dL_law_1163 ?_
                                                                    obtain ⟨hin, h⟩ := h
                                                                    refine aw_sld X hX dL_law_1164 hin ?_
                                                                    refine ca_i X (rn_v X [.int (xs (x3 + 1).toNatClampNeg)] [] (X.lt (by decide)) (sh_1 (rfl : tp 0 = 1) _) rfl rfl kw940 kw941 (c_X7_tell h) cal_yX7_tell kw939 (by decide) rfl rfl (Nat.le_of_ble_eq_true rfl) dL_law_1165) (fun M152 r153 h => ?_)
                                                                    refine aw_aload_n X dL_law_1168 2 rfl ?_
                                                                    refine aw_aload_n X dL_law_1169 0 rfl ?_
                                                                    refine aw_iload_n X dL_law_1170 3 rfl ?_
                                                                    refine aw_iconst (v := 1) X dL_law_1171 (by decide) ?_
                                                                    refine aw_iadd X dL_law_1172 ?_
                                                                    obtain ⟨hin, h⟩ := h
                                                                    refine aw_sld X hX dL_law_1173 hin ?_
                                                                    refine ca_i X (rn_v X [.int (xs (x3 + 1).toNatClampNeg)] [.int r153] (X.lt (by decide)) (sh_12 (rfl : tp 74 = 12) _) rfl rfl kw1421 kw1422 (c_X8_tell h) cal_yX8_tell kw1420 (by decide) rfl rfl (Nat.le_of_ble_eq_true rfl) dL_law_1174) (fun M154 r155 h => ?_)
                                                                    refine aw_icmp_eq (tgt := 1254) X dL_law_1177 (by decide) (fun c => ?_) (fun c => ?_)
                                                                    · have h := h.1 c
                                                                      obtain ⟨v156, ev156⟩ : ∃ y : Int32, y = x3 + 6 := ⟨_, rfl⟩
                                                                      have h := h v156 ev156
                                                                      refine aw_iinc (v := v156) (lv' := [(3, .int v156), (0, .ref b), (1, .ref (eA E 0)), (2, .ref (eA E 74))]) X dL_law_1254 3 rfl (by rw [ev156]; rfl) (by decide) rfl ?_
                                                                      refine aw_goto (tgt := 18) X dL_law_1257 (by decide) ?_
                                                                      exact aw_sub [1, 2, 3, 0] rfl (ih E kc ks _ _ (by omega) (by omega) X h)
                                                                    · have h := h.2 c
                                                                      refine aw_iconst (v := 0) X dL_law_1180 (by decide) ?_
                                                                      exact h.elim
                                                                  · by_cases c31 : ((xs x3.toNatClampNeg) &&& 63) = 31
                                                                    · have h := h.2.2.2.2.2.2.2.2.2.2.2.2.2.2.2.2.2.2.2.2.2.2.2.2.2.2.2.2.2.2.2.1 c31
                                                                      refine aw_tableIn (tgt := 1182) X dL_law_33 31 c31 (by decide) (by decide) rfl (by decide) ?_
                                                                      refine aw_aload_n X dL_law_1182 1 rfl ?_
                                                                      refine aw_aload_n X dL_law_1183 0 rfl ?_
                                                                      refine aw_iload_n X dL_law_1184 3 rfl ?_
                                                                      refine aw_iconst (v := 1) X dL_law_1185 (by decide) ?_
                                                                      refine aw_iadd X dL_law_1186 ?_
                                                                      obtain ⟨hin, h⟩ := h
                                                                      refine aw_sld X hX dL_law_1187 hin ?_
                                                                      refine ca_i X (rn_v X [.int (xs (x3 + 1).toNatClampNeg)] [] (X.lt (by decide)) (sh_1 (rfl : tp 0 = 1) _) rfl rfl kw944 kw945 (c_X7_check h) cal_yX7_check kw943 (by decide) rfl rfl (Nat.le_of_ble_eq_true rfl) dL_law_1188) (fun M157 r158 h => ?_)
                                                                      refine aw_aload_n X dL_law_1191 2 rfl ?_
                                                                      refine aw_aload_n X dL_law_1192 0 rfl ?_
                                                                      refine aw_iload_n X dL_law_1193 3 rfl ?_
                                                                      refine aw_iconst (v := 1) X dL_law_1194 (by decide) ?_
                                                                      refine aw_iadd X dL_law_1195 ?_
                                                                      obtain ⟨hin, h⟩ := h
                                                                      refine aw_sld X hX dL_law_1196 hin ?_
                                                                      refine ca_i X (rn_v X [.int (xs (x3 + 1).toNatClampNeg)] [.int r158] (X.lt (by decide)) (sh_12 (rfl : tp 74 = 12) _) rfl rfl kw1425 kw1426 (c_X8_check h) cal_yX8_check kw1424 (by decide) rfl rfl (Nat.le_of_ble_eq_true rfl) dL_law_1197) (fun M159 r160 h => ?_)
                                                                      refine aw_icmp_eq (tgt := 1254) X dL_law_1200 (by decide) (fun c => ?_) (fun c => ?_)
                                                                      · have h := h.1 c
                                                                        obtain ⟨v161, ev161⟩ : ∃ y : Int32, y = x3 + 6 := ⟨_, rfl⟩
                                                                        have h := h v161 ev161
                                                                        refine aw_iinc (v := v161) (lv' := [(3, .int v161), (0, .ref b), (1, .ref (eA E 0)), (2, .ref (eA E 74))]) X dL_law_1254 3 rfl (by rw [ev161]; rfl) (by decide) rfl ?_
                                                                        refine aw_goto (tgt := 18) X dL_law_1257 (by decide) ?_
                                                                        exact aw_sub [1, 2, 3, 0] rfl (ih E kc ks _ _ (by omega) (by omega) X h)
                                                                      · have h := h.2 c
                                                                        refine aw_iconst (v := 0) X dL_law_1203 (by decide) ?_
                                                                        exact h.elim
                                                                    · by_cases c32 : ((xs x3.toNatClampNeg) &&& 63) = 32
                                                                      · have h := h.2.2.2.2.2.2.2.2.2.2.2.2.2.2.2.2.2.2.2.2.2.2.2.2.2.2.2.2.2.2.2.2.1 c32
                                                                        refine aw_tableIn (tgt := 1205) X dL_law_33 32 c32 (by decide) (by decide) rfl (by decide) ?_
                                                                        refine aw_aload_n X dL_law_1205 1 rfl ?_
                                                                        refine ca_i X (rn_v X [] [] (X.lt (by decide)) (sh_1 (rfl : tp 0 = 1) _) rfl rfl kw953 kw954 (c_X7_keep h) cal_yX7_keep kw952 (by decide) rfl rfl (Nat.le_of_ble_eq_true rfl) dL_law_1206) (fun M162 r163 h => ?_)
                                                                        refine aw_aload_n X dL_law_1209 2 rfl ?_
                                                                        refine ca_i X (rn_v X [] [.int r163] (X.lt (by decide)) (sh_12 (rfl : tp 74 = 12) _) rfl rfl kw1433 kw1434 (c_X8_keep h) cal_yX8_keep kw1432 (by decide) rfl rfl (Nat.le_of_ble_eq_true rfl) dL_law_1210) (fun M164 r165 h => ?_)
                                                                        refine aw_icmp_eq (tgt := 1254) X dL_law_1213 (by decide) (fun c => ?_) (fun c => ?_)
                                                                        · have h := h.1 c
                                                                          obtain ⟨v166, ev166⟩ : ∃ y : Int32, y = x3 + 6 := ⟨_, rfl⟩
                                                                          have h := h v166 ev166
                                                                          refine aw_iinc (v := v166) (lv' := [(3, .int v166), (0, .ref b), (1, .ref (eA E 0)), (2, .ref (eA E 74))]) X dL_law_1254 3 rfl (by rw [ev166]; rfl) (by decide) rfl ?_
                                                                          refine aw_goto (tgt := 18) X dL_law_1257 (by decide) ?_
                                                                          exact aw_sub [1, 2, 3, 0] rfl (ih E kc ks _ _ (by omega) (by omega) X h)
                                                                        · have h := h.2 c
                                                                          refine aw_iconst (v := 0) X dL_law_1216 (by decide) ?_
                                                                          exact h.elim
                                                                      · by_cases c33 : ((xs x3.toNatClampNeg) &&& 63) = 33
                                                                        · have h := h.2.2.2.2.2.2.2.2.2.2.2.2.2.2.2.2.2.2.2.2.2.2.2.2.2.2.2.2.2.2.2.2.2.1 c33
                                                                          refine aw_tableIn (tgt := 1218) X dL_law_33 33 c33 (by decide) (by decide) rfl (by decide) ?_
                                                                          refine aw_aload_n X dL_law_1218 1 rfl ?_
                                                                          refine ca_i X (rn_v X [] [] (X.lt (by decide)) (sh_1 (rfl : tp 0 = 1) _) rfl rfl kw957 kw958 (c_X7_back h) cal_yX7_back kw956 (by decide) rfl rfl (Nat.le_of_ble_eq_true rfl) dL_law_1219) (fun M167 r168 h => ?_)
                                                                          refine aw_aload_n X dL_law_1222 2 rfl ?_
                                                                          refine ca_i X (rn_v X [] [.int r168] (X.lt (by decide)) (sh_12 (rfl : tp 74 = 12) _) rfl rfl kw1437 kw1438 (c_X8_back h) cal_yX8_back kw1436 (by decide) rfl rfl (Nat.le_of_ble_eq_true rfl) dL_law_1223) (fun M169 r170 h => ?_)
                                                                          refine aw_icmp_eq (tgt := 1254) X dL_law_1226 (by decide) (fun c => ?_) (fun c => ?_)
                                                                          · have h := h.1 c
                                                                            obtain ⟨v171, ev171⟩ : ∃ y : Int32, y = x3 + 6 := ⟨_, rfl⟩
                                                                            have h := h v171 ev171
                                                                            refine aw_iinc (v := v171) (lv' := [(3, .int v171), (0, .ref b), (1, .ref (eA E 0)), (2, .ref (eA E 74))]) X dL_law_1254 3 rfl (by rw [ev171]; rfl) (by decide) rfl ?_
                                                                            refine aw_goto (tgt := 18) X dL_law_1257 (by decide) ?_
                                                                            exact aw_sub [1, 2, 3, 0] rfl (ih E kc ks _ _ (by omega) (by omega) X h)
                                                                          · have h := h.2 c
                                                                            refine aw_iconst (v := 0) X dL_law_1229 (by decide) ?_
                                                                            exact h.elim
                                                                        · by_cases c34 : ((xs x3.toNatClampNeg) &&& 63) = 34
                                                                          · have h := h.2.2.2.2.2.2.2.2.2.2.2.2.2.2.2.2.2.2.2.2.2.2.2.2.2.2.2.2.2.2.2.2.2.2.1 c34
                                                                            refine aw_tableIn (tgt := 1231) X dL_law_33 34 c34 (by decide) (by decide) rfl (by decide) ?_
                                                                            refine aw_aload_n X dL_law_1231 1 rfl ?_
                                                                            refine aw_aload_n X dL_law_1232 0 rfl ?_
                                                                            refine aw_iload_n X dL_law_1233 3 rfl ?_
                                                                            refine aw_iconst (v := 1) X dL_law_1234 (by decide) ?_
                                                                            refine aw_iadd X dL_law_1235 ?_
                                                                            obtain ⟨hin, h⟩ := h
                                                                            refine aw_sld X hX dL_law_1236 hin ?_
                                                                            refine ca_i X (rn_v X [.int (xs (x3 + 1).toNatClampNeg)] [] (X.lt (by decide)) (sh_1 (rfl : tp 0 = 1) _) rfl rfl kw961 kw962 (c_X7_count h) cal_yX7_count kw960 (by decide) rfl rfl (Nat.le_of_ble_eq_true rfl) dL_law_1237) (fun M172 r173 h => ?_)
                                                                            refine aw_aload_n X dL_law_1240 2 rfl ?_
                                                                            refine aw_aload_n X dL_law_1241 0 rfl ?_
                                                                            refine aw_iload_n X dL_law_1242 3 rfl ?_
                                                                            refine aw_iconst (v := 1) X dL_law_1243 (by decide) ?_
                                                                            refine aw_iadd X dL_law_1244 ?_
                                                                            obtain ⟨hin, h⟩ := h
                                                                            refine aw_sld X hX dL_law_1245 hin ?_
                                                                            refine ca_i X (rn_v X [.int (xs (x3 + 1).toNatClampNeg)] [.int r173] (X.lt (by decide)) (sh_12 (rfl : tp 74 = 12) _) rfl rfl kw1441 kw1442 (c_X8_count h) cal_yX8_count kw1440 (by decide) rfl rfl (Nat.le_of_ble_eq_true rfl) dL_law_1246) (fun M174 r175 h => ?_)
                                                                            refine aw_icmp_eq (tgt := 1254) X dL_law_1249 (by decide) (fun c => ?_) (fun c => ?_)
                                                                            · have h := h.1 c
                                                                              obtain ⟨v176, ev176⟩ : ∃ y : Int32, y = x3 + 6 := ⟨_, rfl⟩
                                                                              have h := h v176 ev176
                                                                              refine aw_iinc (v := v176) (lv' := [(3, .int v176), (0, .ref b), (1, .ref (eA E 0)), (2, .ref (eA E 74))]) X dL_law_1254 3 rfl (by rw [ev176]; rfl) (by decide) rfl ?_
                                                                              refine aw_goto (tgt := 18) X dL_law_1257 (by decide) ?_
                                                                              exact aw_sub [1, 2, 3, 0] rfl (ih E kc ks _ _ (by omega) (by omega) X h)
                                                                            · have h := h.2 c
                                                                              refine aw_iconst (v := 0) X dL_law_1252 (by decide) ?_
                                                                              exact h.elim
                                                                          · have h := h.2.2.2.2.2.2.2.2.2.2.2.2.2.2.2.2.2.2.2.2.2.2.2.2.2.2.2.2.2.2.2.2.2.2.2 c0 c1 c2 c3 c4 c5 c6 c7 c8 c9 c10 c11 c12 c13 c14 c15 c16 c17 c18 c19 c20 c21 c22 c23 c24 c25 c26 c27 c28 c29 c30 c31 c32 c33 c34
                                                                            refine aw_tableOut (tgt := 1254) X dL_law_33 (by have n0 := lv_neT (a := 0) c0 rfl; have n1 := lv_neT (a := 1) c1 rfl; have n2 := lv_neT (a := 2) c2 rfl; have n3 := lv_neT (a := 3) c3 rfl; have n4 := lv_neT (a := 4) c4 rfl; have n5 := lv_neT (a := 5) c5 rfl; have n6 := lv_neT (a := 6) c6 rfl; have n7 := lv_neT (a := 7) c7 rfl; have n8 := lv_neT (a := 8) c8 rfl; have n9 := lv_neT (a := 9) c9 rfl; have n10 := lv_neT (a := 10) c10 rfl; have n11 := lv_neT (a := 11) c11 rfl; have n12 := lv_neT (a := 12) c12 rfl; have n13 := lv_neT (a := 13) c13 rfl; have n14 := lv_neT (a := 14) c14 rfl; have n15 := lv_neT (a := 15) c15 rfl; have n16 := lv_neT (a := 16) c16 rfl; have n17 := lv_neT (a := 17) c17 rfl; have n18 := lv_neT (a := 18) c18 rfl; have n19 := lv_neT (a := 19) c19 rfl; have n20 := lv_neT (a := 20) c20 rfl; have n21 := lv_neT (a := 21) c21 rfl; have n22 := lv_neT (a := 22) c22 rfl; have n23 := lv_neT (a := 23) c23 rfl; have n24 := lv_neT (a := 24) c24 rfl; have n25 := lv_neT (a := 25) c25 rfl; have n26 := lv_neT (a := 26) c26 rfl; have n27 := lv_neT (a := 27) c27 rfl; have n28 := lv_neT (a := 28) c28 rfl; have n29 := lv_neT (a := 29) c29 rfl; have n30 := lv_neT (a := 30) c30 rfl; have n31 := lv_neT (a := 31) c31 rfl; have n32 := lv_neT (a := 32) c32 rfl; have n33 := lv_neT (a := 33) c33 rfl; have n34 := lv_neT (a := 34) c34 rfl; omega) (by decide) ?_
                                                                            obtain ⟨v177, ev177⟩ : ∃ y : Int32, y = x3 + 6 := ⟨_, rfl⟩
                                                                            have h := h v177 ev177
                                                                            refine aw_iinc (v := v177) (lv' := [(3, .int v177), (0, .ref b), (1, .ref (eA E 0)), (2, .ref (eA E 74))]) X dL_law_1254 3 rfl (by rw [ev177]; rfl) (by decide) rfl ?_
                                                                            refine aw_goto (tgt := 18) X dL_law_1257 (by decide) ?_
                                                                            exact aw_sub [1, 2, 3, 0] rfl (ih E kc ks _ _ (by omega) (by omega) X h)
