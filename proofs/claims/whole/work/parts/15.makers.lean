theorem va_P.cons {D : va_G} {cl : List vw_C} {ws : va_W} {q : Nat × va_E} {H : Heap} (h : va_P D cl (ws ++ [q]) H) : va_P D cl (q :: ws) H := by
  intro k x hk
  cases k with
  | zero =>
    have e : q = x := Option.some.inj hk
    exact h ws.length x (by rw [List.getElem?_append_right (Nat.le_refl _), Nat.sub_self, ← e]; rfl)
  | succ k =>
    have hk : ws[k]? = some x := hk
    exact h k x (by rw [List.getElem?_append_left (List.getElem?_eq_some_iff.mp hk).1]; exact hk)
theorem va_D.cons {A : Nat → Prop} {ws : va_W} {q : Nat × va_E} (h : va_D A (ws ++ [q])) : va_D A (q :: ws) := by
  have at' : ∀ (k : Nat) (x : Nat × va_E), (q :: ws)[k]? = some x → ∃ j : Nat, (ws ++ [q])[j]? = some x ∧ (k = 0 → j = ws.length) ∧ (0 < k → j + 1 = k ∧ j < ws.length) := by
    intro k x hk
    cases k with
    | zero =>
      have e : q = x := Option.some.inj hk
      exact ⟨ws.length, by rw [List.getElem?_append_right (Nat.le_refl _), Nat.sub_self, ← e]; rfl, fun _ => rfl, fun h => absurd h (by omega)⟩
    | succ k =>
      have hk : ws[k]? = some x := hk
      have hl := (List.getElem?_eq_some_iff.mp hk).1
      exact ⟨k, by rw [List.getElem?_append_left hl]; exact hk, fun h => absurd h (by omega), fun _ => ⟨rfl, hl⟩⟩
  refine ⟨fun i j x y hi hj e => ?_, fun k x hk => ?_⟩
  · obtain ⟨i', a1, a2, a3⟩ := at' i x hi
    obtain ⟨j', b1, b2, b3⟩ := at' j y hj
    have e2 := h.1 i' j' x y a1 b1 e
    rcases Nat.eq_zero_or_pos i with z | z <;> rcases Nat.eq_zero_or_pos j with z2 | z2
    · omega
    · have := a2 z; have := b3 z2; omega
    · have := a3 z; have := b2 z2; omega
    · have := a3 z; have := b3 z2; omega
  · obtain ⟨j, a1, -⟩ := at' k x hk
    exact h.2 j x a1
def AO4 (U : State) : Prop := va_AO "ShyWell$Comer" U ∧ va_AO "ShyWell$Text" U ∧ va_AO "ShyWell$Sheet" U ∧ va_AO "ShyWell$Slot" U
theorem AO4.moved {u U : State} (hvm : u.vm.Alike U.vm) (h : AO4 u) : AO4 U := ⟨h.1.moved hvm, h.2.1.moved hvm, h.2.2.1.moved hvm, h.2.2.2.moved hvm⟩
def rmV (d mc ms : Nat) : Room := { frames := d, cells := mc, slots := ms, locals := 40 * d }
def PreW (D : va_G) (C : Nat → ClassId) (ws : va_W) (sz : Nat) (U : State) : Prop := U.heap.size = sz ∧ va_P D cls ws U.heap ∧ va_K D cls (tyl C) U ∧ va_D (fun _ => True) ws ∧ Nst U ∧ AO4 U
/-- a maker's contract: from any heap that holds ws to one that holds F u, u the new cells -/
def CtrW (l : Launch) (D : va_G) (C : Nat → ClassId) (y : MethodName) (cc : ByteArray) (maxL : Nat) (ret : Option FieldType) (d mc ms : Nat) (av : List Value) (ws : va_W) (Qc : (Nat → Prop) → Array Value → State → Outcome → State → Prop) : Prop :=
  ∀ sz : Nat, Met l y (.code y cc maxL ret :: tbG) (rmV d mc ms) (va_Pc av (PreW D C ws sz)) (Qc (va_A ws sz)) mc ms (va_A ws sz)
abbrev wB (D : va_G) (A : Nat → Prop) (F : (Nat → Nat) → va_W) (u : Nat → Nat) (t : State) : Prop := va_P D cls (F u) t.heap ∧ va_D A (F u)
def WV (D : va_G) (F : (Nat → Nat) → va_W) (A : Nat → Prop) : Array Value → State → Outcome → State → Prop := va_Qv (fun _ : Nat → Nat => True) (wB D A F) A
/-- the answer is the cell u 0 -/
def WR (D : va_G) (F : (Nat → Nat) → va_W) (A : Nat → Prop) : Array Value → State → Outcome → State → Prop := va_Qr (fun _ : Nat → Nat => True) (fun u a t => a = u 0 ∧ wB D A F u t) A
def AV (g : Gm) (D : va_G) (A : Nat → Prop) (nL : Nat) (Q : State → Prop) (pc : Nat) (lv : List (Nat × Value)) (st : List Value) (ws : va_W) (kc ks : Nat) : Prop :=
  ∀ (H : Heap) (locs : List Loc) (ls : Array Slot), va_P D cls ws H → va_D A ws → va_S A (gS g).heap H locs → lv_has ls nL lv → W (gP g) (gL g) (gE g) (gR g) (gS g) (gM g) (gA g) (gB g) (gT g) (gC g) H locs kc ks Q (F0 (gM g) pc ls st)
def CV (g : Gm) (cc : ByteArray) (own : String) (ret : Option FieldType) (mn : String) (d mc ms : Nat) (D : va_G) (C : Nat → ClassId) (A : Nat → Prop) (nL : Nat) : Prop :=
  (gP g).tables.exec = Jvm.exec ∧ (gC g).code = cc ∧ (gC g).maxLocals = nL ∧ (gS g).vm.findClass own = some (gM g).cls ∧ (∀ w ∈ tbG, w.before (gA g) (gS g) = true) ∧ Nst (gS g) ∧ va_K D cls (tyl C) (gS g) ∧ AO4 (gS g) ∧ (∀ q, (gS g).heap.size ≤ q → A q) ∧ ((gT g).sig.returnType = ret ∧ (gT g).locks = false ∧ (gT g).name = mn) ∧ (d ≤ (gR g).frames ∧ 40 * d ≤ (gR g).locals) ∧ (mc ≤ (gR g).cells ∧ ms ≤ (gR g).slots)
section AVX
variable {g : Gm} {cc : ByteArray} {own : String} {ret : Option FieldType} {mn : String} {d mc ms : Nat} {D : va_G} {C : Nat → ClassId} {A : Nat → Prop} {nL : Nat}
theorem CV.hx (X : CV g cc own ret mn d mc ms D C A nL) : (gP g).tables.exec = Jvm.exec := X.1
theorem CV.hb (X : CV g cc own ret mn d mc ms D C A nL) : (gC g).code = cc := X.2.1
theorem CV.hml (X : CV g cc own ret mn d mc ms D C A nL) : (gC g).maxLocals = nL := X.2.2.1
theorem CV.hown (X : CV g cc own ret mn d mc ms D C A nL) : (gS g).vm.findClass own = some (gM g).cls := X.2.2.2.1
theorem CV.hts (X : CV g cc own ret mn d mc ms D C A nL) : ∀ w ∈ tbG, w.before (gA g) (gS g) = true := X.2.2.2.2.1
theorem CV.nst (X : CV g cc own ret mn d mc ms D C A nL) : Nst (gS g) := X.2.2.2.2.2.1
theorem CV.hK (X : CV g cc own ret mn d mc ms D C A nL) : va_K D cls (tyl C) (gS g) := X.2.2.2.2.2.2.1
theorem CV.ao (X : CV g cc own ret mn d mc ms D C A nL) : AO4 (gS g) := X.2.2.2.2.2.2.2.1
theorem CV.hA (X : CV g cc own ret mn d mc ms D C A nL) : ∀ q, (gS g).heap.size ≤ q → A q := X.2.2.2.2.2.2.2.2.1
theorem CV.hr (X : CV g cc own ret mn d mc ms D C A nL) : (gT g).sig.returnType = ret := X.2.2.2.2.2.2.2.2.2.1.1
theorem CV.lk (X : CV g cc own ret mn d mc ms D C A nL) : (gT g).locks = false := X.2.2.2.2.2.2.2.2.2.1.2.1
theorem CV.nam (X : CV g cc own ret mn d mc ms D C A nL) : (gT g).name = mn := X.2.2.2.2.2.2.2.2.2.1.2.2
theorem CV.rm (X : CV g cc own ret mn d mc ms D C A nL) : d ≤ (gR g).frames ∧ 40 * d ≤ (gR g).locals := X.2.2.2.2.2.2.2.2.2.2.1
theorem CV.cs (X : CV g cc own ret mn d mc ms D C A nL) : mc ≤ (gR g).cells ∧ ms ≤ (gR g).slots := X.2.2.2.2.2.2.2.2.2.2.2
theorem CV.w (X : CV g cc own ret mn d mc ms D C A nL) {w : Cond} (h : w ∈ tbG) : w.before (gA g) (gS g) = true := X.hts w h
theorem CtrW.of {l : Launch} {y : MethodName} {maxL : Nat} {av : List Value} {ws : va_W} {Qc : (Nat → Prop) → Array Value → State → Outcome → State → Prop} (hy : plainName y.cls = true) (hlen : (lg_sl av).length ≤ maxL)
    (body : ∀ (g : Gm) (A : Nat → Prop), gL g = l → CV g cc y.cls ret y.name d mc ms D C A maxL → AV g D A maxL (MQ (gB g) (Qc A) (gA g) (gS g) mc ms A) 0 (lv_args 0 av) [] ws 0 0) : CtrW l D C y cc maxL ret d mc ms av ws Qc := by
  intro sz
  refine Met.ofW (cc := cc) (maxL := maxL) (ret := ret) hy rfl ?_
  intro p e s m args below meth c s₁ B hml hv
  obtain ⟨rfl, hsz, hP, hK, hD, hN, hao⟩ := hv
  subst hsz
  have hts := atoms_spec (ws := .code y cc maxL ret :: tbG) B.pre
  have h := body (p, l, e, (headSpec (.code y cc maxL ret :: tbG) (rmV d mc ms)).room, s, m, av.toArray, below, meth, c, 0, 0) (va_A ws s.heap.size) rfl
    ⟨B.exec, B.bytes, hml, findClass_of_methodNamed B.named, fun w hw => hts w (List.mem_cons_of_mem _ hw), hN, hK, hao, fun q hq => Or.inr hq, ⟨B.returns, B.notSynchronized, (name_of_methodNamed B.named B.method).1⟩, ⟨Nat.le_refl _, Nat.le_refl _⟩, ⟨Nat.le_refl _, Nat.le_refl _⟩⟩
  rw [lg_entry_eq]
  exact h s.heap [] _ hP hD.self va_S.rf (lv_entry av hlen)
variable {Q : State → Prop} {pc : Nat} {lv : List (Nat × Value)} {st : List Value} {ws : va_W} {kc ks : Nat}
theorem av_iconst (X : CV g cc own ret mn d mc ms D C A nL) {n : Int} {v : Int32} (hd : decode cc pc = .ok (.iconst n, 1)) (hv : Int32.ofInt n = v) (k : AV g D A nL Q (pc + 1) lv (.int v :: st) ws kc ks) : AV g D A nL Q pc lv st ws kc ks := fun H locs ls hP hD hS hl => lv_iconst X.hx X.hb hd hv (k H locs ls hP hD hS hl)
theorem av_bipush (X : CV g cc own ret mn d mc ms D C A nL) {n : Int} {v : Int32} (hd : decode cc pc = .ok (.bipush n, 2)) (hv : (Int8.ofInt n).toInt32 = v) (k : AV g D A nL Q (pc + 2) lv (.int v :: st) ws kc ks) : AV g D A nL Q pc lv st ws kc ks := fun H locs ls hP hD hS hl => lv_bipush X.hx X.hb hd hv (k H locs ls hP hD hS hl)
theorem av_sipush (X : CV g cc own ret mn d mc ms D C A nL) {n : Int} {v : Int32} (hd : decode cc pc = .ok (.sipush n, 3)) (hv : (Int16.ofInt n).toInt32 = v) (k : AV g D A nL Q (pc + 3) lv (.int v :: st) ws kc ks) : AV g D A nL Q pc lv st ws kc ks := fun H locs ls hP hD hS hl => lv_sipush X.hx X.hb hd hv (k H locs ls hP hD hS hl)
theorem av_iload_n (X : CV g cc own ret mn d mc ms D C A nL) {i : Fin 4} {x : Int32} (hd : decode cc pc = .ok (.iload_n i, 1)) (j : Nat) (hj : lv[j]? = some (i.val, .int x)) (k : AV g D A nL Q (pc + 1) lv (.int x :: st) ws kc ks) : AV g D A nL Q pc lv st ws kc ks := fun H locs ls hP hD hS hl => lv_iload_n X.hx X.hb hd rfl (lv_at hl j hj) (k H locs ls hP hD hS hl)
theorem av_aload_n (X : CV g cc own ret mn d mc ms D C A nL) {i : Fin 4} {x : Nat} (hd : decode cc pc = .ok (.aload_n i, 1)) (j : Nat) (hj : lv[j]? = some (i.val, .ref x)) (k : AV g D A nL Q (pc + 1) lv (.ref x :: st) ws kc ks) : AV g D A nL Q pc lv st ws kc ks := fun H locs ls hP hD hS hl => lv_aload_n X.hx X.hb hd rfl (lv_at hl j hj) (k H locs ls hP hD hS hl)
theorem av_dup (X : CV g cc own ret mn d mc ms D C A nL) {v : Value} (hd : decode cc pc = .ok (.dup, 1)) (hv : v.category = 1) (k : AV g D A nL Q (pc + 1) lv (v :: v :: st) ws kc ks) : AV g D A nL Q pc lv (v :: st) ws kc ks := fun H locs ls hP hD hS hl => lv_dup X.hx X.hb hd hv (k H locs ls hP hD hS hl)
theorem av_istore_n (X : CV g cc own ret mn d mc ms D C A nL) {i : Fin 4} {x : Int32} {lv' : List (Nat × Value)} (hd : decode cc pc = .ok (.istore_n i, 1)) (hn : i.val < nL) (hl : (i.val, Value.int x) :: lv.filter (fun q => !(q.1 == i.val) && !(q.1 + 1 == i.val && q.2.category == 2)) = lv') (k : AV g D A nL Q (pc + 1) lv' st ws kc ks) : AV g D A nL Q pc lv (Value.int x :: st) ws kc ks := fun H locs ls hP hD hS h => lv_istore_n X.hx X.hb hd rfl h hn hl (fun ls' h' => k H locs ls' hP hD hS h')
theorem av_astore_n (X : CV g cc own ret mn d mc ms D C A nL) {i : Fin 4} {x : Nat} {lv' : List (Nat × Value)} (hd : decode cc pc = .ok (.astore_n i, 1)) (hn : i.val < nL) (hl : (i.val, Value.ref x) :: lv.filter (fun q => !(q.1 == i.val) && !(q.1 + 1 == i.val && q.2.category == 2)) = lv') (k : AV g D A nL Q (pc + 1) lv' st ws kc ks) : AV g D A nL Q pc lv (Value.ref x :: st) ws kc ks := fun H locs ls hP hD hS h => lv_astore_n X.hx X.hb hd rfl h hn hl (fun ls' h' => k H locs ls' hP hD hS h')
theorem av_iinc (X : CV g cc own ret mn d mc ms D C A nL) {i : Nat} {n : Int} {x v : Int32} {lv' : List (Nat × Value)} (hd : decode cc pc = .ok (.iinc i n, 3)) (j : Nat) (hj : lv[j]? = some (i, .int x)) (hv : x + Int32.ofInt n = v) (hn : i < nL) (hl : (i, Value.int v) :: lv.filter (fun q => !(q.1 == i) && !(q.1 + 1 == i && q.2.category == 2)) = lv') (k : AV g D A nL Q (pc + 3) lv' st ws kc ks) : AV g D A nL Q pc lv st ws kc ks := fun H locs ls hP hD hS h => lv_iinc X.hx X.hb hd h hj hv hn hl (fun ls' h' => k H locs ls' hP hD hS h')
theorem av_icmp_ge (X : CV g cc own ret mn d mc ms D C A nL) {x y : Int32} {off : Int} {tgt : Nat} (hd : decode cc pc = .ok (.if_icmp .ge off, 3)) (ht : (pc : Int) + off = (tgt : Int)) (kt : y ≤ x → AV g D A nL Q tgt lv st ws kc ks) (kf : ¬ y ≤ x → AV g D A nL Q (pc + 3) lv st ws kc ks) : AV g D A nL Q pc lv (.int y :: .int x :: st) ws kc ks := fun H locs ls hP hD hS hl => lv_icmp_ge X.hx X.hb hd ht (fun c => kt c H locs ls hP hD hS hl) (fun c => kf c H locs ls hP hD hS hl)
theorem av_icmp_ne (X : CV g cc own ret mn d mc ms D C A nL) {x y : Int32} {off : Int} {tgt : Nat} (hd : decode cc pc = .ok (.if_icmp .ne off, 3)) (ht : (pc : Int) + off = (tgt : Int)) (kt : ¬ x = y → AV g D A nL Q tgt lv st ws kc ks) (kf : x = y → AV g D A nL Q (pc + 3) lv st ws kc ks) : AV g D A nL Q pc lv (.int y :: .int x :: st) ws kc ks := fun H locs ls hP hD hS hl => lv_icmp_ne X.hx X.hb hd ht (fun c => kt c H locs ls hP hD hS hl) (fun c => kf c H locs ls hP hD hS hl)
theorem av_goto (X : CV g cc own ret mn d mc ms D C A nL) {off : Int} {tgt : Nat} (hd : decode cc pc = .ok (.goto off, 3)) (ht : (pc : Int) + off = (tgt : Int)) (k : AV g D A nL Q tgt lv st ws kc ks) : AV g D A nL Q pc lv st ws kc ks := fun H locs ls hP hD hS hl => lv_goto X.hx X.hb hd ht (k H locs ls hP hD hS hl)
theorem av_obj (X : CV g cc own ret mn d mc ms D C A nL) {a index : Nat} (hd : decode cc pc = .ok (.invokespecial index, 3)) (hw : Cond.methodLink own index objectInit ∈ tbG) (h1 : Cond.instanceMethod objectInit ∈ tbG) (h2 : Cond.code objectInit ⟨#[0xb1]⟩ 1 none ∈ tbG) (hd1 : 1 ≤ d) (hc : (st.map fun v => v.category).sum ≤ 8) (k : AV g D A nL Q (pc + 3) lv st ws kc ks) : AV g D A nL Q pc lv (.ref a :: st) ws kc ks := fun H locs ls hP hD hS hl => W.objInit X.hx X.hb X.hown (X.w hw) (X.w h1) (X.w h2) rfl (by rw [X.hml]; exact hl.1) rfl hd (Nat.le_trans hd1 X.rm.1) (by have := X.rm.2; have := lv_room (m := gM g) (pc := pc) (ls := ls) (rest := .ref a :: st) hc; omega) (k H locs ls hP hD hS hl)
theorem av_new (X : CV g cc own ret mn d mc ms D C A nL) {index ci N : Nat} {CN : String} {T : u_T} {fs : List Value} (hd : decode cc pc = .ok (.new index, 3)) (hw : Cond.classLink own index CN ∈ tbG) (h1 : Cond.instantiable CN N ∈ tbG) (h2 : Cond.initialized CN ∈ tbG) (hc : cls[ci]? = some (CN, T, N)) (hin : ∀ w ∈ u_ws CN T N, w ∈ tbG) (ty : Nat → FieldType) (hty : ∀ k, k < N → parseFieldDescriptor (T k).2.2.1 = some (ty k)) (hfs : ∀ j, j < N → defaultValue (ty j) = vp_V fs j) (hk : kc + 1 ≤ mc) (hn : ks + N ≤ ms) (k : ∀ q : Nat, AV g D A nL Q (pc + 3) lv (.ref q :: st) ((q, .inr (ci, fs)) :: ws) (kc + 1) (ks + N)) : AV g D A nL Q pc lv st ws kc ks := fun H locs ls hP hD hS hl => va_new (D := D) X.hx X.hb X.hts hin ty hty X.hown (X.w hw) (X.w h1) (X.w h2) X.hK hP hD hS X.hA hc hfs (Nat.le_trans hk X.cs.1) (Nat.le_trans hn X.cs.2) hd (fun q H1 hP1 hD1 hS1 => k q H1 locs ls hP1.cons hD1.cons hS1 hl)
theorem av_newa (X : CV g cc own ret mn d mc ms D C A nL) {n : Int32} {N : Nat} (hd : decode cc pc = .ok (.newarray .int, 2)) (hw : Cond.arrayClass .int ∈ tbG) (h0 : ¬ n < 0) (hN : n.toNatClampNeg = N) (hb : N ≤ 100000) (hk : kc + 1 ≤ mc) (hn : ks + N ≤ ms) (k : ∀ q : Nat, AV g D A nL Q (pc + 2) lv (.ref q :: st) ((q, .inl (C 0, N, .inl (fun _ => 0))) :: ws) (kc + 1) (ks + N)) : AV g D A nL Q pc lv (.int n :: st) ws kc ks := fun H locs ls hP hD hS hl => va_newa (D := D) (atype := .int) (ty := .int) (a0 := (N, .inl (fun _ => 0))) X.hx X.hb (X.w hw) rfl X.hK hP hD hS X.hA (fun _ => rfl) h0 hN (by show N * 4 ≤ _; omega) (Nat.le_trans hk X.cs.1) (Nat.le_trans hn X.cs.2) hd (fun q cA H1 hK1 hP1 hD1 hS1 => by
  have e1 := (hK1.2 5 (cA, .int) rfl).2
  have e2 := (hK1.2 0 (C 0, .int) rfl).2
  have e : cA = C 0 := Option.some.inj (e1.symm.trans e2)
  subst e
  exact k q H1 locs ls hP1.cons hD1.cons hS1 hl)
theorem av_newq (X : CV g cc own ret mn d mc ms D C A nL) {n : Int32} {N index t : Nat} {CN : String} (hd : decode cc pc = .ok (.anewarray index, 3)) (hw : Cond.classLink own index CN ∈ tbG) (hao : va_AO CN (gS g)) (ht : (tyl C)[t]? = some (C t, .object CN)) (h0 : ¬ n < 0) (hN : n.toNatClampNeg = N) (hb : N ≤ 100000) (hk : kc + 1 ≤ mc) (hn : ks + N ≤ ms) (k : ∀ q : Nat, AV g D A nL Q (pc + 3) lv (.ref q :: st) ((q, .inl (C t, N, qa (fun _ => none))) :: ws) (kc + 1) (ks + N)) : AV g D A nL Q pc lv (.int n :: st) ws kc ks := fun H locs ls hP hD hS hl => va_newq (D := D) X.hx X.hb X.hown (X.w hw) hao X.hK hP hD hS X.hA h0 hN (by omega) (Nat.le_trans hk X.cs.1) (Nat.le_trans hn X.cs.2) hd (fun q cA H1 hK1 hP1 hD1 hS1 => by
  obtain ⟨-, -, -, -, -, e1⟩ := (hK1.2 5 (cA, .object CN) rfl).2
  obtain ⟨-, -, -, -, -, e2⟩ := (X.hK.2 t _ ht).2
  have e : cA = C t := Option.some.inj (e1.symm.trans e2)
  subst e
  exact k q H1 locs ls hP1.cons hD1.cons hS1 hl)
theorem av_get (X : CV g cc own ret mn d mc ms D C A nL) {a q0 ci index k : Nat} {fs : List Value} {v : Value} (hd : decode cc pc = .ok (.getfield index, 3)) (he : ws[q0]? = some (a, .inr (ci, fs))) (hF : FlA own index ci k) (hv : fs[k]? = some v) (kk : AV g D A nL Q (pc + 3) lv (v :: st) ws kc ks) : AV g D A nL Q pc lv (.ref a :: st) ws kc ks := fun H locs ls hP hD hS hl => by
  obtain ⟨CN, T, N, hc, hin, hk, hw | ⟨host, hw⟩⟩ := hF
  · exact va_get (D := D) X.hx X.hb X.hts hin X.hown X.hK hP q0 he hc k hk (X.w hw) (fun _ h => h) hv hd (kk H locs ls hP hD hS hl)
  · exact va_getN (D := D) X.hx X.hb X.hts hin X.hown X.hK hP q0 he hc k hk (va_Nw.use rfl (X.nst _ hw)) (fun _ h => h) hv hd (kk H locs ls hP hD hS hl)
/-- what a put of the class's own field needs -/
def FpA (own : String) (index ci k : Nat) (fin : Bool) (ty : FieldType) : Prop := ∃ (CN : String) (T : u_T) (N : Nat) (ty0 : Nat → FieldType), cls[ci]? = some (CN, T, N) ∧ (∀ w ∈ u_ws CN T N, w ∈ tbG) ∧ k < N ∧ Cond.fieldLink own index (T k).1 (T k).2.1 (T k).2.2.1 ∈ tbG ∧ (∀ k, k < N → parseFieldDescriptor (T k).2.2.1 = some (ty0 k)) ∧ (∀ a, a < N → ∀ b, b < N → a ≠ b → (T a).2.1 ≠ (T b).2.1) ∧ (T k).2.2.2 = fin ∧ parseFieldDescriptor (T k).2.2.1 = some ty ∧ (T k).1 = own
theorem av_put (X : CV g cc own ret mn d mc ms D C A nL) {a q0 ci index k : Nat} {fs : List Value} {v : Value} {ty : FieldType} {ws' : va_W} (hd : decode cc pc = .ok (.putfield index, 3)) (he : ws[q0]? = some (a, .inr (ci, fs))) (hF : FpA own index ci k false ty) (hn : narrow ty v = v) (hfit : fits ty v = true) (hl : k < fs.length) (hws : ws.set q0 (a, .inr (ci, fs.set k v)) = ws') (kk : AV g D A nL Q (pc + 3) lv st ws' kc ks) : AV g D A nL Q pc lv (v :: .ref a :: st) ws kc ks := fun H locs ls hP hD hS h => by
  obtain ⟨CN, T, N, ty0, hc, hin, hk, hw, hty, hnm, hfin, hdsc, -⟩ := hF
  exact va_put (D := D) X.hx X.hb X.hts hin ty0 hty hnm X.hown X.hK hP hD hS q0 he hc k hk (X.w hw) (fun _ h => h) hfin hdsc hn hfit hl hd (fun H1 l1 hP1 hD1 hS1 => kk H1 l1 ls (by rw [hws] at hP1; exact hP1) (by rw [hws] at hD1; exact hD1) hS1 h)
theorem av_putF (X : CV g cc own ret "<init>" d mc ms D C A nL) {a q0 ci index k : Nat} {fs : List Value} {v : Value} {ty : FieldType} {ws' : va_W} (hd : decode cc pc = .ok (.putfield index, 3)) (he : ws[q0]? = some (a, .inr (ci, fs))) (hF : FpA own index ci k true ty) (hn : narrow ty v = v) (hfit : fits ty v = true) (hl : k < fs.length) (hws : ws.set q0 (a, .inr (ci, fs.set k v)) = ws') (kk : AV g D A nL Q (pc + 3) lv st ws' kc ks) : AV g D A nL Q pc lv (v :: .ref a :: st) ws kc ks := fun H locs ls hP hD hS h => by
  obtain ⟨CN, T, N, ty0, hc, hin, hk, hw, hty, hnm, hfin, hdsc, how⟩ := hF
  exact va_putF (D := D) X.hx X.hb X.hts hin ty0 hty hnm X.hown X.hK hP hD hS q0 he hc k hk (X.w hw) (fun _ h => h) hfin X.nam how hdsc hn hfit hl hd (fun H1 l1 hP1 hD1 hS1 => kk H1 l1 ls (by rw [hws] at hP1; exact hP1) (by rw [hws] at hD1; exact hD1) hS1 h)
theorem av_iast (X : CV g cc own ret mn d mc ms D C A nL) {a q0 n : Nat} {f : Nat → Int32} {j x : Int32} {ws' : va_W} (hd : decode cc pc = .ok (.iastore, 1)) (he : ws[q0]? = some (a, .inl (C 0, n, .inl f))) (hin : vp_in j n) (hws : ws.set q0 (a, .inl (C 0, n, .inl (upd f j.toNatClampNeg x))) = ws') (kk : AV g D A nL Q (pc + 1) lv st ws' kc ks) : AV g D A nL Q pc lv (.int x :: .int j :: .ref a :: st) ws kc ks := fun H locs ls hP hD hS hl => va_iast (D := D) X.hx X.hb X.hK hP hD hS q0 0 he rfl hin hd (fun H1 l1 hP1 hD1 hS1 => kk H1 l1 ls (by rw [hws] at hP1; exact hP1) (by rw [hws] at hD1; exact hD1) hS1 hl)
theorem av_aast (X : CV g cc own ret mn d mc ms D C A nL) {a v q0 qk t ci n : Nat} {r : vw_C} {vs : List Value} {f : Nat → Option Nat} {j : Int32} {ws' : va_W} (hd : decode cc pc = .ok (.aastore, 1)) (he : ws[q0]? = some (a, .inl (C t, n, qa f))) (ht : (tyl C)[t]? = some (C t, .object r.1)) (hv : ws[qk]? = some (v, .inr (ci, vs))) (hc : cls[ci]? = some r) (hin : vp_in j n) (hws : ws.set q0 (a, .inl (C t, n, qa (va_up f j.toNatClampNeg (some v)))) = ws') (kk : AV g D A nL Q (pc + 1) lv st ws' kc ks) : AV g D A nL Q pc lv (.ref v :: .int j :: .ref a :: st) ws kc ks := fun H locs ls hP hD hS hl => va_astq (D := D) X.hx X.hb X.hK hP hD hS q0 t qk ci he ht hv hc hin hd (fun H1 l1 hP1 hD1 hS1 => kk H1 l1 ls (by rw [hws] at hP1; exact hP1) (by rw [hws] at hD1; exact hD1) hS1 hl)
theorem av_alen (X : CV g cc own ret mn d mc ms D C A nL) {a q0 t : Nat} {cA : ClassId} {x : vp_A} {ty : FieldType} {v : Int32} (hd : decode cc pc = .ok (.arraylength, 1)) (he : ws[q0]? = some (a, .inl (cA, x))) (ht : (tyl C)[t]? = some (cA, ty)) (hv : Int32.ofNat x.1 = v) (kk : AV g D A nL Q (pc + 1) lv (.int v :: st) ws kc ks) : AV g D A nL Q pc lv (.ref a :: st) ws kc ks := fun H locs ls hP hD hS hl => va_alen (D := D) X.hx X.hb X.hK hP q0 t he ht hv hd (kk H locs ls hP hD hS hl)
theorem av_copy (X : CV g cc own ret mn d mc ms D C A nL) {index a0 a1 i0 i1 n0 n1 : Nat} {f0 f1 : Nat → Int32} {sp dp n : Int32} {ws' : va_W} (hd : decode cc pc = .ok (.invokestatic index, 3)) (hw : Cond.methodLink own index arraycopyName ∈ tbG) (h0 : Cond.native arraycopyName ∈ tbG) (h00 : Cond.static arraycopyName ∈ tbG) (h01 : Cond.initialized "java/lang/System" ∈ tbG) (he0 : ws[i0]? = some (a0, .inl (C 0, n0, .inl f0))) (he1 : ws[i1]? = some (a1, .inl (C 0, n1, .inl f1))) (h1 : ¬ sp < 0) (h2 : ¬ dp < 0) (h3 : ¬ n < 0) (h4 : sp.toNatClampNeg + n.toNatClampNeg ≤ n0) (h5 : dp.toNatClampNeg + n.toNatClampNeg ≤ n1) (hd1 : 1 ≤ d) (hcat : (st.map fun v => v.category).sum ≤ 8) (hws : ws.set i1 (a1, .inl (C 0, n1, .inl (va_cpy f0 f1 sp.toNatClampNeg dp.toNatClampNeg n.toNatClampNeg))) = ws') (kk : AV g D A nL Q (pc + 3) lv st ws' kc ks) : AV g D A nL Q pc lv (.int n :: .int dp :: .ref a1 :: .int sp :: .ref a0 :: st) ws kc ks := fun H locs ls hP hD hS hl => va_copyi (D := D) X.hx X.hb (X.hml.trans hl.1.symm) X.hown (X.w hw) (X.w h0) (X.w h00) (X.w h01) X.hK hP hD hS i0 i1 0 0 he0 he1 rfl rfl rfl h1 h2 h3 h4 h5 (fun _ _ => rfl) (Nat.le_trans hd1 X.rm.1) (by have := X.rm.2; have := nfw; omega) hd (fun H1 l1 hP1 hD1 hS1 => kk H1 l1 ls (by rw [hws] at hP1; exact hP1) (by rw [hws] at hD1; exact hD1) hS1 hl)
theorem av_mmax (X : CV g cc own ret mn d mc ms D C A nL) {index : Nat} {x y : Int32} {v : Int32} (hd : decode cc pc = .ok (.invokestatic index, 3)) (hw : Cond.methodLink own index Lib.Math.max.name ∈ tbG) (h0 : Cond.static Lib.Math.max.name ∈ tbG) (h1 : Cond.initialized "java/lang/Math" ∈ tbG) (h2 : Cond.code Lib.Math.max.name Lib.Math.max.code 2 (some .int) ∈ tbG) (hd1 : 1 ≤ d) (hkc : kc ≤ mc ∧ ks ≤ ms) (hc : (st.map fun v => v.category).sum ≤ 8) (hv : (if x < y then y else x) = v) (k : AV g D A nL Q (pc + 3) lv (.int v :: st) ws kc ks) : AV g D A nL Q pc lv (.int y :: .int x :: st) ws kc ks := fun H locs ls hP hD hS hl => va_mmax X.hx X.hb (X.hml.trans hl.1.symm) X.hown (X.w hw) (X.w h0) (X.w h1) (X.w h2) (Nat.le_trans hd1 X.rm.1) (by have := X.rm.2; omega) (Nat.le_trans hkc.1 X.cs.1) (Nat.le_trans hkc.2 X.cs.2) hd (by rw [hv]; exact k H locs ls hP hD hS hl)
theorem av_mmin (X : CV g cc own ret mn d mc ms D C A nL) {index : Nat} {x y : Int32} {v : Int32} (hd : decode cc pc = .ok (.invokestatic index, 3)) (hw : Cond.methodLink own index Lib.Math.min.name ∈ tbG) (h0 : Cond.static Lib.Math.min.name ∈ tbG) (h1 : Cond.initialized "java/lang/Math" ∈ tbG) (h2 : Cond.code Lib.Math.min.name Lib.Math.min.code 2 (some .int) ∈ tbG) (hd1 : 1 ≤ d) (hkc : kc ≤ mc ∧ ks ≤ ms) (hc : (st.map fun v => v.category).sum ≤ 8) (hv : (if y < x then y else x) = v) (k : AV g D A nL Q (pc + 3) lv (.int v :: st) ws kc ks) : AV g D A nL Q pc lv (.int y :: .int x :: st) ws kc ks := fun H locs ls hP hD hS hl => va_mmin X.hx X.hb (X.hml.trans hl.1.symm) X.hown (X.w hw) (X.w h0) (X.w h1) (X.w h2) (Nat.le_trans hd1 X.rm.1) (by have := X.rm.2; omega) (Nat.le_trans hkc.1 X.cs.1) (Nat.le_trans hkc.2 X.cs.2) hd (by rw [hv]; exact k H locs ls hP hD hS hl)
theorem av_vret (X : CV g cc own none mn d mc ms D C A nL) (F : (Nat → Nat) → va_W) (u : Nat → Nat) (hd : decode cc pc = .ok (.return_, 1)) (hk : kc ≤ mc) (hn : ks ≤ ms) (hF : ws = F u) : AV g D A nL (MQ (gB g) (WV D F A) (gA g) (gS g) mc ms A) pc lv [] ws kc ks := fun H locs ls hP hD hS hl => by
  subst hF
  exact W.widen hk hn (W.vret X.hx X.hb X.hr (fun t ht hW => ⟨⟨u, rfl, trivial, by rw [ht]; exact hP, hD⟩, hS.F ht⟩) hS.2.2 hd X.lk)
theorem av_aret {rt : FieldType} (X : CV g cc own (some rt) mn d mc ms D C A nL) (hrt : (∃ n, rt = .object n) ∨ ∃ t, rt = .array t) (F : (Nat → Nat) → va_W) (u : Nat → Nat) {a : Nat} (hd : decode cc pc = .ok (.areturn, 1)) (hk : kc ≤ mc) (hn : ks ≤ ms) (hF : ws = F u) (ha : a = u 0) : AV g D A nL (MQ (gB g) (WR D F A) (gA g) (gS g) mc ms A) pc lv [.ref a] ws kc ks := fun H locs ls hP hD hS hl => by
  subst hF
  subst ha
  exact W.widen hk hn (W.aret X.hx X.hb X.hr hrt (Or.inr ⟨_, rfl⟩) (fun t ht hW => ⟨⟨u, u 0, rfl, trivial, rfl, by rw [ht]; exact hP, hD⟩, hS.F ht⟩) hS.2.2 hd X.lk)
theorem CV.room (X : CV g cc own ret mn d mc ms D C A nL) {d1 maxL m1 m2 : Nat} (h : d1 + 1 ≤ d) (hm : maxL ≤ 21) : (rmV d1 m1 m2).frames + 1 ≤ (gR g).frames ∧ 8 + (maxL + 11) + (rmV d1 m1 m2).locals ≤ (gR g).locals := by
  have h1 := X.rm.1
  have h2 := X.rm.2
  refine ⟨by show d1 + 1 ≤ _; omega, ?_⟩
  show 8 + (maxL + 11) + 40 * d1 ≤ _
  omega
theorem CV.pre (X : CV g cc own ret mn d mc ms D C A nL) {H : Heap} (hP : va_P D cls ws H) (hD : va_D A ws) {U : State} (hU : U.heap = H) (hW : (gS g).WarmedH U.vm) : PreW D C ws H.size U := by
  subst hU
  exact ⟨rfl, hP, X.hK.moved hW.alike, hD.weaken (fun _ _ _ _ => trivial), X.nst.warm hW, X.ao.moved hW.alike⟩
theorem preW_blind {D : va_G} {C : Nat → ClassId} {ws : va_W} {sz : Nat} {av : List Value} : FrameBlind (va_Pc av (PreW D C ws sz)) := by
  intro a U g mk q
  obtain ⟨q0, q1, q2, q3, q4, q5, q6⟩ := q
  exact ⟨q0, q1, q2, va_K.moved (u := U) (U := U.calling g mk a) (Vm.Alike.refl U.vm) q3, q4, Nst.same (u := U) (U := U.calling g mk a) rfl q5, AO4.moved (u := U) (U := U.calling g mk a) (Vm.Alike.refl U.vm) q6⟩
theorem CV.sub (X : CV g cc own ret mn d mc ms D C A nL) {H : Heap} {locs : List Loc} (hD : va_D A ws) (hS : va_S A (gS g).heap H locs) : ∀ q, va_A ws H.size q → A q := by
  intro q h
  rcases h with ⟨k, e, hk⟩ | h
  · exact hD.2 k _ hk
  · exact X.hA q (Nat.le_trans hS.1 h)
/-- what comes back of a maker, in the caller's set -/
theorem wB_up {F : (Nat → Nat) → va_W} {u : Nat → Nat} {B A : Nat → Prop} {t : State} (h : wB D B F u t) (hBA : ∀ q, B q → A q) : va_D A (F u) := ⟨h.2.1, fun k q hk => hBA _ (h.2.2 k q hk)⟩
theorem av_ci (X : CV g cc own ret mn d mc ms D C A nL) {y : MethodName} {bytes : ByteArray} {maxL d1 np index b m1 m2 : Nat} {F : (Nat → Nat) → va_W} (As rest : List Value) (hM : CtrW (gL g) D C y bytes maxL none d1 m1 m2 (.ref b :: As) ws (WV D F)) (hCal : Cal y bytes maxL none np) (hw : Cond.methodLink own index y ∈ tbG) (h5 : Cond.instanceMethod y ∈ tbG) (hy1 : y.name = "<init>") (hd1 : d1 + 1 ≤ d) (hn : As.length = np) (hst : st = As.reverse ++ .ref b :: rest) (hcat : (rest.map fun v => v.category).sum ≤ 8) (hd : decode cc pc = .ok (.invokespecial index, 3)) (hk : kc + m1 ≤ mc) (hks : ks + m2 ≤ ms) (k : ∀ u : Nat → Nat, AV g D A nL Q (pc + 3) lv rest (F u) (kc + m1) (ks + m2)) : AV g D A nL Q pc lv st ws kc ks := fun H locs ls hP hD hS hl => by
  have hr := va_runI (e := gE g) (below := gB g) (meth := gT g) (g := F0 (gM g) pc ls st) (H := H) (locs := locs) (cells := kc) (slots := ks) (As := As) (rest := rest) (Ts := tbG) ⟨X.hx, X.hb, X.hml, X.hown, X.hts⟩ (hM H.size) ⟨callB_of np X.hts (good_code hCal.1.1) rfl rfl rfl (X.w hCal.1.2) (X.w hw) hCal.2.1 (X.room hd1 hCal.2.2), hy1, X.w h5⟩ ⟨preW_blind, fun U hU hW => ⟨rfl, X.pre hP hD hU hW⟩⟩ rfl hn hl.1 hst (lv_room hcat) hd ⟨Nat.le_trans hk X.cs.1, Nat.le_trans hks X.cs.2⟩
  exact va_callv hr hS (fun q _ h => X.sub hD hS q h) (X.sub hD hS) (fun u t H1 l1 ht _ _ hB _ _ hS1 => k u H1 l1 ls (by rw [← ht]; exact hB.1) (wB_up hB (X.sub hD hS)) hS1 hl)
theorem av_cin (X : CV g cc own ret mn d mc ms D C A nL) {y : MethodName} {bytes : ByteArray} {maxL d1 np index b m1 m2 : Nat} {host : String} {F : (Nat → Nat) → va_W} (As rest : List Value) (hM : CtrW (gL g) D C y bytes maxL none d1 m1 m2 (.ref b :: As) ws (WV D F)) (hCal : Cal y bytes maxL none np) (hw : Cond.methodLinkNest own index y host ∈ tbN) (h5 : Cond.instanceMethod y ∈ tbG) (hy1 : y.name = "<init>") (hd1 : d1 + 1 ≤ d) (hn : As.length = np) (hst : st = As.reverse ++ .ref b :: rest) (hcat : (rest.map fun v => v.category).sum ≤ 8) (hd : decode cc pc = .ok (.invokespecial index, 3)) (hk : kc + m1 ≤ mc) (hks : ks + m2 ≤ ms) (k : ∀ u : Nat → Nat, AV g D A nL Q (pc + 3) lv rest (F u) (kc + m1) (ks + m2)) : AV g D A nL Q pc lv st ws kc ks := fun H locs ls hP hD hS hl => by
  have hr := va_runIN (e := gE g) (below := gB g) (meth := gT g) (g := F0 (gM g) pc ls st) (H := H) (locs := locs) (cells := kc) (slots := ks) (As := As) (rest := rest) (Ts := tbG) ⟨X.hx, X.hb, X.hml, X.hown, X.hts⟩ (hM H.size) ⟨va_cnB np X.hts (good_code hCal.1.1) rfl rfl rfl (X.nst _ hw) (X.w hCal.1.2) hCal.2.1 (X.room hd1 hCal.2.2), hy1, X.w h5⟩ ⟨preW_blind, fun U hU hW => ⟨rfl, X.pre hP hD hU hW⟩⟩ rfl hn hl.1 hst (lv_room hcat) hd ⟨Nat.le_trans hk X.cs.1, Nat.le_trans hks X.cs.2⟩
  exact va_callv hr hS (fun q _ h => X.sub hD hS q h) (X.sub hD hS) (fun u t H1 l1 ht _ _ hB _ _ hS1 => k u H1 l1 ls (by rw [← ht]; exact hB.1) (wB_up hB (X.sub hD hS)) hS1 hl)
theorem av_cs (X : CV g cc own ret mn d mc ms D C A nL) {y : MethodName} {bytes : ByteArray} {maxL d1 np index m1 m2 : Nat} {ret1 : Option FieldType} {F : (Nat → Nat) → va_W} (As rest : List Value) (hM : CtrW (gL g) D C y bytes maxL ret1 d1 m1 m2 As ws (WR D F)) (hCal : Cal y bytes maxL ret1 np) (hw : Cond.methodLink own index y ∈ tbG) (h5 : Cond.static y ∈ tbG) (hd1 : d1 + 1 ≤ d) (hn : As.length = np) (hst : st = As.reverse ++ rest) (hcat : (rest.map fun v => v.category).sum ≤ 8) (hd : decode cc pc = .ok (.invokestatic index, 3)) (hk : kc + m1 ≤ mc) (hks : ks + m2 ≤ ms) (k : ∀ u : Nat → Nat, AV g D A nL Q (pc + 3) lv (.ref (u 0) :: rest) (F u) (kc + m1) (ks + m2)) : AV g D A nL Q pc lv st ws kc ks := fun H locs ls hP hD hS hl => by
  have hr := va_runS (e := gE g) (below := gB g) (meth := gT g) (g := F0 (gM g) pc ls st) (H := H) (locs := locs) (cells := kc) (slots := ks) (As := As) (rest := rest) (Ts := tbG) ⟨X.hx, X.hb, X.hml, X.hown, X.hts⟩ (hM H.size) ⟨callB_of np X.hts (good_code hCal.1.1) rfl rfl rfl (X.w hCal.1.2) (X.w hw) hCal.2.1 (X.room hd1 hCal.2.2), X.w h5⟩ ⟨preW_blind, fun U hU hW => ⟨rfl, X.pre hP hD hU hW⟩⟩ rfl hn hl.1 hst (lv_room hcat) hd ⟨Nat.le_trans hk X.cs.1, Nat.le_trans hks X.cs.2⟩
  exact va_callr hr hS (fun q _ h => X.sub hD hS q h) (X.sub hD hS) (fun u a t H1 l1 ht _ _ hB _ _ hS1 => by rw [hB.1]; exact k u H1 l1 ls (by rw [← ht]; exact hB.2.1) (wB_up hB.2 (X.sub hD hS)) hS1 hl)
end AVX
