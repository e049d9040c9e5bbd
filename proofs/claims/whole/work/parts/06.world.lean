/-! the world of class and reference, cells by number -/
abbrev Mm : Type := Nat → Nat → Int32
def wr (M : Mm) (i k : Nat) (x : Int32) : Mm := va_up M i (upd (M i) k x)
abbrev cls : List vw_C := [(RX0, TX0, 13), (RX1, TX1, 7), (RX2, TX2, 2), (RX3, TX3, 14), (RX4, TX4, 3), (RX5, TX5, 4), (RX6, TX6, 4), (RX7, TX7, 9), (RX8, TX8, 34)]
/-- what kind of cell a number is: 1 ShyWell, 2 Scene, 3 laws, 4 comers, 5 Comer, 6 Reader, 7 Row, 8 sheets, 9 Sheet, 10 slots, 11 Slot, 12 reference, 20 Text, 21 its steps, 22 its pile, 1000 + n: a row of n ints -/
def tpL : List Nat := [1, 2, 3, 1003, 4, 5, 5, 5, 5, 5, 5, 5, 5, 2, 3, 1003, 4, 5, 5, 5, 5, 5, 5, 5, 5, 2, 3, 1003, 4, 5, 5, 5, 5, 5, 5, 5, 5, 6, 7, 1096, 7, 1096, 7, 1060, 8, 9, 1024, 9, 1024, 9, 1024, 9, 1024, 10, 11, 5, 9, 1024, 11, 5, 9, 1024, 11, 5, 9, 1024, 11, 5, 9, 1024, 11, 5, 9, 1024, 12, 4108, 4108, 4108, 1004, 1004, 1096, 1005, 1005, 1005, 1005, 1120, 1008, 1108, 1096, 1128, 1100, 1024, 1060, 1060]
def tp (i : Nat) : Nat := if i < 94 then tpL.getD i 0 else 20 + (i - 94) % 3
def LEN : Nat := 2147483648
abbrev En : Type := va_G × (Nat → ClassId) × (Nat → Nat) × (Nat → Nat) × Nat
abbrev eD (E : En) : va_G := E.1
abbrev eC (E : En) : Nat → ClassId := E.2.1
abbrev eA (E : En) : Nat → Nat := E.2.2.1
abbrev eS (E : En) : Nat → Nat := E.2.2.2.1
abbrev eN (E : En) : Nat := E.2.2.2.2
def lawR (ad : Nat → Nat) (x : Int32) : Option Nat := if x = 0 then none else some (ad x.toNatClampNeg)
abbrev qa (f : Nat → Option Nat) : (Nat → Int32) ⊕ (Nat → Int64) ⊕ (Nat → UInt32) ⊕ (Nat → UInt64) ⊕ (Nat → Option Nat) := .inr (.inr (.inr (.inr f)))
def shT (t : Nat) (C : Nat → ClassId) (ad : Nat → Nat) (i : Nat) (m : Nat → Int32) : va_E := match t with
  | 1 => .inr (7, [.ref (ad 1), .ref (ad 13), .ref (ad 25), .int (m 3), .ref (ad 37), .ref (ad 38), .ref (ad 42), .ref (ad 44), .ref (ad 53)])
  | 2 => .inr (3, [.ref (ad (i + 1)), .ref (ad (i + 2)), .int (m 2), .ref (ad (i + 3)), .int (m 4), .int (m 5), .int (m 6), .int (m 7), .int (m 8), .int (m 9), .int (m 10), .int (m 11), .int (m 12), .int (m 13)])
  | 3 => .inl (C 2, 14, qa (fun j => lawR ad (m j)))
  | 4 => .inl (C 1, 8, qa (fun j => some (ad (i + 1 + j))))
  | 5 => .inr (0, [.int (m 0), .int (m 1), .int (m 2), .int (m 3), .int (m 4), .int (m 5), .int (m 6), .int (m 7), .int (m 8), .int (m 9), .int (m 10), .int (m 11), .int (m 12)])
  | 6 => .inr (1, [.ref (ad (i + 1)), .ref (ad (i + 3)), .int (m 2), .int (m 3), .int (m 4), .int (m 5), .int (m 6)])
  | 7 => .inr (2, [.ref (ad (i + 1)), .int (m 1)])
  | 8 => .inl (C 3, 4, qa (fun j => some (ad (i + 1 + 2 * j))))
  | 9 => .inr (4, [.ref (ad (i + 1)), .int (m 1), .int (m 2)])
  | 10 => .inl (C 4, 5, qa (fun j => some (ad (i + 1 + 4 * j))))
  | 11 => .inr (5, [.ref (ad (i + 1)), .ref (ad (i + 2)), .int (m 2), .int (m 3)])
  | 12 => .inr (8, [.ref (ad 75), .ref (ad 76), .ref (ad 77), .int (m 3), .ref (ad 78), .ref (ad 79), .ref (ad 80), .ref (ad 81), .ref (ad 82), .ref (ad 83), .ref (ad 84), .ref (ad 85), .ref (ad 86), .int (m 13), .int (m 14), .ref (ad 87), .ref (ad 88), .int (m 17), .int (m 18), .int (m 19), .int (m 20), .int (m 21), .int (m 22), .int (m 23), .int (m 24), .int (m 25), .int (m 26), .int (m 27), .ref (ad 89), .ref (ad 90), .ref (ad 91), .ref (ad 92), .int (m 32), .ref (ad 93)])
  | 20 => .inr (6, [.int (m 0), .int (m 1), .ref (ad (i + 1)), .ref (ad (i + 2))])
  | 21 => .inl (C 0, (m LEN).toNatClampNeg, .inl m)
  | 22 => .inl (C 0, (m LEN).toNatClampNeg, .inl m)
  | t => .inl (C 0, t - 1000, .inl m)
def sh (E : En) (i : Nat) (m : Nat → Int32) : va_E := shT (tp i) (eC E) (eA E) i m
theorem sh_of {E : En} {i t : Nat} (h : tp i = t) (m : Nat → Int32) : sh E i m = shT t (eC E) (eA E) i m := by unfold sh; rw [h]
/-- a row of ints of known length -/
theorem sh_ia {E : En} {i : Nat} (n : Nat) (h : tp i = 1000 + n) (m : Nat → Int32) : sh E i m = .inl (eC E 0, n, .inl m) := by
  rw [sh_of h]
  unfold shT
  split
  all_goals (first | omega | (simp; done) | (simp; omega))
theorem sh_tx {E : En} {i : Nat} (h : tp i = 21 ∨ tp i = 22) (m : Nat → Int32) : sh E i m = .inl (eC E 0, (m LEN).toNatClampNeg, .inl m) := by
  rcases h with h | h <;> rw [sh_of h] <;> rfl
def wd (E : En) (M : Mm) : va_W := (List.range (eN E)).map (fun i => (eA E i, sh E i (M i)))
theorem wd_get {E : En} {M : Mm} {i : Nat} (h : i < eN E) : (wd E M)[i]? = some (eA E i, sh E i (M i)) := by
  simp [wd, List.getElem?_map, List.getElem?_range h]
theorem wd_at {E : En} {M : Mm} {i : Nat} {e : va_E} (h : i < eN E) (he : sh E i (M i) = e) : (wd E M)[i]? = some (eA E i, e) := by rw [wd_get h, he]
theorem wd_len {E : En} {M : Mm} : (wd E M).length = eN E := by simp [wd]
theorem wd_set {E : En} {M : Mm} {i : Nat} {e : va_E} {f : Nat → Int32} (h : i < eN E) (he : sh E i f = e) : (wd E M).set i (eA E i, e) = wd E (va_up M i f) := by
  subst he
  apply List.ext_getElem?
  intro k
  rw [List.getElem?_set]
  by_cases hk : i = k
  · subst hk
    rw [if_pos rfl, if_pos (by rw [wd_len]; exact h), wd_get h]
    simp [va_up]
  · rw [if_neg hk]
    by_cases h2 : k < eN E
    · rw [wd_get h2, wd_get h2]
      simp [va_up, Ne.symm hk]
    · rw [List.getElem?_eq_none (by rw [wd_len]; omega), List.getElem?_eq_none (by rw [wd_len]; omega)]
/-- the addresses: apart, and of a kind -/
def aD (A : Nat → Prop) (E : En) : Prop := (∀ i j : Nat, i < eN E → j < eN E → eA E i = eA E j → i = j) ∧ ∀ i : Nat, i < eN E → A (eA E i)
theorem aD.D {A : Nat → Prop} {E : En} (h : aD A E) (M : Mm) : va_D A (wd E M) := by
  have hget : ∀ (k : Nat) (q : Nat × va_E), (wd E M)[k]? = some q → k < eN E ∧ q.1 = eA E k := by
    intro k q hq
    have hk : k < (wd E M).length := (List.getElem?_eq_some_iff.mp hq).1
    rw [wd_len] at hk
    rw [wd_get hk] at hq
    exact ⟨hk, by rw [← Option.some.inj hq]⟩
  refine ⟨fun i j p q hi hj he => ?_, fun k q hk => ?_⟩
  · obtain ⟨a1, a2⟩ := hget i p hi
    obtain ⟨b1, b2⟩ := hget j q hj
    exact h.1 i j a1 b1 (by rw [← a2, ← b2]; exact he)
  · obtain ⟨a1, a2⟩ := hget k q hk
    rw [a2]
    exact h.2 k a1
def aA (E : En) (sz : Nat) : Nat → Prop := fun q => (∃ i : Nat, i < eN E ∧ eA E i = q) ∨ sz ≤ q
/-! the words -/
def isNest : Cond → Bool
  | .fieldLinkNest _ _ _ _ _ _ => true
  | .methodLinkNest _ _ _ _ => true
  | _ => false
def tbG : List Cond := lw_tbl.filter goodWord
def tbN : List Cond := lw_tbl.filter isNest
theorem tb_g {w : Cond} (i : Nat) (h : lw_tbl[i]? = some w) (hg : goodWord w = true) : w ∈ tbG := List.mem_filter.mpr ⟨List.mem_of_getElem? h, hg⟩
theorem tb_n {w : Cond} (i : Nat) (h : lw_tbl[i]? = some w) (hg : isNest w = true) : w ∈ tbN := List.mem_filter.mpr ⟨List.mem_of_getElem? h, hg⟩
theorem tbG_good : GoodIn tbG tbG := fun w h => ⟨h, good_of_word (List.mem_filter.mp h).2⟩
def Nst (U : State) : Prop := ∀ w ∈ tbN, va_Nw w U
theorem Nst.same {u U : State} (h : u.vm = U.vm) (hN : Nst u) : Nst U := by
  intro w hw
  have h2 := (List.mem_filter.mp hw).2
  have ht : w.onTables = true := by
    cases w <;> first | rfl | (simp [isNest] at h2)
  exact va_Nw.same ht h (hN w hw)
theorem Nst.warm {s U : State} (hW : s.WarmedH U.vm) (hN : Nst s) : Nst U := by
  intro w hw
  have h2 := (List.mem_filter.mp hw).2
  have h3 := hN w hw
  cases w <;> first | exact va_Nw.warmF hW h3 | exact va_Nw.warmM hW h3 | (simp [isNest] at h2)
/-! what lies outside the world: the class's own rows of constants, the texts, what the library reads -/
def sArr (nm : String) (t N : Nat) (vs : List Int32) (A : Nat → Prop) (U : State) (H : Heap) : Prop := va_Z "ShyWell" nm "[I" (.ref t) A U H ∧ va_T .int t N (fun j => .int (vs.getD j 0)) A U H
def Str (tS : Nat → Nat) (U : State) : Prop := vk_R RX1 75 "leave" (tS 10) U ∧ vk_R RX1 81 "stay" (tS 11) U ∧ vk_R RX1 83 "fine" (tS 12) U ∧ vk_R RX1 125 "tsa" (tS 13) U ∧ vk_R RX1 127 "awn" (tS 14) U ∧ vk_R RX1 129 "ge" (tS 15) U
abbrev sLen : List Nat := [5, 4, 4, 3, 3, 2]
abbrev sByt : List (List Int32) := [[108, 101, 97, 118, 101], [115, 116, 97, 121], [102, 105, 110, 101], [116, 115, 97], [97, 119, 110], [103, 101]]
def Sta (tS : Nat → Nat) (A : Nat → Prop) (U : State) (H : Heap) : Prop :=
  (sArr "ABOVE" (tS 0) 6 [-1, 0, 0, 1, 2, 0] A U H ∧ sArr "HABIT_LEAST" (tS 1) 5 [0, 0, 1, 0, 0] A U H ∧ sArr "HABIT_MOST" (tS 2) 5 [5, 59, 30, 9, 9] A U H ∧ sArr "WELL_LEAST" (tS 3) 5 [1, 0, 0, 1, 0] A U H ∧ sArr "WELL_MOST" (tS 4) 5 [60, 99, 99, 9, 100] A U H) ∧
  vk_S 6 sLen sByt (fun i => tS (10 + i)) (fun i => tS (20 + i)) A U H ∧ va_Z "java/lang/String" "COMPACT_STRINGS" "Z" (.int 1) A U H ∧ va_Zq "jdk/internal/util/Preconditions" "SIOOBE_FORMATTER" "Ljava/util/function/BiFunction;" A U H
theorem sArr.go {nm : String} {t N : Nat} {vs : List Int32} {A B : Nat → Prop} {u U : State} {H H1 : Heap} (hvm : u.vm.Alike U.vm) (hq : ∀ a : Nat, a < H.size → ¬ A a → H1[a]? = H[a]?) (hAB : ∀ q, B q → A q) (h : sArr nm t N vs A u H) : sArr nm t N vs B U H1 :=
  ⟨((h.1.moved hvm).kept hq).narrow hAB, ((h.2.moved hvm).kept hq).narrow hAB⟩
theorem Sta.go {tS : Nat → Nat} {A B : Nat → Prop} {u U : State} {H H1 : Heap} (hvm : u.vm.Alike U.vm) (hq : ∀ a : Nat, a < H.size → ¬ A a → H1[a]? = H[a]?) (hAB : ∀ q, B q → A q) (h : Sta tS A u H) : Sta tS B U H1 :=
  ⟨⟨h.1.1.go hvm hq hAB, h.1.2.1.go hvm hq hAB, h.1.2.2.1.go hvm hq hAB, h.1.2.2.2.1.go hvm hq hAB, h.1.2.2.2.2.go hvm hq hAB⟩, ((h.2.1.moved hvm).kept hq).narrow hAB, ((h.2.2.1.moved hvm).kept hq).narrow hAB, ((h.2.2.2.moved hvm).kept hq).narrow hAB⟩
theorem Str.same {tS : Nat → Nat} {u U : State} (hv : U.vm = u.vm) (h : Str tS u) : Str tS U :=
  ⟨h.1.same hv, h.2.1.same hv, h.2.2.1.same hv, h.2.2.2.1.same hv, h.2.2.2.2.1.same hv, h.2.2.2.2.2.same hv⟩
theorem Str.warm {tS : Nat → Nat} {s U : State} (hW : s.WarmedH U.vm) (h : Str tS s) : Str tS U :=
  ⟨h.1.warm hW, h.2.1.warm hW, h.2.2.1.warm hW, h.2.2.2.1.warm hW, h.2.2.2.2.1.warm hW, h.2.2.2.2.2.warm hW⟩
abbrev tyl (C : Nat → ClassId) : List (ClassId × FieldType) := [(C 0, .int), (C 1, .object "ShyWell$Comer"), (C 2, .object "ShyWell$Text"), (C 3, .object "ShyWell$Sheet"), (C 4, .object "ShyWell$Slot")]
/-- a contract's start -/
def Pre (E : En) (M : Mm) (sz : Nat) (U : State) : Prop := U.heap.size = sz ∧ va_P (eD E) cls (wd E M) U.heap ∧ va_K (eD E) cls (tyl (eC E)) U ∧ aD (aA E sz) E ∧ Sta (eS E) (aA E sz) U U.heap ∧ Str (eS E) U ∧ Nst U ∧ 94 ≤ eN E ∧ eN E ≤ 1000
def rmD (d : Nat) : Room := { frames := d, cells := 0, slots := 0, locals := 40 * d }
def Ctr (l : Launch) (E : En) (y : MethodName) (cc : ByteArray) (maxL : Nat) (ret : Option FieldType) (d : Nat) (av : List Value) (M : Mm) (Qc : (Nat → Prop) → Array Value → State → Outcome → State → Prop) : Prop :=
  ∀ sz : Nat, Met l y (.code y cc maxL ret :: tbG) (rmD d) (va_Pc av (Pre E M sz)) (Qc (aA E sz)) 0 0 (aA E sz)
abbrev wdB (E : En) (M : Mm) (t : State) : Prop := va_P (eD E) cls (wd E M) t.heap
def QI (E : En) (K : Mm → Int32 → Prop) (A : Nat → Prop) : Array Value → State → Outcome → State → Prop := va_Qi (fun r M => K M r) (wdB E) A
def QV (E : En) (K : Mm → Prop) (A : Nat → Prop) : Array Value → State → Outcome → State → Prop := va_Qv (fun M => K M) (wdB E) A
def QL (E : En) (K : Mm → Int64 → Prop) (A : Nat → Prop) : Array Value → State → Outcome → State → Prop := va_Ql (fun r M => K M r) (wdB E) A
def QQ (E : En) (K : Mm → Option Nat → Prop) (A : Nat → Prop) : Array Value → State → Outcome → State → Prop := va_Qq (fun r (u : Mm × Option Nat) => r = u.2.map (eA E) ∧ K u.1 u.2) (fun u t => wdB E u.1 t) A
/-- an answer that is one of the texts -/
def QT (E : En) (K : Mm → Nat → Prop) (A : Nat → Prop) : Array Value → State → Outcome → State → Prop := va_Qq (fun r (u : Mm × Nat) => r = some (eS E (10 + u.2)) ∧ K u.1 u.2) (fun u t => wdB E u.1 t) A
/-! the walk -/
abbrev Gm : Type := Program × Launch × Env × Room × State × MethodId × Array Value × List Frame × Method × Code × Nat × Nat
abbrev gP (g : Gm) : Program := g.1
abbrev gL (g : Gm) : Launch := g.2.1
abbrev gE (g : Gm) : Env := g.2.2.1
abbrev gR (g : Gm) : Room := g.2.2.2.1
abbrev gS (g : Gm) : State := g.2.2.2.2.1
abbrev gM (g : Gm) : MethodId := g.2.2.2.2.2.1
abbrev gA (g : Gm) : Array Value := g.2.2.2.2.2.2.1
abbrev gB (g : Gm) : List Frame := g.2.2.2.2.2.2.2.1
abbrev gT (g : Gm) : Method := g.2.2.2.2.2.2.2.2.1
abbrev gC (g : Gm) : Code := g.2.2.2.2.2.2.2.2.2.1
abbrev gk (g : Gm) : Nat := g.2.2.2.2.2.2.2.2.2.2.1
abbrev gn (g : Gm) : Nat := g.2.2.2.2.2.2.2.2.2.2.2
abbrev WG (g : Gm) (H : Heap) (locs : List Loc) (Q : State → Prop) (F : JFrame) : Prop := W (gP g) (gL g) (gE g) (gR g) (gS g) (gM g) (gA g) (gB g) (gT g) (gC g) H locs (gk g) (gn g) Q F
def AW (g : Gm) (E : En) (A : Nat → Prop) (nL : Nat) (Q : State → Prop) (pc : Nat) (lv : List (Nat × Value)) (st : List Value) (M : Mm) : Prop :=
  ∀ (H : Heap) (locs : List Loc) (ls : Array Slot), va_P (eD E) cls (wd E M) H → va_S A (gS g).heap H locs → lv_has ls nL lv → WG g H locs Q (F0 (gM g) pc ls st)
def CX (g : Gm) (cc : ByteArray) (own : String) (ret : Option FieldType) (d : Nat) (E : En) (A : Nat → Prop) (nL : Nat) : Prop :=
  (gP g).tables.exec = Jvm.exec ∧ (gC g).code = cc ∧ (gC g).maxLocals = nL ∧ (gS g).vm.findClass own = some (gM g).cls ∧ (∀ w ∈ tbG, w.before (gA g) (gS g) = true) ∧ Nst (gS g) ∧ va_K (eD E) cls (tyl (eC E)) (gS g) ∧ aD A E ∧ Sta (eS E) A (gS g) (gS g).heap ∧ Str (eS E) (gS g) ∧ (94 ≤ eN E ∧ eN E ≤ 1000) ∧ (∀ q, (gS g).heap.size ≤ q → A q) ∧ ((gT g).sig.returnType = ret ∧ (gT g).locks = false) ∧ (d ≤ (gR g).frames ∧ 40 * d ≤ (gR g).locals) ∧ (gk g ≤ (gR g).cells ∧ gn g ≤ (gR g).slots)
section AWX
variable {g : Gm} {cc : ByteArray} {own : String} {ret : Option FieldType} {d : Nat} {E : En} {A : Nat → Prop} {nL : Nat}
theorem CX.hx (X : CX g cc own ret d E A nL) : (gP g).tables.exec = Jvm.exec := X.1
theorem CX.hb (X : CX g cc own ret d E A nL) : (gC g).code = cc := X.2.1
theorem CX.hml (X : CX g cc own ret d E A nL) : (gC g).maxLocals = nL := X.2.2.1
theorem CX.hown (X : CX g cc own ret d E A nL) : (gS g).vm.findClass own = some (gM g).cls := X.2.2.2.1
theorem CX.hts (X : CX g cc own ret d E A nL) : ∀ w ∈ tbG, w.before (gA g) (gS g) = true := X.2.2.2.2.1
theorem CX.nst (X : CX g cc own ret d E A nL) : Nst (gS g) := X.2.2.2.2.2.1
theorem CX.hK (X : CX g cc own ret d E A nL) : va_K (eD E) cls (tyl (eC E)) (gS g) := X.2.2.2.2.2.2.1
theorem CX.aD (X : CX g cc own ret d E A nL) : aD A E := X.2.2.2.2.2.2.2.1
theorem CX.sta (X : CX g cc own ret d E A nL) : Sta (eS E) A (gS g) (gS g).heap := X.2.2.2.2.2.2.2.2.1
theorem CX.str (X : CX g cc own ret d E A nL) : Str (eS E) (gS g) := X.2.2.2.2.2.2.2.2.2.1
theorem CX.lo (X : CX g cc own ret d E A nL) : 94 ≤ eN E := X.2.2.2.2.2.2.2.2.2.2.1.1
theorem CX.hi (X : CX g cc own ret d E A nL) : eN E ≤ 1000 := X.2.2.2.2.2.2.2.2.2.2.1.2
theorem CX.hA (X : CX g cc own ret d E A nL) : ∀ q, (gS g).heap.size ≤ q → A q := X.2.2.2.2.2.2.2.2.2.2.2.1
theorem CX.hr (X : CX g cc own ret d E A nL) : (gT g).sig.returnType = ret := X.2.2.2.2.2.2.2.2.2.2.2.2.1.1
theorem CX.lk (X : CX g cc own ret d E A nL) : (gT g).locks = false := X.2.2.2.2.2.2.2.2.2.2.2.2.1.2
theorem CX.rm (X : CX g cc own ret d E A nL) : d ≤ (gR g).frames ∧ 40 * d ≤ (gR g).locals := X.2.2.2.2.2.2.2.2.2.2.2.2.2.1
theorem CX.cs (X : CX g cc own ret d E A nL) : gk g ≤ (gR g).cells ∧ gn g ≤ (gR g).slots := X.2.2.2.2.2.2.2.2.2.2.2.2.2.2
theorem CX.D (X : CX g cc own ret d E A nL) (M : Mm) : va_D A (wd E M) := X.aD.D M
theorem CX.w (X : CX g cc own ret d E A nL) {w : Cond} (h : w ∈ tbG) : w.before (gA g) (gS g) = true := X.hts w h
theorem CX.nw (X : CX g cc own ret d E A nL) {w : Cond} (h : w ∈ tbN) : va_Nw w (gS g) := X.nst w h
/-- from a contract to the walk of its body -/
theorem Ctr.of {l : Launch} {y : MethodName} {maxL : Nat} {av : List Value} {M : Mm} {Qc : (Nat → Prop) → Array Value → State → Outcome → State → Prop} (hy : plainName y.cls = true) (hlen : (lg_sl av).length ≤ maxL)
    (body : ∀ (g : Gm) (A : Nat → Prop), gL g = l → CX g cc y.cls ret d E A maxL → AW g E A maxL (MQ (gB g) (Qc A) (gA g) (gS g) (gk g) (gn g) A) 0 (lv_args 0 av) [] M) : Ctr l E y cc maxL ret d av M Qc := by
  intro sz
  refine Met.ofW (cc := cc) (maxL := maxL) (ret := ret) hy rfl ?_
  intro p e s m args below meth c s₁ B hml hv
  obtain ⟨rfl, hsz, hP, hK, hD, hSt, hSr, hN, hlo, hhi⟩ := hv
  subst hsz
  have hts := atoms_spec (ws := .code y cc maxL ret :: tbG) B.pre
  have h := body (p, l, e, (headSpec (.code y cc maxL ret :: tbG) (rmD d)).room, s, m, av.toArray, below, meth, c, 0, 0) (aA E s.heap.size) rfl
    ⟨B.exec, B.bytes, hml, findClass_of_methodNamed B.named, fun w hw => hts w (List.mem_cons_of_mem _ hw), hN, hK, hD, hSt, hSr, ⟨hlo, hhi⟩, fun q hq => Or.inr hq, ⟨B.returns, B.notSynchronized⟩, ⟨Nat.le_refl _, Nat.le_refl _⟩, ⟨Nat.zero_le _, Nat.zero_le _⟩⟩
  rw [lg_entry_eq]
  exact h s.heap [] _ hP va_S.rf (lv_entry av hlen)
variable {Q : State → Prop} {pc : Nat} {lv : List (Nat × Value)} {st : List Value} {M : Mm}
/-- fewer locals -/
theorem aw_sub (ks : List Nat) {lv' : List (Nat × Value)} (hl : lv_pick lv ks = lv') (k : AW g E A nL Q pc lv' st M) : AW g E A nL Q pc lv st M := fun H locs ls hP hS h => k H locs ls hP hS (lv_sub h ks hl)
end AWX
