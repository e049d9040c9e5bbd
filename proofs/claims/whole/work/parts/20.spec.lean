/-! PURE FROM HERE ON. What class and reference both do, in words of the reference's row of numbers -/
abbrev Sc : Type := Nat → Int32
def bi (p : Prop) [Decidable p] : Int32 := if p then 1 else 0
theorem bi_t {p : Prop} [Decidable p] (h : p) : bi p = 1 := if_pos h
theorem bi_f {p : Prop} [Decidable p] (h : ¬ p) : bi p = 0 := if_neg h
theorem bi_01 (p : Prop) [Decidable p] : bi p = 0 ∨ bi p = 1 := by unfold bi; split <;> simp
theorem wr_row (M : Mm) (i k : Nat) (x : Int32) : wr M i k x i = upd (M i) k x := by unfold wr va_up; rw [if_pos rfl]
theorem wr_oth {M : Mm} {i k j : Nat} {x : Int32} (h : j ≠ i) : wr M i k x j = M j := by unfold wr va_up; rw [if_neg h]
theorem wr_at (M : Mm) (i k : Nat) (x : Int32) : wr M i k x i k = x := by rw [wr_row, pk_us]
theorem wr_idx {M : Mm} {i k q : Nat} {x : Int32} (h : q ≠ k) : wr M i k x i q = M i q := by rw [wr_row, pk_un h]
theorem upd_comm {f : Nat → Int32} {j k : Nat} {x y : Int32} (h : j ≠ k) : upd (upd f j x) k y = upd (upd f k y) j x := by
  funext q
  unfold upd
  by_cases h1 : q = k <;> by_cases h2 : q = j <;> simp_all
theorem upd_upd {f : Nat → Int32} {k : Nat} {x y : Int32} : upd (upd f k x) k y = upd f k y := by
  funext q
  unfold upd
  by_cases h1 : q = k <;> simp_all
theorem upd_self {f : Nat → Int32} {k : Nat} : upd f k (f k) = f := by
  funext q
  unfold upd
  by_cases h1 : q = k <;> simp_all
def cx (c w : Nat) : Nat := 12 + 12 * c + w
theorem cx_ne {c d v w : Nat} (hv : v < 12) (hw : w < 12) (h : c ≠ d ∨ v ≠ w) : cx c v ≠ cx d w := by unfold cx; omega
theorem cx_lo {c w k : Nat} (h : k < 12) : cx c w ≠ k := by unfold cx; omega
theorem cx_hi {c w k : Nat} (hc : c < 8) (hw : w < 12) (h : 108 ≤ k) : cx c w ≠ k := by unfold cx; omega
theorem cx_lt {c w : Nat} (hc : c < 9) (hw : w < 12) : cx c w < 3108 := by unfold cx; omega
theorem ixc (c w : Nat) : ((12 : Int32) + (12 * nI c)) + nI w = nI (cx c w) := by
  rw [show (12 : Int32) = nI 12 from rfl, pk_mul, nI_add, nI_add]; rfl
/-! counts, sums, the last text of a key -/
def cnt (S : Sc) : Nat → Nat
  | 0 => 0
  | k + 1 => cnt S k + (if S (cx k 5) = 2 then 1 else 0)
theorem cnt_le (S : Sc) (k : Nat) : cnt S k ≤ k := by
  induction k with
  | zero => exact Nat.le_refl _
  | succ k ih => unfold cnt; split <;> omega
def sumT (S : Sc) (w : Nat) : Nat → Int32
  | 0 => 0
  | c + 1 => sumT S w c + S (cx c w)
def lastT (S : Sc) (key : Int32) : Nat → Int32
  | 0 => -1
  | t + 1 => if S (108 + 200 * t) = key then nI t else lastT S key t
theorem lastT_cases (S : Sc) (key : Int32) : ∀ k : Nat, lastT S key k = -1 ∨ ∃ t : Nat, t < k ∧ lastT S key k = nI t ∧ S (108 + 200 * t) = key
  | 0 => Or.inl rfl
  | k + 1 => by
    unfold lastT
    by_cases h : S (108 + 200 * k) = key
    · rw [if_pos h]; exact Or.inr ⟨k, Nat.lt_succ_self k, rfl, h⟩
    · rw [if_neg h]
      rcases lastT_cases S key k with h1 | ⟨t, h1, h2, h3⟩
      · exact Or.inl h1
      · exact Or.inr ⟨t, Nat.lt_succ_of_lt h1, h2, h3⟩
/-! texts: a row of steps on a pile -/
def opOK (v : Int32) : Prop := v = 124 ∨ v = 38 ∨ v = 60 ∨ v = 61 ∨ v = 62 ∨ v = 43 ∨ v = 45 ∨ v = 42 ∨ v = 47
def nmOK (key v : Int32) : Prop := (key = 0 ∧ (v = 116 ∨ v = 115 ∨ v = 97)) ∨ (key = 1 ∧ (v = 97 ∨ v = 119 ∨ v = 110)) ∨ (key = 2 ∧ (v = 103 ∨ v = 101))
def jn (v a b : Int32) : Int32 :=
  if v = 124 then bi (¬ a = 0 ∨ ¬ b = 0) else if v = 38 then bi (¬ a = 0 ∧ ¬ b = 0) else if v = 60 then bi (a < b) else if v = 61 then bi (a = b) else if v = 62 then bi (b < a) else if v = 43 then a + b else if v = 45 then a - b else if v = 42 then a * b else (if b = 0 then 0 else a / b)
def stp (w v : Int32) (env : Int32 → Int32) (l : List Int32) : List Int32 :=
  if w = 2 then (if v = 33 then (match l with | a :: r => bi (a = 0) :: r | [] => []) else (match l with | b :: a :: r => jn v a b :: r | r => r)) else (if w = 0 then v else env v) :: l
def sW (S : Sc) (t k : Nat) : Int32 := S (112 + 200 * t + 2 * k)
def sV (S : Sc) (t k : Nat) : Int32 := S (113 + 200 * t + 2 * k)
def stk (S : Sc) (t : Nat) (env : Int32 → Int32) : Nat → List Int32
  | 0 => []
  | k + 1 => stp (sW S t k) (sV S t k) env (stk S t env k)
def dpt (S : Sc) (t : Nat) : Nat → Nat
  | 0 => 0
  | k + 1 => if sW S t k = 2 then (if sV S t k = 33 then dpt S t k else dpt S t k - 1) else dpt S t k + 1
/-- a text that is well made: m steps, w numbers and names -/
def TOK (S : Sc) (t : Nat) : Prop := ∃ m w : Nat, m ≤ 95 ∧ S (110 + 200 * t) = nI m ∧ S (109 + 200 * t) = nI w ∧ w ≤ 95 ∧ dpt S t m = 1 ∧ (S (108 + 200 * t) = 0 ∨ S (108 + 200 * t) = 1 ∨ S (108 + 200 * t) = 2) ∧ (∀ k : Nat, k ≤ m → dpt S t k ≤ w) ∧
  ∀ k : Nat, k < m → (sW S t k = 0 ∧ ¬ sV S t k < 0) ∨ (sW S t k = 1 ∧ nmOK (S (108 + 200 * t)) (sV S t k)) ∨ (sW S t k = 2 ∧ sV S t k = 33 ∧ 1 ≤ dpt S t k) ∨ (sW S t k = 2 ∧ opOK (sV S t k) ∧ 2 ≤ dpt S t k)
def evT (S : Sc) (t : Nat) (env : Int32 → Int32) : Int32 := (stk S t env (S (110 + 200 * t)).toNatClampNeg).headD 0
theorem op_ne {v : Int32} (h : opOK v) : ¬ v = 33 := by
  rcases h with h | h | h | h | h | h | h | h | h <;> rw [h] <;> decide
theorem stk_len {S : Sc} {t m : Nat} {env : Int32 → Int32} (hv : ∀ k : Nat, k < m → (sW S t k = 0 ∧ ¬ sV S t k < 0) ∨ (sW S t k = 1 ∧ nmOK (S (108 + 200 * t)) (sV S t k)) ∨ (sW S t k = 2 ∧ sV S t k = 33 ∧ 1 ≤ dpt S t k) ∨ (sW S t k = 2 ∧ opOK (sV S t k) ∧ 2 ≤ dpt S t k)) : ∀ k : Nat, k ≤ m → (stk S t env k).length = dpt S t k
  | 0, _ => rfl
  | k + 1, hk => by
    have ih := stk_len hv (env := env) k (by omega)
    unfold stk dpt
    have h01 : ¬ (0 : Int32) = 2 := by decide
    have h12 : ¬ (1 : Int32) = 2 := by decide
    rcases hv k hk with ⟨h, -⟩ | ⟨h, -⟩ | ⟨h, h2, h3⟩ | ⟨h, h2, h3⟩
    · rw [h]; unfold stp; rw [if_neg h01, if_neg h01]; simp [ih]
    · rw [h]; unfold stp; rw [if_neg h12, if_neg h12]; simp [ih]
    · rw [h, h2]; unfold stp
      rw [if_pos rfl, if_pos rfl, if_pos rfl, if_pos rfl, ← ih]
      cases stk S t env k <;> rfl
    · rw [h]; unfold stp
      rw [if_pos rfl, if_neg (op_ne h2), if_pos rfl, if_neg (op_ne h2), ← ih]
      rw [← ih] at h3
      match stk S t env k, h3 with
      | b :: a :: r, _ => simp
      | [b], h3 => simp at h3
      | [], h3 => simp at h3
theorem dpt_le (S : Sc) (t : Nat) : ∀ k : Nat, dpt S t k ≤ k
  | 0 => Nat.le_refl _
  | k + 1 => by
    have := dpt_le S t k
    unfold dpt
    split
    · split <;> omega
    · omega
/-- the pile as a row: the list's top is the last -/
def PR (P : Nat → Int32) : List Int32 → Prop
  | [] => True
  | a :: r => P r.length = a ∧ PR P r
theorem PR_upd {P : Nat → Int32} {k : Nat} {x : Int32} : ∀ {l : List Int32}, l.length ≤ k → PR P l → PR (upd P k x) l
  | [], _, _ => trivial
  | a :: r, hk, h => by
    have hk : r.length + 1 ≤ k := hk
    exact ⟨by rw [pk_un (by omega)]; exact h.1, PR_upd (by omega) h.2⟩
theorem PR_push {P : Nat → Int32} {l : List Int32} {x : Int32} (h : PR P l) : PR (upd P l.length x) (x :: l) := ⟨pk_us, PR_upd (Nat.le_refl _) h⟩
theorem PR_top {P : Nat → Int32} {a x : Int32} {r : List Int32} (h : PR P (a :: r)) : PR (upd P r.length x) (x :: r) := ⟨pk_us, PR_upd (Nat.le_refl _) h.2⟩
/-! ways, by the row of numbers; tx: how many texts -/
def nTx (S : Sc) : Nat := (S 1).toNatClampNeg
def nCo (S : Sc) : Nat := (S 0).toNatClampNeg
def envL (S : Sc) (c : Nat) (v : Int32) : Int32 := if v = 116 then jrem (S 2) 1440 else if v = 115 then S (cx c 8) else S (cx c 1)
def envS (S : Sc) (c : Nat) (v : Int32) : Int32 := if v = 97 then S (cx c 1) else if v = 119 then S 5 else nI (cnt S (nCo S))
def envF (S : Sc) (c : Nat) (v : Int32) : Int32 := if v = 103 then S (cx c 9) else S (cx c 10)
def plv (S : Sc) (c : Nat) : Int32 := if lastT S 0 (nTx S) < 0 then bi (jrem (S 2) 60 = S (cx c 1)) else bi (¬ evT S (lastT S 0 (nTx S)).toNatClampNeg (envL S c) = 0)
def wlv (S : Sc) (c : Nat) : Int32 := if S (cx c 0) = 1 then bi (¬ S (cx c 8) < S (cx c 1)) else if S (cx c 0) = 3 then bi (¬ S (cx c 8) < S (cx c 1) ∧ ¬ S 5 ≤ 0) else if S (cx c 0) = 5 then bi (¬ plv S c = 0 ∧ cnt S (nCo S) = 0) else plv S c
def hld (x : Int32) : Int32 := if 0 ≤ x then (if x ≤ 99 then x else 99) else 0
def stg (S : Sc) (c : Nat) : Int32 := if lastT S 1 (nTx S) < 0 then 0 else hld (evT S (lastT S 1 (nTx S)).toNatClampNeg (envS S c))
def stv (S : Sc) (c : Nat) : Int32 := if S (cx c 0) = 2 then stg S c + S (cx c 1) else if S (cx c 0) = 4 then 2 * (stg S c + S (cx c 1)) else stg S c
def wrt (S : Sc) (c : Nat) : Int32 := if S (cx c 0) = 1 then S (cx c 1) + 3 else if S (cx c 0) = 2 then 60 - S (cx c 1) else if S (cx c 0) = 3 then 2 * (S (cx c 1) + 3) else if S (cx c 0) = 4 then 55 - S (cx c 1) else if S (cx c 0) = 5 then 30 else S (cx c 1)
/-! a minute -/
def drw (S : Sc) : Sc := upd S 10 (S 10 * 1103515245 + 12345)
def drv (S : Sc) : Int32 := jushr (S 10) 8
def sinc (S : Sc) (c : Nat) : Sc := upd S (cx c 8) (S (cx c 8) + 1)
def goO (S : Sc) (c : Nat) : Sc := upd (upd S (cx c 5) 1) (cx c 6) (S (cx c 2))
def goB (S : Sc) (c : Nat) : Sc := upd (upd S (cx c 5) 3) (cx c 6) (S (cx c 2))
def lv1 (S : Sc) (c : Nat) : Sc := if S (cx c 5) = 0 then (if S (cx c 4) ≤ 0 then sinc S c else if wlv S c = 0 then sinc S c else if jrem (drv (drw S)) 100 < drw S 7 then sinc (drw S) c else goO (drw S) c) else S
def lvK (S : Sc) : Nat → Sc
  | 0 => S
  | c + 1 => lv1 (lvK S c) c
def mn3 (a b c : Int32) : Int32 := if c < (if b < a then b else a) then c else (if b < a then b else a)
def emp (S : Sc) (c : Nat) : Sc := upd S (cx c 10) (S (cx c 10) + 1)
def tke (S : Sc) (c : Nat) (k : Int32) : Sc := goB (upd (upd (upd S 5 (S 5 - k)) (cx c 4) (S (cx c 4) - k)) (cx c 9) (S (cx c 9) + k)) c
def stn (S : Sc) (c : Nat) : Sc := upd (upd S (cx c 5) 2) (cx c 7) 0
def ar0 (S : Sc) (c : Nat) : Sc := if stv S c ≤ 0 then emp (goB S c) c else stn S c
def ar1 (S : Sc) (c : Nat) : Sc := if cnt S (nCo S) = 0 ∧ ¬ S 5 ≤ 0 then tke S c (mn3 (S 6) (S (cx c 4)) (S 5)) else ar0 S c
def arr (S : Sc) (c : Nat) : Sc := ar1 (upd S (cx c 11) (S (cx c 11) + 1)) c
def les (S : Sc) (c : Nat) : Sc := upd S (cx c 6) (S (cx c 6) - 1)
def cm1 (S : Sc) (c : Nat) : Sc := if S (cx c 5) = 1 then (if les S c (cx c 6) = 0 then arr (les S c) c else les S c) else S
def cmb (S : Sc) (c : Nat) (b : Int32) : Int32 := if S (cx c 5) = 1 then (if les S c (cx c 6) = 0 then 1 else b) else b
def cmK (S : Sc) : Nat → Sc
  | 0 => S
  | c + 1 => cm1 (cmK S c) c
def cbK (S : Sc) : Nat → Int32
  | 0 => 0
  | c + 1 => cmb (cmK S c) c (cbK S c)
def wai (S : Sc) (c : Nat) : Sc := upd (upd S (cx c 7) (S (cx c 7) + 1)) 9 (upd S (cx c 7) (S (cx c 7) + 1) 9 + 1)
def wt1 (B : Nat → Int32) (S : Sc) (c : Nat) : Sc := if B c = 2 then (if wai S c (cx c 7) < stv (wai S c) c then wai S c else emp (goB (wai S c) c) c) else S
def hm1 (B : Nat → Int32) (S : Sc) (c : Nat) : Sc := if B c = 3 then (if les S c (cx c 6) = 0 then upd (upd (les S c) (cx c 5) 0) (cx c 8) 0 else les S c) else S
def wgK (B : Nat → Int32) (S : Sc) : Nat → Sc
  | 0 => S
  | c + 1 => hm1 B (wt1 B (wgK B S c) c) c
def qui (S : Sc) (came : Int32) (stood : Nat) : Sc := if came = 0 ∧ stood = 0 then (if S 8 + 1 < S 3 then upd S 8 (S 8 + 1) else upd (upd S 8 0) 5 (S 5 + bi (¬ S 4 ≤ S 5))) else upd S 8 0
def wnt (only : Int32) (S : Sc) (c : Nat) : Sc := upd S (cx c 4) (if only < 0 ∨ only = nI c then S (cx c 3) else 0)
def wnK (only : Int32) (S : Sc) : Nat → Sc
  | 0 => S
  | c + 1 => wnt only (wnK only S c) c
def mnt (S : Sc) : Sc := upd S 2 (S 2 + 1)
def eod (only : Int32) (S : Sc) : Sc := if jrem (mnt S 2) 1440 = 0 then wnK only (mnt S) (nCo S) else mnt S
def pt1 (S : Sc) : Sc := cmK (lvK S (nCo S)) (nCo S)
def pt2 (S : Sc) : Sc := wgK (fun c => S (cx c 5)) (pt1 S) (nCo S)
def mi1 (only : Int32) (S : Sc) : Sc := eod only (qui (pt2 S) (cbK (lvK S (nCo S)) (nCo S)) (cnt (pt2 S) (nCo S)))
/-- whether somebody stands behind this minute -/
def msb (S : Sc) : Int32 := bi (¬ cnt (pt2 S) (nCo S) = 0)
def miK (only : Int32) (S : Sc) : Nat → Sc
  | 0 => S
  | k + 1 => mi1 only (miK only S k)
def sbK (only : Int32) (S : Sc) : Nat → Int32
  | 0 => 0
  | k + 1 => sbK only S k + msb (miK only S k)
