/-! the grammar: what class and reference both make of the tokens -/
abbrev Tk : Type := Nat × Nat × Nat
def nk (B : Nat → Int32) (s : Nat) (k : Tk) : Tk := (nxP B s k.2.1, nxE B s k.2.1, nxS B s k.2.1 k.2.2)
def isS (B : Nat → Int32) (k : Tk) (c : Int32) : Prop := k.2.2 = 3 ∧ B k.1 = c
def opl (B : Nat → Int32) (k : Tk) (l : Nat) : Prop := k.2.2 = 3 ∧ ((l = 0 ∧ B k.1 = 124) ∨ (l = 1 ∧ B k.1 = 38) ∨ (l = 2 ∧ (B k.1 = 60 ∨ B k.1 = 61 ∨ B k.1 = 62)) ∨ (l = 3 ∧ (B k.1 = 43 ∨ B k.1 = 45)) ∨ (l = 4 ∧ (B k.1 = 42 ∨ B k.1 = 47)))
def nmH (B : Nat → Int32) (key : Int32) (k : Tk) : Prop := k.2.1 - k.1 = 1 ∧ nmOK key (B k.1)
def PRs (B : Nat → Int32) (s : Nat) (key : Int32) : Nat → Nat → Nat → Nat → Tk → Bool → Tk → List (Int32 × Int32) → Prop
  | 0, _, _, _, _, _, _, _ => False
  | f + 1, m, b, t, k, r, k', N =>
    (m = 5 ∧ k.2.2 = 2 ∧ r = true ∧ k' = nk B s k ∧ N = [(0, nmv B k.1 (k.2.1 - k.1))]) ∨
    (m = 5 ∧ k.2.2 = 1 ∧ nmH B key k ∧ r = true ∧ k' = nk B s k ∧ N = [(1, B k.1)]) ∨
    (m = 5 ∧ k.2.2 = 1 ∧ ¬ nmH B key k ∧ r = false ∧ k' = k) ∨
    (m = 5 ∧ isS B k 33 ∧ t < 8 ∧ ∃ N1 : List (Int32 × Int32), PRs B s key f 5 b (t + 1) (nk B s k) r k' N1 ∧ N = N1 ++ [(2, 33)]) ∨
    (m = 5 ∧ isS B k 33 ∧ ¬ t < 8 ∧ r = false ∧ k' = k) ∨
    (m = 5 ∧ isS B k 40 ∧ b < 8 ∧ ∃ (k1 : Tk) (N1 : List (Int32 × Int32)), (PRs B s key f 0 (b + 1) t (nk B s k) false k1 N1 ∧ r = false ∧ k' = k1) ∨ (PRs B s key f 0 (b + 1) t (nk B s k) true k1 N1 ∧ isS B k1 41 ∧ r = true ∧ k' = nk B s k1 ∧ N = N1) ∨ (PRs B s key f 0 (b + 1) t (nk B s k) true k1 N1 ∧ ¬ isS B k1 41 ∧ r = false ∧ k' = k1)) ∨
    (m = 5 ∧ isS B k 40 ∧ ¬ b < 8 ∧ r = false ∧ k' = k) ∨
    (m = 5 ∧ ¬ k.2.2 = 2 ∧ ¬ k.2.2 = 1 ∧ ¬ isS B k 33 ∧ ¬ isS B k 40 ∧ r = false ∧ k' = k) ∨
    (m < 5 ∧ ∃ (k1 : Tk) (N1 N2 : List (Int32 × Int32)), (PRs B s key f (m + 1) b t k false k1 N1 ∧ r = false ∧ k' = k1) ∨ (PRs B s key f (m + 1) b t k true k1 N1 ∧ PRs B s key f (10 + m) b t k1 r k' N2 ∧ N = N1 ++ N2)) ∨
    (10 ≤ m ∧ ¬ opl B k (m - 10) ∧ r = true ∧ k' = k ∧ N = []) ∨
    (10 ≤ m ∧ opl B k (m - 10) ∧ ∃ (k1 : Tk) (N1 N2 : List (Int32 × Int32)), (PRs B s key f (m - 10 + 1) b t (nk B s k) false k1 N1 ∧ r = false ∧ k' = k1) ∨ (PRs B s key f (m - 10 + 1) b t (nk B s k) true k1 N1 ∧ m = 12 ∧ r = true ∧ k' = k1 ∧ N = N1 ++ [(2, B k.1)]) ∨ (PRs B s key f (m - 10 + 1) b t (nk B s k) true k1 N1 ∧ ¬ m = 12 ∧ PRs B s key f m b t k1 r k' N2 ∧ N = N1 ++ (2, B k.1) :: N2))
theorem sS {B : Nat → Int32} {k : Tk} {c d : Int32} (h : isS B k c) (g : isS B k d) : c = d := h.2.symm.trans g.2
/-- one outcome only -/
theorem pr_u {B : Nat → Int32} {s : Nat} {key : Int32} : ∀ (f g m b t : Nat) (k : Tk) (r r' : Bool) (k1 k2 : Tk) (N N' : List (Int32 × Int32)), PRs B s key f m b t k r k1 N → PRs B s key g m b t k r' k2 N' → r = r' ∧ k1 = k2 ∧ (r = true → N = N') := by
  intro f
  induction f with
  | zero => intro g m b t k r r' k1 k2 N N' h; exact h.elim
  | succ f ih =>
    intro g m b t k r r' k1 k2 N N' h h'
    cases g with
    | zero => exact h'.elim
    | succ g =>
      unfold PRs at h h'
      rcases h with ⟨hm, a1, a2, a3, a4⟩ | ⟨hm, a1, a2, a3, a4, a5⟩ | ⟨hm, a1, a2, a3, a4⟩ | ⟨hm, a1, a2, N1, a3, a4⟩ | ⟨hm, a1, a2, a3, a4⟩ | ⟨hm, a1, a2, q1, N1, a3⟩ | ⟨hm, a1, a2, a3, a4⟩ | ⟨hm, a1, a2, a3, a4, a5, a6⟩ | ⟨hm, q1, N1, N2, a3⟩ | ⟨hm, a1, a2, a3, a4⟩ | ⟨hm, a1, q1, N1, N2, a3⟩ <;>
      rcases h' with ⟨hm', b1, b2, b3, b4⟩ | ⟨hm', b1, b2, b3, b4, b5⟩ | ⟨hm', b1, b2, b3, b4⟩ | ⟨hm', b1, b2, M1, b3, b4⟩ | ⟨hm', b1, b2, b3, b4⟩ | ⟨hm', b1, b2, p1, M1, b3⟩ | ⟨hm', b1, b2, b3, b4⟩ | ⟨hm', b1, b2, b3, b4, b5, b6⟩ | ⟨hm', p1, M1, M2, b3⟩ | ⟨hm', b1, b2, b3, b4⟩ | ⟨hm', b1, p1, M1, M2, b3⟩ <;>
      first
      | (exfalso; omega)
      | (exfalso; exact absurd (a1.symm.trans b1) (by decide))
      | (exfalso; exact absurd (b1.1.symm.trans a1) (by decide))
      | (exfalso; exact absurd (a1.1.symm.trans b1) (by decide))
      | (exfalso; exact absurd (sS a1 b1) (by decide))
      | (exfalso; exact a2 b2)
      | (exfalso; exact b2 a2)
      | (exfalso; exact a1 b1)
      | (exfalso; exact b1 a1)
      | (exfalso; exact b3 a1)
      | (exfalso; exact b4 a1)
      | (exfalso; exact a3 b1)
      | (exfalso; exact a4 b1)
      | (exact ⟨a2.trans b2.symm, a3.trans b3.symm, fun _ => a4.trans b4.symm⟩)
      | (exact ⟨a3.trans b3.symm, a4.trans b4.symm, fun _ => a5.trans b5.symm⟩)
      | (refine ⟨a3.trans b3.symm, a4.trans b4.symm, fun q => absurd (a3.symm.trans q) (by decide)⟩)
      | (refine ⟨a5.trans b5.symm, a6.trans b6.symm, fun q => absurd (a5.symm.trans q) (by decide)⟩)
      | (obtain ⟨e1, e2, e3⟩ := ih _ _ _ _ _ _ _ _ _ _ _ a3 b3; exact ⟨e1, e2, fun q => by rw [a4, b4, e3 q]⟩)
      | (rcases a3 with ⟨u1, u2, u3⟩ | ⟨u1, u2, u3, u4, u5⟩ | ⟨u1, u2, u3, u4⟩ <;> rcases b3 with ⟨w1, w2, w3⟩ | ⟨w1, w2, w3, w4, w5⟩ | ⟨w1, w2, w3, w4⟩ <;> obtain ⟨e1, e2, e3⟩ := ih _ _ _ _ _ _ _ _ _ _ _ u1 w1 <;> first
          | (exact absurd e1 (by decide))
          | (subst e2; exact absurd u2 w2)
          | (subst e2; exact absurd w2 u2)
          | (subst e2; exact ⟨u2.trans w2.symm, u3.trans w3.symm, fun q => absurd (u2.symm.trans q) (by decide)⟩)
          | (subst e2; exact ⟨u3.trans w3.symm, u4.trans w4.symm, fun q => absurd (u3.symm.trans q) (by decide)⟩)
          | (subst e2; exact ⟨u3.trans w3.symm, u4.trans w4.symm, fun _ => by rw [u5, w5, e3 rfl]⟩))
      | (rcases a3 with ⟨u1, u2, u3⟩ | ⟨u1, u2, u3⟩ <;> rcases b3 with ⟨w1, w2, w3⟩ | ⟨w1, w2, w3⟩ <;> obtain ⟨e1, e2, e3⟩ := ih _ _ _ _ _ _ _ _ _ _ _ u1 w1 <;> first
          | (exact absurd e1 (by decide))
          | (subst e2; exact ⟨u2.trans w2.symm, u3.trans w3.symm, fun q => absurd (u2.symm.trans q) (by decide)⟩)
          | (subst e2; obtain ⟨d1, d2, d3⟩ := ih _ _ _ _ _ _ _ _ _ _ _ u2 w2; exact ⟨d1, d2, fun q => by rw [u3, w3, e3 rfl, d3 q]⟩))
      | (rcases a3 with ⟨u1, u2, u3⟩ | ⟨u1, u2, u3, u4, u5⟩ | ⟨u1, u2, u3, u4⟩ <;> rcases b3 with ⟨w1, w2, w3⟩ | ⟨w1, w2, w3, w4, w5⟩ | ⟨w1, w2, w3, w4⟩ <;> obtain ⟨e1, e2, e3⟩ := ih _ _ _ _ _ _ _ _ _ _ _ u1 w1 <;> first
          | (exact absurd e1 (by decide))
          | (exact absurd u2 w2)
          | (exact absurd w2 u2)
          | (subst e2; exact ⟨u2.trans w2.symm, u3.trans w3.symm, fun q => absurd (u2.symm.trans q) (by decide)⟩)
          | (subst e2; exact ⟨u3.trans w3.symm, u4.trans w4.symm, fun _ => by rw [u5, w5, e3 rfl]⟩)
          | (subst e2; obtain ⟨d1, d2, d3⟩ := ih _ _ _ _ _ _ _ _ _ _ _ u3 w3; exact ⟨d1, d2, fun q => by rw [u4, w4, e3 rfl, d3 q]⟩))
