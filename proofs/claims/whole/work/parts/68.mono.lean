/-- more fuel does no harm -/
theorem pr_m {B : Nat → Int32} {s : Nat} {key : Int32} : ∀ (f m b t : Nat) (k : Tk) (r : Bool) (k' : Tk) (N : List (Int32 × Int32)), PRs B s key f m b t k r k' N → PRs B s key (f + 1) m b t k r k' N := by
  intro f
  induction f with
  | zero => intro m b t k r k' N h; exact h.elim
  | succ f ih =>
    intro m b t k r k' N h
    rw [PRs] at h
    rw [PRs]
    rcases h with h | h | h | ⟨hm, a1, a2, N1, a3, a4⟩ | h | ⟨hm, a1, a2, q1, N1, a3⟩ | h | h | ⟨hm, q1, N1, N2, a3⟩ | h | ⟨hm, a1, q1, N1, N2, a3⟩
    · exact Or.inl h
    · exact Or.inr (Or.inl h)
    · exact Or.inr (Or.inr (Or.inl h))
    · exact Or.inr (Or.inr (Or.inr (Or.inl ⟨hm, a1, a2, N1, ih _ _ _ _ _ _ _ a3, a4⟩)))
    · exact Or.inr (Or.inr (Or.inr (Or.inr (Or.inl h))))
    · refine Or.inr (Or.inr (Or.inr (Or.inr (Or.inr (Or.inl ⟨hm, a1, a2, q1, N1, ?_⟩)))))
      rcases a3 with ⟨u1, u2⟩ | ⟨u1, u2⟩ | ⟨u1, u2⟩
      · exact Or.inl ⟨ih _ _ _ _ _ _ _ u1, u2⟩
      · exact Or.inr (Or.inl ⟨ih _ _ _ _ _ _ _ u1, u2⟩)
      · exact Or.inr (Or.inr ⟨ih _ _ _ _ _ _ _ u1, u2⟩)
    · exact Or.inr (Or.inr (Or.inr (Or.inr (Or.inr (Or.inr (Or.inl h))))))
    · exact Or.inr (Or.inr (Or.inr (Or.inr (Or.inr (Or.inr (Or.inr (Or.inl h)))))))
    · refine Or.inr (Or.inr (Or.inr (Or.inr (Or.inr (Or.inr (Or.inr (Or.inr (Or.inl ⟨hm, q1, N1, N2, ?_⟩))))))))
      rcases a3 with ⟨u1, u2⟩ | ⟨u1, u2, u3⟩
      · exact Or.inl ⟨ih _ _ _ _ _ _ _ u1, u2⟩
      · exact Or.inr ⟨ih _ _ _ _ _ _ _ u1, ih _ _ _ _ _ _ _ u2, u3⟩
    · exact Or.inr (Or.inr (Or.inr (Or.inr (Or.inr (Or.inr (Or.inr (Or.inr (Or.inr (Or.inl h)))))))))
    · refine Or.inr (Or.inr (Or.inr (Or.inr (Or.inr (Or.inr (Or.inr (Or.inr (Or.inr (Or.inr ⟨hm, a1, q1, N1, N2, ?_⟩)))))))))
      rcases a3 with ⟨u1, u2⟩ | ⟨u1, u2⟩ | ⟨u1, u2, u3, u4⟩
      · exact Or.inl ⟨ih _ _ _ _ _ _ _ u1, u2⟩
      · exact Or.inr (Or.inl ⟨ih _ _ _ _ _ _ _ u1, u2⟩)
      · exact Or.inr (Or.inr ⟨ih _ _ _ _ _ _ _ u1, u2, ih _ _ _ _ _ _ _ u3, u4⟩)
theorem pr_mm {B : Nat → Int32} {s : Nat} {key : Int32} {f m b t : Nat} {k : Tk} {r : Bool} {k' : Tk} {N : List (Int32 × Int32)} (h : PRs B s key f m b t k r k' N) : ∀ d : Nat, PRs B s key (f + d) m b t k r k' N
  | 0 => h
  | d + 1 => pr_m _ _ _ _ _ _ _ _ (pr_mm h d)
