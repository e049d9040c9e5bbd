theorem law_ok {L : Nat} {xs : Nat → Int32} (hL : L ≤ 384) : ∃ k : Nat, k ≤ 1000 ∧ wl_law L xs k 94 M0 0 := sorry
