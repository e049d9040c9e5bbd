theorem law_ok {L : Nat} {xs : Nat → Int32} (hL : L ≤ 384) : ∃ k : Nat, k ≤ 1000 ∧ wl_law L xs k 94 M0 0 := ⟨65, by decide, law_go (fun I hj hZ hR => op_text I hj hZ hR) hL 64 0 94 M0 rfl inv0⟩
