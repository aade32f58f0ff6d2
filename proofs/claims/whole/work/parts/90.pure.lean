theorem pure_main {L : Nat} {xs : Nat → Int32} (hL : L ≤ 2048) : ∃ σ', F_LW L xs σ0 = some (1, σ') := sorry
