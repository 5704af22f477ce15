theorem k_pure (L : Nat) (xs : Nat → Int32) (hL : L ≤ 320) : ∃ σ1, l_L_law_18 L xs 1000 0 k_σ0 = some (1, σ1) := sorry
