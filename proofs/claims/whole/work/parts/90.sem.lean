theorem sem : ∀ (L : Nat) (xs : Nat → Int32), L ≤ 3072 → ∃ G', f_L_law L xs 0 G00 = some (1, G') := sorry
