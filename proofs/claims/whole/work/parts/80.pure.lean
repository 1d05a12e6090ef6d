theorem pure_law (L : Nat) (xs : Nat → Int32) (hL : L ≤ 3072) : ∃ M2, f_L_law_18 L xs FU 1 150 0 M0 = some (1, M2) := sorry
