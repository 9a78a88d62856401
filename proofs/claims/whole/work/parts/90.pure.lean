theorem law_pure (B b L : Nat) (xs : Nat → Int32) (hL : L ≤ 1536) : ∃ V : VT, f_L_18 (K0 B) (P0 B) xs L FU b B (B + 88) 0 (V0 B) = some (1, V) := sorry
