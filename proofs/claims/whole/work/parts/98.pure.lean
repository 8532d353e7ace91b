theorem pure_law (xs : Nat → Int32) (L : Nat) (hL : L ≤ 2048) : ∃ n : Nat, n ≤ 600 ∧ wpL_L_law xs L n (mS0, ((fun _ => 0), xS0)) 0 := sorry
