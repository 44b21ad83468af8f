theorem law_true (xs : Nat → Int32) (L : Nat) (hL : L ≤ 3584) : ∀ gr : Nat → Int32, (∀ j : Nat, j < 180 → gr j = -9) → ∃ h', F_law_18 FU_ xs L 0 (hp0 gr) = some (1, h') := by
  sorry
