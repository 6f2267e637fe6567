section LW
theorem x_gives {x : Wd} {L u : Nat} {r : Rw} (hL : L = 11 ∧ u = 0 ∨ L = 16 ∧ u = 1) (h : RLw x L r u) (a b c : Int32) : ∃ x', f_X2_gives L a b c x = some (lawV r u a b c, x') ∧ ∀ k, k ≠ L + 3 → k ≠ L + 4 → x' k = x k := by
  sorry
theorem m_lawOf {x y : Wd} {L u : Nat} (hu : u ≤ 1) (h : RLw x L (y 101) u) (a b c : Int32) : ∃ y', f_X9_lawOf (nI u) a b c y = some (lawV (y 101) u a b c, y') ∧ (∀ k, k ≠ 100 → y' k = y k) ∧ ∀ i, (i < 7 ∨ 14 < i) → y' 100 i = y 100 i := by
  sorry
end LW
