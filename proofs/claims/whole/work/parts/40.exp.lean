theorem t12 (a : Int) (h1 : 0 ≤ a) (h2 : a < 100000) : (Int32.ofInt a).toNatClampNeg = a.toNat := by
  simp [Int32.toNatClampNeg]
  sorry
