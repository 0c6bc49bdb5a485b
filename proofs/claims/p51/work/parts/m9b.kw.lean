/-! the words of a script, both sides -/
theorem kw_8 : (tl 8 = tl 39 ∧ ∀ j, j < tl 8 → tb 8 j = tb 39 j) ∧ 0 < tl 8 ∧ tl 8 ≤ 9 := by decide +kernel
theorem kw_9 : (tl 9 = tl 40 ∧ ∀ j, j < tl 9 → tb 9 j = tb 40 j) ∧ 0 < tl 9 ∧ tl 9 ≤ 9 := by decide +kernel
theorem kw_10 : (tl 10 = tl 41 ∧ ∀ j, j < tl 10 → tb 10 j = tb 41 j) ∧ 0 < tl 10 ∧ tl 10 ≤ 9 := by decide +kernel
theorem kw_11 : (tl 11 = tl 42 ∧ ∀ j, j < tl 11 → tb 11 j = tb 42 j) ∧ 0 < tl 11 ∧ tl 11 ≤ 9 := by decide +kernel
theorem kw_12 : (tl 12 = tl 43 ∧ ∀ j, j < tl 12 → tb 12 j = tb 43 j) ∧ 0 < tl 12 ∧ tl 12 ≤ 9 := by decide +kernel
theorem kw_13 : (tl 13 = tl 44 ∧ ∀ j, j < tl 13 → tb 13 j = tb 44 j) ∧ 0 < tl 13 ∧ tl 13 ≤ 9 := by decide +kernel
theorem kw_14 : (tl 14 = tl 45 ∧ ∀ j, j < tl 14 → tb 14 j = tb 45 j) ∧ 0 < tl 14 ∧ tl 14 ≤ 9 := by decide +kernel
theorem kw_15 : (tl 15 = tl 46 ∧ ∀ j, j < tl 15 → tb 15 j = tb 46 j) ∧ 0 < tl 15 ∧ tl 15 ≤ 9 := by decide +kernel
theorem sg40 : ¬ ltB (nI 40) ∧ ¬ dgB (nI 40) := by unfold ltB dgB; decide +kernel
theorem sg41 : ¬ ltB (nI 41) ∧ ¬ dgB (nI 41) := by unfold ltB dgB; decide +kernel
theorem sg123 : ¬ ltB (nI 123) ∧ ¬ dgB (nI 123) := by unfold ltB dgB; decide +kernel
theorem sg125 : ¬ ltB (nI 125) ∧ ¬ dgB (nI 125) := by unfold ltB dgB; decide +kernel
