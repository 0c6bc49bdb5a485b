/-! which command, both sides -/
section
variable {h g : Hp} {B : Nat → Int32} {L q p b o e n k d j i s ph a t t' : Nat} {v : Int32}
theorem kd1 (m : MT g B L p b) (hq : rn wsB B L p = q) (kw : (tl t = tl t' ∧ ∀ j, j < tl t → tb t j = tb t' j) ∧ 0 < tl t ∧ tl t ≤ 9) : ∃ g', f_X11_isWord g t' = some (nI (bo (isK B L q t)), g') ∧ MT g' B L q q ∧ MFr g g' := by
  obtain ⟨⟨v, g1⟩, x1, x2, x3, x4⟩ := iw0 m hq (t := t') (by rw [← kw.1.1]; exact kw.2.1) (by rw [← kw.1.1]; exact kw.2.2)
  have x2 : v = _ := x2
  subst x2
  have e : isK B L q t' = isK B L q t := (propext (kwp t t' kw.1 B L q)).symm
  rw [e] at x1
  exact ⟨g1, x1, x3, x4⟩
theorem kd_lz (kw : (tl t = tl t' ∧ ∀ j, j < tl t → tb t j = tb t' j) ∧ 0 < tl t ∧ tl t ≤ 9) (z : isK B L q t) : 1 ≤ lz B L q := by
  have := z.1
  have := kw.2.1
  omega
theorem j_kind (w : TS h B L q) (m : MT g B L p b) (hq : rn wsB B L p = q) : (∃ kd g', kd ≤ 5 ∧ f_X7_kindHere h = some (nI kd) ∧ f_X11_commandHere g = some (nI kd, g') ∧ MT g' B L q q ∧ MFr g g' ∧ 1 ≤ lz B L q) ∨ (∃ g', f_X7_kindHere h = some (-nI 1) ∧ f_X11_commandHere g = some (-nI 1, g') ∧ MT g' B L q q ∧ MFr g g') := by
  have hqq : rn wsB B L q = q := by rw [← hq]; exact rr m.i
  unfold f_X7_kindHere f_X11_commandHere
  have m0 := m
  have f0 := MFr.rf g
  obtain ⟨g1, x1, m1, c1⟩ := kd1 m0 hq kw_8
  have f1 := f0.tr c1
  rw [c_isKey w kw_8.2.1 kw_8.2.2, bnd_some]
  skip
  rw [x1, bnd_some]
  by_cases z1 : isK B L q 8
  · left
    rw [bo_y z1, if_neg (show ¬ (nI 1 : Int32) = 0 by decide)]
    exact ⟨0, g1, by omega, rfl, rfl, m1, f1, kd_lz kw_8 z1⟩
  rw [bo_n z1, if_pos (show (nI 0 : Int32) = 0 from rfl)]
  obtain ⟨g2, x2, m2, c2⟩ := kd1 m1 hqq kw_9
  have f2 := f1.tr c2
  rw [c_isKey w kw_9.2.1 kw_9.2.2, bnd_some]
  show (∃ kd g', kd ≤ 5 ∧ _ = some (nI kd) ∧ bnd (f_X11_isWord g1 40) _ = some (nI kd, g') ∧ MT g' B L q q ∧ MFr g g' ∧ 1 ≤ lz B L q) ∨ (∃ g', _ = some (-nI 1) ∧ bnd (f_X11_isWord g1 40) _ = some (-nI 1, g') ∧ MT g' B L q q ∧ MFr g g')
  rw [x2, bnd_some]
  by_cases z2 : isK B L q 9
  · left
    rw [bo_y z2, if_neg (show ¬ (nI 1 : Int32) = 0 by decide)]
    exact ⟨1, g2, by omega, rfl, rfl, m2, f2, kd_lz kw_9 z2⟩
  rw [bo_n z2, if_pos (show (nI 0 : Int32) = 0 from rfl)]
  obtain ⟨g3, x3, m3, c3⟩ := kd1 m2 hqq kw_10
  have f3 := f2.tr c3
  rw [c_isKey w kw_10.2.1 kw_10.2.2, bnd_some]
  show (∃ kd g', kd ≤ 5 ∧ _ = some (nI kd) ∧ bnd (f_X11_isWord g2 41) _ = some (nI kd, g') ∧ MT g' B L q q ∧ MFr g g' ∧ 1 ≤ lz B L q) ∨ (∃ g', _ = some (-nI 1) ∧ bnd (f_X11_isWord g2 41) _ = some (-nI 1, g') ∧ MT g' B L q q ∧ MFr g g')
  rw [x3, bnd_some]
  by_cases z3 : isK B L q 10
  · left
    rw [bo_y z3, if_neg (show ¬ (nI 1 : Int32) = 0 by decide)]
    exact ⟨2, g3, by omega, rfl, rfl, m3, f3, kd_lz kw_10 z3⟩
  rw [bo_n z3, if_pos (show (nI 0 : Int32) = 0 from rfl)]
  obtain ⟨g4, x4, m4, c4⟩ := kd1 m3 hqq kw_11
  have f4 := f3.tr c4
  rw [c_isKey w kw_11.2.1 kw_11.2.2, bnd_some]
  show (∃ kd g', kd ≤ 5 ∧ _ = some (nI kd) ∧ bnd (f_X11_isWord g3 42) _ = some (nI kd, g') ∧ MT g' B L q q ∧ MFr g g' ∧ 1 ≤ lz B L q) ∨ (∃ g', _ = some (-nI 1) ∧ bnd (f_X11_isWord g3 42) _ = some (-nI 1, g') ∧ MT g' B L q q ∧ MFr g g')
  rw [x4, bnd_some]
  by_cases z4 : isK B L q 11
  · left
    rw [bo_y z4, if_neg (show ¬ (nI 1 : Int32) = 0 by decide)]
    exact ⟨3, g4, by omega, rfl, rfl, m4, f4, kd_lz kw_11 z4⟩
  rw [bo_n z4, if_pos (show (nI 0 : Int32) = 0 from rfl)]
  obtain ⟨g5, x5, m5, c5⟩ := kd1 m4 hqq kw_12
  have f5 := f4.tr c5
  rw [c_isKey w kw_12.2.1 kw_12.2.2, bnd_some]
  show (∃ kd g', kd ≤ 5 ∧ _ = some (nI kd) ∧ bnd (f_X11_isWord g4 43) _ = some (nI kd, g') ∧ MT g' B L q q ∧ MFr g g' ∧ 1 ≤ lz B L q) ∨ (∃ g', _ = some (-nI 1) ∧ bnd (f_X11_isWord g4 43) _ = some (-nI 1, g') ∧ MT g' B L q q ∧ MFr g g')
  rw [x5, bnd_some]
  by_cases z5 : isK B L q 12
  · left
    rw [bo_y z5, if_neg (show ¬ (nI 1 : Int32) = 0 by decide)]
    exact ⟨4, g5, by omega, rfl, rfl, m5, f5, kd_lz kw_12 z5⟩
  rw [bo_n z5, if_pos (show (nI 0 : Int32) = 0 from rfl)]
  obtain ⟨g6, x6, m6, c6⟩ := kd1 m5 hqq kw_13
  have f6 := f5.tr c6
  rw [c_isKey w kw_13.2.1 kw_13.2.2, bnd_some]
  show (∃ kd g', kd ≤ 5 ∧ _ = some (nI kd) ∧ bnd (f_X11_isWord g5 44) _ = some (nI kd, g') ∧ MT g' B L q q ∧ MFr g g' ∧ 1 ≤ lz B L q) ∨ (∃ g', _ = some (-nI 1) ∧ bnd (f_X11_isWord g5 44) _ = some (-nI 1, g') ∧ MT g' B L q q ∧ MFr g g')
  rw [x6, bnd_some]
  by_cases z6 : isK B L q 13
  · left
    rw [bo_y z6, if_neg (show ¬ (nI 1 : Int32) = 0 by decide)]
    exact ⟨5, g6, by omega, rfl, rfl, m6, f6, kd_lz kw_13 z6⟩
  rw [bo_n z6, if_pos (show (nI 0 : Int32) = 0 from rfl)]
  exact Or.inr ⟨g6, rfl, rfl, m6, f6⟩
end
