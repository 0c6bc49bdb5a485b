/-! a step of the reader -/
section
variable {ts bs cs : List Nat} {q c z : Nat} {h : Hp}
def lowL (bs : List Nat) : Prop := ∀ j, j < bs.length → lowC (bs.getD j 0) ∧ bs.getD j 0 < 1000
def digL (bs : List Nat) : Prop := ∀ j, j < bs.length → digC (bs.getD j 0) ∧ bs.getD j 0 < 1000
theorem lz_l (ha : At ts q (bs ++ c :: cs)) (hl : lowL bs) (hc : ¬ lowC c) (hc2 : c < 1000) : lz (nB ts) ts.length q = bs.length := by
  unfold lz
  rw [lz_at ha hl hc hc2, Nat.add_sub_cancel_left]
theorem dz_d (ha : At ts q (bs ++ c :: cs)) (hl : digL bs) (hc : ¬ digC c) (hc2 : c < 1000) : dz (nB ts) ts.length q = bs.length := by
  unfold dz
  rw [dz_at ha hl hc hc2, Nat.add_sub_cancel_left]
theorem tz_l (ha : At ts q (bs ++ c :: cs)) (hl : lowL bs) (h0 : 0 < bs.length) (hc : ¬ lowC c) (hc2 : c < 1000) : tZ (nB ts) ts.length q = bs.length := by
  have e := ha.l.get (j := 0) h0
  rw [Nat.add_zero] at e
  have hq : q < ts.length := by have := ha.r.c.1; omega
  unfold tZ
  rw [if_pos hq, if_pos (by rw [e, ltB_i (hl 0 h0).2]; exact (hl 0 h0).1), lz_at ha hl hc hc2, Nat.add_sub_cancel_left]
theorem tz_d (ha : At ts q (bs ++ c :: cs)) (hl : digL bs) (h0 : 0 < bs.length) (hc : ¬ digC c) (hc2 : c < 1000) : tZ (nB ts) ts.length q = bs.length := by
  have e := ha.l.get (j := 0) h0
  rw [Nat.add_zero] at e
  have hq : q < ts.length := by have := ha.r.c.1; omega
  have hd := (hl 0 h0).1
  unfold tZ
  rw [if_pos hq, if_neg (by rw [e, ltB_i (hl 0 h0).2]; intro z; unfold lowC at z; unfold digC at hd; omega), if_pos (by rw [e, dgB_i (hl 0 h0).2]; exact hd), dz_at ha hl hc hc2, Nat.add_sub_cancel_left]
/-- over a token and the blank behind it -/
theorem adv_sp (w : TS h (nB ts) ts.length q) (hz : tZ (nB ts) ts.length q = z) (ha : At ts (q + z) (32 :: c :: cs)) (hc : c < 1000) (hc2 : ¬ (c = 32 ∨ c = 9 ∨ c = 10)) : ∃ u, f_X9_advance h = some u ∧ TS u (nB ts) ts.length (q + z + 1) ∧ TAd h u := by
  obtain ⟨u, e, a, b⟩ := c_advance w
  rw [hz, ws_1 ha hc hc2] at a
  exact ⟨u, e, a, b⟩
/-- over a token with a sign behind it -/
theorem adv_sg (w : TS h (nB ts) ts.length q) (hz : tZ (nB ts) ts.length q = z) (ha : At ts (q + z) (59 :: cs)) : ∃ u, f_X9_advance h = some u ∧ TS u (nB ts) ts.length (q + z) ∧ TAd h u := by
  obtain ⟨u, e, a, b⟩ := c_advance w
  have h1 := ha.c
  rw [hz, ws_0 (Nat.le_of_lt h1.1) (fun _ => ⟨59, h1.2, by omega, by omega⟩)] at a
  exact ⟨u, e, a, b⟩
/-- the sign behind a line -/
theorem sg_take (w : TS h (nB ts) ts.length q) (ha : At ts q [59]) (hn : q + 1 < ts.length → ∃ c, nB ts (q + 1) = nI c ∧ c < 1000 ∧ ¬ (c = 32 ∨ c = 9 ∨ c = 10)) : ∃ u, f_X9_takeSign h 59 = some (nI 1, u) ∧ TS u (nB ts) ts.length (q + 1) ∧ TAd h u := by
  have h1 := ha.c
  rcases c_takeSign w (c := 59) sg59.1 sg59.2 with ⟨-, u, e, a, b⟩ | ⟨n, -⟩
  · rw [ws_0 (by omega) hn] at a
    exact ⟨u, e, a, b⟩
  · exact absurd ⟨h1.1, h1.2⟩ n
def kwm (bs : List Nat) (t : Nat) : Bool := (tl t == bs.length) && (List.range bs.length).all (fun j => decide (tb t j = nI (bs.getD j 0)))
theorem isK_iff (ha : At ts q (bs ++ c :: cs)) (hl : lowL bs) (hc : ¬ lowC c) (hc2 : c < 1000) (t : Nat) : isK (nB ts) ts.length q t ↔ kwm bs t = true := by
  unfold isK kwm
  rw [lz_l ha hl hc hc2, Bool.and_eq_true, beq_iff_eq, List.all_eq_true]
  constructor
  · rintro ⟨e, k⟩
    refine ⟨e.symm, fun j hj => ?_⟩
    have hj := List.mem_range.mp hj
    rw [decide_eq_true_eq, ← k j (by omega)]
    exact ha.l.get hj
  · rintro ⟨e, k⟩
    refine ⟨e.symm, fun j hj => ?_⟩
    have := k j (List.mem_range.mpr (by omega))
    rw [decide_eq_true_eq] at this
    rw [this]
    exact ha.l.get (by omega)
theorem key_at (w : TS h (nB ts) ts.length q) (ha : At ts q (bs ++ c :: cs)) (hl : lowL bs) (hc : ¬ lowC c) (hc2 : c < 1000) {t : Nat} (h0 : 0 < tl t ∧ tl t ≤ 9) : f_X9_isKeyword h t = some (if kwm bs t = true then nI 1 else nI 0) := by
  rw [c_isKey w h0.1 h0.2]
  by_cases k : kwm bs t = true
  · rw [bo_y ((isK_iff ha hl hc hc2 t).mpr k), if_pos k]
  · rw [bo_n (fun y => k ((isK_iff ha hl hc hc2 t).mp y)), if_neg k]
theorem bn_at {j : Nat} (ha : At ts q bs) (hj : j < bs.length) (h1 : bs.getD j 0 < 1000) : bn (nB ts) (q + j) = bs.getD j 0 := by
  unfold bn
  rw [ha.get hj, nI_toInt (by omega)]
  rfl
/-- a name of two letters -/
theorem name_2 {a b : Nat} (w : TS h (nB ts) ts.length q) (ha : At ts q ([a, b] ++ c :: cs)) (h1 : lowC a) (h2 : lowC b) (hc : ¬ lowC c) (hc2 : c < 1000) : f_X9_nameHere h = some (nI ((a - 96) * 32 + (b - 96)), h) := by
  have hl : lowL [a, b] := fun j hj => by
    have hj : j < 2 := hj
    unfold lowC at h1 h2
    rcases (show j = 0 ∨ j = 1 by omega) with rfl | rfl
    · exact ⟨h1, by show a < 1000; omega⟩
    · exact ⟨h2, by show b < 1000; omega⟩
  have e := lz_l ha hl hc hc2
  have e : lz (nB ts) ts.length q = 2 := e
  rcases c_name w with ⟨-, k⟩ | ⟨k, -⟩
  · rw [k, e, nmV_s, nmV_s, bn_at ha.l (j := 0) (by show 0 < 2; omega) (hl 0 (by show 0 < 2; omega)).2, bn_at ha.l (j := 1) (by show 1 < 2; omega) (hl 1 (by show 1 < 2; omega)).2]
    show some (nI ((0 * 32 + (a - 96)) * 32 + (b - 96)), h) = _
    rw [Nat.zero_mul, Nat.zero_add]
  · exfalso
    unfold naE at k
    rw [e, if_pos ⟨by omega, by omega⟩] at k
    exact absurd k (by decide)
theorem dgs_dig {n : Nat} (hn : n < 1000) : digL (dgs n) ∧ 0 < (dgs n).length := by
  by_cases a : n < 10
  · rw [dgs1 a]
    refine ⟨fun j hj => ?_, Nat.succ_pos _⟩
    have hj : j < 1 := hj
    have : j = 0 := by omega
    subst this
    exact ⟨⟨by show 48 ≤ 48 + n; omega, by show 48 + n ≤ 57; omega⟩, by show 48 + n < 1000; omega⟩
  · by_cases b : n < 100
    · rw [dgs2 a b]
      refine ⟨fun j hj => ?_, Nat.succ_pos _⟩
      have hj : j < 2 := hj
      rcases (show j = 0 ∨ j = 1 by omega) with rfl | rfl
      · exact ⟨⟨by show 48 ≤ 48 + n / 10; omega, by show 48 + n / 10 ≤ 57; omega⟩, by show 48 + n / 10 < 1000; omega⟩
      · exact ⟨⟨by show 48 ≤ 48 + n % 10; omega, by show 48 + n % 10 ≤ 57; omega⟩, by show 48 + n % 10 < 1000; omega⟩
    · rw [dgs3 b]
      refine ⟨fun j hj => ?_, Nat.succ_pos _⟩
      have hj : j < 3 := hj
      rcases (show j = 0 ∨ j = 1 ∨ j = 2 by omega) with rfl | rfl | rfl
      · exact ⟨⟨by show 48 ≤ 48 + n / 100; omega, by show 48 + n / 100 ≤ 57; omega⟩, by show 48 + n / 100 < 1000; omega⟩
      · exact ⟨⟨by show 48 ≤ 48 + n % 100 / 10; omega, by show 48 + n % 100 / 10 ≤ 57; omega⟩, by show 48 + n % 100 / 10 < 1000; omega⟩
      · exact ⟨⟨by show 48 ≤ 48 + n % 10; omega, by show 48 + n % 10 ≤ 57; omega⟩, by show 48 + n % 10 < 1000; omega⟩
theorem nuV_dgs {n : Nat} (hn : n < 1000) (ha : At ts q (dgs n)) : nuV (nB ts) q (dgs n).length = n := by
  have hd := (dgs_dig hn).1
  by_cases a : n < 10
  · rw [dgs1 a] at ha hd ⊢
    show nuV (nB ts) q (0 + 1) = n
    rw [nuV_s, bn_at ha (j := 0) (by show 0 < 1; omega) (hd 0 (by show 0 < 1; omega)).2]
    show 0 * 10 + (48 + n - 48) = n
    omega
  · by_cases b : n < 100
    · rw [dgs2 a b] at ha hd ⊢
      show nuV (nB ts) q (0 + 1 + 1) = n
      rw [nuV_s, nuV_s, bn_at ha (j := 0) (by show 0 < 2; omega) (hd 0 (by show 0 < 2; omega)).2, bn_at ha (j := 0 + 1) (by show 1 < 2; omega) (hd 1 (by show 1 < 2; omega)).2]
      show (0 * 10 + (48 + n / 10 - 48)) * 10 + (48 + n % 10 - 48) = n
      omega
    · rw [dgs3 b] at ha hd ⊢
      show nuV (nB ts) q (0 + 1 + 1 + 1) = n
      rw [nuV_s, nuV_s, nuV_s, bn_at ha (j := 0) (by show 0 < 3; omega) (hd 0 (by show 0 < 3; omega)).2, bn_at ha (j := 0 + 1) (by show 1 < 3; omega) (hd 1 (by show 1 < 3; omega)).2, bn_at ha (j := 0 + 1 + 1) (by show 2 < 3; omega) (hd 2 (by show 2 < 3; omega)).2]
      show ((0 * 10 + (48 + n / 100 - 48)) * 10 + (48 + n % 100 / 10 - 48)) * 10 + (48 + n % 10 - 48) = n
      omega
/-- a number within its bounds -/
theorem num_at {n lo hi : Nat} (w : TS h (nB ts) ts.length q) (hn : n < 1000) (ha : At ts q (dgs n ++ c :: cs)) (hc : ¬ digC c) (hc2 : c < 1000) (h1 : lo ≤ n) (h2 : n ≤ hi) (h3 : hi < 2147483648) : f_X9_numberHere h (nI lo) (nI hi) = some (nI n, h) := by
  obtain ⟨hd, h0⟩ := dgs_dig hn
  have e := dz_d ha hd hc hc2
  have hl := dgs_l (n := n)
  rcases c_number w (lo := lo) (hi2 := hi) (by omega) h3 with ⟨-, k⟩ | ⟨k, -, -⟩
  · rw [k, e, nuV_dgs hn ha.l]
  · exfalso
    unfold nuE at k
    rw [e, nuV_dgs hn ha.l, if_neg (by omega), if_neg (by omega), if_neg (by omega)] at k
    exact absurd k (by decide)
end
