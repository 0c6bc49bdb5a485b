/-! blocks, word by word -/
def nwB (R : Nat → Nat → Nat) (w : Nat) : Nat → Nat → Nat := setE (setE (setE (setE R 9 (R 0 13) w) 10 (R 0 13) (R 4 w)) 11 (R 0 13) (R 5 w)) 0 13 (R 0 13 + 1)
def exB (R : Nat → Nat → Nat) (w : Nat) : Nat → Nat → Nat := setE (setE R 6 w (R 0 13 - 1)) 11 (R 0 13 - 1) (max (R 11 (R 0 13 - 1)) (R 5 w))
def newB (R : Nat → Nat → Nat) (w : Nat) : Prop := R 0 13 = 0 ∨ ¬ R 4 w < R 11 (R 0 13 - 1)
noncomputable def stB (R : Nat → Nat → Nat) (w : Nat) : Nat → Nat → Nat := @ite _ (newB R w) (Classical.propDecidable _) (exB (nwB R w) w) (exB R w)
noncomputable def bS (R : Nat → Nat → Nat) (w : Nat) : Nat → Nat → Nat := Nat.rec (motive := fun _ => Nat → Nat → Nat) R (fun w r => stB r w) w
theorem bS_s (R : Nat → Nat → Nat) (w : Nat) : bS R (w + 1) = stB (bS R w) w := rfl
def IB (P : Nat → Nat → Nat) (R : Nat → Nat → Nat) (w : Nat) : Prop :=
  (∀ o j, ¬ o = 6 → ¬ o = 9 → ¬ o = 10 → ¬ o = 11 → ¬ (o = 0 ∧ j = 13) → R o j = P o j) ∧
  (R 0 13 ≤ w) ∧
  (0 < w → 0 < R 0 13) ∧
  (0 < w → R 9 0 = 0) ∧
  (∀ b, b < R 0 13 → R 9 b < w) ∧
  (∀ b, b + 1 < R 0 13 → R 9 b < R 9 (b + 1)) ∧
  (∀ b v, b < R 0 13 → R 9 b ≤ v → v < w → (b + 1 < R 0 13 → v < R 9 (b + 1)) → R 6 v = b ∧ R 10 b ≤ P 4 v ∧ P 5 v ≤ R 11 b) ∧
  (∀ v, v < w → R 6 v < R 0 13 ∧ R 9 (R 6 v) ≤ v ∧ (R 6 v + 1 < R 0 13 → v < R 9 (R 6 v + 1))) ∧
  (∀ b, b < R 0 13 → R 10 b < R 11 b ∧ R 11 b ≤ P 0 0) ∧
  (∀ b, b + 1 < R 0 13 → R 11 b ≤ R 10 (b + 1))
theorem IB.s {P : Nat → Nat → Nat} {R : Nat → Nat → Nat} {w : Nat} (q : IB P R w) : ∀ o j, ¬ o = 6 → ¬ o = 9 → ¬ o = 10 → ¬ o = 11 → ¬ (o = 0 ∧ j = 13) → R o j = P o j := q.1
theorem IB.bw {P : Nat → Nat → Nat} {R : Nat → Nat → Nat} {w : Nat} (q : IB P R w) : R 0 13 ≤ w := q.2.1
theorem IB.pos {P : Nat → Nat → Nat} {R : Nat → Nat → Nat} {w : Nat} (q : IB P R w) : 0 < w → 0 < R 0 13 := q.2.2.1
theorem IB.w0 {P : Nat → Nat → Nat} {R : Nat → Nat → Nat} {w : Nat} (q : IB P R w) : 0 < w → R 9 0 = 0 := q.2.2.2.1
theorem IB.f1 {P : Nat → Nat → Nat} {R : Nat → Nat → Nat} {w : Nat} (q : IB P R w) : ∀ b, b < R 0 13 → R 9 b < w := q.2.2.2.2.1
theorem IB.f2 {P : Nat → Nat → Nat} {R : Nat → Nat → Nat} {w : Nat} (q : IB P R w) : ∀ b, b + 1 < R 0 13 → R 9 b < R 9 (b + 1) := q.2.2.2.2.2.1
theorem IB.blk {P : Nat → Nat → Nat} {R : Nat → Nat → Nat} {w : Nat} (q : IB P R w) : ∀ b v, b < R 0 13 → R 9 b ≤ v → v < w → (b + 1 < R 0 13 → v < R 9 (b + 1)) → R 6 v = b ∧ R 10 b ≤ P 4 v ∧ P 5 v ≤ R 11 b := q.2.2.2.2.2.2.1
theorem IB.wb {P : Nat → Nat → Nat} {R : Nat → Nat → Nat} {w : Nat} (q : IB P R w) : ∀ v, v < w → R 6 v < R 0 13 ∧ R 9 (R 6 v) ≤ v ∧ (R 6 v + 1 < R 0 13 → v < R 9 (R 6 v + 1)) := q.2.2.2.2.2.2.2.1
theorem IB.bse {P : Nat → Nat → Nat} {R : Nat → Nat → Nat} {w : Nat} (q : IB P R w) : ∀ b, b < R 0 13 → R 10 b < R 11 b ∧ R 11 b ≤ P 0 0 := q.2.2.2.2.2.2.2.2.1
theorem IB.ord {P : Nat → Nat → Nat} {R : Nat → Nat → Nat} {w : Nat} (q : IB P R w) : ∀ b, b + 1 < R 0 13 → R 11 b ≤ R 10 (b + 1) := q.2.2.2.2.2.2.2.2.2
section
variable {h g : Hp} {c : Nat} {P R : Nat → Nat → Nat} {w : Nat}
theorem nw_n (R : Nat → Nat → Nat) (w : Nat) : exB (nwB R w) w 0 13 = R 0 13 + 1 := by
  unfold exB
  rw [setE_o (by decide), setE_o (by decide)]
  exact setE_s _ _ _ _
theorem nw_0 {R : Nat → Nat → Nat} {w o j : Nat} (h1 : ¬ o = 6) (h2 : ¬ o = 9) (h3 : ¬ o = 10) (h4 : ¬ o = 11) (h5 : ¬ (o = 0 ∧ j = 13)) : exB (nwB R w) w o j = R o j := by
  unfold exB
  rw [setE_o h4, setE_o h1]
  unfold nwB
  by_cases e : o = 0
  · rw [setE_n (fun y => h5 ⟨e, y⟩), setE_o h4, setE_o h3, setE_o h2]
  · rw [setE_o e, setE_o h4, setE_o h3, setE_o h2]
theorem nw_13 (R : Nat → Nat → Nat) (w : Nat) : nwB R w 0 13 = R 0 13 + 1 := setE_s _ _ _ _
theorem nw_9 (R : Nat → Nat → Nat) (w j : Nat) : exB (nwB R w) w 9 j = if j = R 0 13 then w else R 9 j := by
  unfold exB
  rw [setE_o (by decide), setE_o (by decide)]
  unfold nwB
  rw [setE_o (by decide), setE_o (by decide), setE_o (by decide)]
  by_cases e : j = R 0 13
  · rw [if_pos e, e, setE_s]
  · rw [if_neg e, setE_n e]
theorem nw_10 (R : Nat → Nat → Nat) (w j : Nat) : exB (nwB R w) w 10 j = if j = R 0 13 then R 4 w else R 10 j := by
  unfold exB
  rw [setE_o (by decide), setE_o (by decide)]
  unfold nwB
  rw [setE_o (by decide), setE_o (by decide)]
  by_cases e : j = R 0 13
  · rw [if_pos e, e, setE_s]
  · rw [if_neg e, setE_n e, setE_o (by decide)]
theorem nw_11 (R : Nat → Nat → Nat) (w j : Nat) : exB (nwB R w) w 11 j = if j = R 0 13 then R 5 w else R 11 j := by
  have e11 : nwB R w 11 (R 0 13) = R 5 w := by
    unfold nwB
    rw [setE_o (by decide), setE_s]
  have e5 : nwB R w 5 w = R 5 w := by
    unfold nwB
    rw [setE_o (by decide), setE_o (by decide), setE_o (by decide), setE_o (by decide)]
  unfold exB
  rw [nw_13, Nat.add_sub_cancel, e11, e5, Nat.max_self]
  by_cases e : j = R 0 13
  · rw [if_pos e, e, setE_s]
  · rw [if_neg e, setE_n e, setE_o (by decide)]
    unfold nwB
    rw [setE_o (by decide), setE_n e, setE_o (by decide), setE_o (by decide)]
theorem nw_6 (R : Nat → Nat → Nat) (w j : Nat) : exB (nwB R w) w 6 j = if j = w then R 0 13 else R 6 j := by
  unfold exB
  rw [setE_o (by decide), nw_13, Nat.add_sub_cancel]
  by_cases e : j = w
  · rw [if_pos e, e, setE_s]
  · rw [if_neg e, setE_n e]
    unfold nwB
    rw [setE_o (by decide), setE_o (by decide), setE_o (by decide), setE_o (by decide)]
theorem ex_0 {R : Nat → Nat → Nat} {w o j : Nat} (h1 : ¬ o = 6) (h4 : ¬ o = 11) : exB R w o j = R o j := by
  unfold exB
  rw [setE_o h4, setE_o h1]
theorem ex_11 (R : Nat → Nat → Nat) (w j : Nat) : exB R w 11 j = if j = R 0 13 - 1 then max (R 11 (R 0 13 - 1)) (R 5 w) else R 11 j := by
  unfold exB
  by_cases e : j = R 0 13 - 1
  · rw [if_pos e, e, setE_s]
  · rw [if_neg e, setE_n e, setE_o (by decide)]
theorem ex_6 (R : Nat → Nat → Nat) (w j : Nat) : exB R w 6 j = if j = w then R 0 13 - 1 else R 6 j := by
  unfold exB
  rw [setE_o (by decide)]
  by_cases e : j = w
  · rw [if_pos e, e, setE_s]
  · rw [if_neg e, setE_n e]
theorem IB.new (q : IB P R w) (hD : WD P) (hw : w < P 0 4) (hh : holds P (P 0 4)) (hn : newB R w) : IB P (exB (nwB R w) w) (w + 1) := by
  have e4 := q.s 4 w (by decide) (by decide) (by decide) (by decide) (by omega)
  have e5 := q.s 5 w (by decide) (by decide) (by decide) (by decide) (by omega)
  have wd := hD.wd w hw
  have hl := hh w hw
  have hbw := q.bw
  refine ⟨fun o j h1 h2 h3 h4 h5 => ?_, ?_, fun _ => ?_, fun _ => ?_, fun b hb => ?_, fun b hb => ?_, fun b v hb h1 h2 h3 => ?_, fun v hv => ?_, fun b hb => ?_, fun b hb => ?_⟩
  · rw [nw_0 h1 h2 h3 h4 h5]; exact q.s o j h1 h2 h3 h4 h5
  · rw [nw_n]; omega
  · rw [nw_n]; omega
  · rw [nw_9]
    by_cases e : 0 = R 0 13
    · rw [if_pos e]
      apply Classical.byContradiction
      intro y
      have := q.pos (by omega)
      omega
    · rw [if_neg e]; exact q.w0 (by omega)
  · rw [nw_n] at hb
    rw [nw_9]
    by_cases e : b = R 0 13
    · rw [if_pos e]; omega
    · rw [if_neg e]
      have := q.f1 b (by omega)
      omega
  · rw [nw_n] at hb
    rw [nw_9, nw_9, if_neg (by omega)]
    by_cases e : b + 1 = R 0 13
    · rw [if_pos e]; exact q.f1 b (by omega)
    · rw [if_neg e]; exact q.f2 b (by omega)
  · rw [nw_n] at hb h3
    rw [nw_9] at h1 h3
    rw [nw_6, nw_10, nw_11, e4, e5]
    by_cases e : b = R 0 13
    · rw [if_pos e] at h1
      have ev : v = w := by omega
      rw [if_pos ev, if_pos e, if_pos e, ev]
      exact ⟨e.symm, Nat.le_refl _, Nat.le_refl _⟩
    · rw [if_neg e] at h1
      have hv : v < w := by
        by_cases e2 : b + 1 = R 0 13
        · have := h3 (by omega)
          rw [if_pos e2] at this
          exact this
        · have := h3 (by omega)
          rw [if_neg e2] at this
          have := q.f1 (b + 1) (by omega)
          omega
      rw [if_neg (show ¬ v = w by omega), if_neg e, if_neg e]
      refine q.blk b v (by omega) h1 hv (fun y => ?_)
      have := h3 (by omega)
      rw [if_neg (by omega)] at this
      exact this
  · rw [nw_6, nw_n]
    by_cases e : v = w
    · rw [if_pos e, nw_9, if_pos rfl]
      exact ⟨by omega, by omega, fun y => absurd y (by omega)⟩
    · rw [if_neg e]
      obtain ⟨a1, a2, a3⟩ := q.wb v (by omega)
      rw [nw_9, nw_9, if_neg (by omega)]
      refine ⟨by omega, a2, fun _ => ?_⟩
      by_cases e2 : R 6 v + 1 = R 0 13
      · rw [if_pos e2]; omega
      · rw [if_neg e2]; exact a3 (by omega)
  · rw [nw_n] at hb
    rw [nw_10, nw_11, e4, e5]
    by_cases e : b = R 0 13
    · rw [if_pos e, if_pos e]; exact ⟨wd.1, hl⟩
    · rw [if_neg e, if_neg e]; exact q.bse b (by omega)
  · rw [nw_n] at hb
    rw [nw_11, nw_10, if_neg (by omega), e4]
    by_cases e : b + 1 = R 0 13
    · rw [if_pos e]
      rcases hn with y | y
      · omega
      · rw [e4, show R 0 13 - 1 = b by omega] at y
        omega
    · rw [if_neg e]; exact q.ord b (by omega)
theorem IB.ext (q : IB P R w) (hD : WD P) (hw : w < P 0 4) (hh : holds P (P 0 4)) (hn : ¬ newB R w) : IB P (exB R w) (w + 1) := by
  have e4 := q.s 4 w (by decide) (by decide) (by decide) (by decide) (by omega)
  have e5 := q.s 5 w (by decide) (by decide) (by decide) (by decide) (by omega)
  have wd := hD.wd w hw
  have hl := hh w hw
  have hbw := q.bw
  have b0 : 0 < R 0 13 := by
    apply Classical.byContradiction
    intro y
    exact hn (Or.inl (by omega))
  have hlt : R 4 w < R 11 (R 0 13 - 1) := by
    apply Classical.byContradiction
    intro y
    exact hn (Or.inr y)
  have w1 : 0 < w := by omega
  have hst : R 10 (R 0 13 - 1) ≤ P 4 w := by
    have h1 := q.f1 (R 0 13 - 1) (by omega)
    have h2 := (q.blk (R 0 13 - 1) (w - 1) (by omega) (by omega) (by omega) (fun y => by omega)).2.1
    have h3 := hD.srt (w - 1) (by omega)
    rw [show w - 1 + 1 = w by omega] at h3
    omega
  have n9 : ∀ j, exB R w 9 j = R 9 j := fun j => ex_0 (by decide) (by decide)
  have n10 : ∀ j, exB R w 10 j = R 10 j := fun j => ex_0 (by decide) (by decide)
  have nn : exB R w 0 13 = R 0 13 := ex_0 (by decide) (by decide)
  have m11 : ∀ j, R 11 j ≤ exB R w 11 j := fun j => by
    rw [ex_11]
    by_cases e : j = R 0 13 - 1
    · rw [if_pos e, e]; omega
    · rw [if_neg e]; omega
  refine ⟨fun o j h1 h2 h3 h4 h5 => ?_, ?_, fun _ => ?_, fun _ => ?_, fun b hb => ?_, fun b hb => ?_, fun b v hb h1 h2 h3 => ?_, fun v hv => ?_, fun b hb => ?_, fun b hb => ?_⟩
  · rw [ex_0 h1 h4]; exact q.s o j h1 h2 h3 h4 h5
  · rw [nn]; omega
  · rw [nn]; omega
  · rw [n9]; exact q.w0 w1
  · rw [nn] at hb
    rw [n9]
    have := q.f1 b hb
    omega
  · rw [nn] at hb
    rw [n9, n9]; exact q.f2 b hb
  · rw [nn] at hb h3
    rw [n9] at h1
    rw [n9] at h3
    rw [ex_6, n10]
    by_cases e : v = w
    · have eb : b = R 0 13 - 1 := by
        apply Classical.byContradiction
        intro y
        have := h3 (by omega)
        have := q.f1 (b + 1) (by omega)
        omega
      rw [if_pos e, e, ex_11, if_pos eb, eb]
      refine ⟨rfl, hst, by omega⟩
    · rw [if_neg e]
      obtain ⟨a1, a2, a3⟩ := q.blk b v hb h1 (by omega) h3
      exact ⟨a1, a2, Nat.le_trans a3 (m11 b)⟩
  · rw [ex_6, nn]
    by_cases e : v = w
    · rw [if_pos e, n9]
      have := q.f1 (R 0 13 - 1) (by omega)
      exact ⟨by omega, by omega, fun y => by omega⟩
    · rw [if_neg e, n9, n9]; exact q.wb v (by omega)
  · rw [nn] at hb
    rw [n10]
    obtain ⟨a1, a2⟩ := q.bse b hb
    refine ⟨Nat.lt_of_lt_of_le a1 (m11 b), ?_⟩
    rw [ex_11]
    by_cases e : b = R 0 13 - 1
    · rw [if_pos e]
      rw [← e]
      omega
    · rw [if_neg e]; exact a2
  · rw [nn] at hb
    rw [n10, ex_11, if_neg (by omega)]
    exact q.ord b hb
theorem IB.all (hD : WD P) (hh : holds P (P 0 4)) : ∀ w, w ≤ P 0 4 → IB P (bS P w) w := by
  intro w
  induction w with
  | zero =>
    intro _
    have b0 : bS P 0 = P := rfl
    rw [b0]
    have e := hD.b0
    exact ⟨fun _ _ _ _ _ _ _ => rfl, by omega, fun y => absurd y (by omega), fun y => absurd y (by omega), fun b hb => by omega, fun b hb => by omega, fun b v hb => by omega, fun v hv => absurd hv (by omega), fun b hb => by omega, fun b hb => by omega⟩
  | succ w ih =>
    intro hw
    have q := ih (by omega)
    rw [bS_s]
    unfold stB
    by_cases e : newB (bS P w) w
    · rw [if_pos e]; exact q.new hD (by omega) hh e
    · rw [if_neg e]; exact q.ext hD (by omega) hh e
end
