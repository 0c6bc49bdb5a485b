/-! the recording that a text gives -/
noncomputable def fB (P : Nat → Nat → Nat) : Nat → Nat → Nat := setE (bS P (P 0 4)) 9 (bS P (P 0 4) 0 13) (P 0 4)
noncomputable def fR (P : Nat → Nat → Nat) : Nat → Nat → Nat := cS (fB P) (fB P 0 13)
section
variable {h g : Hp} {c : Nat} {P R : Nat → Nat → Nat} {b : Nat}
theorem fB_o {o j : Nat} (h : ¬ o = 9) : fB P o j = bS P (P 0 4) o j := setE_o h
theorem fR_o {o j : Nat} (h : ¬ (o = 12 ∨ o = 13)) : fR P o j = fB P o j := cS_o h _
theorem fR_s (hD : WD P) (hh : holds P (P 0 4)) {o j : Nat} (h1 : ¬ o = 6) (h2 : ¬ o = 9) (h3 : ¬ o = 10) (h4 : ¬ o = 11) (h5 : ¬ (o = 0 ∧ j = 13)) (h6 : ¬ (o = 12 ∨ o = 13)) : fR P o j = P o j := by
  rw [fR_o h6, fB_o h2]
  exact (IB.all hD hh _ (Nat.le_refl _)).s o j h1 h2 h3 h4 h5
theorem fR_9 (j : Nat) : fR P 9 j = if j = fR P 0 13 then P 0 4 else bS P (P 0 4) 9 j := by
  rw [fR_o (by decide), fR_o (o := 0) (by decide), fB_o (o := 0) (by decide)]
  unfold fB
  by_cases e : j = bS P (P 0 4) 0 13
  · rw [if_pos e, e, setE_s]
  · rw [if_neg e, setE_n e]
theorem fR_WR (hD : WD P) (hh : holds P (P 0 4)) : WR (fR P) := by
  have q := IB.all hD hh _ (Nat.le_refl _)
  have s : ∀ {o j}, ¬ o = 6 → ¬ o = 9 → ¬ o = 10 → ¬ o = 11 → ¬ (o = 0 ∧ j = 13) → ¬ (o = 12 ∨ o = 13) → fR P o j = P o j := fun h1 h2 h3 h4 h5 h6 => fR_s hD hh h1 h2 h3 h4 h5 h6
  have n : fR P 0 13 = bS P (P 0 4) 0 13 := by rw [fR_o (by decide), fB_o (by decide)]
  have e6 : ∀ j, fR P 6 j = bS P (P 0 4) 6 j := fun j => by rw [fR_o (by decide), fB_o (by decide)]
  have e10 : ∀ j, fR P 10 j = bS P (P 0 4) 10 j := fun j => by rw [fR_o (by decide), fB_o (by decide)]
  have e11 : ∀ j, fR P 11 j = bS P (P 0 4) 11 j := fun j => by rw [fR_o (by decide), fB_o (by decide)]
  have e9 := fR_9 (P := P)
  rw [n] at e9
  have v1 : ∀ b, b < bS P (P 0 4) 0 13 → (b + 1 < bS P (P 0 4) 0 13 → fR P 12 b = (cpS (fB P) b (fB P 0 10)).2.1 ∧ fR P 13 b = (cpS (fB P) b (fB P 0 10)).2.2) ∧ (¬ b + 1 < bS P (P 0 4) 0 13 → fR P 12 b = fB P 0 0 ∧ fR P 13 b = 0) := by
    intro b hb
    have en : fB P 0 13 = bS P (P 0 4) 0 13 := fB_o (by decide)
    have := cS_v (R := fB P) (j := b) (fB P 0 13) (by rw [en]; exact hb)
    rw [en] at this
    unfold fR
    rw [en]
    exact this
  have cp : ∀ b, b + 1 < bS P (P 0 4) 0 13 → bS P (P 0 4) 11 b ≤ (cpS (fB P) b (fB P 0 10)).2.1 ∧ (cpS (fB P) b (fB P 0 10)).2.1 ≤ bS P (P 0 4) 10 (b + 1) ∧ (cpS (fB P) b (fB P 0 10)).2.2 ≤ 1 := by
    intro b hb
    have := cpS_b (fB P) b (by rw [fB_o (by decide), fB_o (by decide)]; exact q.ord b hb) (fB P 0 10)
    rw [fB_o (show ¬ 11 = 9 by decide), fB_o (show ¬ 10 = 9 by decide)] at this
    exact ⟨this.1, this.2.1, this.2.2.1⟩
  have e00 : fB P 0 0 = P 0 0 := by
    rw [fB_o (by decide)]
    exact q.s 0 0 (by decide) (by decide) (by decide) (by decide) (by decide)
  have s04 : fR P 0 4 = P 0 4 := s (by decide) (by decide) (by decide) (by decide) (by decide) (by decide)
  have s00 : fR P 0 0 = P 0 0 := s (by decide) (by decide) (by decide) (by decide) (by decide) (by decide)
  have s02 : fR P 0 2 = P 0 2 := s (by decide) (by decide) (by decide) (by decide) (by decide) (by decide)
  have s4 : ∀ j, fR P 4 j = P 4 j := fun j => s (by decide) (by decide) (by decide) (by decide) (by omega) (by decide)
  have s5 : ∀ j, fR P 5 j = P 5 j := fun j => s (by decide) (by decide) (by decide) (by decide) (by omega) (by decide)
  have s3 : ∀ j, fR P 3 j = P 3 j := fun j => s (by decide) (by decide) (by decide) (by decide) (by omega) (by decide)
  refine ⟨?_, ?_, ?_, ?_, ?_, ?_, ?_, ?_, ?_, fun b hb => ?_, fun b w hb h1 h2 => ?_, fun w hw => ?_, fun w hw => ?_, fun w hw => ?_, fun b hb => ?_, fun b hb => ?_, fun b hb => ?_, fun b hb => ?_, fun x hx => ?_, fun w hw => ?_⟩
  · rw [s04]; exact hD.w40
  · rw [n, s04]; exact q.bw
  · rw [s02]; exact hD.s4
  · rw [s (by decide) (by decide) (by decide) (by decide) (by decide) (by decide)]; exact hD.br
  · rw [s00]; exact hD.len0
  · rw [s00]; exact hD.len
  · rw [s (by decide) (by decide) (by decide) (by decide) (by decide) (by decide)]; exact hD.han
  · rw [e9]
    by_cases e : 0 = bS P (P 0 4) 0 13
    · rw [if_pos e]
      apply Classical.byContradiction
      intro y
      have := q.pos (by omega)
      omega
    · rw [if_neg e]
      have := q.bw
      exact q.w0 (by omega)
  · rw [n, e9, if_pos rfl, s04]
  · rw [n] at hb
    rw [e9, e9, if_neg (by omega)]
    by_cases e : b + 1 = bS P (P 0 4) 0 13
    · rw [if_pos e]; exact q.f1 b hb
    · rw [if_neg e]; exact q.f2 b (by omega)
  · rw [n] at hb
    rw [e9, if_neg (by omega)] at h1
    rw [e9] at h2
    rw [e6, e10, e11, s4, s5]
    have hw : w < P 0 4 := by
      by_cases e : b + 1 = bS P (P 0 4) 0 13
      · rw [if_pos e] at h2; exact h2
      · rw [if_neg e] at h2
        have := q.f1 (b + 1) (by omega)
        omega
    refine q.blk b w hb h1 hw (fun y => ?_)
    rw [if_neg (by omega)] at h2
    exact h2
  · rw [s04] at hw
    obtain ⟨a1, a2, a3⟩ := q.wb w hw
    rw [e6, n, e9, e9, if_neg (by omega)]
    refine ⟨a1, a2, ?_⟩
    by_cases e : bS P (P 0 4) 6 w + 1 = bS P (P 0 4) 0 13
    · rw [if_pos e]; exact hw
    · rw [if_neg e]; exact a3 (by omega)
  · rw [s04] at hw
    have := hD.wd w hw
    have := hh w hw
    rw [s4, s5, s3, s00, s02]
    omega
  · rw [s04] at hw
    rw [s4, s4]; exact hD.srt w hw
  · rw [n] at hb
    rw [((v1 b (by omega)).1 hb).1, e11, e10]
    exact ⟨(cp b hb).1, (cp b hb).2.1⟩
  · rw [n] at hb
    rw [((v1 b (by omega)).2 (by omega)).1, e00, s00]
  · rw [n] at hb
    have hb1 := q.bse b hb
    rw [e10, e11, s00]
    refine ⟨hb1.1, hb1.2, ?_⟩
    by_cases e : b + 1 < bS P (P 0 4) 0 13
    · rw [((v1 b hb).1 e).1]
      have := (cp b e).2.1
      have := q.bse (b + 1) e
      omega
    · rw [((v1 b hb).2 e).1, e00]
      exact Nat.le_refl _
  · rw [n] at hb
    by_cases e : b + 1 < bS P (P 0 4) 0 13
    · rw [((v1 b hb).1 e).2]; exact (cp b e).2.2
    · rw [((v1 b hb).2 e).2]; omega
  · rw [s02] at hx
    rw [s (by decide) (by decide) (by decide) (by decide) (by omega) (by decide)]; exact hD.nm x hx
  · rw [s04] at hw
    rw [s (by decide) (by decide) (by decide) (by decide) (by omega) (by decide)]; exact hD.tx w hw
end
