/-! the heaps that the constructors leave -/
def rcI : Nat → Int32 := fun j => if j = 0 then 1000 else if j = 1 then 12 else 0
def h0C : Hp := fun k => if k = 0 then (fun j => if j = 5 then 97 else if j = 6 then 118 else 0) else if k = 1 then (fun j => if j = 2 then -1 else 0) else if k = 3 then (fun j => if j = 0 then 83 else 0) else if k = 15 then (fun j => if j = 0 then 111 else 0) else if k = 83 then rcI else if k = 97 then rcI else fun _ => 0
def g0M : Hp := fun k => if k = 125 then (fun j => if j = 22 then -1 else 0) else fun _ => 0
def R0n : Nat → Nat → Nat := fun o j => if o = 0 then (if j = 0 then 1000 else if j = 1 then 12 else 0) else 0
def E0n : Nat → Nat → Nat := fun o _ => if o = 5 then 1 else 0
theorem R0_W : WR R0n := by
  have z : R0n 0 4 = 0 := rfl
  have z2 : R0n 0 13 = 0 := rfl
  refine ⟨by decide, by decide, by decide, by decide, by decide, by decide, by decide, rfl, rfl, fun b hb => ?_, fun b w hb => ?_, fun w hw => ?_, fun w hw => ?_, fun w hw => ?_, fun b hb => ?_, fun b hb => ?_, fun b hb => ?_, fun b hb => ?_, fun s hs => ?_, fun w hw => ?_⟩
  all_goals first | (rw [z2] at hb; omega) | (rw [z] at hw; omega) | (have : R0n 0 2 = 0 := rfl; omega)
theorem E0_W : WE R0n E0n := ⟨by decide, fun s hs => absurd hs (Nat.not_lt_zero _), fun s t hs => absurd hs (Nat.not_lt_zero _), fun w _ => Nat.zero_le _, fun b _ => Nat.zero_le _, fun b _ => Nat.zero_le _, Or.inr rfl⟩
theorem E0_X : WX R0n E0n := ⟨fun s hs => absurd hs (Nat.not_lt_zero _), fun w hw => absurd hw (Nat.not_lt_zero _)⟩
theorem h0_z {k j : Nat} (h0 : ¬ k = 0) (h1 : ¬ k = 1) (h3 : ¬ k = 3) (h15 : ¬ k = 15) (h83 : ¬ k = 83) (h97 : ¬ k = 97) : h0C k j = nI 0 := by
  unfold h0C
  rw [if_neg h0, if_neg h1, if_neg h3, if_neg h15, if_neg h83, if_neg h97]
  rfl
theorem first_IV : ∃ g1 g2, f_X11_begins g0M = some g1 ∧ f_X11_takesOver g1 = some g2 ∧ IV h0C g2 ∧ g2 145 = fun _ => 0 := by
  obtain ⟨g1, e1, G1, f1⟩ := m_begins (g := g0M) (R := R0n)
  obtain ⟨v1, v2, v3, v4, v5, v6⟩ := cl_v (R := R0n)
  have hh : holds (clR R0n) (clR R0n 0 4) := fun w hw => by rw [v4] at hw; exact absurd hw (Nat.not_lt_zero _)
  obtain ⟨g2, e2, G2, M2, d2, f2, f3⟩ := m_takesOver G1 cl_WD hh
  have W2 := fR_WR (P := clR R0n) cl_WD hh
  have s4 : fR (clR R0n) 0 4 = 0 := (fR_s cl_WD hh (by decide) (by decide) (by decide) (by decide) (by decide) (by decide)).trans v4
  have s13 : fR (clR R0n) 0 13 = 0 := by have := W2.bw; omega
  have s0 : fR (clR R0n) 0 0 = 1000 := (fR_s cl_WD hh (by decide) (by decide) (by decide) (by decide) (by decide) (by decide)).trans v1
  have s1 : fR (clR R0n) 0 1 = 12 := (fR_s cl_WD hh (by decide) (by decide) (by decide) (by decide) (by decide) (by decide)).trans v2
  have s2 : fR (clR R0n) 0 2 = 0 := (fR_s cl_WD hh (by decide) (by decide) (by decide) (by decide) (by decide) (by decide)).trans v3
  have s10 : fR (clR R0n) 0 10 = 0 := (fR_s cl_WD hh (by decide) (by decide) (by decide) (by decide) (by decide) (by decide)).trans v5
  have GG : GR g2 R0n := by
    refine ⟨?_, ?_, ?_, ?_, ?_, fun w hw => absurd hw (Nat.not_lt_zero _), fun w hw => absurd hw (Nat.not_lt_zero _), fun w hw => absurd hw (Nat.not_lt_zero _), fun w hw => absurd hw (Nat.not_lt_zero _), fun w hw => absurd hw (Nat.not_lt_zero _), ?_, fun w hw => absurd hw (Nat.not_lt_zero _), fun w hw => absurd hw (Nat.not_lt_zero _), fun w hw => absurd hw (Nat.not_lt_zero _), fun b hb => ?_, fun b hb => absurd hb (Nat.not_lt_zero _), fun b hb => absurd hb (Nat.not_lt_zero _)⟩
    · rw [G2.len, s0]; rfl
    · rw [G2.han, s1]; rfl
    · rw [G2.sc, s2]; rfl
    · rw [G2.wc, s4]; rfl
    · rw [G2.brc, s10]; rfl
    · rw [G2.bc, s13]; rfl
    · have hb : b = 0 := Nat.le_zero.mp hb
      subst hb
      rw [G2.bw 0 (by omega), W2.w0]
      rfl
  rw [s13] at M2
  have MM : GE g2 E0n := ⟨fun w _ hz => absurd hz (by decide), M2.n, fun s hs => absurd hs (Nat.not_lt_zero _), fun b hb => M2.hd b hb, fun b hb => M2.tl b hb⟩
  have g5 : ∀ j, ¬ j = 3 → ¬ j = 13 → g2 125 j = g0M 125 j := fun j a b => by rw [f3 j a b, f1 125 (by decide)]
  have g145 : g2 145 = fun _ => 0 := by
    rw [f2 145 (by decide) (by decide) (by omega), f1 145 (by decide)]
    rfl
  refine ⟨g1, g2, e1, e2, ⟨83, R0n, E0n, 0, 0, fun _ _ _ => 0, 97, 111, Sd h0C 111, fun _ => 0, 0, 118, ⟨⟨R0_W, E0_W, E0_X, GG, MM, ?_, ?_, ?_, rfl, ⟨by decide, Or.inl rfl⟩⟩, ⟨rfl, rfl, by decide, by decide, fun i hi => absurd hi (Nat.not_lt_zero _)⟩, ⟨d2, fun i hi => absurd hi (Nat.not_lt_zero _)⟩, fun i hi => absurd hi (Nat.not_lt_zero _)⟩, ⟨⟨0, by decide, rfl, by rw [g5 16 (by decide) (by decide)]; rfl, fun j hj => absurd hj (Nat.not_lt_zero _)⟩, by rw [g5 22 (by decide) (by decide)]; rfl, by rw [g5 23 (by decide) (by decide)]; rfl⟩, ⟨[], by decide, ⟨rfl, ?_⟩, ⟨by rw [g5 42 (by decide) (by decide)]; rfl, ?_⟩⟩, ⟨by rw [g5 38 (by decide) (by decide)]; rfl, by rw [g5 39 (by decide) (by decide)]; rfl, by rw [g5 40 (by decide) (by decide)]; rfl, by decide⟩, ⟨Or.inl rfl, by decide, Sd_cs _ _, ⟨by rw [g5 26 (by decide) (by decide)]; rfl, by decide, fun i hi => absurd hi (Nat.not_lt_zero _)⟩, rfl, ?_, ⟨0, by decide, ?_⟩⟩, rfl, ⟨by decide, Or.inr rfl⟩, by decide, rfl, ⟨by decide, Or.inr rfl⟩, by decide⟩, g145⟩
  · -- the recording
    refine ⟨fun j => ?_, fun o j ho => ?_⟩
    · show rcI j = nI (if j = 0 then 1000 else if j = 1 then 12 else 0)
      unfold rcI
      by_cases a : j = 0
      · rw [if_pos a, if_pos a]; rfl
      · rw [if_neg a, if_neg a]
        by_cases b : j = 1
        · rw [if_pos b, if_pos b]; rfl
        · rw [if_neg b, if_neg b]; rfl
    · by_cases z : o = 0
      · subst z
        show rcI j = nI (if j = 0 then 1000 else if j = 1 then 12 else 0)
        unfold rcI
        by_cases a : j = 0
        · rw [if_pos a, if_pos a]; rfl
        · rw [if_neg a, if_neg a]
          by_cases b : j = 1
          · rw [if_pos b, if_pos b]; rfl
          · rw [if_neg b, if_neg b]; rfl
      · rw [h0_z (by omega) (by omega) (by omega) (by omega) (by omega) (by omega)]
        unfold R0n
        rw [if_neg z]
  · -- the edit
    exact ⟨rfl, fun j _ => rfl, fun j hj => absurd hj (Nat.not_lt_zero _), fun j _ => rfl, fun j _ => rfl⟩
  · -- the film
    exact ⟨rfl, rfl, fun s hs => absurd hs (Nat.not_lt_zero _), fun s hs => absurd hs (Nat.not_lt_zero _), fun s hs => absurd hs (Nat.not_lt_zero _), fun s hs => by rw [Nat.le_zero.mp hs]; rfl, fun b hb => absurd hb (Nat.not_lt_zero _), fun p w h => (by cases h), fun w hw => absurd hw (Nat.not_lt_zero _), rfl, fun s hs => absurd hs (Nat.not_lt_zero _), rfl, rfl, rfl⟩
  · intro p w h
    cases h
  · intro p w h
    cases h
  · show vn (h0C 111 0) ≤ 30
    decide
  · show SQ _ _ _ 0 5 0 (vn (h0C 111 0)) 0 0
    rw [SQ_0]
    exact ⟨by decide, rfl⟩
