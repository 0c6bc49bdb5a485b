/-! the tokens of the law's own texts, as the class reads them -/
def nB (ts : List Nat) : Nat → Int32 := fun j => nI (ts.getD j 0)
def At (ts : List Nat) (q : Nat) (bs : List Nat) : Prop := ∀ j, j < bs.length → q + j < ts.length ∧ ts.getD (q + j) 0 = bs.getD j 0
theorem At.l {ts bs cs : List Nat} {q : Nat} (h : At ts q (bs ++ cs)) : At ts q bs := fun j hj => by
  have := h j (by rw [List.length_append]; omega)
  rw [getD_app1 hj] at this
  exact this
theorem At.r {ts bs cs : List Nat} {q : Nat} (h : At ts q (bs ++ cs)) : At ts (q + bs.length) cs := fun j hj => by
  have := h (bs.length + j) (by rw [List.length_append]; omega)
  rw [getD_app2 (by omega), Nat.add_sub_cancel_left] at this
  rw [Nat.add_assoc]
  exact this
theorem At.c {ts cs : List Nat} {q c : Nat} (h : At ts q (c :: cs)) : q < ts.length ∧ nB ts q = nI c := by
  have := h 0 (Nat.succ_pos _)
  refine ⟨this.1, ?_⟩
  unfold nB
  have e : ts.getD q 0 = c := this.2
  rw [e]
theorem At.t {ts cs : List Nat} {q c : Nat} (h : At ts q (c :: cs)) : At ts (q + 1) cs := At.r (bs := [c]) h
theorem At.get {ts bs : List Nat} {q j : Nat} (h : At ts q bs) (hj : j < bs.length) : nB ts (q + j) = nI (bs.getD j 0) := by
  unfold nB
  rw [(h j hj).2]
theorem At.le {ts bs : List Nat} {q : Nat} (h : At ts q bs) (h0 : 0 < bs.length) : q + bs.length ≤ ts.length := by
  have := (h (bs.length - 1) (by omega)).1
  omega
def lowC (c : Nat) : Prop := 97 ≤ c ∧ c ≤ 122
def digC (c : Nat) : Prop := 48 ≤ c ∧ c ≤ 57
theorem ltB_i {c : Nat} (h : c < 1000) : ltB (nI c) ↔ lowC c := by
  unfold ltB lowC
  constructor
  · rintro ⟨h1, h2⟩
    refine ⟨?_, ?_⟩
    · apply Classical.byContradiction; intro z; exact h1 (lty (by omega) (by omega))
    · apply Classical.byContradiction; intro z; exact h2 (lty (by omega) (by omega))
  · rintro ⟨h1, h2⟩
    exact ⟨ltn h1 (by omega), ltn h2 (by omega)⟩
theorem dgB_i {c : Nat} (h : c < 1000) : dgB (nI c) ↔ digC c := by
  unfold dgB digC
  constructor
  · rintro ⟨h1, h2⟩
    refine ⟨?_, ?_⟩
    · apply Classical.byContradiction; intro z; exact h1 (lty (by omega) (by omega))
    · apply Classical.byContradiction; intro z; exact h2 (lty (by omega) (by omega))
  · rintro ⟨h1, h2⟩
    exact ⟨ltn h1 (by omega), ltn h2 (by omega)⟩
theorem wsB_i {c : Nat} (h : c < 1000) : wsB (nI c) ↔ (c = 32 ∨ c = 9 ∨ c = 10) := by
  unfold wsB
  rw [nI_eq (by omega) (by omega), nI_eq (by omega) (by omega), nI_eq (by omega) (by omega)]
section
variable {ts bs cs : List Nat} {q c : Nat} {h : Hp}
/-- letters, then a sign that is none -/
theorem lz_at (ha : At ts q (bs ++ c :: cs)) (hl : ∀ j, j < bs.length → lowC (bs.getD j 0) ∧ bs.getD j 0 < 1000) (hc : ¬ lowC c) (hc2 : c < 1000) : rn ltB (nB ts) ts.length q = q + bs.length := by
  have h1 := ha.r.c
  refine rn_u (Nat.le_add_right _ _) (Nat.le_of_lt h1.1) (fun j p1 p2 => ?_) (fun _ => ?_)
  · have e := ha.l.get (j := j - q) (by omega)
    rw [show q + (j - q) = j by omega] at e
    rw [e, ltB_i (hl _ (by omega)).2]
    exact (hl _ (by omega)).1
  · rw [h1.2, ltB_i hc2]
    exact hc
theorem dz_at (ha : At ts q (bs ++ c :: cs)) (hl : ∀ j, j < bs.length → digC (bs.getD j 0) ∧ bs.getD j 0 < 1000) (hc : ¬ digC c) (hc2 : c < 1000) : rn dgB (nB ts) ts.length q = q + bs.length := by
  have h1 := ha.r.c
  refine rn_u (Nat.le_add_right _ _) (Nat.le_of_lt h1.1) (fun j p1 p2 => ?_) (fun _ => ?_)
  · have e := ha.l.get (j := j - q) (by omega)
    rw [show q + (j - q) = j by omega] at e
    rw [e, dgB_i (hl _ (by omega)).2]
    exact (hl _ (by omega)).1
  · rw [h1.2, dgB_i hc2]
    exact hc
theorem ws_0 (hq : q ≤ ts.length) (hc : q < ts.length → ∃ c, nB ts q = nI c ∧ c < 1000 ∧ ¬ (c = 32 ∨ c = 9 ∨ c = 10)) : rn wsB (nB ts) ts.length q = q := by
  refine rn_0 hq (fun hl => ?_)
  obtain ⟨c, e, h1, h2⟩ := hc hl
  rw [e, wsB_i h1]
  exact h2
theorem ws_1 (ha : At ts q (32 :: c :: cs)) (hc : c < 1000) (hc2 : ¬ (c = 32 ∨ c = 9 ∨ c = 10)) : rn wsB (nB ts) ts.length q = q + 1 := by
  have h1 := ha.c
  have h2 := ha.t.c
  refine rn_u (Nat.le_succ _) (Nat.le_of_lt h2.1) (fun j p1 p2 => ?_) (fun _ => ?_)
  · have e : j = q := by omega
    subst e
    rw [h1.2, wsB_i (by omega)]
    exact Or.inl rfl
  · rw [h2.2, wsB_i hc]
    exact hc2
end
