/-! what a recording and an edit are: R and E hold the numbers of the class's rows, by the row's place behind the object -/
theorem imax_n {a b : Nat} (ha : a < 2147483648) (hb : b < 2147483648) : imax (nI a) (nI b) = nI (max a b) := by
  unfold imax
  by_cases q : a < b
  · rw [if_pos ((nI_ltI ha hb).mpr q), Nat.max_eq_right (by omega)]
  · rw [if_neg (fun z => q ((nI_ltI ha hb).mp z)), Nat.max_eq_left (by omega)]
theorem imin_n {a b : Nat} (ha : a < 2147483648) (hb : b < 2147483648) : imin (nI a) (nI b) = nI (min a b) := by
  unfold imin
  by_cases q : b < a
  · rw [if_pos ((nI_ltI hb ha).mpr q), Nat.min_eq_right (by omega)]
  · rw [if_neg (fun z => q ((nI_ltI hb ha).mp z)), Nat.min_eq_left (by omega)]
theorem tsub {a b : Nat} (ha : a < 1073741824) (hb : b < 1073741824) : (nI a - nI b).toInt = (a : Int) - b := pk_sub_toInt ha hb
theorem imax_s {a v b : Nat} (ha : a < 1073741824) (hv : v < 1073741824) (hb : b < 1073741824) : imax (nI a - nI v) (nI b) = nI (max (a - v) b) := by
  by_cases q : v ≤ a
  · rw [sub_n q, imax_n (by omega) (by omega)]
  · have h : nI a - nI v < nI b := by
      rw [Int32.lt_iff_toInt_lt, tsub ha hv, nI_toInt (by omega)]; omega
    unfold imax
    rw [if_pos h, Nat.max_eq_right (by omega)]
theorem lt_pred {x : Int32} {b : Nat} (hb : b < 2147483648) : (nI b - nI 1 < x) = ¬ (x < nI b) := by
  have h1 : (nI b - nI 1).toInt = (b : Int) - 1 := by
    by_cases q : b = 0
    · subst q; decide
    · rw [sub_n (by omega), nI_toInt (by omega)]; omega
  rw [Int32.lt_iff_toInt_lt, Int32.lt_iff_toInt_lt, h1, nI_toInt (by omega)]
  apply propext
  omega
theorem lt_pred' {x : Int32} {b : Nat} (hb : b < 2147483648) (h : 1 ≤ b) : (nI (b - 1) < x) = ¬ (x < nI b) := by
  rw [← sub_n h, lt_pred hb]
/-- a number as an index below n, or none -/
theorem idx {x : Int32} {n : Nat} (hn : n < 2147483648) : (x < 0) ∨ (¬ x < 0 ∧ ¬ x < nI n) ∨ ∃ j, j < n ∧ x = nI j := by
  rcases pk_ix x hn with q | q | q
  · exact Or.inl q
  · by_cases z : x < 0
    · exact Or.inl z
    · exact Or.inr (Or.inl ⟨z, Int32.not_lt.mpr q⟩)
  · exact Or.inr (Or.inr q)
def oI (n i : Nat) : Int32 := if i < n then nI i else -nI 1
/-- the first of n places that p holds at; n if none -/
noncomputable def sch (p : Nat → Prop) (n : Nat) : Nat := Nat.rec (motive := fun _ => Nat) 0 (fun k r => if r < k then r else (@ite _ (p k) (Classical.propDecidable _) k (k + 1))) n
theorem sch_s (p : Nat → Prop) (n : Nat) : sch p (n + 1) = if sch p n < n then sch p n else (@ite _ (p n) (Classical.propDecidable _) n (n + 1)) := rfl
theorem sch_spec (p : Nat → Prop) : ∀ n, sch p n ≤ n ∧ (∀ j, j < sch p n → ¬ p j) ∧ (sch p n < n → p (sch p n)) := by
  intro n
  induction n with
  | zero => exact ⟨Nat.le_refl _, fun j h => absurd h (Nat.not_lt_zero _), fun h => absurd h (Nat.lt_irrefl _)⟩
  | succ n ih =>
    rw [sch_s]
    by_cases q : sch p n < n
    · rw [if_pos q]; exact ⟨by omega, ih.2.1, fun _ => ih.2.2 q⟩
    · rw [if_neg q]
      have e : sch p n = n := by omega
      by_cases z : p n
      · rw [if_pos z]; exact ⟨by omega, fun j hj => ih.2.1 j (by omega), fun _ => z⟩
      · rw [if_neg z]
        refine ⟨by omega, fun j hj => ?_, fun h => by omega⟩
        by_cases w : j = n
        · rw [w]; exact z
        · exact ih.2.1 j (by omega)
theorem sch_u {p : Nat → Prop} {n i : Nat} (hi : i ≤ n) (h1 : ∀ j, j < i → ¬ p j) (h2 : i < n → p i) : sch p n = i := by
  obtain ⟨a, b, c⟩ := sch_spec p n
  rcases Nat.lt_trichotomy (sch p n) i with q | q | q
  · exact absurd (c (by omega)) (h1 _ q)
  · exact q
  · exact absurd (h2 (by omega)) (b _ q)
theorem sch_c {p q : Nat → Prop} {n : Nat} (h : ∀ j, j < n → (p j ↔ q j)) : sch p n = sch q n := by
  obtain ⟨a, b, c⟩ := sch_spec q n
  exact sch_u a (fun j hj z => b j hj ((h j (by omega)).mp z)) (fun hl => (h _ hl).mpr (c hl))
/-- how many of n places p holds at -/
noncomputable def cnt (p : Nat → Prop) (n : Nat) : Nat := Nat.rec (motive := fun _ => Nat) 0 (fun k r => r + (@ite _ (p k) (Classical.propDecidable _) 1 0)) n
theorem cnt_s (p : Nat → Prop) (n : Nat) : cnt p (n + 1) = cnt p n + (@ite _ (p n) (Classical.propDecidable _) 1 0) := rfl
theorem cnt_0 (p : Nat → Prop) : cnt p 0 = 0 := rfl
theorem cnt_y {p : Nat → Prop} {n : Nat} (h : p n) : cnt p (n + 1) = cnt p n + 1 := by rw [cnt_s, if_pos h]
theorem cnt_n {p : Nat → Prop} {n : Nat} (h : ¬ p n) : cnt p (n + 1) = cnt p n := by rw [cnt_s, if_neg h, Nat.add_zero]
theorem cnt_le (p : Nat → Prop) : ∀ n, cnt p n ≤ n := by
  intro n
  induction n with
  | zero => exact Nat.le_refl _
  | succ n ih => rw [cnt_s]; split <;> omega
theorem cnt_c {p q : Nat → Prop} : ∀ {n : Nat}, (∀ j, j < n → (p j ↔ q j)) → cnt p n = cnt q n := by
  intro n
  induction n with
  | zero => intro _; rfl
  | succ n ih =>
    intro h
    have e := ih (fun j hj => h j (by omega))
    by_cases z : p n
    · rw [cnt_y z, cnt_y ((h n (by omega)).mp z), e]
    · rw [cnt_n z, cnt_n (fun y => z ((h n (by omega)).mpr y)), e]
/-- sums -/
def sm (f : Nat → Nat) (n : Nat) : Nat := Nat.rec (motive := fun _ => Nat) 0 (fun k r => r + f k) n
theorem sm_s (f : Nat → Nat) (n : Nat) : sm f (n + 1) = sm f n + f n := rfl
theorem sm_0 (f : Nat → Nat) : sm f 0 = 0 := rfl
theorem sm_le {f : Nat → Nat} {c : Nat} (h : ∀ j, f j ≤ c) : ∀ n, sm f n ≤ n * c := by
  intro n
  induction n with
  | zero => rw [sm_0]; omega
  | succ n ih => rw [sm_s, Nat.succ_mul]; have := h n; omega
theorem sm_leN {f : Nat → Nat} {c : Nat} : ∀ n, (∀ j, j < n → f j ≤ c) → sm f n ≤ n * c := by
  intro n
  induction n with
  | zero => intro _; rw [sm_0]; omega
  | succ n ih => intro h; rw [sm_s, Nat.succ_mul]; have := h n (by omega); have := ih (fun j hj => h j (by omega)); omega
theorem sm_c {f f' : Nat → Nat} : ∀ {n : Nat}, (∀ j, j < n → f j = f' j) → sm f n = sm f' n := by
  intro n
  induction n with
  | zero => intro _; rfl
  | succ n ih => intro h; rw [sm_s, sm_s, ih (fun j hj => h j (by omega)), h n (by omega)]
/-- names: five bits a letter on the one side, 27 a letter on the other -/
def n27k (k : Nat) : Nat → Nat := Nat.rec (motive := fun _ => Nat → Nat) (fun _ => 0) (fun _ r a => a % 32 + 27 * r (a / 32)) k
def n27 (a : Nat) : Nat := n27k 6 a
def isNm (k : Nat) : Nat → Prop := Nat.rec (motive := fun _ => Nat → Prop) (fun a => a = 0) (fun _ r a => a = 0 ∨ (1 ≤ a % 32 ∧ a % 32 ≤ 26 ∧ r (a / 32))) k
def isName (a : Nat) : Prop := a ≠ 0 ∧ isNm 6 a
theorem n27k_s (k a : Nat) : n27k (k + 1) a = a % 32 + 27 * n27k k (a / 32) := rfl
theorem isNm_s (k a : Nat) : isNm (k + 1) a = (a = 0 ∨ (1 ≤ a % 32 ∧ a % 32 ≤ 26 ∧ isNm k (a / 32))) := rfl
theorem n27k_0 : ∀ k, n27k k 0 = 0 := by
  intro k
  induction k with
  | zero => rfl
  | succ k ih => rw [n27k_s, Nat.zero_div, ih]
theorem n27k_lt : ∀ k a, isNm k a → n27k k a < 27 ^ k := by
  intro k
  induction k with
  | zero => intro a _; exact Nat.zero_lt_one
  | succ k ih =>
    intro a h
    rw [isNm_s] at h
    rcases h with rfl | ⟨h1, h2, h3⟩
    · rw [n27k_0]; exact Nat.pow_pos (by decide)
    · have := ih _ h3
      rw [n27k_s, Nat.pow_succ]
      omega
theorem isNm_lt : ∀ k a, isNm k a → a < 32 ^ k := by
  intro k
  induction k with
  | zero => intro a h; have h : a = 0 := h; rw [h]; exact Nat.zero_lt_one
  | succ k ih =>
    intro a h
    rw [isNm_s] at h
    rcases h with rfl | ⟨h1, h2, h3⟩
    · exact Nat.pow_pos (by decide)
    · have := ih _ h3
      rw [Nat.pow_succ]
      omega
theorem isNm_0 : ∀ k, isNm k 0 := by
  intro k
  cases k with
  | zero => rfl
  | succ k => exact Or.inl rfl
theorem n27k_inj : ∀ k a b, isNm k a → isNm k b → n27k k a = n27k k b → a = b := by
  intro k
  induction k with
  | zero => intro a b ha hb _; have ha : a = 0 := ha; have hb : b = 0 := hb; rw [ha, hb]
  | succ k ih =>
    intro a b ha hb h
    rw [n27k_s, n27k_s] at h
    have ha1 : a % 32 ≤ 26 ∧ isNm k (a / 32) := by
      rw [isNm_s] at ha
      rcases ha with rfl | ⟨h1, h2, h3⟩
      · exact ⟨by omega, isNm_0 k⟩
      · exact ⟨h2, h3⟩
    have hb1 : b % 32 ≤ 26 ∧ isNm k (b / 32) := by
      rw [isNm_s] at hb
      rcases hb with rfl | ⟨h1, h2, h3⟩
      · exact ⟨by omega, isNm_0 k⟩
      · exact ⟨h2, h3⟩
    have e := ih (a / 32) (b / 32) ha1.2 hb1.2 (by omega)
    omega
theorem n27_inj {a b : Nat} (ha : isName a) (hb : isName b) : n27 a = n27 b ↔ a = b := ⟨n27k_inj 6 a b ha.2 hb.2, fun q => by rw [q]⟩
theorem n27_lt {a : Nat} (ha : isName a) : n27 a < 387420489 := n27k_lt 6 a ha.2
theorem nm_lt {a : Nat} (ha : isName a) : a < 1073741824 := isNm_lt 6 a ha.2
def WR (R : Nat → Nat → Nat) : Prop :=
  (R 0 4 ≤ 40) ∧
  (R 0 13 ≤ R 0 4) ∧
  (R 0 2 ≤ 4) ∧
  (R 0 10 ≤ 12) ∧
  (1 ≤ R 0 0) ∧
  (R 0 0 ≤ 99999) ∧
  (R 0 1 ≤ 999) ∧
  (R 9 0 = 0) ∧
  (R 9 (R 0 13) = R 0 4) ∧
  (∀ b, b < R 0 13 → R 9 b < R 9 (b + 1)) ∧
  (∀ b w, b < R 0 13 → R 9 b ≤ w → w < R 9 (b + 1) → R 6 w = b ∧ R 10 b ≤ R 4 w ∧ R 5 w ≤ R 11 b) ∧
  (∀ w, w < R 0 4 → R 6 w < R 0 13 ∧ R 9 (R 6 w) ≤ w ∧ w < R 9 (R 6 w + 1)) ∧
  (∀ w, w < R 0 4 → R 4 w < R 5 w ∧ R 5 w ≤ R 0 0 ∧ R 3 w < R 0 2) ∧
  (∀ w, w + 1 < R 0 4 → R 4 w ≤ R 4 (w + 1)) ∧
  (∀ b, b + 1 < R 0 13 → R 11 b ≤ R 12 b ∧ R 12 b ≤ R 10 (b + 1)) ∧
  (∀ b, b + 1 = R 0 13 → R 12 b = R 0 0) ∧
  (∀ b, b < R 0 13 → R 10 b < R 11 b ∧ R 11 b ≤ R 0 0 ∧ R 12 b ≤ R 0 0) ∧
  (∀ b, b < R 0 13 → R 13 b ≤ 1) ∧
  (∀ s, s < R 0 2 → isName (R 1 s)) ∧
  (∀ w, w < R 0 4 → isName (R 2 w))
theorem WR.w40 {R : Nat → Nat → Nat} (q : WR R) : R 0 4 ≤ 40 := q.1
theorem WR.bw {R : Nat → Nat → Nat} (q : WR R) : R 0 13 ≤ R 0 4 := q.2.1
theorem WR.s4 {R : Nat → Nat → Nat} (q : WR R) : R 0 2 ≤ 4 := q.2.2.1
theorem WR.br {R : Nat → Nat → Nat} (q : WR R) : R 0 10 ≤ 12 := q.2.2.2.1
theorem WR.len0 {R : Nat → Nat → Nat} (q : WR R) : 1 ≤ R 0 0 := q.2.2.2.2.1
theorem WR.len {R : Nat → Nat → Nat} (q : WR R) : R 0 0 ≤ 99999 := q.2.2.2.2.2.1
theorem WR.han {R : Nat → Nat → Nat} (q : WR R) : R 0 1 ≤ 999 := q.2.2.2.2.2.2.1
theorem WR.w0 {R : Nat → Nat → Nat} (q : WR R) : R 9 0 = 0 := q.2.2.2.2.2.2.2.1
theorem WR.wN {R : Nat → Nat → Nat} (q : WR R) : R 9 (R 0 13) = R 0 4 := q.2.2.2.2.2.2.2.2.1
theorem WR.wlt {R : Nat → Nat → Nat} (q : WR R) : ∀ b, b < R 0 13 → R 9 b < R 9 (b + 1) := q.2.2.2.2.2.2.2.2.2.1
theorem WR.blk {R : Nat → Nat → Nat} (q : WR R) : ∀ b w, b < R 0 13 → R 9 b ≤ w → w < R 9 (b + 1) → R 6 w = b ∧ R 10 b ≤ R 4 w ∧ R 5 w ≤ R 11 b := q.2.2.2.2.2.2.2.2.2.2.1
theorem WR.wb {R : Nat → Nat → Nat} (q : WR R) : ∀ w, w < R 0 4 → R 6 w < R 0 13 ∧ R 9 (R 6 w) ≤ w ∧ w < R 9 (R 6 w + 1) := q.2.2.2.2.2.2.2.2.2.2.2.1
theorem WR.wd {R : Nat → Nat → Nat} (q : WR R) : ∀ w, w < R 0 4 → R 4 w < R 5 w ∧ R 5 w ≤ R 0 0 ∧ R 3 w < R 0 2 := q.2.2.2.2.2.2.2.2.2.2.2.2.1
theorem WR.srt {R : Nat → Nat → Nat} (q : WR R) : ∀ w, w + 1 < R 0 4 → R 4 w ≤ R 4 (w + 1) := q.2.2.2.2.2.2.2.2.2.2.2.2.2.1
theorem WR.cut {R : Nat → Nat → Nat} (q : WR R) : ∀ b, b + 1 < R 0 13 → R 11 b ≤ R 12 b ∧ R 12 b ≤ R 10 (b + 1) := q.2.2.2.2.2.2.2.2.2.2.2.2.2.2.1
theorem WR.last {R : Nat → Nat → Nat} (q : WR R) : ∀ b, b + 1 = R 0 13 → R 12 b = R 0 0 := q.2.2.2.2.2.2.2.2.2.2.2.2.2.2.2.1
theorem WR.bse {R : Nat → Nat → Nat} (q : WR R) : ∀ b, b < R 0 13 → R 10 b < R 11 b ∧ R 11 b ≤ R 0 0 ∧ R 12 b ≤ R 0 0 := q.2.2.2.2.2.2.2.2.2.2.2.2.2.2.2.2.1
theorem WR.sn {R : Nat → Nat → Nat} (q : WR R) : ∀ b, b < R 0 13 → R 13 b ≤ 1 := q.2.2.2.2.2.2.2.2.2.2.2.2.2.2.2.2.2.1
theorem WR.nm {R : Nat → Nat → Nat} (q : WR R) : ∀ s, s < R 0 2 → isName (R 1 s) := q.2.2.2.2.2.2.2.2.2.2.2.2.2.2.2.2.2.2.1
theorem WR.tx {R : Nat → Nat → Nat} (q : WR R) : ∀ w, w < R 0 4 → isName (R 2 w) := q.2.2.2.2.2.2.2.2.2.2.2.2.2.2.2.2.2.2.2
def CR (h : Hp) (c : Nat) (R : Nat → Nat → Nat) : Prop :=
  (∀ j, h c j = nI (R 0 j)) ∧
  (∀ o j, o < 14 → h (c + o) j = nI (R o j))
theorem CR.z {h : Hp} {c : Nat} {R : Nat → Nat → Nat} (q : CR h c R) : ∀ j, h c j = nI (R 0 j) := q.1
theorem CR.o {h : Hp} {c : Nat} {R : Nat → Nat → Nat} (q : CR h c R) : ∀ o j, o < 14 → h (c + o) j = nI (R o j) := q.2
def GR (g : Hp) (R : Nat → Nat → Nat) : Prop :=
  (g 126 0 = nI (R 0 0)) ∧
  (g 126 1 = nI (R 0 1)) ∧
  (g 126 2 = nI (R 0 2)) ∧
  (g 126 3 = nI (R 0 4)) ∧
  (g 126 4 = nI (R 0 10)) ∧
  (∀ w, w < R 0 4 → g 126 (9 + 4 * w) = nI (R 3 w)) ∧
  (∀ w, w < R 0 4 → g 126 (9 + 4 * w + 1) = nI (n27 (R 2 w))) ∧
  (∀ w, w < R 0 4 → g 126 (9 + 4 * w + 2) = nI (R 4 w)) ∧
  (∀ w, w < R 0 4 → g 126 (9 + 4 * w + 3) = nI (R 5 w)) ∧
  (∀ s, s < R 0 2 → g 126 (5 + s) = nI (n27 (R 1 s))) ∧
  (g 125 3 = nI (R 0 13)) ∧
  (∀ w, w < R 0 4 → g 128 w = nI (R 6 w)) ∧
  (∀ b, b < R 0 13 → g 129 b = nI (R 10 b)) ∧
  (∀ b, b < R 0 13 → g 130 b = nI (R 11 b)) ∧
  (∀ b, b ≤ R 0 13 → g 131 b = nI (R 9 b)) ∧
  (∀ b, b + 1 < R 0 13 → g 132 b = nI (R 12 b)) ∧
  (∀ b, b < R 0 13 → g 133 b = nI (R 13 b))
theorem GR.len {g : Hp} {R : Nat → Nat → Nat} (q : GR g R) : g 126 0 = nI (R 0 0) := q.1
theorem GR.han {g : Hp} {R : Nat → Nat → Nat} (q : GR g R) : g 126 1 = nI (R 0 1) := q.2.1
theorem GR.sc {g : Hp} {R : Nat → Nat → Nat} (q : GR g R) : g 126 2 = nI (R 0 2) := q.2.2.1
theorem GR.wc {g : Hp} {R : Nat → Nat → Nat} (q : GR g R) : g 126 3 = nI (R 0 4) := q.2.2.2.1
theorem GR.brc {g : Hp} {R : Nat → Nat → Nat} (q : GR g R) : g 126 4 = nI (R 0 10) := q.2.2.2.2.1
theorem GR.who {g : Hp} {R : Nat → Nat → Nat} (q : GR g R) : ∀ w, w < R 0 4 → g 126 (9 + 4 * w) = nI (R 3 w) := q.2.2.2.2.2.1
theorem GR.txt {g : Hp} {R : Nat → Nat → Nat} (q : GR g R) : ∀ w, w < R 0 4 → g 126 (9 + 4 * w + 1) = nI (n27 (R 2 w)) := q.2.2.2.2.2.2.1
theorem GR.st {g : Hp} {R : Nat → Nat → Nat} (q : GR g R) : ∀ w, w < R 0 4 → g 126 (9 + 4 * w + 2) = nI (R 4 w) := q.2.2.2.2.2.2.2.1
theorem GR.en {g : Hp} {R : Nat → Nat → Nat} (q : GR g R) : ∀ w, w < R 0 4 → g 126 (9 + 4 * w + 3) = nI (R 5 w) := q.2.2.2.2.2.2.2.2.1
theorem GR.nm {g : Hp} {R : Nat → Nat → Nat} (q : GR g R) : ∀ s, s < R 0 2 → g 126 (5 + s) = nI (n27 (R 1 s)) := q.2.2.2.2.2.2.2.2.2.1
theorem GR.bc {g : Hp} {R : Nat → Nat → Nat} (q : GR g R) : g 125 3 = nI (R 0 13) := q.2.2.2.2.2.2.2.2.2.2.1
theorem GR.blk {g : Hp} {R : Nat → Nat → Nat} (q : GR g R) : ∀ w, w < R 0 4 → g 128 w = nI (R 6 w) := q.2.2.2.2.2.2.2.2.2.2.2.1
theorem GR.bs {g : Hp} {R : Nat → Nat → Nat} (q : GR g R) : ∀ b, b < R 0 13 → g 129 b = nI (R 10 b) := q.2.2.2.2.2.2.2.2.2.2.2.2.1
theorem GR.be {g : Hp} {R : Nat → Nat → Nat} (q : GR g R) : ∀ b, b < R 0 13 → g 130 b = nI (R 11 b) := q.2.2.2.2.2.2.2.2.2.2.2.2.2.1
theorem GR.bw {g : Hp} {R : Nat → Nat → Nat} (q : GR g R) : ∀ b, b ≤ R 0 13 → g 131 b = nI (R 9 b) := q.2.2.2.2.2.2.2.2.2.2.2.2.2.2.1
theorem GR.cut {g : Hp} {R : Nat → Nat → Nat} (q : GR g R) : ∀ b, b + 1 < R 0 13 → g 132 b = nI (R 12 b) := q.2.2.2.2.2.2.2.2.2.2.2.2.2.2.2.1
theorem GR.sn {g : Hp} {R : Nat → Nat → Nat} (q : GR g R) : ∀ b, b < R 0 13 → g 133 b = nI (R 13 b) := q.2.2.2.2.2.2.2.2.2.2.2.2.2.2.2.2
def WE (R : Nat → Nat → Nat) (E : Nat → Nat → Nat) : Prop :=
  (E 0 1 ≤ R 0 13) ∧
  (∀ s, s < E 0 1 → E 2 s < R 0 13) ∧
  (∀ s t, s < E 0 1 → t < E 0 1 → E 2 s = E 2 t → s = t) ∧
  (∀ w, w < 40 → E 1 w ≤ 1) ∧
  (∀ b, b < 40 → E 3 b ≤ 999) ∧
  (∀ b, b < 40 → E 4 b ≤ 999) ∧
  (E 5 0 = 0 ∨ R 0 4 = 0)
theorem WE.n {R : Nat → Nat → Nat} {E : Nat → Nat → Nat} (q : WE R E) : E 0 1 ≤ R 0 13 := q.1
theorem WE.lt {R : Nat → Nat → Nat} {E : Nat → Nat → Nat} (q : WE R E) : ∀ s, s < E 0 1 → E 2 s < R 0 13 := q.2.1
theorem WE.inj {R : Nat → Nat → Nat} {E : Nat → Nat → Nat} (q : WE R E) : ∀ s t, s < E 0 1 → t < E 0 1 → E 2 s = E 2 t → s = t := q.2.2.1
theorem WE.k1 {R : Nat → Nat → Nat} {E : Nat → Nat → Nat} (q : WE R E) : ∀ w, w < 40 → E 1 w ≤ 1 := q.2.2.2.1
theorem WE.hd {R : Nat → Nat → Nat} {E : Nat → Nat → Nat} (q : WE R E) : ∀ b, b < 40 → E 3 b ≤ 999 := q.2.2.2.2.1
theorem WE.tl {R : Nat → Nat → Nat} {E : Nat → Nat → Nat} (q : WE R E) : ∀ b, b < 40 → E 4 b ≤ 999 := q.2.2.2.2.2.1
theorem WE.fl {R : Nat → Nat → Nat} {E : Nat → Nat → Nat} (q : WE R E) : E 5 0 = 0 ∨ R 0 4 = 0 := q.2.2.2.2.2.2
theorem WE.zz {R E : Nat → Nat → Nat} (q : WE R E) (h : 0 < R 0 4) : E 5 0 = 0 := by
  have := q.fl
  omega
def WX (R : Nat → Nat → Nat) (E : Nat → Nat → Nat) : Prop :=
  (∀ s, s < E 0 1 → ∃ w, R 9 (E 2 s) ≤ w ∧ w < R 9 (E 2 s + 1) ∧ E 1 w = 1) ∧
  (∀ w, w < R 0 4 → E 1 w = 1 → ∃ s, s < E 0 1 ∧ E 2 s = R 6 w)
theorem WX.film {R : Nat → Nat → Nat} {E : Nat → Nat → Nat} (q : WX R E) : ∀ s, s < E 0 1 → ∃ w, R 9 (E 2 s) ≤ w ∧ w < R 9 (E 2 s + 1) ∧ E 1 w = 1 := q.1
theorem WX.kept {R : Nat → Nat → Nat} {E : Nat → Nat → Nat} (q : WX R E) : ∀ w, w < R 0 4 → E 1 w = 1 → ∃ s, s < E 0 1 ∧ E 2 s = R 6 w := q.2
def CE (h : Hp) (E : Nat → Nat → Nat) : Prop :=
  (h 18 1 = nI (E 0 1)) ∧
  (∀ j, j < 40 → h 19 j = nI (E 1 j)) ∧
  (∀ j, j < E 0 1 → h 20 j = nI (E 2 j)) ∧
  (∀ j, j < 40 → h 21 j = nI (E 3 j)) ∧
  (∀ j, j < 40 → h 22 j = nI (E 4 j))
theorem CE.z {h : Hp} {E : Nat → Nat → Nat} (q : CE h E) : h 18 1 = nI (E 0 1) := q.1
theorem CE.k {h : Hp} {E : Nat → Nat → Nat} (q : CE h E) : ∀ j, j < 40 → h 19 j = nI (E 1 j) := q.2.1
theorem CE.o {h : Hp} {E : Nat → Nat → Nat} (q : CE h E) : ∀ j, j < E 0 1 → h 20 j = nI (E 2 j) := q.2.2.1
theorem CE.hd {h : Hp} {E : Nat → Nat → Nat} (q : CE h E) : ∀ j, j < 40 → h 21 j = nI (E 3 j) := q.2.2.2.1
theorem CE.tl {h : Hp} {E : Nat → Nat → Nat} (q : CE h E) : ∀ j, j < 40 → h 22 j = nI (E 4 j) := q.2.2.2.2
def CEat (h : Hp) (b : Nat) (E : Nat → Nat → Nat) : Prop :=
  (h b 1 = nI (E 0 1)) ∧
  (∀ j, j < 40 → h (b + 1) j = nI (E 1 j)) ∧
  (∀ j, j < E 0 1 → h (b + 2) j = nI (E 2 j)) ∧
  (∀ j, j < 40 → h (b + 3) j = nI (E 3 j)) ∧
  (∀ j, j < 40 → h (b + 4) j = nI (E 4 j))
theorem CEat.z {h : Hp} {b : Nat} {E : Nat → Nat → Nat} (q : CEat h b E) : h b 1 = nI (E 0 1) := q.1
theorem CEat.k {h : Hp} {b : Nat} {E : Nat → Nat → Nat} (q : CEat h b E) : ∀ j, j < 40 → h (b + 1) j = nI (E 1 j) := q.2.1
theorem CEat.o {h : Hp} {b : Nat} {E : Nat → Nat → Nat} (q : CEat h b E) : ∀ j, j < E 0 1 → h (b + 2) j = nI (E 2 j) := q.2.2.1
theorem CEat.hd {h : Hp} {b : Nat} {E : Nat → Nat → Nat} (q : CEat h b E) : ∀ j, j < 40 → h (b + 3) j = nI (E 3 j) := q.2.2.2.1
theorem CEat.tl {h : Hp} {b : Nat} {E : Nat → Nat → Nat} (q : CEat h b E) : ∀ j, j < 40 → h (b + 4) j = nI (E 4 j) := q.2.2.2.2
def GEat (g : Hp) (k : Nat) (f : Nat) (E : Nat → Nat → Nat) : Prop :=
  (∀ w, w < 40 → E 5 0 = 0 → g k (f + w) = nI (1 - E 1 w)) ∧
  (g k (f + 40) = nI (E 0 1)) ∧
  (∀ s, s < E 0 1 → g k (f + (41 + s)) = nI (E 2 s)) ∧
  (∀ b, b < 40 → g k (f + (81 + b)) = nI (E 3 b)) ∧
  (∀ b, b < 40 → g k (f + (121 + b)) = nI (E 4 b))
theorem GEat.k {g : Hp} {k : Nat} {f : Nat} {E : Nat → Nat → Nat} (q : GEat g k f E) : ∀ w, w < 40 → E 5 0 = 0 → g k (f + w) = nI (1 - E 1 w) := q.1
theorem GEat.n {g : Hp} {k : Nat} {f : Nat} {E : Nat → Nat → Nat} (q : GEat g k f E) : g k (f + 40) = nI (E 0 1) := q.2.1
theorem GEat.o {g : Hp} {k : Nat} {f : Nat} {E : Nat → Nat → Nat} (q : GEat g k f E) : ∀ s, s < E 0 1 → g k (f + (41 + s)) = nI (E 2 s) := q.2.2.1
theorem GEat.hd {g : Hp} {k : Nat} {f : Nat} {E : Nat → Nat → Nat} (q : GEat g k f E) : ∀ b, b < 40 → g k (f + (81 + b)) = nI (E 3 b) := q.2.2.2.1
theorem GEat.tl {g : Hp} {k : Nat} {f : Nat} {E : Nat → Nat → Nat} (q : GEat g k f E) : ∀ b, b < 40 → g k (f + (121 + b)) = nI (E 4 b) := q.2.2.2.2
def GE (g : Hp) (E : Nat → Nat → Nat) : Prop :=
  (∀ w, w < 40 → E 5 0 = 0 → g 134 w = nI (1 - E 1 w)) ∧
  (g 134 40 = nI (E 0 1)) ∧
  (∀ s, s < E 0 1 → g 134 (41 + s) = nI (E 2 s)) ∧
  (∀ b, b < 40 → g 134 (81 + b) = nI (E 3 b)) ∧
  (∀ b, b < 40 → g 134 (121 + b) = nI (E 4 b))
theorem GE.k {g : Hp} {E : Nat → Nat → Nat} (q : GE g E) : ∀ w, w < 40 → E 5 0 = 0 → g 134 w = nI (1 - E 1 w) := q.1
theorem GE.n {g : Hp} {E : Nat → Nat → Nat} (q : GE g E) : g 134 40 = nI (E 0 1) := q.2.1
theorem GE.o {g : Hp} {E : Nat → Nat → Nat} (q : GE g E) : ∀ s, s < E 0 1 → g 134 (41 + s) = nI (E 2 s) := q.2.2.1
theorem GE.hd {g : Hp} {E : Nat → Nat → Nat} (q : GE g E) : ∀ b, b < 40 → g 134 (81 + b) = nI (E 3 b) := q.2.2.2.1
theorem GE.tl {g : Hp} {E : Nat → Nat → Nat} (q : GE g E) : ∀ b, b < 40 → g 134 (121 + b) = nI (E 4 b) := q.2.2.2.2
def pf (R E : Nat → Nat → Nat) (b : Nat) : Nat := if b = 0 then 0 else max (R 12 (b - 1) - E 3 b) (R 11 (b - 1))
def pt (R E : Nat → Nat → Nat) (b : Nat) : Nat := if b + 1 = R 0 13 then R 0 0 else min (R 12 b + E 4 b) (R 10 (b + 1))
def plE (R E : Nat → Nat → Nat) (b : Nat) : Nat := pt R E b - pf R E b
def rs (R : Nat → Nat → Nat) (b : Nat) : Nat := if b = 0 then 0 else R 12 (b - 1)
/-- the film's length ahead of shot s -/
def fs (R E : Nat → Nat → Nat) (s : Nat) : Nat := sm (fun k => plE R E (E 2 k)) s
/-- a block's kept words from its first up to w -/
def kw (R E : Nat → Nat → Nat) (b w : Nat) : List Nat := (List.range' (R 9 b) (w - R 9 b)).filter (fun w => E 1 w == 1)
/-- the transcript's words of the shots ahead of s -/
def tr (R E : Nat → Nat → Nat) (s : Nat) : List Nat := Nat.rec (motive := fun _ => List Nat) [] (fun k r => r ++ kw R E (E 2 k) (R 9 (E 2 k + 1))) s
def trA (R E : Nat → Nat → Nat) : List Nat := tr R E (E 0 1)
theorem tr_s (R E : Nat → Nat → Nat) (s : Nat) : tr R E (s + 1) = tr R E s ++ kw R E (E 2 s) (R 9 (E 2 s + 1)) := rfl
theorem kw_y {R E : Nat → Nat → Nat} {b w : Nat} (hb : R 9 b ≤ w) (h : E 1 w = 1) : kw R E b (w + 1) = kw R E b w ++ [w] := by
  unfold kw
  rw [show w + 1 - R 9 b = (w - R 9 b) + 1 by omega, List.range'_concat, List.filter_append]
  have e : R 9 b + 1 * (w - R 9 b) = w := by omega
  rw [e, List.filter_cons_of_pos (by simp [h]), List.filter_nil]
theorem kw_n {R E : Nat → Nat → Nat} {b w : Nat} (hb : R 9 b ≤ w) (h : E 1 w ≠ 1) : kw R E b (w + 1) = kw R E b w := by
  unfold kw
  rw [show w + 1 - R 9 b = (w - R 9 b) + 1 by omega, List.range'_concat, List.filter_append]
  have e : R 9 b + 1 * (w - R 9 b) = w := by omega
  rw [e, List.filter_cons_of_neg (by simp [h]), List.filter_nil, List.append_nil]
theorem kw_0 {R E : Nat → Nat → Nat} {b : Nat} : kw R E b (R 9 b) = [] := by
  unfold kw
  rw [Nat.sub_self]
  rfl
theorem kw_mem {R E : Nat → Nat → Nat} {b w v : Nat} : v ∈ kw R E b w ↔ R 9 b ≤ v ∧ v < w ∧ E 1 v = 1 := by
  unfold kw
  rw [List.mem_filter, List.mem_range'_1, beq_iff_eq]
  omega
theorem kw_len {R E : Nat → Nat → Nat} {b w : Nat} : (kw R E b w).length ≤ w - R 9 b := by
  unfold kw
  refine Nat.le_trans (List.length_filter_le _ _) ?_
  rw [List.length_range']
  exact Nat.le_refl _
