/-! THE POOL: the law's own objects, numbered as they are made: how many; kind and length of each; what stands in their places (a reference: the number of its object, -1 for null, 1000000 + k for the k-th of the law's texts). Kinds: 0 Drawn, 1 Draws, 2 StringBuilder, 3 String, 4 int[], 5 boolean[], 6 byte[], 7 int[][] -/
abbrev PL : Type := Nat × ((Nat → Nat × Nat) × Hp)
def isR (kd j : Nat) : Bool := match kd with
  | 0 => j == 3 || j == 4 || (decide (8 ≤ j) && decide (j ≤ 16))
  | 1 => false
  | 2 => j == 0
  | 3 => j == 0
  | 4 => false
  | 5 => false
  | 6 => false
  | _ => true
def dfl (kd j : Nat) : Int32 := if isR kd j = true then -1 else 0
def gk (g : PL) (o kd : Nat) : Bool := decide (o < g.1) && decide ((g.2.1 o).1 = kd)
def gl (g : PL) (o : Nat) : Nat := (g.2.1 o).2
def gu (g : PL) (k j : Nat) (v : Int32) : PL := (g.1, (g.2.1, up g.2.2 k j v))
def gnew (g : PL) (kd n : Nat) (f : Nat → Int32) : PL := (g.1 + 1, ((fun a => if a = g.1 then (kd, n) else g.2.1 a), (fun a => if a = g.1 then f else g.2.2 a)))
def gcp (g : PL) (src : Nat → Int32) (dst : Nat) (sp dp n : Int32) : PL := (g.1, (g.2.1, fun a => if a = dst then va_cpy src (g.2.2 dst) (ix sp) (ix dp) (ix n) else g.2.2 a))
def rkb (g : PL) (x : Nat) : Bool := decide (x < g.1) || decide (1000000 ≤ x)
def ckn {α : Type} (b : Bool) (v : Int32) (K : Nat → Option α) : Option α := ck b (if v < 0 then none else K (ix v))
theorem ckn_t {α : Type} {b : Bool} {v : Int32} {K : Nat → Option α} {o : α} (h : ckn b v K = some o) : b = true ∧ ¬ v < 0 ∧ K (ix v) = some o := by
  unfold ckn at h
  obtain ⟨h1, h2⟩ := ck_t h
  by_cases q : v < 0
  · rw [if_pos q] at h2; cases h2
  · rw [if_neg q] at h2; exact ⟨h1, q, h2⟩
theorem gk_t {g : PL} {o kd : Nat} (h : gk g o kd = true) : o < g.1 ∧ (g.2.1 o).1 = kd := by
  unfold gk at h
  rw [Bool.and_eq_true, decide_eq_true_eq, decide_eq_true_eq] at h
  exact h
/-- how many cells a method that makes objects may make; places of each at most 600 -/
def NCAP : Nat := 1000000
def ngw (g : PL) (n : Nat) : Bool := decide (g.1 < 900000) && decide (n ≤ 600)
def dgO (j : Nat) : Int32 := nI (48 + j % 10)
def dgT (j : Nat) : Int32 := nI (48 + j / 10)
/-- the law's own texts -/
def tlP (i : Nat) : Nat := (txP.getD i []).length
def tbP (i j : Nat) : Int32 := (txP.getD i []).getD j 0
def isT (x : Nat) : Bool := decide (1000000 ≤ x) && decide (x < 1000010)
def sOK (g : PL) (x : Nat) : Bool := isT x || (((gk g x 3 && decide (g.2.2 x 1 = 0)) && decide (¬ g.2.2 x 0 < 0)) && gk g (ix (g.2.2 x 0)) 6)
def sLen (g : PL) (x : Nat) : Nat := if 1000000 ≤ x then tlP (x - 1000000) else gl g (ix (g.2.2 x 0))
def sB (g : PL) (x : Nat) : Nat → Int32 := if 1000000 ≤ x then tbP (x - 1000000) else g.2.2 (ix (g.2.2 x 0))
