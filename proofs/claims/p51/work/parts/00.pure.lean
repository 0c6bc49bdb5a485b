/-! THE PURE HEAP: h k j is the number in place j of the object (or row) k; a reference in a field that may change is the number of its object -/
abbrev Hp : Type := Nat → Nat → Int32
def up (h : Hp) (k j : Nat) (v : Int32) : Hp := fun a => if a = k then (fun b => if b = j then v else h a b) else h a
def ix (i : Int32) : Nat := i.toNatClampNeg
def inb (i : Int32) (n : Nat) : Bool := decide (0 ≤ i) && decide (ix i < n)
def zb (v : Int32) : Bool := decide (v = 0) || decide (v = 1)
def imax (x y : Int32) : Int32 := if x < y then y else x
def imin (x y : Int32) : Int32 := if y < x then y else x
def ck {α : Type} (b : Bool) (x : Option α) : Option α := match b with | true => x | false => none
def stp {α : Type} {β : Type} (v : α) (k : α → β) : β := k v
def bnd {α β : Type} (x : Option α) (k : α → Option β) : Option β := match x with | some a => k a | none => none
def Lp {σ ρ : Type} (F : (σ → Option ρ) → σ → Option ρ) : Nat → σ → Option ρ
  | 0 => fun _ => none
  | n + 1 => F (Lp F n)
theorem Lp_s {σ ρ : Type} (F : (σ → Option ρ) → σ → Option ρ) (n : Nat) (x : σ) : Lp F (n + 1) x = F (Lp F n) x := rfl
def FU : Nat := 4294967296
theorem ck_t {α : Type} {b : Bool} {x : Option α} {o : α} (h : ck b x = some o) : b = true ∧ x = some o := by
  cases b with
  | true => exact ⟨rfl, h⟩
  | false => exact absurd h (by intro q; cases q)
theorem bnd_t {α β : Type} {x : Option α} {k : α → Option β} {o : β} (h : bnd x k = some o) : ∃ a, x = some a ∧ k a = some o := by
  cases x with
  | none => exact absurd h (by intro q; cases q)
  | some a => exact ⟨a, rfl, h⟩
theorem up_ne {h : Hp} {k a : Nat} (j : Nat) (v : Int32) (hn : a ≠ k) : up h k j v a = h a := if_neg hn
theorem up_eq (h : Hp) (k j : Nat) (v : Int32) : up h k j v k = fun b => if b = j then v else h k b := if_pos rfl
def irem (x y : Int32) : Int32 := x - x / y * y
def iushr (x y : Int32) : Int32 := (x.toUInt32 >>> (y.toUInt32 &&& Int32.toUInt32 31)).toInt32
def i2b (x : Int32) : Int32 := x.toInt8.toInt32

def kl : List Nat := [8, 7, 10, 1, 11, 11, 11, 11, 11, 11, 11, 11, 11, 3, 13, 5, 2, 10, 0, 12, 11, 11, 11, 0, 12, 11, 11, 11, 0, 12, 11, 11, 11, 0, 12, 11, 11, 11, 0, 12, 11, 11, 11, 0, 12, 11, 11, 11, 0, 12, 11, 11, 11, 0, 12, 11, 11, 11, 0, 12, 11, 11, 11, 0, 12, 11, 11, 11, 0, 12, 11, 11, 11, 0, 12, 11, 11, 11, 0, 12, 11, 11, 11, 4, 11, 11, 11, 11, 11, 11, 11, 11, 11, 11, 11, 11, 12, 4, 11, 11, 11, 11, 11, 11, 11, 11, 11, 11, 11, 11, 12, 6, 11, 11, 11, 11, 11, 11, 6, 11, 11, 11, 11, 11, 11, 9, 11, 11, 11, 11, 11, 11, 11, 11, 11, 11, 11, 10, 11, 11, 11, 11, 11, 11, 10, 14]
def ll : List Nat := [0, 0, 900, 0, 40, 40, 40, 41, 40, 40, 40, 41, 40, 0, 12, 0, 0, 1000, 0, 40, 40, 40, 40, 0, 40, 40, 40, 40, 0, 40, 40, 40, 40, 0, 40, 40, 40, 40, 0, 40, 40, 40, 40, 0, 40, 40, 40, 40, 0, 40, 40, 40, 40, 0, 40, 40, 40, 40, 0, 40, 40, 40, 40, 0, 40, 40, 40, 40, 0, 40, 40, 40, 40, 0, 40, 40, 40, 40, 0, 40, 40, 40, 40, 0, 4, 40, 40, 40, 40, 40, 12, 12, 41, 40, 40, 40, 40, 0, 4, 40, 40, 40, 40, 40, 12, 12, 41, 40, 40, 40, 40, 0, 30, 30, 30, 30, 60, 360, 0, 30, 30, 30, 30, 60, 360, 0, 193, 193, 40, 40, 40, 41, 40, 40, 161, 1932, 161, 900, 5, 700, 700, 40, 40, 40, 900, 1]
def knd (k : Nat) : Nat := kl.getD k 99
def len (k : Nat) : Nat := ll.getD k 0
def NS : Nat := 47
def tx : List (List Int32) := [[32, 47, 32], [32], [108, 101, 110, 103, 116, 104], [115, 112, 101, 97, 107, 101, 114], [119, 111, 114, 100], [98, 114, 101, 97, 116, 104], [104, 97, 110, 100, 108, 101], [116, 104, 101, 32, 116, 101, 120, 116, 32, 100, 111, 101, 115, 32, 110, 111, 116, 32, 109, 97, 116, 99, 104], [99, 117, 116], [99, 108, 101, 97, 110], [114, 101, 115, 116, 111, 114, 101], [109, 111, 118, 101], [105, 102], [114, 101, 112, 101, 97, 116], [101, 108, 115, 101], [98, 101, 104, 105, 110, 100], [116, 104, 101, 32, 115, 99, 114, 105, 112, 116, 32, 100, 111, 101, 115, 32, 110, 111, 116, 32, 109, 97, 116, 99, 104], [110, 111, 32, 115, 117, 99, 104, 32, 119, 111, 114, 100], [110, 111, 32, 115, 117, 99, 104, 32, 98, 108, 111, 99, 107], [110, 111, 32, 115, 117, 99, 104, 32, 115, 104, 111, 116], [110, 111, 32, 115, 117, 99, 104, 32, 115, 112, 101, 97, 107, 101, 114], [110, 111, 32, 115, 117, 99, 104, 32, 112, 108, 97, 99, 101, 115], [116, 104, 101, 32, 119, 111, 114, 100, 32, 105, 115, 32, 110, 111, 116, 32, 107, 101, 112, 116], [116, 104, 101, 32, 108, 97, 115, 116, 32, 119, 111, 114, 100, 32, 105, 115, 32, 98, 101, 102, 111, 114, 101, 32, 116, 104, 101, 32, 102, 105, 114, 115, 116, 32, 111, 110, 101], [116, 104, 101, 32, 108, 97, 115, 116, 32, 115, 104, 111, 116, 32, 105, 115, 32, 98, 101, 102, 111, 114, 101, 32, 116, 104, 101, 32, 102, 105, 114, 115, 116, 32, 111, 110, 101], [116, 104, 101, 114, 101, 32, 105, 115, 32, 110, 111, 32, 115, 117, 99, 104, 32, 115, 104, 111, 116, 32, 116, 111, 32, 109, 111, 118, 101, 32, 98, 101, 104, 105, 110, 100], [116, 104, 101, 32, 115, 104, 111, 116, 32, 116, 111, 32, 109, 111, 118, 101, 32, 98, 101, 104, 105, 110, 100, 32, 105, 115, 32, 109, 111, 118, 101, 100, 32, 105, 116, 115, 101, 108, 102], [97, 32, 104, 101, 97, 100, 32, 111, 114, 32, 116, 97, 105, 108, 32, 105, 115, 32, 48, 32, 116, 111, 32, 57, 57, 57], [115], [45], [58], [58, 91], [], [93], [108, 101, 110, 103, 116, 104], [115, 112, 101, 97, 107, 101, 114], [119, 111, 114, 100], [98, 114, 101, 97, 116, 104], [104, 97, 110, 100, 108, 101], [99, 117, 116], [99, 108, 101, 97, 110], [114, 101, 115, 116, 111, 114, 101], [109, 111, 118, 101], [105, 102], [114, 101, 112, 101, 97, 116], [101, 108, 115, 101], [98, 101, 104, 105, 110, 100]]
def ckp {α : Type} (v : Int32) (kd : Nat) (K : Nat → Option α) : Option α := if knd (ix v) = kd then K (ix v) else none
theorem ckp_t {α : Type} {v : Int32} {kd : Nat} {K : Nat → Option α} {o : α} (h : ckp v kd K = some o) : knd (ix v) = kd ∧ K (ix v) = some o := by
  unfold ckp at h
  by_cases q : knd (ix v) = kd
  · rw [if_pos q] at h; exact ⟨q, h⟩
  · rw [if_neg q] at h; cases h
/-- the texts' objects, and what a throw wants of the JDK's statics: old cells, that nothing here writes -/
def tl (i : Nat) : Nat := (tx.getD i []).length
def tb (i j : Nat) : Int32 := (tx.getD i []).getD j 0
def cpok (sp dp n : Int32) (a b : Nat) : Bool := decide (0 ≤ sp) && decide (0 ≤ dp) && decide (0 ≤ n) && decide (ix sp + ix n ≤ a) && decide (ix dp + ix n ≤ b)
def hcp (h : Hp) (src dst : Nat) (sp dp n : Int32) : Hp := fun a => if a = dst then va_cpy (h src) (h dst) (ix sp) (ix dp) (ix n) else h a
def f_X4_firstFrame (h : Hp) (p0 : Nat) (p1 : Int32) (p2 : Int32) : Option (Int32) :=
  if 0 < p1 then (
  ck (inb (p1 - (1 : Int32)) 40) (
  ck (inb (p1 - (1 : Int32)) 40) (
  some (imax (h (p0 + 12) (ix (p1 - (1 : Int32))) - p2) (h (p0 + 11) (ix (p1 - (1 : Int32))))))))
  else (
  some (0 : Int32))
def f_X4_frameBehind (h : Hp) (p0 : Nat) (p1 : Int32) (p2 : Int32) : Option (Int32) :=
  if (p1 + (1 : Int32)) < h p0 13 then (
  ck (inb p1 40) (
  ck (inb (p1 + (1 : Int32)) 40) (
  some (imin (h (p0 + 12) (ix p1) + p2) (h (p0 + 10) (ix (p1 + (1 : Int32))))))))
  else (
  some (h p0 0))
def f_X4_isSpoken (h : Hp) (p0 : Nat) (p1 : Int32) (p2 : Int32) : Option (Int32) :=
  ck (inb p1 40) (
  if p2 < h (p0 + 4) (ix p1) then (
  some (0 : Int32))
  else (
  ck (inb p1 40) (
  if p2 < h (p0 + 5) (ix p1) then (
  some (1 : Int32))
  else (
  some (0 : Int32)))))
def f_X4_rangeStart (h : Hp) (p0 : Nat) (p1 : Int32) : Option (Int32) :=
  if 0 < p1 then (
  ck (inb (p1 - (1 : Int32)) 40) (
  some (h (p0 + 12) (ix (p1 - (1 : Int32))))))
  else (
  some (0 : Int32))
def f_X4_rangeLength (h : Hp) (p0 : Nat) (p1 : Int32) : Option (Int32) :=
  ck (inb p1 40) (
  bnd (f_X4_rangeStart h p0 p1) (fun u1 =>
  some (h (p0 + 12) (ix p1) - u1)))
def f_X4_clear (h : Hp) (p0 : Nat) : Option (Hp) :=
  stp (up h p0 0 (1000 : Int32)) (fun h1 =>
  stp (up h1 p0 1 (12 : Int32)) (fun h2 =>
  stp (up h2 p0 2 (0 : Int32)) (fun h3 =>
  stp (up h3 p0 4 (0 : Int32)) (fun h4 =>
  stp (up h4 p0 10 (0 : Int32)) (fun h5 =>
  stp (up h5 p0 13 (0 : Int32)) (fun h6 =>
  some h6))))))
def f_X4_addSpeaker (h : Hp) (p0 : Nat) (p1 : Int32) : Option (Hp) :=
  if h p0 2 < (4 : Int32) then (
  ck (inb (h p0 2) 4) (stp (up h (p0 + 1) (ix (h p0 2)) p1) (fun h1 =>
  stp (up h1 p0 2 (h1 p0 2 + (1 : Int32))) (fun h2 =>
  some h2))))
  else (
  some h)
def f_X4_addBreath (h : Hp) (p0 : Nat) (p1 : Int32) (p2 : Int32) : Option (Hp) :=
  if h p0 10 < (12 : Int32) then (
  ck (inb (h p0 10) 12) (stp (up h (p0 + 7) (ix (h p0 10)) p1) (fun h1 =>
  ck (inb (h1 p0 10) 12) (stp (up h1 (p0 + 8) (ix (h1 p0 10)) p2) (fun h2 =>
  stp (up h2 p0 10 (h2 p0 10 + (1 : Int32))) (fun h3 =>
  some h3))))))
  else (
  some h)
def f_X4_isBefore (h : Hp) (p0 : Nat) (p1 : Int32) (p2 : Int32) (p3 : Int32) : Option (Int32) :=
  ck (inb p3 40) (
  if p1 = h (p0 + 4) (ix p3) then (
  ck (inb p3 40) (
  if p2 < h (p0 + 3) (ix p3) then (
  some (1 : Int32))
  else (
  some (0 : Int32))))
  else (
  ck (inb p3 40) (
  if p1 < h (p0 + 4) (ix p3) then (
  some (1 : Int32))
  else (
  some (0 : Int32)))))
def J_X4_addWord_104 (p0 : Nat) (p1 : Int32) (p2 : Int32) (p3 : Int32) (p4 : Int32) (h : Hp) (x5 : Int32) : Option (Hp) :=
  ck (inb x5 40) (stp (up h (p0 + 2) (ix x5) p1) (fun h1 =>
  ck (inb x5 40) (stp (up h1 (p0 + 3) (ix x5) p2) (fun h2 =>
  ck (inb x5 40) (stp (up h2 (p0 + 4) (ix x5) p3) (fun h3 =>
  ck (inb x5 40) (stp (up h3 (p0 + 5) (ix x5) p4) (fun h4 =>
  stp (up h4 p0 4 (h4 p0 4 + (1 : Int32))) (fun h5 =>
  some h5)))))))))
def F_X4_addWord_16 (p0 : Nat) (p1 : Int32) (p2 : Int32) (p3 : Int32) (p4 : Int32) (r16 : Int32 × Hp → Option (Hp)) : Int32 × Hp → Option (Hp) := fun ⟨x5, h⟩ =>
  if x5 ≤ 0 then (
  J_X4_addWord_104 p0 p1 p2 p3 p4 h x5)
  else (
  bnd (f_X4_isBefore h p0 p3 p2 (x5 - (1 : Int32))) (fun u6 =>
  if u6 = 0 then (
  J_X4_addWord_104 p0 p1 p2 p3 p4 h x5)
  else (
  ck (inb (x5 - (1 : Int32)) 40) (
  ck (inb x5 40) (stp (up h (p0 + 2) (ix x5) (h (p0 + 2) (ix (x5 - (1 : Int32))))) (fun h7 =>
  ck (inb (x5 - (1 : Int32)) 40) (
  ck (inb x5 40) (stp (up h7 (p0 + 3) (ix x5) (h7 (p0 + 3) (ix (x5 - (1 : Int32))))) (fun h8 =>
  ck (inb (x5 - (1 : Int32)) 40) (
  ck (inb x5 40) (stp (up h8 (p0 + 4) (ix x5) (h8 (p0 + 4) (ix (x5 - (1 : Int32))))) (fun h9 =>
  ck (inb (x5 - (1 : Int32)) 40) (
  ck (inb x5 40) (stp (up h9 (p0 + 5) (ix x5) (h9 (p0 + 5) (ix (x5 - (1 : Int32))))) (fun h10 =>
  stp (x5 + (-1)) (fun v11 =>
  r16 (v11, h10)))))))))))))))))
def f_X4_addWord (h : Hp) (p0 : Nat) (p1 : Int32) (p2 : Int32) (p3 : Int32) (p4 : Int32) : Option (Hp) :=
  if h p0 4 < (40 : Int32) then (
  stp (h p0 4) (fun v12 =>
  Lp (F_X4_addWord_16 p0 p1 p2 p3 p4) FU (v12, h)))
  else (
  some h)
def F_X4_speakerNamed_2 (h : Hp) (p0 : Nat) (p1 : Int32) (r2 : Int32 → Option (Int32)) : Int32 → Option (Int32) := fun x2 =>
  if x2 < h p0 2 then (
  ck (inb x2 4) (
  if h (p0 + 1) (ix x2) = p1 then (
  some x2)
  else (
  stp (x2 + 1) (fun v1 =>
  r2 v1))))
  else (
  some (-1 : Int32))
def f_X4_speakerNamed (h : Hp) (p0 : Nat) (p1 : Int32) : Option (Int32) :=
  Lp (F_X4_speakerNamed_2 h p0 p1) FU (0 : Int32)
def J_X4_speaksBetween_47 (h : Hp) (p0 : Nat) (p1 : Int32) (p2 : Int32) (p3 : Int32) (r3 : Int32 → Option (Int32)) (x4 : Int32) : Option (Int32) :=
  stp (x4 + 1) (fun v1 =>
  r3 v1)
def F_X4_speaksBetween_3 (h : Hp) (p0 : Nat) (p1 : Int32) (p2 : Int32) (p3 : Int32) (r3 : Int32 → Option (Int32)) : Int32 → Option (Int32) := fun x4 =>
  if x4 < h p0 4 then (
  ck (inb x4 40) (
  if h (p0 + 3) (ix x4) = p1 then (
  ck (inb x4 40) (
  if h (p0 + 4) (ix x4) < p3 then (
  ck (inb x4 40) (
  if p2 < h (p0 + 5) (ix x4) then (
  some (1 : Int32))
  else (
  J_X4_speaksBetween_47 h p0 p1 p2 p3 r3 x4)))
  else (
  J_X4_speaksBetween_47 h p0 p1 p2 p3 r3 x4)))
  else (
  J_X4_speaksBetween_47 h p0 p1 p2 p3 r3 x4)))
  else (
  some (0 : Int32))
def f_X4_speaksBetween (h : Hp) (p0 : Nat) (p1 : Int32) (p2 : Int32) (p3 : Int32) : Option (Int32) :=
  Lp (F_X4_speaksBetween_3 h p0 p1 p2 p3) FU (0 : Int32)
def F_X4_holdsAllWords_2 (h : Hp) (p0 : Nat) (r2 : Int32 → Option (Int32)) : Int32 → Option (Int32) := fun x1 =>
  if x1 < h p0 4 then (
  ck (inb x1 40) (
  if h p0 0 < h (p0 + 5) (ix x1) then (
  some (0 : Int32))
  else (
  stp (x1 + 1) (fun v1 =>
  r2 v1))))
  else (
  some (1 : Int32))
def f_X4_holdsAllWords (h : Hp) (p0 : Nat) : Option (Int32) :=
  Lp (F_X4_holdsAllWords_2 h p0) FU (0 : Int32)
def J_X4_placeCutPoint_133 (p0 : Nat) (p1 : Int32) (h : Hp) (r61 : Int32 × Int32 × Hp → Option (Hp)) (x2 : Int32) (x3 : Int32) (x4 : Int32) (x5 : Int32) : Option (Hp) :=
  stp (x5 + 1) (fun v1 =>
  r61 (x4, v1, h))
def F_X4_placeCutPoint_61 (p0 : Nat) (p1 : Int32) (x2 : Int32) (x3 : Int32) (r61 : Int32 × Int32 × Hp → Option (Hp)) : Int32 × Int32 × Hp → Option (Hp) := fun ⟨x4, x5, h⟩ =>
  if x5 < h p0 10 then (
  ck (inb x5 12) (
  stp ((imax x2 (h (p0 + 7) (ix x5)))) (fun v2 =>
  ck (inb x5 12) (
  stp ((imin x3 (h (p0 + 8) (ix x5)))) (fun v3 =>
  if x4 < (v3 - v2) then (
  stp ((v3 - v2)) (fun v4 =>
  ck (inb p1 40) (stp (up h (p0 + 12) (ix p1) ((v2 + v3) / (2 : Int32))) (fun h5 =>
  ck (inb p1 40) (stp (up h5 (p0 + 13) (ix p1) (1 : Int32)) (fun h6 =>
  J_X4_placeCutPoint_133 p0 p1 h6 r61 x2 x3 v4 x5))))))
  else (
  J_X4_placeCutPoint_133 p0 p1 h r61 x2 x3 x4 x5))))))
  else (
  some h)
def f_X4_placeCutPoint (h : Hp) (p0 : Nat) (p1 : Int32) : Option (Hp) :=
  ck (inb p1 40) (stp (up h (p0 + 13) (ix p1) (0 : Int32)) (fun h7 =>
  if (p1 + (1 : Int32)) < h7 p0 13 then (
  ck (inb p1 40) (
  stp (h7 (p0 + 11) (ix p1)) (fun v8 =>
  ck (inb (p1 + (1 : Int32)) 40) (
  stp (h7 (p0 + 10) (ix (p1 + (1 : Int32)))) (fun v9 =>
  ck (inb p1 40) (stp (up h7 (p0 + 12) (ix p1) ((v8 + v9) / (2 : Int32))) (fun h10 =>
  Lp (F_X4_placeCutPoint_61 p0 p1 v8 v9) FU ((0 : Int32), (0 : Int32), h10))))))))
  else (
  ck (inb p1 40) (stp (up h7 (p0 + 12) (ix p1) (h7 p0 0)) (fun h11 =>
  some h11)))))
def F_X4_findBlocks_143 (p0 : Nat) (r143 : Int32 × Hp → Option (Hp)) : Int32 × Hp → Option (Hp) := fun ⟨x1, h⟩ =>
  if x1 < h p0 13 then (
  bnd (f_X4_placeCutPoint h p0 x1) (fun u1 =>
  stp (x1 + 1) (fun v2 =>
  r143 (v2, u1))))
  else (
  some h)
def J_X4_findBlocks_128 (p0 : Nat) (h : Hp) : Option (Hp) :=
  ck (inb (h p0 13) 41) (stp (up h (p0 + 9) (ix (h p0 13)) (h p0 4)) (fun h3 =>
  Lp (F_X4_findBlocks_143 p0) FU ((0 : Int32), h3)))
def J_X4_findBlocks_87 (p0 : Nat) (h : Hp) (r2 : Int32 × Hp → Option (Hp)) (x1 : Int32) : Option (Hp) :=
  stp ((h p0 13 - (1 : Int32))) (fun v4 =>
  ck (inb x1 40) (stp (up h (p0 + 6) (ix x1) v4) (fun h5 =>
  ck (inb v4 40) (
  ck (inb x1 40) (
  ck (inb v4 40) (stp (up h5 (p0 + 11) (ix v4) (imax (h5 (p0 + 11) (ix v4)) (h5 (p0 + 5) (ix x1)))) (fun h6 =>
  stp (x1 + 1) (fun v7 =>
  r2 (v7, h6)))))))))
def J_X4_findBlocks_37 (p0 : Nat) (h : Hp) (r2 : Int32 × Hp → Option (Hp)) (x1 : Int32) : Option (Hp) :=
  ck (inb (h p0 13) 41) (stp (up h (p0 + 9) (ix (h p0 13)) x1) (fun h8 =>
  ck (inb x1 40) (
  ck (inb (h8 p0 13) 40) (stp (up h8 (p0 + 10) (ix (h8 p0 13)) (h8 (p0 + 4) (ix x1))) (fun h9 =>
  ck (inb x1 40) (
  ck (inb (h9 p0 13) 40) (stp (up h9 (p0 + 11) (ix (h9 p0 13)) (h9 (p0 + 5) (ix x1))) (fun h10 =>
  stp (up h10 p0 13 (h10 p0 13 + (1 : Int32))) (fun h11 =>
  J_X4_findBlocks_87 p0 h11 r2 x1)))))))))
def F_X4_findBlocks_2 (p0 : Nat) (r2 : Int32 × Hp → Option (Hp)) : Int32 × Hp → Option (Hp) := fun ⟨x1, h⟩ =>
  if x1 < h p0 4 then (
  if h p0 13 = 0 then (
  J_X4_findBlocks_37 p0 h r2 x1)
  else (
  ck (inb x1 40) (
  ck (inb (h p0 13 - (1 : Int32)) 40) (
  if h (p0 + 4) (ix x1) < h (p0 + 11) (ix (h p0 13 - (1 : Int32))) then (
  J_X4_findBlocks_87 p0 h r2 x1)
  else (
  J_X4_findBlocks_37 p0 h r2 x1)))))
  else (
  J_X4_findBlocks_128 p0 h)
def f_X4_findBlocks (h : Hp) (p0 : Nat) : Option (Hp) :=
  Lp (F_X4_findBlocks_2 p0) FU ((0 : Int32), h)
def f_X4_shareFrame (h : Hp) (p0 : Nat) (p1 : Int32) (p2 : Int32) : Option (Int32) :=
  ck (inb p1 40) (
  ck (inb p2 40) (
  if h (p0 + 4) (ix p1) < h (p0 + 5) (ix p2) then (
  ck (inb p2 40) (
  ck (inb p1 40) (
  if h (p0 + 4) (ix p2) < h (p0 + 5) (ix p1) then (
  some (1 : Int32))
  else (
  some (0 : Int32)))))
  else (
  some (0 : Int32))))
def J_X4_countOverlapping_29 (h : Hp) (p0 : Nat) (p1 : Int32) (r4 : Int32 × Int32 → Option (Int32)) (x2 : Int32) (x3 : Int32) : Option (Int32) :=
  stp (x3 + 1) (fun v1 =>
  r4 (x2, v1))
def F_X4_countOverlapping_4 (h : Hp) (p0 : Nat) (p1 : Int32) (r4 : Int32 × Int32 → Option (Int32)) : Int32 × Int32 → Option (Int32) := fun ⟨x2, x3⟩ =>
  if x3 < h p0 4 then (
  if x3 = p1 then (
  J_X4_countOverlapping_29 h p0 p1 r4 x2 x3)
  else (
  bnd (f_X4_shareFrame h p0 x3 p1) (fun u2 =>
  if u2 = 0 then (
  J_X4_countOverlapping_29 h p0 p1 r4 x2 x3)
  else (
  stp (x2 + 1) (fun v3 =>
  J_X4_countOverlapping_29 h p0 p1 r4 v3 x3)))))
  else (
  some x2)
def f_X4_countOverlapping (h : Hp) (p0 : Nat) (p1 : Int32) : Option (Int32) :=
  Lp (F_X4_countOverlapping_4 h p0 p1) FU ((0 : Int32), (0 : Int32))
def F_X4_firstWithText_2 (h : Hp) (p0 : Nat) (p1 : Int32) (r2 : Int32 → Option (Int32)) : Int32 → Option (Int32) := fun x2 =>
  if x2 < h p0 4 then (
  ck (inb x2 40) (
  if h (p0 + 2) (ix x2) = p1 then (
  some x2)
  else (
  stp (x2 + 1) (fun v1 =>
  r2 v1))))
  else (
  some (-1 : Int32))
def f_X4_firstWithText (h : Hp) (p0 : Nat) (p1 : Int32) : Option (Int32) :=
  Lp (F_X4_firstWithText_2 h p0 p1) FU (0 : Int32)
def J_X4_countTexts_29 (h : Hp) (p0 : Nat) (r4 : Int32 × Int32 → Option (Int32)) (x1 : Int32) (x2 : Int32) : Option (Int32) :=
  stp (x2 + 1) (fun v1 =>
  r4 (x1, v1))
def F_X4_countTexts_4 (h : Hp) (p0 : Nat) (r4 : Int32 × Int32 → Option (Int32)) : Int32 × Int32 → Option (Int32) := fun ⟨x1, x2⟩ =>
  if x2 < h p0 4 then (
  ck (inb x2 40) (
  bnd (f_X4_firstWithText h p0 (h (p0 + 2) (ix x2))) (fun u2 =>
  if u2 = x2 then (
  stp (x1 + 1) (fun v3 =>
  J_X4_countTexts_29 h p0 r4 v3 x2))
  else (
  J_X4_countTexts_29 h p0 r4 x1 x2))))
  else (
  some x1)
def f_X4_countTexts (h : Hp) (p0 : Nat) : Option (Int32) :=
  Lp (F_X4_countTexts_4 h p0) FU ((0 : Int32), (0 : Int32))
def J_X4_blockWithFrame_31 (h : Hp) (p0 : Nat) (p1 : Int32) (r2 : Int32 → Option (Int32)) (x2 : Int32) : Option (Int32) :=
  stp (x2 + 1) (fun v1 =>
  r2 v1)
def F_X4_blockWithFrame_2 (h : Hp) (p0 : Nat) (p1 : Int32) (r2 : Int32 → Option (Int32)) : Int32 → Option (Int32) := fun x2 =>
  if x2 < h p0 13 then (
  bnd (f_X4_rangeStart h p0 x2) (fun u2 =>
  if p1 < u2 then (
  J_X4_blockWithFrame_31 h p0 p1 r2 x2)
  else (
  ck (inb x2 40) (
  if p1 < h (p0 + 12) (ix x2) then (
  some x2)
  else (
  J_X4_blockWithFrame_31 h p0 p1 r2 x2)))))
  else (
  some (-1 : Int32))
def f_X4_blockWithFrame (h : Hp) (p0 : Nat) (p1 : Int32) : Option (Int32) :=
  Lp (F_X4_blockWithFrame_2 h p0 p1) FU (0 : Int32)
def J_X4_speakerSet_32 (h : Hp) (p0 : Nat) (p1 : Int32) (r4 : Int32 × Int32 → Option (Int32)) (x2 : Int32) (x3 : Int32) : Option (Int32) :=
  stp (x3 + 1) (fun v1 =>
  r4 (x2, v1))
def F_X4_speakerSet_4 (h : Hp) (p0 : Nat) (p1 : Int32) (r4 : Int32 × Int32 → Option (Int32)) : Int32 × Int32 → Option (Int32) := fun ⟨x2, x3⟩ =>
  if x3 < h p0 4 then (
  bnd (f_X4_isSpoken h p0 x3 p1) (fun u2 =>
  if u2 = 0 then (
  J_X4_speakerSet_32 h p0 p1 r4 x2 x3)
  else (
  ck (inb x3 40) (
  stp ((x2 ||| ((1 : Int32) <<< (h (p0 + 3) (ix x3) &&& 31)))) (fun v3 =>
  J_X4_speakerSet_32 h p0 p1 r4 v3 x3)))))
  else (
  some x2)
def f_X4_speakerSet (h : Hp) (p0 : Nat) (p1 : Int32) : Option (Int32) :=
  Lp (F_X4_speakerSet_4 h p0 p1) FU ((0 : Int32), (0 : Int32))
def F_X0_copyFrom_10 (p0 : Nat) (p1 : Nat) (r10 : Int32 × Hp → Option (Hp)) : Int32 × Hp → Option (Hp) := fun ⟨x2, h⟩ =>
  if x2 < (40 : Int32) then (
  ck (inb x2 40) (
  ck (zb (h (p1 + 1) (ix x2))) (ck (inb x2 40) (stp (up h (p0 + 1) (ix x2) (h (p1 + 1) (ix x2))) (fun h1 =>
  ck (inb x2 40) (
  ck (inb x2 40) (stp (up h1 (p0 + 2) (ix x2) (h1 (p1 + 2) (ix x2))) (fun h2 =>
  ck (inb x2 40) (
  ck (inb x2 40) (stp (up h2 (p0 + 3) (ix x2) (h2 (p1 + 3) (ix x2))) (fun h3 =>
  ck (inb x2 40) (
  ck (inb x2 40) (stp (up h3 (p0 + 4) (ix x2) (h3 (p1 + 4) (ix x2))) (fun h4 =>
  stp (x2 + 1) (fun v5 =>
  r10 (v5, h4))))))))))))))))
  else (
  some h)
def f_X0_copyFrom (h : Hp) (p0 : Nat) (p1 : Nat) : Option (Hp) :=
  stp (up h p0 1 (h p1 1)) (fun h6 =>
  Lp (F_X0_copyFrom_10 p0 p1) FU ((0 : Int32), h6))
def F_X0_keepEverything_7 (p0 : Nat) (p1 : Int32) (r7 : Int32 × Hp → Option (Hp)) : Int32 × Hp → Option (Hp) := fun ⟨x2, h⟩ =>
  if x2 < (40 : Int32) then (
  ck (inb x2 40) (stp (up h (p0 + 1) (ix x2) (1 : Int32)) (fun h1 =>
  ck (inb x2 40) (stp (up h1 (p0 + 2) (ix x2) x2) (fun h2 =>
  ck (inb x2 40) (stp (up h2 (p0 + 3) (ix x2) (0 : Int32)) (fun h3 =>
  ck (inb x2 40) (stp (up h3 (p0 + 4) (ix x2) (0 : Int32)) (fun h4 =>
  stp (x2 + 1) (fun v5 =>
  r7 (v5, h4)))))))))))
  else (
  some h)
def f_X0_keepEverything (h : Hp) (p0 : Nat) (p1 : Int32) : Option (Hp) :=
  stp (up h p0 1 p1) (fun h6 =>
  Lp (F_X0_keepEverything_7 p0 p1) FU ((0 : Int32), h6))
def F_X0_holdsBlock_2 (h : Hp) (p0 : Nat) (p1 : Int32) (r2 : Int32 → Option (Int32)) : Int32 → Option (Int32) := fun x2 =>
  if x2 < h p0 1 then (
  ck (inb x2 40) (
  if h (p0 + 2) (ix x2) = p1 then (
  some (1 : Int32))
  else (
  stp (x2 + 1) (fun v1 =>
  r2 v1))))
  else (
  some (0 : Int32))
def f_X0_holdsBlock (h : Hp) (p0 : Nat) (p1 : Int32) : Option (Int32) :=
  Lp (F_X0_holdsBlock_2 h p0 p1) FU (0 : Int32)
def J_X0_shotBehindLowerBlocks_51 (h : Hp) (p0 : Nat) (p1 : Int32) (r7 : Int32 × Int32 × Int32 → Option (Int32)) (x2 : Int32) (x3 : Int32) (x4 : Int32) : Option (Int32) :=
  stp (x4 + 1) (fun v1 =>
  r7 (x2, x3, v1))
def F_X0_shotBehindLowerBlocks_7 (h : Hp) (p0 : Nat) (p1 : Int32) (r7 : Int32 × Int32 × Int32 → Option (Int32)) : Int32 × Int32 × Int32 → Option (Int32) := fun ⟨x2, x3, x4⟩ =>
  if x4 < h p0 1 then (
  ck (inb x4 40) (
  if h (p0 + 2) (ix x4) < p1 then (
  ck (inb x4 40) (
  if x2 < h (p0 + 2) (ix x4) then (
  ck (inb x4 40) (
  stp (h (p0 + 2) (ix x4)) (fun v2 =>
  stp ((x4 + (1 : Int32))) (fun v3 =>
  J_X0_shotBehindLowerBlocks_51 h p0 p1 r7 v2 v3 x4))))
  else (
  J_X0_shotBehindLowerBlocks_51 h p0 p1 r7 x2 x3 x4)))
  else (
  J_X0_shotBehindLowerBlocks_51 h p0 p1 r7 x2 x3 x4)))
  else (
  some x3)
def f_X0_shotBehindLowerBlocks (h : Hp) (p0 : Nat) (p1 : Int32) : Option (Int32) :=
  Lp (F_X0_shotBehindLowerBlocks_7 h p0 p1) FU ((-1 : Int32), (0 : Int32), (0 : Int32))
def J_X0_bringBackBlock_46 (p0 : Nat) (p1 : Int32) (h : Hp) (x2 : Int32) : Option (Hp) :=
  ck (inb x2 40) (stp (up h (p0 + 2) (ix x2) p1) (fun h1 =>
  stp (up h1 p0 1 (h1 p0 1 + (1 : Int32))) (fun h2 =>
  ck (inb p1 40) (stp (up h2 (p0 + 3) (ix p1) (0 : Int32)) (fun h3 =>
  ck (inb p1 40) (stp (up h3 (p0 + 4) (ix p1) (0 : Int32)) (fun h4 =>
  some h4)))))))
def F_X0_bringBackBlock_21 (p0 : Nat) (p1 : Int32) (x2 : Int32) (r21 : Int32 × Hp → Option (Hp)) : Int32 × Hp → Option (Hp) := fun ⟨x3, h⟩ =>
  if x2 < x3 then (
  ck (inb (x3 - (1 : Int32)) 40) (
  ck (inb x3 40) (stp (up h (p0 + 2) (ix x3) (h (p0 + 2) (ix (x3 - (1 : Int32))))) (fun h5 =>
  stp (x3 + (-1)) (fun v6 =>
  r21 (v6, h5))))))
  else (
  J_X0_bringBackBlock_46 p0 p1 h x2)
def f_X0_bringBackBlock (h : Hp) (p0 : Nat) (p1 : Int32) : Option (Hp) :=
  if h p0 1 < (40 : Int32) then (
  bnd (f_X0_shotBehindLowerBlocks h p0 p1) (fun u7 =>
  stp (h p0 1) (fun v8 =>
  Lp (F_X0_bringBackBlock_21 p0 p1 u7) FU (v8, h))))
  else (
  some h)
def F_X9_isKeyword_23 (h : Hp) (p1 : Nat) (r23 : Int32 → Option (Int32)) : Int32 → Option (Int32) := fun x2 =>
  if x2 < h 1 6 then (
  if (h 1 5 + x2) < h 1 1 then (
  ck (inb (h 1 5 + x2) 900) (
  ck (inb x2 (tl p1)) (
  if h 2 (ix (h 1 5 + x2)) = (tb p1 (ix x2)) then (
  stp (x2 + 1) (fun v1 =>
  r23 v1))
  else (
  some (0 : Int32)))))
  else (
  some (1 : Int32)))
  else (
  some (1 : Int32))
def f_X9_isKeyword (h : Hp) (p1 : Nat) : Option (Int32) :=
  if h 1 4 = (1 : Int32) then (
  if h 1 6 = (nI (tl p1)) then (
  Lp (F_X9_isKeyword_23 h p1) FU (0 : Int32))
  else (
  some (0 : Int32)))
  else (
  some (0 : Int32))
def J_X9_advance_188 (h : Hp) (x1 : Int32) : Option (Hp) :=
  stp (up h 1 6 (x1 - h 1 5)) (fun h1 =>
  some h1)
def J_X9_advance_174 (h : Hp) (x1 : Int32) (s1 : Int32) : Option (Hp) :=
  stp (up h 1 4 s1) (fun h2 =>
  stp ((imin (x1 + (1 : Int32)) (h2 1 1))) (fun v3 =>
  J_X9_advance_188 h2 v3))
def J_X9_advance_152 (h : Hp) (x1 : Int32) : Option (Hp) :=
  if x1 = h 1 5 then (
  if x1 < h 1 1 then (
  J_X9_advance_174 h x1 (3 : Int32))
  else (
  J_X9_advance_174 h x1 (0 : Int32)))
  else (
  J_X9_advance_188 h x1)
def F_X9_advance_116 (h : Hp) (r116 : Int32 → Option (Hp)) : Int32 → Option (Hp) := fun x1 =>
  if x1 < h 1 1 then (
  ck (inb x1 900) (
  if h 2 (ix x1) < (48 : Int32) then (
  J_X9_advance_152 h x1)
  else (
  ck (inb x1 900) (
  if (57 : Int32) < h 2 (ix x1) then (
  J_X9_advance_152 h x1)
  else (
  stp (x1 + 1) (fun v4 =>
  r116 v4))))))
  else (
  J_X9_advance_152 h x1)
def J_X9_advance_103 (h : Hp) (x1 : Int32) : Option (Hp) :=
  if x1 = h 1 5 then (
  stp (up h 1 4 (2 : Int32)) (fun h5 =>
  Lp (F_X9_advance_116 h5) FU x1))
  else (
  J_X9_advance_152 h x1)
def F_X9_advance_67 (h : Hp) (r67 : Int32 → Option (Hp)) : Int32 → Option (Hp) := fun x1 =>
  if x1 < h 1 1 then (
  ck (inb x1 900) (
  if h 2 (ix x1) < (97 : Int32) then (
  J_X9_advance_103 h x1)
  else (
  ck (inb x1 900) (
  if (122 : Int32) < h 2 (ix x1) then (
  J_X9_advance_103 h x1)
  else (
  stp (x1 + 1) (fun v6 =>
  r67 v6))))))
  else (
  J_X9_advance_103 h x1)
def J_X9_advance_57 (h : Hp) (x1 : Int32) : Option (Hp) :=
  stp (up h 1 5 x1) (fun h7 =>
  stp (up h7 1 4 (1 : Int32)) (fun h8 =>
  Lp (F_X9_advance_67 h8) FU x1))
def J_X9_advance_51 (h : Hp) (r10 : Int32 → Option (Hp)) (x1 : Int32) : Option (Hp) :=
  stp (x1 + 1) (fun v9 =>
  r10 v9)
def F_X9_advance_10 (h : Hp) (r10 : Int32 → Option (Hp)) : Int32 → Option (Hp) := fun x1 =>
  if x1 < h 1 1 then (
  ck (inb x1 900) (
  if h 2 (ix x1) = (32 : Int32) then (
  J_X9_advance_51 h r10 x1)
  else (
  ck (inb x1 900) (
  if h 2 (ix x1) = (9 : Int32) then (
  J_X9_advance_51 h r10 x1)
  else (
  ck (inb x1 900) (
  if h 2 (ix x1) = (10 : Int32) then (
  J_X9_advance_51 h r10 x1)
  else (
  J_X9_advance_57 h x1)))))))
  else (
  J_X9_advance_57 h x1)
def f_X9_advance (h : Hp) : Option (Hp) :=
  stp ((h 1 5 + h 1 6)) (fun v10 =>
  Lp (F_X9_advance_10 h) FU v10)
def f_X9_fail (h : Hp) (p1 : Int32) : Option (Int32 × Hp) :=
  stp (up h 1 3 p1) (fun h1 =>
  stp (up h1 1 2 (h1 1 5)) (fun h2 =>
  some ((0 : Int32), h2)))
def f_X9_isSign (h : Hp) (p1 : Int32) : Option (Int32) :=
  if h 1 4 = (3 : Int32) then (
  if h 1 5 < h 1 1 then (
  ck (inb (h 1 5) 900) (
  if h 2 (ix (h 1 5)) = p1 then (
  some (1 : Int32))
  else (
  some (0 : Int32))))
  else (
  some (0 : Int32)))
  else (
  some (0 : Int32))
def J_X9_nameHere_17 (h : Hp) : Option (Int32 × Hp) :=
  bnd (f_X9_fail h (1 : Int32)) (fun u1 =>
  some ((-1 : Int32), u1.2))
def F_X9_nameHere_29 (h : Hp) (r29 : Int32 × Int32 → Option (Int32 × Hp)) : Int32 × Int32 → Option (Int32 × Hp) := fun ⟨x1, x2⟩ =>
  if x2 < h 1 6 then (
  if (h 1 5 + x2) < h 1 1 then (
  ck (inb (h 1 5 + x2) 900) (
  stp (((((x1 * (32 : Int32)) + h 2 (ix (h 1 5 + x2))) - (97 : Int32)) + (1 : Int32))) (fun v2 =>
  stp (x2 + 1) (fun v3 =>
  r29 (v2, v3)))))
  else (
  some (x1, h)))
  else (
  some (x1, h))
def f_X9_nameHere (h : Hp) : Option (Int32 × Hp) :=
  if h 1 4 = (1 : Int32) then (
  if (6 : Int32) < h 1 6 then (
  J_X9_nameHere_17 h)
  else (
  Lp (F_X9_nameHere_29 h) FU ((0 : Int32), (0 : Int32))))
  else (
  J_X9_nameHere_17 h)
def f_X9_takeSign (h : Hp) (p1 : Int32) : Option (Int32 × Hp) :=
  bnd (f_X9_isSign h p1) (fun u1 =>
  if u1 = 0 then (
  bnd (f_X9_fail h (1 : Int32)) (fun u3 =>
  ck (zb u3.1) (some (u3.1, u3.2))))
  else (
  bnd (f_X9_advance h) (fun u2 =>
  some ((1 : Int32), u2))))
def J_X9_numberHere_97 (p1 : Int32) (p2 : Int32) (h : Hp) : Option (Int32 × Hp) :=
  bnd (f_X9_fail h (2 : Int32)) (fun u1 =>
  some ((-1 : Int32), u1.2))
def J_X9_numberHere_87 (p1 : Int32) (p2 : Int32) (h : Hp) (x3 : Int32) : Option (Int32 × Hp) :=
  if x3 < p1 then (
  J_X9_numberHere_97 p1 p2 h)
  else (
  if p2 < x3 then (
  J_X9_numberHere_97 p1 p2 h)
  else (
  some (x3, h)))
def F_X9_numberHere_37 (p1 : Int32) (p2 : Int32) (h : Hp) (r37 : Int32 × Int32 → Option (Int32 × Hp)) : Int32 × Int32 → Option (Int32 × Hp) := fun ⟨x3, x4⟩ =>
  if x4 < h 1 6 then (
  if (h 1 5 + x4) < h 1 1 then (
  ck (inb (h 1 5 + x4) 900) (
  stp ((((x3 * (10 : Int32)) + h 2 (ix (h 1 5 + x4))) - (48 : Int32))) (fun v2 =>
  stp (x4 + 1) (fun v3 =>
  r37 (v2, v3)))))
  else (
  J_X9_numberHere_87 p1 p2 h x3))
  else (
  J_X9_numberHere_87 p1 p2 h x3)
def f_X9_numberHere (h : Hp) (p1 : Int32) (p2 : Int32) : Option (Int32 × Hp) :=
  if h 1 4 = (2 : Int32) then (
  if (5 : Int32) < h 1 6 then (
  bnd (f_X9_fail h (2 : Int32)) (fun u4 =>
  some ((-1 : Int32), u4.2)))
  else (
  Lp (F_X9_numberHere_37 p1 p2 h) FU ((0 : Int32), (0 : Int32))))
  else (
  bnd (f_X9_fail h (1 : Int32)) (fun u5 =>
  some ((-1 : Int32), u5.2)))
def f_X9_isEnd (h : Hp) : Option (Int32) :=
  if h 1 4 = 0 then (
  some (1 : Int32))
  else (
  some (0 : Int32))
def f_X9_begin (h : Hp) : Option (Hp) :=
  stp (up h 1 2 (-1 : Int32)) (fun h1 =>
  stp (up h1 1 3 (0 : Int32)) (fun h2 =>
  stp (up h2 1 5 (0 : Int32)) (fun h3 =>
  stp (up h3 1 6 (0 : Int32)) (fun h4 =>
  bnd (f_X9_advance h4) (fun u5 =>
  some u5)))))
def F_X9_putFour_3 (p1 : Int32) (r3 : Int32 × Hp → Option (Hp)) : Int32 × Hp → Option (Hp) := fun ⟨x2, h⟩ =>
  if x2 < 0 then (
  some h)
  else (
  if h 1 1 < (900 : Int32) then (
  ck (inb (h 1 1) 900) (stp (up h 2 (ix (h 1 1)) (i2b (i2b (iushr p1 x2)))) (fun h1 =>
  stp (up h1 1 1 (h1 1 1 + (1 : Int32))) (fun h2 =>
  stp (x2 + (-8)) (fun v3 =>
  r3 (v3, h2))))))
  else (
  some h))
def f_X9_putFour (h : Hp) (p1 : Int32) : Option (Hp) :=
  Lp (F_X9_putFour_3 p1) FU ((24 : Int32), h)
def f_X6_nameAt (h : Hp) (p0 : Nat) (p1 : Int32) (p2 : Int32) : Option (Int32) :=
  ck (inb ((p1 * (6 : Int32)) + p2) 360) (
  some (h (p0 + 6) (ix ((p1 * (6 : Int32)) + p2))))
def f_X3_record (h : Hp) (p1 : Nat) : Option (Hp) :=
  ck (inb (h 13 1) 12) (stp (23 + 5 * ix (h 13 1)) (fun q1 =>
  bnd (f_X0_copyFrom h q1 p1) (fun u2 =>
  stp (up u2 13 1 (irem (u2 13 1 + (1 : Int32)) (12 : Int32))) (fun h3 =>
  stp (up h3 13 2 (imin (h3 13 2 + (1 : Int32)) (12 : Int32))) (fun h4 =>
  some h4)))))
def f_X3_giveBack (h : Hp) (p1 : Nat) : Option (Hp) :=
  if h 13 2 ≤ 0 then (
  some h)
  else (
  stp (up h 13 1 (irem ((h 13 1 + (12 : Int32)) - (1 : Int32)) (12 : Int32))) (fun h1 =>
  ck (inb (h1 13 1) 12) (stp (23 + 5 * ix (h1 13 1)) (fun q2 =>
  bnd (f_X0_copyFrom h1 p1 q2) (fun u3 =>
  stp (up u3 13 2 (u3 13 2 - (1 : Int32))) (fun h4 =>
  some h4))))))
def J_X1_findClips_65 (h : Hp) : Option (Hp) :=
  ck (inb (h 3 11) 41) (stp (up h 11 (ix (h 3 11)) (h 18 1)) (fun h1 =>
  some h1))
def J_X1_findClips_59 (h : Hp) (r7 : Int32 × Hp → Option (Hp)) (x1 : Int32) : Option (Hp) :=
  stp (x1 + 1) (fun v2 =>
  r7 (v2, h))
def J_X1_findClips_39 (h : Hp) (r7 : Int32 × Hp → Option (Hp)) (x1 : Int32) : Option (Hp) :=
  ck (inb (h 3 11) 41) (stp (up h 11 (ix (h 3 11)) x1) (fun h3 =>
  stp (up h3 3 11 (h3 3 11 + (1 : Int32))) (fun h4 =>
  J_X1_findClips_59 h4 r7 x1)))
def F_X1_findClips_7 (r7 : Int32 × Hp → Option (Hp)) : Int32 × Hp → Option (Hp) := fun ⟨x1, h⟩ =>
  if x1 < h 18 1 then (
  if x1 = 0 then (
  J_X1_findClips_39 h r7 x1)
  else (
  ck (inb x1 40) (
  ck (inb (x1 - (1 : Int32)) 40) (
  if h 4 (ix x1) = h 5 (ix (x1 - (1 : Int32))) then (
  J_X1_findClips_59 h r7 x1)
  else (
  J_X1_findClips_39 h r7 x1)))))
  else (
  J_X1_findClips_65 h)
def f_X1_findClips (h : Hp) : Option (Hp) :=
  stp (up h 3 11 (0 : Int32)) (fun h5 =>
  Lp (F_X1_findClips_7) FU ((0 : Int32), h5))
def f_X1_framesOfShot (h : Hp) (p1 : Int32) : Option (Int32) :=
  ck (inb p1 40) (
  ck (inb p1 40) (
  some (h 5 (ix p1) - h 4 (ix p1))))
def J_X1_measureSilence_163 (h : Hp) (x1 : Int32) : Option (Hp) :=
  stp (up h 3 14 (imax (h 3 14) x1)) (fun h1 =>
  some h1)
def J_X1_measureSilence_129 (h : Hp) (r14 : Int32 × Int32 × Hp → Option (Hp)) (x1 : Int32) (x2 : Int32) (x3 : Int32) : Option (Hp) :=
  ck (inb x2 40) (
  stp ((x1 + (h 5 (ix x2) - x3))) (fun v2 =>
  ck (inb x2 40) (
  stp (up h 3 13 (h 3 13 + (h 5 (ix x2) - x3))) (fun h3 =>
  stp (x2 + 1) (fun v4 =>
  r14 (v2, v4, h3))))))
def F_X1_measureSilence_40 (r14 : Int32 × Int32 × Hp → Option (Hp)) (x2 : Int32) (r40 : Int32 × Int32 × Int32 × Hp → Option (Hp)) : Int32 × Int32 × Int32 × Hp → Option (Hp) := fun ⟨x1, x3, x4, h⟩ =>
  ck (inb (x2 + (1 : Int32)) 41) (
  if x4 < h 7 (ix (x2 + (1 : Int32))) then (
  ck (inb x4 40) (
  stp (h 9 (ix x4)) (fun v5 =>
  ckp (h 3 0) 4 (fun q6 =>
  ck (inb v5 40) (
  stp ((imax (0 : Int32) (h (q6 + 4) (ix v5) - x3))) (fun v7 =>
  stp (up h 3 13 (h 3 13 + v7)) (fun h8 =>
  stp (up h8 3 14 (imax (h8 3 14) (x1 + v7))) (fun h9 =>
  ckp (h9 3 0) 4 (fun q10 =>
  ck (inb v5 40) (
  stp ((imax x3 (h9 (q10 + 5) (ix v5)))) (fun v11 =>
  stp (x4 + 1) (fun v12 =>
  r40 ((0 : Int32), v11, v12, h9)))))))))))))
  else (
  J_X1_measureSilence_129 h r14 x1 x2 x3))
def F_X1_measureSilence_14 (r14 : Int32 × Int32 × Hp → Option (Hp)) : Int32 × Int32 × Hp → Option (Hp) := fun ⟨x1, x2, h⟩ =>
  if x2 < h 18 1 then (
  ck (inb x2 40) (
  stp (h 4 (ix x2)) (fun v13 =>
  ck (inb x2 41) (
  stp (h 7 (ix x2)) (fun v14 =>
  Lp (F_X1_measureSilence_40 r14 x2) FU (x1, v13, v14, h))))))
  else (
  J_X1_measureSilence_163 h x1)
def f_X1_measureSilence (h : Hp) : Option (Hp) :=
  stp (up h 3 13 (0 : Int32)) (fun h15 =>
  stp (up h15 3 14 (0 : Int32)) (fun h16 =>
  Lp (F_X1_measureSilence_14) FU ((0 : Int32), (0 : Int32), h16)))
def J_X1_layOut_227 (h : Hp) : Option (Hp) :=
  ck (inb (h 18 1) 41) (stp (up h 7 (ix (h 18 1)) (h 3 8)) (fun h1 =>
  bnd (f_X1_findClips h1) (fun u2 =>
  bnd (f_X1_measureSilence u2) (fun u3 =>
  some u3))))
def J_X1_layOut_221 (h : Hp) (r40 : Int32 × Hp → Option (Hp)) (x1 : Int32) : Option (Hp) :=
  stp (x1 + 1) (fun v4 =>
  r40 (v4, h))
def J_X1_layOut_215 (h : Hp) (r40 : Int32 × Hp → Option (Hp)) (r158 : Int32 × Hp → Option (Hp)) (x1 : Int32) (x2 : Int32) (x3 : Int32) : Option (Hp) :=
  stp (x3 + 1) (fun v5 =>
  r158 (v5, h))
def F_X1_layOut_158 (r40 : Int32 × Hp → Option (Hp)) (x1 : Int32) (x2 : Int32) (r158 : Int32 × Hp → Option (Hp)) : Int32 × Hp → Option (Hp) := fun ⟨x3, h⟩ =>
  ckp (h 3 0) 4 (fun q6 =>
  ck (inb (x2 + (1 : Int32)) 41) (
  if x3 < h (q6 + 9) (ix (x2 + (1 : Int32))) then (
  ck (inb x3 40) (
  if h (18 + 1) (ix x3) = 0 then (
  J_X1_layOut_215 h r40 r158 x1 x2 x3)
  else (
  ck (inb x3 40) (stp (up h 10 (ix x3) (h 3 8)) (fun h7 =>
  ck (inb (h7 3 8) 40) (stp (up h7 9 (ix (h7 3 8)) x3) (fun h8 =>
  stp (up h8 3 8 (h8 3 8 + (1 : Int32))) (fun h9 =>
  J_X1_layOut_215 h9 r40 r158 x1 x2 x3))))))))
  else (
  J_X1_layOut_221 h r40 x1)))
def F_X1_layOut_40 (r40 : Int32 × Hp → Option (Hp)) : Int32 × Hp → Option (Hp) := fun ⟨x1, h⟩ =>
  if x1 < h 18 1 then (
  ck (inb x1 40) (
  stp (h (18 + 2) (ix x1)) (fun v10 =>
  ck (inb v10 40) (stp (up h 8 (ix v10) x1) (fun h11 =>
  ckp (h11 3 0) 4 (fun q12 =>
  ck (inb v10 40) (
  bnd (f_X4_firstFrame h11 q12 v10 (h11 (18 + 3) (ix v10))) (fun u13 =>
  ck (inb x1 40) (stp (up h11 4 (ix x1) u13) (fun h14 =>
  ckp (h14 3 0) 4 (fun q15 =>
  ck (inb v10 40) (
  bnd (f_X4_frameBehind h14 q15 v10 (h14 (18 + 4) (ix v10))) (fun u16 =>
  ck (inb x1 40) (stp (up h14 5 (ix x1) u16) (fun h17 =>
  ck (inb x1 40) (stp (up h17 6 (ix x1) (h17 3 2)) (fun h18 =>
  bnd (f_X1_framesOfShot h18 x1) (fun u19 =>
  stp (up h18 3 2 (h18 3 2 + u19)) (fun h20 =>
  ck (inb x1 41) (stp (up h20 7 (ix x1) (h20 3 8)) (fun h21 =>
  ckp (h21 3 0) 4 (fun q22 =>
  ck (inb v10 41) (
  stp (h21 (q22 + 9) (ix v10)) (fun v23 =>
  Lp (F_X1_layOut_158 r40 x1 v10) FU (v23, h21)))))))))))))))))))))))))
  else (
  J_X1_layOut_227 h)
def J_X1_layOut_38 (h : Hp) : Option (Hp) :=
  Lp (F_X1_layOut_40) FU ((0 : Int32), h)
def F_X1_layOut_12 (r12 : Int32 × Hp → Option (Hp)) : Int32 × Hp → Option (Hp) := fun ⟨x1, h⟩ =>
  if x1 < (40 : Int32) then (
  ck (inb x1 40) (stp (up h 8 (ix x1) (-1 : Int32)) (fun h24 =>
  ck (inb x1 40) (stp (up h24 10 (ix x1) (-1 : Int32)) (fun h25 =>
  stp (x1 + 1) (fun v26 =>
  r12 (v26, h25)))))))
  else (
  J_X1_layOut_38 h)
def f_X1_layOut (h : Hp) : Option (Hp) :=
  stp (up h 3 2 (0 : Int32)) (fun h27 =>
  stp (up h27 3 8 (0 : Int32)) (fun h28 =>
  Lp (F_X1_layOut_12) FU ((0 : Int32), h28)))
def f_X1_exchangeRecording (h : Hp) (p1 : Nat) : Option (Nat × Hp) :=
  ckp (h 3 0) 4 (fun q1 =>
  stp (up h 3 0 (nI p1)) (fun h2 =>
  bnd (f_X0_keepEverything h2 18 (h2 p1 13)) (fun u3 =>
  bnd (f_X1_layOut u3) (fun u4 =>
  some (q1, u4)))))
def f_X1_stateOf (h : Hp) (p1 : Int32) : Option (Int32) :=
  ck (inb p1 40) (
  if h (18 + 1) (ix p1) = 0 then (
  ckp (h 3 0) 4 (fun q1 =>
  ck (inb p1 40) (
  ck (inb (h (q1 + 6) (ix p1)) 40) (
  if h 8 (ix (h (q1 + 6) (ix p1))) = (-1 : Int32) then (
  some (2 : Int32))
  else (
  some (1 : Int32))))))
  else (
  some (0 : Int32)))
def J_X1_countKept_42 (h : Hp) (p1 : Int32) (r12 : Int32 × Int32 → Option (Int32)) (x2 : Int32) (x3 : Int32) : Option (Int32) :=
  stp (x3 + 1) (fun v1 =>
  r12 (x2, v1))
def F_X1_countKept_12 (h : Hp) (p1 : Int32) (r12 : Int32 × Int32 → Option (Int32)) : Int32 × Int32 → Option (Int32) := fun ⟨x2, x3⟩ =>
  ckp (h 3 0) 4 (fun q2 =>
  ck (inb (p1 + (1 : Int32)) 41) (
  if x3 < h (q2 + 9) (ix (p1 + (1 : Int32))) then (
  ck (inb x3 40) (
  if h (18 + 1) (ix x3) = 0 then (
  J_X1_countKept_42 h p1 r12 x2 x3)
  else (
  stp (x2 + 1) (fun v3 =>
  J_X1_countKept_42 h p1 r12 v3 x3))))
  else (
  some x2)))
def f_X1_countKept (h : Hp) (p1 : Int32) : Option (Int32) :=
  ckp (h 3 0) 4 (fun q4 =>
  ck (inb p1 41) (
  stp (h (q4 + 9) (ix p1)) (fun v5 =>
  Lp (F_X1_countKept_12 h p1) FU ((0 : Int32), v5))))
def J_X1_shotWithFrame_41 (h : Hp) (p1 : Int32) (r2 : Int32 → Option (Int32)) (x2 : Int32) : Option (Int32) :=
  stp (x2 + 1) (fun v1 =>
  r2 v1)
def F_X1_shotWithFrame_2 (h : Hp) (p1 : Int32) (r2 : Int32 → Option (Int32)) : Int32 → Option (Int32) := fun x2 =>
  if x2 < h 18 1 then (
  ck (inb x2 40) (
  stp ((p1 - h 6 (ix x2))) (fun v2 =>
  if p1 < 0 then (
  J_X1_shotWithFrame_41 h p1 r2 x2)
  else (
  if v2 < 0 then (
  J_X1_shotWithFrame_41 h p1 r2 x2)
  else (
  bnd (f_X1_framesOfShot h x2) (fun u3 =>
  if v2 < u3 then (
  some x2)
  else (
  J_X1_shotWithFrame_41 h p1 r2 x2)))))))
  else (
  some (-1 : Int32))
def f_X1_shotWithFrame (h : Hp) (p1 : Int32) : Option (Int32) :=
  Lp (F_X1_shotWithFrame_2 h p1) FU (0 : Int32)
def f_X1_sourceIn (h : Hp) (p1 : Int32) (p2 : Int32) : Option (Int32) :=
  ck (inb p1 40) (
  ck (inb p1 40) (
  some ((h 4 (ix p1) + p2) - h 6 (ix p1))))
def J_X1_wordHeard_82 (h : Hp) (p1 : Int32) (p2 : Int32) (r29 : Int32 → Option (Int32)) (x3 : Int32) (x4 : Int32) (x5 : Int32) : Option (Int32) :=
  stp (x5 + 1) (fun v1 =>
  r29 v1)
def F_X1_wordHeard_29 (h : Hp) (p1 : Int32) (p2 : Int32) (x3 : Int32) (x4 : Int32) (r29 : Int32 → Option (Int32)) : Int32 → Option (Int32) := fun x5 =>
  ck (inb (x3 + (1 : Int32)) 41) (
  if x5 < h 7 (ix (x3 + (1 : Int32))) then (
  ck (inb x5 40) (
  stp (h 9 (ix x5)) (fun v2 =>
  ckp (h 3 0) 4 (fun q3 =>
  ck (inb v2 40) (
  if h (q3 + 3) (ix v2) = p2 then (
  ckp (h 3 0) 4 (fun q4 =>
  bnd (f_X4_isSpoken h q4 v2 x4) (fun u5 =>
  if u5 = 0 then (
  J_X1_wordHeard_82 h p1 p2 r29 x3 x4 x5)
  else (
  some v2))))
  else (
  J_X1_wordHeard_82 h p1 p2 r29 x3 x4 x5))))))
  else (
  some (-1 : Int32)))
def f_X1_wordHeard (h : Hp) (p1 : Int32) (p2 : Int32) : Option (Int32) :=
  bnd (f_X1_shotWithFrame h p1) (fun u6 =>
  if u6 = (-1 : Int32) then (
  some (-1 : Int32))
  else (
  bnd (f_X1_sourceIn h u6 p1) (fun u7 =>
  ck (inb u6 41) (
  stp (h 7 (ix u6)) (fun v8 =>
  Lp (F_X1_wordHeard_29 h p1 p2 u6 u7) FU v8)))))
def J_X1_framesOfSpeaker_58 (h : Hp) (p1 : Int32) (r4 : Int32 × Int32 → Option (Int32)) (x2 : Int32) (x3 : Int32) : Option (Int32) :=
  stp (x3 + 1) (fun v1 =>
  r4 (x2, v1))
def F_X1_framesOfSpeaker_4 (h : Hp) (p1 : Int32) (r4 : Int32 × Int32 → Option (Int32)) : Int32 × Int32 → Option (Int32) := fun ⟨x2, x3⟩ =>
  if x3 < h 3 8 then (
  ck (inb x3 40) (
  stp (h 9 (ix x3)) (fun v2 =>
  ckp (h 3 0) 4 (fun q3 =>
  ck (inb v2 40) (
  if h (q3 + 3) (ix v2) = p1 then (
  ckp (h 3 0) 4 (fun q4 =>
  ck (inb v2 40) (
  ckp (h 3 0) 4 (fun q5 =>
  ck (inb v2 40) (
  stp ((x2 + (h (q4 + 5) (ix v2) - h (q5 + 4) (ix v2)))) (fun v6 =>
  J_X1_framesOfSpeaker_58 h p1 r4 v6 x3))))))
  else (
  J_X1_framesOfSpeaker_58 h p1 r4 x2 x3))))))
  else (
  some x2)
def f_X1_framesOfSpeaker (h : Hp) (p1 : Int32) : Option (Int32) :=
  Lp (F_X1_framesOfSpeaker_4 h p1) FU ((0 : Int32), (0 : Int32))
def f_X1_firstFrameHeard (h : Hp) (p1 : Int32) : Option (Int32) :=
  ck (inb p1 40) (
  if h 10 (ix p1) = (-1 : Int32) then (
  some (-1 : Int32))
  else (
  ckp (h 3 0) 4 (fun q1 =>
  ck (inb p1 40) (
  ck (inb (h (q1 + 6) (ix p1)) 40) (
  stp (h 8 (ix (h (q1 + 6) (ix p1)))) (fun v2 =>
  if v2 = (-1 : Int32) then (
  some (-1 : Int32))
  else (
  ck (inb v2 40) (
  ckp (h 3 0) 4 (fun q3 =>
  ck (inb p1 40) (
  ck (inb v2 40) (
  some ((h 6 (ix v2) + h (q3 + 4) (ix p1)) - h 4 (ix v2)))))))))))))
def J_X1_countPlacesLike_41 (h : Hp) (p1 : Int32) (r4 : Int32 × Int32 → Option (Int32)) (x2 : Int32) (x3 : Int32) : Option (Int32) :=
  stp (x3 + 1) (fun v1 =>
  r4 (x2, v1))
def F_X1_countPlacesLike_4 (h : Hp) (p1 : Int32) (r4 : Int32 × Int32 → Option (Int32)) : Int32 × Int32 → Option (Int32) := fun ⟨x2, x3⟩ =>
  if x3 < h 3 8 then (
  ckp (h 3 0) 4 (fun q2 =>
  ck (inb x3 40) (
  ck (inb (h 9 (ix x3)) 40) (
  ckp (h 3 0) 4 (fun q3 =>
  ck (inb p1 40) (
  if h (q2 + 2) (ix (h 9 (ix x3))) = h (q3 + 2) (ix p1) then (
  stp (x2 + 1) (fun v4 =>
  J_X1_countPlacesLike_41 h p1 r4 v4 x3))
  else (
  J_X1_countPlacesLike_41 h p1 r4 x2 x3)))))))
  else (
  some x2)
def f_X1_countPlacesLike (h : Hp) (p1 : Int32) : Option (Int32) :=
  Lp (F_X1_countPlacesLike_4 h p1) FU ((0 : Int32), (0 : Int32))
def J_X1_countStutters_50 (h : Hp) (r4 : Int32 × Int32 → Option (Int32)) (x1 : Int32) (x2 : Int32) : Option (Int32) :=
  stp (x2 + 1) (fun v1 =>
  r4 (x1, v1))
def F_X1_countStutters_4 (h : Hp) (r4 : Int32 × Int32 → Option (Int32)) : Int32 × Int32 → Option (Int32) := fun ⟨x1, x2⟩ =>
  if x2 < h 3 8 then (
  ck (inb (x2 - (1 : Int32)) 40) (
  stp (h 9 (ix (x2 - (1 : Int32)))) (fun v2 =>
  ckp (h 3 0) 4 (fun q3 =>
  ck (inb v2 40) (
  ckp (h 3 0) 4 (fun q4 =>
  ck (inb x2 40) (
  ck (inb (h 9 (ix x2)) 40) (
  if h (q3 + 2) (ix v2) = h (q4 + 2) (ix (h 9 (ix x2))) then (
  stp (x1 + 1) (fun v5 =>
  J_X1_countStutters_50 h r4 v5 x2))
  else (
  J_X1_countStutters_50 h r4 x1 x2)))))))))
  else (
  some x1)
def f_X1_countStutters (h : Hp) : Option (Int32) :=
  Lp (F_X1_countStutters_4 h) FU ((0 : Int32), (1 : Int32))
def J_X1_lengthWithoutPlaces_55 (h : Hp) (p1 : Int32) (p2 : Int32) (r8 : Int32 × Int32 → Option (Int32)) (x3 : Int32) (x4 : Int32) : Option (Int32) :=
  stp (x4 + 1) (fun v1 =>
  r8 (x3, v1))
def F_X1_lengthWithoutPlaces_8 (h : Hp) (p1 : Int32) (p2 : Int32) (r8 : Int32 × Int32 → Option (Int32)) : Int32 × Int32 → Option (Int32) := fun ⟨x3, x4⟩ =>
  if x4 < h 18 1 then (
  ck (inb x4 41) (
  if h 7 (ix x4) < p1 then (
  J_X1_lengthWithoutPlaces_55 h p1 p2 r8 x3 x4)
  else (
  ck (inb (x4 + (1 : Int32)) 41) (
  if p2 < (h 7 (ix (x4 + (1 : Int32))) - (1 : Int32)) then (
  J_X1_lengthWithoutPlaces_55 h p1 p2 r8 x3 x4)
  else (
  bnd (f_X1_framesOfShot h x4) (fun u2 =>
  stp ((x3 - u2)) (fun v3 =>
  J_X1_lengthWithoutPlaces_55 h p1 p2 r8 v3 x4)))))))
  else (
  some x3)
def f_X1_lengthWithoutPlaces (h : Hp) (p1 : Int32) (p2 : Int32) : Option (Int32) :=
  stp (h 3 2) (fun v4 =>
  Lp (F_X1_lengthWithoutPlaces_8 h p1 p2) FU (v4, (0 : Int32)))
def f_X1_lengthWithWord (h : Hp) (p1 : Int32) : Option (Int32) :=
  ckp (h 3 0) 4 (fun q1 =>
  ck (inb p1 40) (
  stp (h (q1 + 6) (ix p1)) (fun v2 =>
  ck (inb v2 40) (
  if h 8 (ix v2) = (-1 : Int32) then (
  ckp (h 3 0) 4 (fun q3 =>
  bnd (f_X4_rangeLength h q3 v2) (fun u4 =>
  some (h 3 2 + u4))))
  else (
  some (h 3 2))))))
def J_X1_takeGreatest_38 (h : Hp) (x1 : Int32) : Option (Int32 × Hp) :=
  ck (inb x1 40) (
  stp (h 12 (ix x1)) (fun v1 =>
  ck (inb x1 40) (stp (up h 12 (ix x1) (0 : Int32)) (fun h2 =>
  some (v1, h2)))))
def J_X1_takeGreatest_32 (h : Hp) (r4 : Int32 × Int32 → Option (Int32 × Hp)) (x1 : Int32) (x2 : Int32) : Option (Int32 × Hp) :=
  stp (x2 + 1) (fun v3 =>
  r4 (x1, v3))
def F_X1_takeGreatest_4 (h : Hp) (r4 : Int32 × Int32 → Option (Int32 × Hp)) : Int32 × Int32 → Option (Int32 × Hp) := fun ⟨x1, x2⟩ =>
  if x2 < h 18 1 then (
  ck (inb x2 40) (
  ck (inb x1 40) (
  if h 12 (ix x1) < h 12 (ix x2) then (
  J_X1_takeGreatest_32 h r4 x2 x2)
  else (
  J_X1_takeGreatest_32 h r4 x1 x2))))
  else (
  J_X1_takeGreatest_38 h x1)
def f_X1_takeGreatest (h : Hp) : Option (Int32 × Hp) :=
  Lp (F_X1_takeGreatest_4 h) FU ((0 : Int32), (1 : Int32))
def F_X1_countShotsBeyond_40 (p1 : Int32) (r40 : Int32 × Int32 × Int32 × Hp → Option (Int32 × Hp)) : Int32 × Int32 × Int32 × Hp → Option (Int32 × Hp) := fun ⟨x2, x3, x4, h⟩ =>
  if x4 < h 18 1 then (
  if p1 < x2 then (
  bnd (f_X1_takeGreatest h) (fun u1 =>
  stp ((x2 - u1.1)) (fun v2 =>
  stp (x3 + 1) (fun v3 =>
  stp (x4 + 1) (fun v4 =>
  r40 (v2, v3, v4, u1.2))))))
  else (
  some (x3, h)))
  else (
  some (x3, h))
def J_X1_countShotsBeyond_30 (p1 : Int32) (h : Hp) : Option (Int32 × Hp) :=
  stp (h 3 2) (fun v5 =>
  Lp (F_X1_countShotsBeyond_40 p1) FU (v5, (0 : Int32), (0 : Int32), h))
def F_X1_countShotsBeyond_2 (p1 : Int32) (r2 : Int32 × Hp → Option (Int32 × Hp)) : Int32 × Hp → Option (Int32 × Hp) := fun ⟨x2, h⟩ =>
  if x2 < h 18 1 then (
  bnd (f_X1_framesOfShot h x2) (fun u6 =>
  ck (inb x2 40) (stp (up h 12 (ix x2) u6) (fun h7 =>
  stp (x2 + 1) (fun v8 =>
  r2 (v8, h7))))))
  else (
  J_X1_countShotsBeyond_30 p1 h)
def f_X1_countShotsBeyond (h : Hp) (p1 : Int32) : Option (Int32 × Hp) :=
  Lp (F_X1_countShotsBeyond_2 p1) FU ((0 : Int32), h)
def J_X1_findPhrase_64 (h : Hp) (p1 : Nat) (p2 : Int32) (r10 : Int32 → Option (Int32)) (x3 : Int32) (x4 : Int32) (x5 : Int32) : Option (Int32) :=
  if x5 = x3 then (
  some x4)
  else (
  stp (x4 + 1) (fun v1 =>
  r10 v1))
def F_X1_findPhrase_24 (h : Hp) (p1 : Nat) (p2 : Int32) (r10 : Int32 → Option (Int32)) (x3 : Int32) (x4 : Int32) (r24 : Int32 → Option (Int32)) : Int32 → Option (Int32) := fun x5 =>
  if x5 < x3 then (
  ckp (h 3 0) 4 (fun q2 =>
  ck (inb (x4 + x5) 40) (
  ck (inb (h 9 (ix (x4 + x5))) 40) (
  bnd (f_X6_nameAt h p1 p2 x5) (fun u3 =>
  if h (q2 + 2) (ix (h 9 (ix (x4 + x5)))) = u3 then (
  stp (x5 + 1) (fun v4 =>
  r24 v4))
  else (
  J_X1_findPhrase_64 h p1 p2 r10 x3 x4 x5))))))
  else (
  J_X1_findPhrase_64 h p1 p2 r10 x3 x4 x5)
def F_X1_findPhrase_10 (h : Hp) (p1 : Nat) (p2 : Int32) (x3 : Int32) (r10 : Int32 → Option (Int32)) : Int32 → Option (Int32) := fun x4 =>
  if h 3 8 < (x4 + x3) then (
  some (-1 : Int32))
  else (
  Lp (F_X1_findPhrase_24 h p1 p2 r10 x3 x4) FU (0 : Int32))
def f_X1_findPhrase (h : Hp) (p1 : Nat) (p2 : Int32) : Option (Int32) :=
  ck (inb p2 60) (
  stp (h (p1 + 5) (ix p2)) (fun v5 =>
  Lp (F_X1_findPhrase_10 h p1 p2 v5) FU (0 : Int32)))
def J_X1_findLostPhrase_105 (h : Hp) (p1 : Nat) (p2 : Int32) (r10 : Int32 → Option (Int32)) (x3 : Int32) (x4 : Int32) : Option (Int32) :=
  stp (x4 + 1) (fun v1 =>
  r10 v1)
def J_X1_findLostPhrase_91 (h : Hp) (p1 : Nat) (p2 : Int32) (r10 : Int32 → Option (Int32)) (x3 : Int32) (x4 : Int32) (x5 : Int32) (x6 : Int32) : Option (Int32) :=
  if x5 = x3 then (
  if x6 = 0 then (
  J_X1_findLostPhrase_105 h p1 p2 r10 x3 x4)
  else (
  some x4))
  else (
  J_X1_findLostPhrase_105 h p1 p2 r10 x3 x4)
def J_X1_findLostPhrase_82 (h : Hp) (p1 : Nat) (p2 : Int32) (r10 : Int32 → Option (Int32)) (r30 : Int32 × Int32 → Option (Int32)) (x3 : Int32) (x4 : Int32) (x5 : Int32) (s0 : Int32) (s1 : Int32) : Option (Int32) :=
  stp ((s0 ||| s1)) (fun v2 =>
  stp (x5 + 1) (fun v3 =>
  r30 (v3, v2)))
def F_X1_findLostPhrase_30 (h : Hp) (p1 : Nat) (p2 : Int32) (r10 : Int32 → Option (Int32)) (x3 : Int32) (x4 : Int32) (r30 : Int32 × Int32 → Option (Int32)) : Int32 × Int32 → Option (Int32) := fun ⟨x5, x6⟩ =>
  if x5 < x3 then (
  ckp (h 3 0) 4 (fun q4 =>
  ck (inb (x4 + x5) 40) (
  bnd (f_X6_nameAt h p1 p2 x5) (fun u5 =>
  if h (q4 + 2) (ix (x4 + x5)) = u5 then (
  ck (inb (x4 + x5) 40) (
  if h (18 + 1) (ix (x4 + x5)) = 0 then (
  J_X1_findLostPhrase_82 h p1 p2 r10 r30 x3 x4 x5 x6 (1 : Int32))
  else (
  J_X1_findLostPhrase_82 h p1 p2 r10 r30 x3 x4 x5 x6 (0 : Int32))))
  else (
  J_X1_findLostPhrase_91 h p1 p2 r10 x3 x4 x5 x6)))))
  else (
  J_X1_findLostPhrase_91 h p1 p2 r10 x3 x4 x5 x6)
def F_X1_findLostPhrase_10 (h : Hp) (p1 : Nat) (p2 : Int32) (x3 : Int32) (r10 : Int32 → Option (Int32)) : Int32 → Option (Int32) := fun x4 =>
  ckp (h 3 0) 4 (fun q6 =>
  if h q6 4 < (x4 + x3) then (
  some (-1 : Int32))
  else (
  Lp (F_X1_findLostPhrase_30 h p1 p2 r10 x3 x4) FU ((0 : Int32), (0 : Int32))))
def f_X1_findLostPhrase (h : Hp) (p1 : Nat) (p2 : Int32) : Option (Int32) :=
  ck (inb p2 60) (
  stp (h (p1 + 5) (ix p2)) (fun v7 =>
  Lp (F_X1_findLostPhrase_10 h p1 p2 v7) FU (0 : Int32)))
def F_X1_shotOfPlace_2 (h : Hp) (p1 : Int32) (r2 : Int32 → Option (Int32)) : Int32 → Option (Int32) := fun x2 =>
  if (x2 + (1 : Int32)) < h 18 1 then (
  ck (inb (x2 + (1 : Int32)) 41) (
  if p1 < h 7 (ix (x2 + (1 : Int32))) then (
  some x2)
  else (
  stp (x2 + 1) (fun v1 =>
  r2 v1))))
  else (
  some x2)
def f_X1_shotOfPlace (h : Hp) (p1 : Int32) : Option (Int32) :=
  Lp (F_X1_shotOfPlace_2 h p1) FU (0 : Int32)
def J_X1_cutPlaces_107 (p1 : Int32) (p2 : Int32) (h : Hp) (x3 : Int32) : Option (Hp) :=
  stp (up h 18 1 x3) (fun h1 =>
  bnd (f_X1_layOut h1) (fun u2 =>
  some u2))
def J_X1_cutPlaces_101 (p1 : Int32) (p2 : Int32) (h : Hp) (r41 : Int32 × Int32 × Hp → Option (Hp)) (x3 : Int32) (x4 : Int32) : Option (Hp) :=
  stp (x4 + 1) (fun v3 =>
  r41 (x3, v3, h))
def J_X1_cutPlaces_79 (p1 : Int32) (p2 : Int32) (h : Hp) (r41 : Int32 × Int32 × Hp → Option (Hp)) (x3 : Int32) (x4 : Int32) : Option (Hp) :=
  ck (inb x4 40) (
  ck (inb x3 40) (stp (up h (18 + 2) (ix x3) (h (18 + 2) (ix x4))) (fun h4 =>
  stp (x3 + 1) (fun v5 =>
  J_X1_cutPlaces_101 p1 p2 h4 r41 v5 x4))))
def F_X1_cutPlaces_41 (p1 : Int32) (p2 : Int32) (r41 : Int32 × Int32 × Hp → Option (Hp)) : Int32 × Int32 × Hp → Option (Hp) := fun ⟨x3, x4, h⟩ =>
  if x4 < h 18 1 then (
  ck (inb x4 41) (
  if h 7 (ix x4) < p1 then (
  J_X1_cutPlaces_79 p1 p2 h r41 x3 x4)
  else (
  ck (inb (x4 + (1 : Int32)) 41) (
  if p2 < (h 7 (ix (x4 + (1 : Int32))) - (1 : Int32)) then (
  J_X1_cutPlaces_79 p1 p2 h r41 x3 x4)
  else (
  J_X1_cutPlaces_101 p1 p2 h r41 x3 x4)))))
  else (
  J_X1_cutPlaces_107 p1 p2 h x3)
def J_X1_cutPlaces_36 (p1 : Int32) (p2 : Int32) (h : Hp) : Option (Hp) :=
  Lp (F_X1_cutPlaces_41 p1 p2) FU ((0 : Int32), (0 : Int32), h)
def F_X1_cutPlaces_2 (p1 : Int32) (p2 : Int32) (r2 : Int32 × Hp → Option (Hp)) : Int32 × Hp → Option (Hp) := fun ⟨x3, h⟩ =>
  if p2 < x3 then (
  J_X1_cutPlaces_36 p1 p2 h)
  else (
  if x3 < h 3 8 then (
  ck (inb x3 40) (
  ck (inb (h 9 (ix x3)) 40) (stp (up h (18 + 1) (ix (h 9 (ix x3))) (0 : Int32)) (fun h6 =>
  stp (x3 + 1) (fun v7 =>
  r2 (v7, h6))))))
  else (
  J_X1_cutPlaces_36 p1 p2 h))
def f_X1_cutPlaces (h : Hp) (p1 : Int32) (p2 : Int32) : Option (Hp) :=
  Lp (F_X1_cutPlaces_2 p1 p2) FU (p1, h)
def J_X1_keepAgain_89 (p1 : Int32) (p2 : Int32) (h : Hp) (x3 : Int32) : Option (Int32 × Hp) :=
  bnd (f_X1_layOut h) (fun u1 =>
  some (x3, u1))
def J_X1_keepAgain_83 (p1 : Int32) (p2 : Int32) (h : Hp) (r5 : Int32 × Int32 × Hp → Option (Int32 × Hp)) (x3 : Int32) (x4 : Int32) : Option (Int32 × Hp) :=
  stp (x4 + 1) (fun v2 =>
  r5 (x3, v2, h))
def F_X1_keepAgain_5 (p1 : Int32) (p2 : Int32) (r5 : Int32 × Int32 × Hp → Option (Int32 × Hp)) : Int32 × Int32 × Hp → Option (Int32 × Hp) := fun ⟨x3, x4, h⟩ =>
  if p2 < x4 then (
  J_X1_keepAgain_89 p1 p2 h x3)
  else (
  ckp (h 3 0) 4 (fun q3 =>
  if x4 < h q3 4 then (
  ck (inb x4 40) (
  if h (18 + 1) (ix x4) = 0 then (
  ck (inb x4 40) (stp (up h (18 + 1) (ix x4) (1 : Int32)) (fun h4 =>
  stp (x3 + 1) (fun v5 =>
  ckp (h4 3 0) 4 (fun q6 =>
  ck (inb x4 40) (
  stp (h4 (q6 + 6) (ix x4)) (fun v7 =>
  bnd (f_X0_holdsBlock h4 18 v7) (fun u8 =>
  if u8 = 0 then (
  bnd (f_X0_bringBackBlock h4 18 v7) (fun u9 =>
  J_X1_keepAgain_83 p1 p2 u9 r5 v5 x4))
  else (
  J_X1_keepAgain_83 p1 p2 h4 r5 v5 x4)))))))))
  else (
  J_X1_keepAgain_83 p1 p2 h r5 x3 x4)))
  else (
  J_X1_keepAgain_89 p1 p2 h x3)))
def f_X1_keepAgain (h : Hp) (p1 : Int32) (p2 : Int32) : Option (Int32 × Hp) :=
  Lp (F_X1_keepAgain_5 p1 p2) FU ((0 : Int32), p1, h)
def J_X1_carryShots_170 (p1 : Int32) (p2 : Int32) (p3 : Int32) (h : Hp) (x5 : Int32) : Option (Int32 × Hp) :=
  ck (cpok (0 : Int32) (0 : Int32) (h 18 1) 40 40) (stp (hcp h 12 (18 + 2) (0 : Int32) (0 : Int32) (h 18 1)) (fun h1 =>
  bnd (f_X1_layOut h1) (fun u2 =>
  some (x5, u2))))
def J_X1_carryShots_164 (p1 : Int32) (p2 : Int32) (p3 : Int32) (h : Hp) (r80 : Int32 × Int32 × Hp → Option (Int32 × Hp)) (x4 : Int32) (x5 : Int32) (x6 : Int32) (x7 : Int32) : Option (Int32 × Hp) :=
  stp (x7 + 1) (fun v3 =>
  r80 (x6, v3, h))
def J_X1_carryShots_150 (p1 : Int32) (p2 : Int32) (p3 : Int32) (h : Hp) (r80 : Int32 × Int32 × Hp → Option (Int32 × Hp)) (x4 : Int32) (x5 : Int32) (x6 : Int32) (x7 : Int32) (s1 : Int32) : Option (Int32 × Hp) :=
  ck (inb x7 40) (
  ck (inb s1 40) (stp (up h 12 (ix s1) (h (18 + 2) (ix x7))) (fun h4 =>
  stp (x6 + 1) (fun v5 =>
  J_X1_carryShots_164 p1 p2 p3 h4 r80 x4 x5 v5 x7))))
def J_X1_carryShots_129 (p1 : Int32) (p2 : Int32) (p3 : Int32) (h : Hp) (r80 : Int32 × Int32 × Hp → Option (Int32 × Hp)) (x4 : Int32) (x5 : Int32) (x6 : Int32) (x7 : Int32) : Option (Int32 × Hp) :=
  if x6 < x5 then (
  J_X1_carryShots_150 p1 p2 p3 h r80 x4 x5 x6 x7 x6)
  else (
  J_X1_carryShots_150 p1 p2 p3 h r80 x4 x5 x6 x7 (x6 + x4))
def F_X1_carryShots_80 (p1 : Int32) (p2 : Int32) (p3 : Int32) (x4 : Int32) (x5 : Int32) (r80 : Int32 × Int32 × Hp → Option (Int32 × Hp)) : Int32 × Int32 × Hp → Option (Int32 × Hp) := fun ⟨x6, x7, h⟩ =>
  if x7 < h 18 1 then (
  if x7 < p1 then (
  J_X1_carryShots_129 p1 p2 p3 h r80 x4 x5 x6 x7)
  else (
  if p2 < x7 then (
  J_X1_carryShots_129 p1 p2 p3 h r80 x4 x5 x6 x7)
  else (
  ck (inb x7 40) (
  ck (inb ((x5 + x7) - p1) 40) (stp (up h 12 (ix ((x5 + x7) - p1)) (h (18 + 2) (ix x7))) (fun h6 =>
  J_X1_carryShots_164 p1 p2 p3 h6 r80 x4 x5 x6 x7))))))
  else (
  J_X1_carryShots_170 p1 p2 p3 h x5)
def J_X1_carryShots_72 (p1 : Int32) (p2 : Int32) (p3 : Int32) (h : Hp) (x4 : Int32) (s0 : Int32) : Option (Int32 × Hp) :=
  Lp (F_X1_carryShots_80 p1 p2 p3 x4 s0) FU ((0 : Int32), (0 : Int32), h)
def f_X1_carryShots (h : Hp) (p1 : Int32) (p2 : Int32) (p3 : Int32) : Option (Int32 × Hp) :=
  ck (inb p1 40) (
  ckp (h 3 0) 4 (fun q7 =>
  ck (inb (h (18 + 2) (ix p1)) 40) (stp (up h (18 + 3) (ix (h (18 + 2) (ix p1))) (h q7 1)) (fun h8 =>
  ck (inb p2 40) (
  ckp (h8 3 0) 4 (fun q9 =>
  ck (inb (h8 (18 + 2) (ix p2)) 40) (stp (up h8 (18 + 4) (ix (h8 (18 + 2) (ix p2))) (h8 q9 1)) (fun h10 =>
  stp (((p2 - p1) + (1 : Int32))) (fun v11 =>
  if p3 < p1 then (
  J_X1_carryShots_72 p1 p2 p3 h10 v11 (p3 + (1 : Int32)))
  else (
  J_X1_carryShots_72 p1 p2 p3 h10 v11 ((p3 + (1 : Int32)) - v11)))))))))))
def J_X1_cutPhrase_54 (p1 : Nat) (p2 : Int32) (p3 : Int32) (h : Hp) (x4 : Int32) : Option (Int32 × Hp) :=
  if x4 ≤ 0 then (
  some ((0 : Int32), h))
  else (
  some ((1 : Int32), h))
def F_X1_cutPhrase_11 (p1 : Nat) (p2 : Int32) (p3 : Int32) (r11 : Int32 × Int32 × Hp → Option (Int32 × Hp)) : Int32 × Int32 × Hp → Option (Int32 × Hp) := fun ⟨x4, x5, h⟩ =>
  if x5 = (-1 : Int32) then (
  J_X1_cutPhrase_54 p1 p2 p3 h x4)
  else (
  if x4 < p3 then (
  ck (inb p2 60) (
  bnd (f_X1_cutPlaces h x5 ((x5 + h (p1 + 5) (ix p2)) - (1 : Int32))) (fun u1 =>
  stp (x4 + 1) (fun v2 =>
  bnd (f_X1_findPhrase u1 p1 p2) (fun u3 =>
  r11 (v2, u3, u1))))))
  else (
  J_X1_cutPhrase_54 p1 p2 p3 h x4))
def f_X1_cutPhrase (h : Hp) (p1 : Nat) (p2 : Int32) (p3 : Int32) : Option (Int32 × Hp) :=
  bnd (f_X1_findPhrase h p1 p2) (fun u4 =>
  Lp (F_X1_cutPhrase_11 p1 p2 p3) FU ((0 : Int32), u4, h))
def f_X1_keepPhraseAgain (h : Hp) (p1 : Nat) (p2 : Int32) : Option (Int32 × Hp) :=
  bnd (f_X1_findLostPhrase h p1 p2) (fun u1 =>
  if u1 = (-1 : Int32) then (
  some ((0 : Int32), h))
  else (
  ck (inb p2 60) (
  bnd (f_X1_keepAgain h u1 ((u1 + h (p1 + 5) (ix p2)) - (1 : Int32))) (fun u2 =>
  some ((1 : Int32), u2.2)))))
def J_X1_carryPhrase_88 (p1 : Nat) (p2 : Int32) (p3 : Int32) (h : Hp) (x6 : Int32) (x7 : Int32) (x8 : Int32) : Option (Int32 × Hp) :=
  bnd (f_X1_carryShots h x6 x7 x8) (fun u1 =>
  some ((1 : Int32), u1.2))
def f_X1_carryPhrase (h : Hp) (p1 : Nat) (p2 : Int32) (p3 : Int32) : Option (Int32 × Hp) :=
  bnd (f_X1_findPhrase h p1 p2) (fun u2 =>
  bnd (f_X1_findPhrase h p1 p3) (fun u3 =>
  if u2 = (-1 : Int32) then (
  some ((0 : Int32), h))
  else (
  if u3 = (-1 : Int32) then (
  some ((0 : Int32), h))
  else (
  bnd (f_X1_shotOfPlace h u2) (fun u4 =>
  ck (inb p2 60) (
  bnd (f_X1_shotOfPlace h ((u2 + h (p1 + 5) (ix p2)) - (1 : Int32))) (fun u5 =>
  ck (inb p3 60) (
  bnd (f_X1_shotOfPlace h ((u3 + h (p1 + 5) (ix p3)) - (1 : Int32))) (fun u6 =>
  if u6 < u4 then (
  J_X1_carryPhrase_88 p1 p2 p3 h u4 u5 u6)
  else (
  if u5 < u6 then (
  J_X1_carryPhrase_88 p1 p2 p3 h u4 u5 u6)
  else (
  some ((0 : Int32), h))))))))))))
def f_X2_putByte (h : Hp) (p1 : Int32) : Option (Hp) :=
  if h 16 1 < (1000 : Int32) then (
  ck (inb (h 16 1) 1000) (stp (up h 17 (ix (h 16 1)) (i2b (i2b p1))) (fun h1 =>
  stp (up h1 16 1 (h1 16 1 + (1 : Int32))) (fun h2 =>
  some h2))))
  else (
  some h)
def J_X2_putName_28 (p1 : Int32) (h : Hp) (r3 : Int32 × Hp → Option (Hp)) (x2 : Int32) : Option (Hp) :=
  stp (x2 + (-5)) (fun v1 =>
  r3 (v1, h))
def F_X2_putName_3 (p1 : Int32) (r3 : Int32 × Hp → Option (Hp)) : Int32 × Hp → Option (Hp) := fun ⟨x2, h⟩ =>
  if x2 < 0 then (
  some h)
  else (
  stp (((p1 >>> (x2 &&& 31)) &&& (31 : Int32))) (fun v2 =>
  if v2 = 0 then (
  J_X2_putName_28 p1 h r3 x2)
  else (
  bnd (f_X2_putByte h (((97 : Int32) + v2) - (1 : Int32))) (fun u3 =>
  J_X2_putName_28 p1 u3 r3 x2))))
def f_X2_putName (h : Hp) (p1 : Int32) : Option (Hp) :=
  Lp (F_X2_putName_3 p1) FU ((25 : Int32), h)
def F_X2_putText_2 (p1 : Nat) (r2 : Int32 × Hp → Option (Hp)) : Int32 × Hp → Option (Hp) := fun ⟨x2, h⟩ =>
  if x2 < (nI (tl p1)) then (
  ck (inb x2 (tl p1)) (
  bnd (f_X2_putByte h (tb p1 (ix x2))) (fun u1 =>
  stp (x2 + 1) (fun v2 =>
  r2 (v2, u1)))))
  else (
  some h)
def f_X2_putText (h : Hp) (p1 : Nat) : Option (Hp) :=
  Lp (F_X2_putText_2 p1) FU ((0 : Int32), h)
def J_X2_writeTranscript_86 (h : Hp) (r7 : Int32 × Hp → Option (Hp)) (x2 : Int32) : Option (Hp) :=
  stp (x2 + 1) (fun v1 =>
  r7 (v1, h))
def J_X2_writeTranscript_62 (h : Hp) (r7 : Int32 × Hp → Option (Hp)) (r25 : Int32 × Hp → Option (Hp)) (x2 : Int32) (x3 : Int32) : Option (Hp) :=
  ckp (h 3 0) 4 (fun q2 =>
  ck (inb x3 40) (
  ck (inb (h 9 (ix x3)) 40) (
  bnd (f_X2_putName h (h (q2 + 2) (ix (h 9 (ix x3))))) (fun u3 =>
  stp (x3 + 1) (fun v4 =>
  r25 (v4, u3))))))
def J_X2_writeTranscript_59 (h : Hp) (r7 : Int32 × Hp → Option (Hp)) (r25 : Int32 × Hp → Option (Hp)) (x2 : Int32) (x3 : Int32) (s1 : Nat) : Option (Hp) :=
  bnd (f_X2_putText h s1) (fun u5 =>
  J_X2_writeTranscript_62 u5 r7 r25 x2 x3)
def F_X2_writeTranscript_25 (r7 : Int32 × Hp → Option (Hp)) (x2 : Int32) (r25 : Int32 × Hp → Option (Hp)) : Int32 × Hp → Option (Hp) := fun ⟨x3, h⟩ =>
  ck (inb (x2 + (1 : Int32)) 41) (
  if x3 < h 7 (ix (x2 + (1 : Int32))) then (
  if x3 ≤ 0 then (
  J_X2_writeTranscript_62 h r7 r25 x2 x3)
  else (
  ck (inb x2 41) (
  if x3 = h 7 (ix x2) then (
  J_X2_writeTranscript_59 h r7 r25 x2 x3 0)
  else (
  J_X2_writeTranscript_59 h r7 r25 x2 x3 1))))
  else (
  J_X2_writeTranscript_86 h r7 x2))
def F_X2_writeTranscript_7 (r7 : Int32 × Hp → Option (Hp)) : Int32 × Hp → Option (Hp) := fun ⟨x2, h⟩ =>
  if x2 < h 18 1 then (
  ck (inb x2 41) (
  stp (h 7 (ix x2)) (fun v6 =>
  Lp (F_X2_writeTranscript_25 r7 x2) FU (v6, h))))
  else (
  some h)
def f_X2_writeTranscript (h : Hp) : Option (Hp) :=
  stp (up h 16 1 (0 : Int32)) (fun h7 =>
  Lp (F_X2_writeTranscript_7) FU ((0 : Int32), h7))
def J_X2_putNumber_78 (p1 : Int32) (h : Hp) (x4 : Int32) : Option (Hp) :=
  stp (up h 16 1 x4) (fun h1 =>
  some h1)
def F_X2_putNumber_43 (p1 : Int32) (x4 : Int32) (r43 : Int32 × Int32 × Hp → Option (Hp)) : Int32 × Int32 × Hp → Option (Hp) := fun ⟨x3, x5, h⟩ =>
  if x5 < h 16 1 then (
  J_X2_putNumber_78 p1 h x4)
  else (
  ck (inb x5 1000) (stp (up h 17 (ix x5) (i2b (i2b ((48 : Int32) + (irem x3 (10 : Int32)))))) (fun h2 =>
  stp ((x3 / (10 : Int32))) (fun v3 =>
  stp (x5 + (-1)) (fun v4 =>
  r43 (v3, v4, h2))))))
def J_X2_putNumber_21 (p1 : Int32) (h : Hp) (x2 : Int32) : Option (Hp) :=
  stp ((imin (h 16 1 + x2) (1000 : Int32))) (fun v5 =>
  stp ((v5 - (1 : Int32))) (fun v6 =>
  Lp (F_X2_putNumber_43 p1 v5) FU (p1, v6, h)))
def F_X2_putNumber_4 (p1 : Int32) (h : Hp) (r4 : Int32 × Int32 → Option (Hp)) : Int32 × Int32 → Option (Hp) := fun ⟨x2, x3⟩ =>
  stp (x2 + 1) (fun v7 =>
  stp ((x3 / (10 : Int32))) (fun v8 =>
  if v8 ≤ 0 then (
  J_X2_putNumber_21 p1 h v7)
  else (
  if v7 < (5 : Int32) then (
  r4 (v7, v8))
  else (
  J_X2_putNumber_21 p1 h v7))))
def f_X2_putNumber (h : Hp) (p1 : Int32) : Option (Hp) :=
  Lp (F_X2_putNumber_4 p1 h) FU ((0 : Int32), p1)
def J_X2_writeShot_165 (p2 : Int32) (h : Hp) (r73 : Int32 × Hp → Option (Hp)) (x3 : Nat) (x4 : Int32) (x5 : Int32) (s1 : Nat) : Option (Hp) :=
  bnd (f_X2_putText h s1) (fun u1 =>
  stp (x5 + 1) (fun v2 =>
  r73 (v2, u1)))
def J_X2_writeShot_130 (p2 : Int32) (h : Hp) (r73 : Int32 × Hp → Option (Hp)) (x3 : Nat) (x4 : Int32) (x5 : Int32) (s1 : Nat) : Option (Hp) :=
  bnd (f_X2_putText h s1) (fun u3 =>
  ck (inb x5 40) (
  bnd (f_X2_putName u3 (u3 (x3 + 2) (ix x5))) (fun u4 =>
  ck (inb x5 40) (
  if u4 (18 + 1) (ix x5) = 0 then (
  J_X2_writeShot_165 p2 u4 r73 x3 x4 x5 33)
  else (
  J_X2_writeShot_165 p2 u4 r73 x3 x4 x5 32)))))
def F_X2_writeShot_73 (p2 : Int32) (x3 : Nat) (x4 : Int32) (r73 : Int32 × Hp → Option (Hp)) : Int32 × Hp → Option (Hp) := fun ⟨x5, h⟩ =>
  ck (inb (x4 + (1 : Int32)) 41) (
  if x5 < h (x3 + 9) (ix (x4 + (1 : Int32))) then (
  bnd (f_X2_putText h 1) (fun u5 =>
  ck (inb x5 40) (
  ck (inb (u5 (x3 + 3) (ix x5)) 4) (
  bnd (f_X2_putName u5 (u5 (x3 + 1) (ix (u5 (x3 + 3) (ix x5))))) (fun u6 =>
  ck (inb x5 40) (
  if u6 (18 + 1) (ix x5) = 0 then (
  J_X2_writeShot_130 p2 u6 r73 x3 x4 x5 31)
  else (
  J_X2_writeShot_130 p2 u6 r73 x3 x4 x5 30)))))))
  else (
  some h))
def f_X2_writeShot (h : Hp) (p2 : Int32) : Option (Hp) :=
  stp (up h 16 1 (0 : Int32)) (fun h7 =>
  bnd (f_X2_putText h7 28) (fun u8 =>
  bnd (f_X2_putNumber u8 p2) (fun u9 =>
  bnd (f_X2_putText u9 1) (fun u10 =>
  ck (inb p2 40) (
  bnd (f_X2_putNumber u10 (u10 4 (ix p2))) (fun u11 =>
  bnd (f_X2_putText u11 29) (fun u12 =>
  ck (inb p2 40) (
  bnd (f_X2_putNumber u12 (u12 5 (ix p2))) (fun u13 =>
  ckp (u13 3 0) 4 (fun q14 =>
  ck (inb p2 40) (
  stp (u13 (18 + 2) (ix p2)) (fun v15 =>
  ck (inb v15 41) (
  stp (u13 (q14 + 9) (ix v15)) (fun v16 =>
  Lp (F_X2_writeShot_73 p2 q14 v15) FU (v16, u13)))))))))))))))
def f_X5_exchangeScript (h : Hp) (p1 : Nat) : Option (Nat × Hp) :=
  ckp (h 15 0) 6 (fun q1 =>
  stp (up h 15 0 (nI p1)) (fun h2 =>
  some (q1, h2)))
def J_X5_runCommand_160 (cf_X5_runCommand : Hp → Int32 → Int32 → Option (Hp)) (cf_X5_runCommands : Hp → Int32 → Int32 → Int32 → Option (Hp)) (cf_X5_runIf : Hp → Int32 → Int32 → Option (Hp)) (cf_X5_runRepeat : Hp → Int32 → Int32 → Option (Hp)) (p2 : Int32) (p3 : Int32) (h : Hp) (x5 : Int32) : Option (Hp) :=
  if x5 = 0 then (
  stp (up h 15 2 (h 15 2 + (1 : Int32))) (fun h1 =>
  some h1))
  else (
  some h)
def B_X5_runCommand (cf_X5_runCommand : Hp → Int32 → Int32 → Option (Hp)) (cf_X5_runCommands : Hp → Int32 → Int32 → Int32 → Option (Hp)) (cf_X5_runIf : Hp → Int32 → Int32 → Option (Hp)) (cf_X5_runRepeat : Hp → Int32 → Int32 → Option (Hp)) (h : Hp) (p2 : Int32) (p3 : Int32) : Option (Hp) :=
  if h 15 1 < (200 : Int32) then (
  stp (up h 15 1 (h 15 1 + (1 : Int32))) (fun h2 =>
  stp (((2 : Int32) * p2)) (fun v3 =>
  ckp (h2 15 0) 6 (fun q4 =>
  ck (inb p2 30) (
  if h2 (q4 + 1) (ix p2) = 0 then (
  ckp (h2 15 0) 6 (fun q5 =>
  bnd (f_X1_cutPhrase h2 q5 v3 (1 : Int32)) (fun u6 =>
  J_X5_runCommand_160 cf_X5_runCommand cf_X5_runCommands cf_X5_runIf cf_X5_runRepeat p2 p3 u6.2 u6.1)))
  else (
  if h2 (q4 + 1) (ix p2) = 1 then (
  ckp (h2 15 0) 6 (fun q7 =>
  bnd (f_X1_cutPhrase h2 q7 v3 (40 : Int32)) (fun u8 =>
  J_X5_runCommand_160 cf_X5_runCommand cf_X5_runCommands cf_X5_runIf cf_X5_runRepeat p2 p3 u8.2 u8.1)))
  else (
  if h2 (q4 + 1) (ix p2) = 2 then (
  ckp (h2 15 0) 6 (fun q9 =>
  bnd (f_X1_keepPhraseAgain h2 q9 v3) (fun u10 =>
  J_X5_runCommand_160 cf_X5_runCommand cf_X5_runCommands cf_X5_runIf cf_X5_runRepeat p2 p3 u10.2 u10.1)))
  else (
  if h2 (q4 + 1) (ix p2) = 3 then (
  ckp (h2 15 0) 6 (fun q11 =>
  bnd (f_X1_carryPhrase h2 q11 v3 (v3 + (1 : Int32))) (fun u12 =>
  J_X5_runCommand_160 cf_X5_runCommand cf_X5_runCommands cf_X5_runIf cf_X5_runRepeat p2 p3 u12.2 u12.1)))
  else (
  if h2 (q4 + 1) (ix p2) = 4 then (
  bnd (cf_X5_runIf h2 p2 p3) (fun u13 =>
  J_X5_runCommand_160 cf_X5_runCommand cf_X5_runCommands cf_X5_runIf cf_X5_runRepeat p2 p3 u13 (1 : Int32)))
  else (
  bnd (cf_X5_runRepeat h2 p2 p3) (fun u14 =>
  J_X5_runCommand_160 cf_X5_runCommand cf_X5_runCommands cf_X5_runIf cf_X5_runRepeat p2 p3 u14 (1 : Int32))))))))))))
  else (
  stp (up h 15 3 (1 : Int32)) (fun h15 =>
  some h15))
def F_X5_runCommands_13 (cf_X5_runCommand : Hp → Int32 → Int32 → Option (Hp)) (cf_X5_runCommands : Hp → Int32 → Int32 → Int32 → Option (Hp)) (cf_X5_runIf : Hp → Int32 → Int32 → Option (Hp)) (cf_X5_runRepeat : Hp → Int32 → Int32 → Option (Hp)) (p2 : Int32) (p3 : Int32) (p4 : Int32) (r13 : Int32 × Int32 × Hp → Option (Hp)) : Int32 × Int32 × Hp → Option (Hp) := fun ⟨x5, x6, h⟩ =>
  if x6 < (30 : Int32) then (
  if x5 < p3 then (
  if h 15 3 = 0 then (
  bnd (cf_X5_runCommand h x5 p4) (fun u1 =>
  ckp (u1 15 0) 6 (fun q2 =>
  ck (inb x5 30) (
  stp (u1 (q2 + 4) (ix x5)) (fun v3 =>
  stp (x6 + 1) (fun v4 =>
  r13 (v3, v4, u1)))))))
  else (
  some h))
  else (
  some h))
  else (
  some h)
def B_X5_runCommands (cf_X5_runCommand : Hp → Int32 → Int32 → Option (Hp)) (cf_X5_runCommands : Hp → Int32 → Int32 → Int32 → Option (Hp)) (cf_X5_runIf : Hp → Int32 → Int32 → Option (Hp)) (cf_X5_runRepeat : Hp → Int32 → Int32 → Option (Hp)) (h : Hp) (p2 : Int32) (p3 : Int32) (p4 : Int32) : Option (Hp) :=
  if (5 : Int32) < p4 then (
  some h)
  else (
  Lp (F_X5_runCommands_13 cf_X5_runCommand cf_X5_runCommands cf_X5_runIf cf_X5_runRepeat p2 p3 p4) FU (p2, (0 : Int32), h))
def B_X5_runIf (cf_X5_runCommand : Hp → Int32 → Int32 → Option (Hp)) (cf_X5_runCommands : Hp → Int32 → Int32 → Int32 → Option (Hp)) (cf_X5_runIf : Hp → Int32 → Int32 → Option (Hp)) (cf_X5_runRepeat : Hp → Int32 → Int32 → Option (Hp)) (h : Hp) (p2 : Int32) (p3 : Int32) : Option (Hp) :=
  ckp (h 15 0) 6 (fun q1 =>
  ck (inb p2 30) (
  stp (h (q1 + 3) (ix p2)) (fun v2 =>
  ckp (h 15 0) 6 (fun q3 =>
  bnd (f_X1_findPhrase h q3 ((2 : Int32) * p2)) (fun u4 =>
  if u4 = (-1 : Int32) then (
  ckp (h 15 0) 6 (fun q5 =>
  ck (inb p2 30) (
  bnd (cf_X5_runCommands h v2 (h (q5 + 4) (ix p2)) (p3 + (1 : Int32))) (fun u6 =>
  some u6))))
  else (
  bnd (cf_X5_runCommands h (p2 + (1 : Int32)) v2 (p3 + (1 : Int32))) (fun u7 =>
  some u7)))))))
def F_X5_runRepeat_3 (cf_X5_runCommand : Hp → Int32 → Int32 → Option (Hp)) (cf_X5_runCommands : Hp → Int32 → Int32 → Int32 → Option (Hp)) (cf_X5_runIf : Hp → Int32 → Int32 → Option (Hp)) (cf_X5_runRepeat : Hp → Int32 → Int32 → Option (Hp)) (p2 : Int32) (p3 : Int32) (r3 : Int32 × Hp → Option (Hp)) : Int32 × Hp → Option (Hp) := fun ⟨x4, h⟩ =>
  ckp (h 15 0) 6 (fun q1 =>
  ck (inb p2 30) (
  if x4 < h (q1 + 2) (ix p2) then (
  if h 15 3 = 0 then (
  ckp (h 15 0) 6 (fun q2 =>
  ck (inb p2 30) (
  bnd (cf_X5_runCommands h (p2 + (1 : Int32)) (h (q2 + 4) (ix p2)) (p3 + (1 : Int32))) (fun u3 =>
  stp (x4 + 1) (fun v4 =>
  r3 (v4, u3))))))
  else (
  some h))
  else (
  some h)))
def B_X5_runRepeat (cf_X5_runCommand : Hp → Int32 → Int32 → Option (Hp)) (cf_X5_runCommands : Hp → Int32 → Int32 → Int32 → Option (Hp)) (cf_X5_runIf : Hp → Int32 → Int32 → Option (Hp)) (cf_X5_runRepeat : Hp → Int32 → Int32 → Option (Hp)) (h : Hp) (p2 : Int32) (p3 : Int32) : Option (Hp) :=
  Lp (F_X5_runRepeat_3 cf_X5_runCommand cf_X5_runCommands cf_X5_runIf cf_X5_runRepeat p2 p3) FU ((0 : Int32), h)
def REC_X5_runCommand : Nat → (Hp → Int32 → Int32 → Option (Hp)) × (Hp → Int32 → Int32 → Int32 → Option (Hp)) × (Hp → Int32 → Int32 → Option (Hp)) × (Hp → Int32 → Int32 → Option (Hp))
  | 0 => ((fun _ _ _ => none), (fun _ _ _ _ => none), (fun _ _ _ => none), (fun _ _ _ => none))
  | n + 1 => ((B_X5_runCommand (REC_X5_runCommand n).1 (REC_X5_runCommand n).2.1 (REC_X5_runCommand n).2.2.1 (REC_X5_runCommand n).2.2.2), (B_X5_runCommands (REC_X5_runCommand n).1 (REC_X5_runCommand n).2.1 (REC_X5_runCommand n).2.2.1 (REC_X5_runCommand n).2.2.2), (B_X5_runIf (REC_X5_runCommand n).1 (REC_X5_runCommand n).2.1 (REC_X5_runCommand n).2.2.1 (REC_X5_runCommand n).2.2.2), (B_X5_runRepeat (REC_X5_runCommand n).1 (REC_X5_runCommand n).2.1 (REC_X5_runCommand n).2.2.1 (REC_X5_runCommand n).2.2.2))
def f_X5_runCommand : Hp → Int32 → Int32 → Option (Hp) := (REC_X5_runCommand 64).1
def f_X5_runCommands : Hp → Int32 → Int32 → Int32 → Option (Hp) := (REC_X5_runCommand 64).2.1
def f_X5_runIf : Hp → Int32 → Int32 → Option (Hp) := (REC_X5_runCommand 64).2.2.1
def f_X5_runRepeat : Hp → Int32 → Int32 → Option (Hp) := (REC_X5_runCommand 64).2.2.2
def f_X5_runAll (h : Hp) : Option (Hp) :=
  stp (up h 15 1 (0 : Int32)) (fun h1 =>
  stp (up h1 15 2 (0 : Int32)) (fun h2 =>
  stp (up h2 15 3 (0 : Int32)) (fun h3 =>
  ckp (h3 15 0) 6 (fun q4 =>
  bnd (f_X5_runCommands h3 (0 : Int32) (h3 q4 0) (0 : Int32)) (fun u5 =>
  some u5)))))
def f_X7_kindHere (h : Hp) : Option (Int32) :=
  bnd (f_X9_isKeyword h 8) (fun u1 =>
  if u1 = 0 then (
  bnd (f_X9_isKeyword h 9) (fun u2 =>
  if u2 = 0 then (
  bnd (f_X9_isKeyword h 10) (fun u3 =>
  if u3 = 0 then (
  bnd (f_X9_isKeyword h 11) (fun u4 =>
  if u4 = 0 then (
  bnd (f_X9_isKeyword h 12) (fun u5 =>
  if u5 = 0 then (
  bnd (f_X9_isKeyword h 13) (fun u6 =>
  if u6 = 0 then (
  some (-1 : Int32))
  else (
  some (5 : Int32))))
  else (
  some (4 : Int32))))
  else (
  some (3 : Int32))))
  else (
  some (2 : Int32))))
  else (
  some (1 : Int32))))
  else (
  some (0 : Int32)))
def J_X7_readPhrase_89 (p1 : Nat) (p2 : Int32) (h : Hp) (x3 : Int32) : Option (Int32 × Hp) :=
  ck (inb p2 60) (stp (up h (p1 + 5) (ix p2) x3) (fun h1 =>
  bnd (f_X9_takeSign h1 (41 : Int32)) (fun u2 =>
  ck (zb u2.1) (some (u2.1, u2.2)))))
def J_X7_readPhrase_57 (p1 : Nat) (p2 : Int32) (h : Hp) : Option (Int32 × Hp) :=
  bnd (f_X9_fail h (4 : Int32)) (fun u3 =>
  ck (zb u3.1) (some (u3.1, u3.2)))
def J_X7_readPhrase_37 (p1 : Nat) (p2 : Int32) (h : Hp) (r16 : Int32 × Int32 × Hp → Option (Int32 × Hp)) (x3 : Int32) (x4 : Int32) : Option (Int32 × Hp) :=
  bnd (f_X9_nameHere h) (fun u4 =>
  if u4.1 = (-1 : Int32) then (
  some ((0 : Int32), u4.2))
  else (
  if x3 < (6 : Int32) then (
  ck (inb ((p2 * (6 : Int32)) + x3) 360) (stp (up u4.2 (p1 + 6) (ix ((p2 * (6 : Int32)) + x3)) u4.1) (fun h5 =>
  stp (x3 + 1) (fun v6 =>
  bnd (f_X9_advance h5) (fun u7 =>
  stp (x4 + 1) (fun v8 =>
  r16 (v6, v8, u7)))))))
  else (
  J_X7_readPhrase_57 p1 p2 u4.2)))
def F_X7_readPhrase_16 (p1 : Nat) (p2 : Int32) (r16 : Int32 × Int32 × Hp → Option (Int32 × Hp)) : Int32 × Int32 × Hp → Option (Int32 × Hp) := fun ⟨x3, x4, h⟩ =>
  if (6 : Int32) < x4 then (
  J_X7_readPhrase_89 p1 p2 h x3)
  else (
  if x4 = 0 then (
  J_X7_readPhrase_37 p1 p2 h r16 x3 x4)
  else (
  bnd (f_X9_isSign h (41 : Int32)) (fun u9 =>
  if u9 = 0 then (
  J_X7_readPhrase_37 p1 p2 h r16 x3 x4)
  else (
  J_X7_readPhrase_89 p1 p2 h x3))))
def f_X7_readPhrase (h : Hp) (p1 : Nat) (p2 : Int32) : Option (Int32 × Hp) :=
  bnd (f_X9_takeSign h (40 : Int32)) (fun u10 =>
  if u10.1 = 0 then (
  some ((0 : Int32), u10.2))
  else (
  Lp (F_X7_readPhrase_16 p1 p2) FU ((0 : Int32), (0 : Int32), u10.2)))
def J_X7_readChange_57 (p1 : Nat) (p2 : Int32) (h : Hp) : Option (Int32 × Hp) :=
  bnd (f_X9_takeSign h (59 : Int32)) (fun u1 =>
  ck (zb u1.1) (some (u1.1, u1.2)))
def f_X7_readChange (h : Hp) (p1 : Nat) (p2 : Int32) : Option (Int32 × Hp) :=
  bnd (f_X7_readPhrase h p1 ((2 : Int32) * p2)) (fun u2 =>
  if u2.1 = 0 then (
  some ((0 : Int32), u2.2))
  else (
  ck (inb p2 30) (
  if u2.2 (p1 + 1) (ix p2) = (3 : Int32) then (
  bnd (f_X9_isKeyword u2.2 15) (fun u3 =>
  if u3 = 0 then (
  bnd (f_X9_fail u2.2 (1 : Int32)) (fun u6 =>
  ck (zb u6.1) (some (u6.1, u6.2))))
  else (
  bnd (f_X9_advance u2.2) (fun u4 =>
  bnd (f_X7_readPhrase u4 p1 (((2 : Int32) * p2) + (1 : Int32))) (fun u5 =>
  if u5.1 = 0 then (
  some ((0 : Int32), u5.2))
  else (
  J_X7_readChange_57 p1 p2 u5.2))))))
  else (
  J_X7_readChange_57 p1 p2 u2.2))))
def B_X7_readBlock (cf_X7_readBlock : Hp → Nat → Int32 → Option (Int32 × Hp)) (cf_X7_readCommand : Hp → Nat → Int32 → Option (Int32 × Hp)) (cf_X7_readCommands : Hp → Nat → Int32 → Option (Int32 × Hp)) (cf_X7_readIf : Hp → Nat → Int32 → Int32 → Option (Int32 × Hp)) (cf_X7_readRepeat : Hp → Nat → Int32 → Int32 → Option (Int32 × Hp)) (h : Hp) (p1 : Nat) (p2 : Int32) : Option (Int32 × Hp) :=
  bnd (f_X9_isSign h (123 : Int32)) (fun u1 =>
  if u1 = 0 then (
  bnd (f_X9_fail h (1 : Int32)) (fun u6 =>
  ck (zb u6.1) (some (u6.1, u6.2))))
  else (
  if p2 < (5 : Int32) then (
  bnd (f_X9_advance h) (fun u2 =>
  bnd (cf_X7_readCommands u2 p1 (p2 + (1 : Int32))) (fun u3 =>
  if u3.1 = 0 then (
  some ((0 : Int32), u3.2))
  else (
  bnd (f_X9_takeSign u3.2 (125 : Int32)) (fun u4 =>
  if u4.1 = 0 then (
  some ((0 : Int32), u4.2))
  else (
  some ((1 : Int32), u4.2)))))))
  else (
  bnd (f_X9_fail h (4 : Int32)) (fun u5 =>
  ck (zb u5.1) (some (u5.1, u5.2))))))
def J_X7_readCommand_104 (cf_X7_readBlock : Hp → Nat → Int32 → Option (Int32 × Hp)) (cf_X7_readCommand : Hp → Nat → Int32 → Option (Int32 × Hp)) (cf_X7_readCommands : Hp → Nat → Int32 → Option (Int32 × Hp)) (cf_X7_readIf : Hp → Nat → Int32 → Int32 → Option (Int32 × Hp)) (cf_X7_readRepeat : Hp → Nat → Int32 → Int32 → Option (Int32 × Hp)) (p1 : Nat) (p2 : Int32) (h : Hp) (x4 : Int32) (x5 : Int32) : Option (Int32 × Hp) :=
  ck (inb x4 30) (stp (up h (p1 + 4) (ix x4) (h p1 0)) (fun h1 =>
  ck (zb x5) (some (x5, h1))))
def B_X7_readCommand (cf_X7_readBlock : Hp → Nat → Int32 → Option (Int32 × Hp)) (cf_X7_readCommand : Hp → Nat → Int32 → Option (Int32 × Hp)) (cf_X7_readCommands : Hp → Nat → Int32 → Option (Int32 × Hp)) (cf_X7_readIf : Hp → Nat → Int32 → Int32 → Option (Int32 × Hp)) (cf_X7_readRepeat : Hp → Nat → Int32 → Int32 → Option (Int32 × Hp)) (h : Hp) (p1 : Nat) (p2 : Int32) : Option (Int32 × Hp) :=
  bnd (f_X7_kindHere h) (fun u2 =>
  if u2 = (-1 : Int32) then (
  bnd (f_X9_fail h (1 : Int32)) (fun u11 =>
  ck (zb u11.1) (some (u11.1, u11.2))))
  else (
  if h p1 0 < (30 : Int32) then (
  bnd (f_X9_advance h) (fun u3 =>
  stp (u3 p1 0) (fun v4 =>
  stp (up u3 p1 0 (u3 p1 0 + (1 : Int32))) (fun h5 =>
  ck (inb v4 30) (stp (up h5 (p1 + 1) (ix v4) u2) (fun h6 =>
  if u2 = (5 : Int32) then (
  bnd (cf_X7_readRepeat h6 p1 v4 p2) (fun u9 =>
  J_X7_readCommand_104 cf_X7_readBlock cf_X7_readCommand cf_X7_readCommands cf_X7_readIf cf_X7_readRepeat p1 p2 u9.2 v4 u9.1))
  else (
  if u2 = (4 : Int32) then (
  bnd (cf_X7_readIf h6 p1 v4 p2) (fun u8 =>
  J_X7_readCommand_104 cf_X7_readBlock cf_X7_readCommand cf_X7_readCommands cf_X7_readIf cf_X7_readRepeat p1 p2 u8.2 v4 u8.1))
  else (
  bnd (f_X7_readChange h6 p1 v4) (fun u7 =>
  J_X7_readCommand_104 cf_X7_readBlock cf_X7_readCommand cf_X7_readCommands cf_X7_readIf cf_X7_readRepeat p1 p2 u7.2 v4 u7.1)))))))))
  else (
  bnd (f_X9_fail h (4 : Int32)) (fun u10 =>
  ck (zb u10.1) (some (u10.1, u10.2))))))
def F_X7_readCommands_2 (cf_X7_readBlock : Hp → Nat → Int32 → Option (Int32 × Hp)) (cf_X7_readCommand : Hp → Nat → Int32 → Option (Int32 × Hp)) (cf_X7_readCommands : Hp → Nat → Int32 → Option (Int32 × Hp)) (cf_X7_readIf : Hp → Nat → Int32 → Int32 → Option (Int32 × Hp)) (cf_X7_readRepeat : Hp → Nat → Int32 → Int32 → Option (Int32 × Hp)) (p1 : Nat) (p2 : Int32) (r2 : Int32 × Hp → Option (Int32 × Hp)) : Int32 × Hp → Option (Int32 × Hp) := fun ⟨x3, h⟩ =>
  if (30 : Int32) < x3 then (
  some ((1 : Int32), h))
  else (
  bnd (f_X9_isEnd h) (fun u1 =>
  if u1 = 0 then (
  bnd (f_X9_isSign h (125 : Int32)) (fun u2 =>
  if u2 = 0 then (
  bnd (cf_X7_readCommand h p1 p2) (fun u3 =>
  if u3.1 = 0 then (
  some ((0 : Int32), u3.2))
  else (
  stp (x3 + 1) (fun v4 =>
  r2 (v4, u3.2)))))
  else (
  some ((1 : Int32), h))))
  else (
  some ((1 : Int32), h))))
def B_X7_readCommands (cf_X7_readBlock : Hp → Nat → Int32 → Option (Int32 × Hp)) (cf_X7_readCommand : Hp → Nat → Int32 → Option (Int32 × Hp)) (cf_X7_readCommands : Hp → Nat → Int32 → Option (Int32 × Hp)) (cf_X7_readIf : Hp → Nat → Int32 → Int32 → Option (Int32 × Hp)) (cf_X7_readRepeat : Hp → Nat → Int32 → Int32 → Option (Int32 × Hp)) (h : Hp) (p1 : Nat) (p2 : Int32) : Option (Int32 × Hp) :=
  Lp (F_X7_readCommands_2 cf_X7_readBlock cf_X7_readCommand cf_X7_readCommands cf_X7_readIf cf_X7_readRepeat p1 p2) FU ((0 : Int32), h)
def B_X7_readIf (cf_X7_readBlock : Hp → Nat → Int32 → Option (Int32 × Hp)) (cf_X7_readCommand : Hp → Nat → Int32 → Option (Int32 × Hp)) (cf_X7_readCommands : Hp → Nat → Int32 → Option (Int32 × Hp)) (cf_X7_readIf : Hp → Nat → Int32 → Int32 → Option (Int32 × Hp)) (cf_X7_readRepeat : Hp → Nat → Int32 → Int32 → Option (Int32 × Hp)) (h : Hp) (p1 : Nat) (p2 : Int32) (p3 : Int32) : Option (Int32 × Hp) :=
  bnd (f_X7_readPhrase h p1 ((2 : Int32) * p2)) (fun u1 =>
  if u1.1 = 0 then (
  some ((0 : Int32), u1.2))
  else (
  bnd (cf_X7_readBlock u1.2 p1 p3) (fun u2 =>
  if u2.1 = 0 then (
  some ((0 : Int32), u2.2))
  else (
  ck (inb p2 30) (stp (up u2.2 (p1 + 3) (ix p2) (u2.2 p1 0)) (fun h3 =>
  bnd (f_X9_isKeyword h3 14) (fun u4 =>
  if u4 = 0 then (
  some ((1 : Int32), h3))
  else (
  bnd (f_X9_advance h3) (fun u5 =>
  bnd (cf_X7_readBlock u5 p1 p3) (fun u6 =>
  ck (zb u6.1) (some (u6.1, u6.2))))))))))))
def B_X7_readRepeat (cf_X7_readBlock : Hp → Nat → Int32 → Option (Int32 × Hp)) (cf_X7_readCommand : Hp → Nat → Int32 → Option (Int32 × Hp)) (cf_X7_readCommands : Hp → Nat → Int32 → Option (Int32 × Hp)) (cf_X7_readIf : Hp → Nat → Int32 → Int32 → Option (Int32 × Hp)) (cf_X7_readRepeat : Hp → Nat → Int32 → Int32 → Option (Int32 × Hp)) (h : Hp) (p1 : Nat) (p2 : Int32) (p3 : Int32) : Option (Int32 × Hp) :=
  bnd (f_X9_numberHere h (1 : Int32) (9 : Int32)) (fun u1 =>
  if u1.1 = (-1 : Int32) then (
  some ((0 : Int32), u1.2))
  else (
  bnd (f_X9_advance u1.2) (fun u2 =>
  ck (inb p2 30) (stp (up u2 (p1 + 2) (ix p2) u1.1) (fun h3 =>
  bnd (cf_X7_readBlock h3 p1 p3) (fun u4 =>
  ck (zb u4.1) (some (u4.1, u4.2))))))))
def REC_X7_readBlock : Nat → (Hp → Nat → Int32 → Option (Int32 × Hp)) × (Hp → Nat → Int32 → Option (Int32 × Hp)) × (Hp → Nat → Int32 → Option (Int32 × Hp)) × (Hp → Nat → Int32 → Int32 → Option (Int32 × Hp)) × (Hp → Nat → Int32 → Int32 → Option (Int32 × Hp))
  | 0 => ((fun _ _ _ => none), (fun _ _ _ => none), (fun _ _ _ => none), (fun _ _ _ _ => none), (fun _ _ _ _ => none))
  | n + 1 => ((B_X7_readBlock (REC_X7_readBlock n).1 (REC_X7_readBlock n).2.1 (REC_X7_readBlock n).2.2.1 (REC_X7_readBlock n).2.2.2.1 (REC_X7_readBlock n).2.2.2.2), (B_X7_readCommand (REC_X7_readBlock n).1 (REC_X7_readBlock n).2.1 (REC_X7_readBlock n).2.2.1 (REC_X7_readBlock n).2.2.2.1 (REC_X7_readBlock n).2.2.2.2), (B_X7_readCommands (REC_X7_readBlock n).1 (REC_X7_readBlock n).2.1 (REC_X7_readBlock n).2.2.1 (REC_X7_readBlock n).2.2.2.1 (REC_X7_readBlock n).2.2.2.2), (B_X7_readIf (REC_X7_readBlock n).1 (REC_X7_readBlock n).2.1 (REC_X7_readBlock n).2.2.1 (REC_X7_readBlock n).2.2.2.1 (REC_X7_readBlock n).2.2.2.2), (B_X7_readRepeat (REC_X7_readBlock n).1 (REC_X7_readBlock n).2.1 (REC_X7_readBlock n).2.2.1 (REC_X7_readBlock n).2.2.2.1 (REC_X7_readBlock n).2.2.2.2))
def f_X7_readBlock : Hp → Nat → Int32 → Option (Int32 × Hp) := (REC_X7_readBlock 64).1
def f_X7_readCommand : Hp → Nat → Int32 → Option (Int32 × Hp) := (REC_X7_readBlock 64).2.1
def f_X7_readCommands : Hp → Nat → Int32 → Option (Int32 × Hp) := (REC_X7_readBlock 64).2.2.1
def f_X7_readIf : Hp → Nat → Int32 → Int32 → Option (Int32 × Hp) := (REC_X7_readBlock 64).2.2.2.1
def f_X7_readRepeat : Hp → Nat → Int32 → Int32 → Option (Int32 × Hp) := (REC_X7_readBlock 64).2.2.2.2
def f_X7_read (h : Hp) (p1 : Nat) : Option (Int32 × Hp) :=
  stp (up h p1 0 (0 : Int32)) (fun h1 =>
  bnd (f_X9_begin h1) (fun u2 =>
  bnd (f_X7_readCommands u2 p1 (0 : Int32)) (fun u3 =>
  if u3.1 = 0 then (
  some ((0 : Int32), u3.2))
  else (
  bnd (f_X9_isEnd u3.2) (fun u4 =>
  if u4 = 0 then (
  bnd (f_X9_fail u3.2 (1 : Int32)) (fun u5 =>
  if u5.1 = 0 then (
  some ((0 : Int32), u5.2))
  else (
  some ((1 : Int32), u5.2))))
  else (
  some ((1 : Int32), u3.2)))))))
def f_X8_readBreath (h : Hp) (p1 : Nat) : Option (Int32 × Hp) :=
  if h p1 10 < (12 : Int32) then (
  bnd (f_X9_advance h) (fun u1 =>
  bnd (f_X9_numberHere u1 (0 : Int32) (99998 : Int32)) (fun u2 =>
  if u2.1 = (-1 : Int32) then (
  some ((0 : Int32), u2.2))
  else (
  bnd (f_X9_advance u2.2) (fun u3 =>
  bnd (f_X9_numberHere u3 (u2.1 + (1 : Int32)) (99999 : Int32)) (fun u4 =>
  if u4.1 = (-1 : Int32) then (
  some ((0 : Int32), u4.2))
  else (
  bnd (f_X9_advance u4.2) (fun u5 =>
  bnd (f_X4_addBreath u5 p1 u2.1 u4.1) (fun u6 =>
  some ((1 : Int32), u6))))))))))
  else (
  bnd (f_X9_fail h (4 : Int32)) (fun u7 =>
  ck (zb u7.1) (some (u7.1, u7.2))))
def f_X8_readHandle (h : Hp) (p1 : Nat) : Option (Int32 × Hp) :=
  bnd (f_X9_advance h) (fun u1 =>
  bnd (f_X9_numberHere u1 (0 : Int32) (999 : Int32)) (fun u2 =>
  if u2.1 = (-1 : Int32) then (
  some ((0 : Int32), u2.2))
  else (
  bnd (f_X9_advance u2.2) (fun u3 =>
  stp (up u3 p1 1 u2.1) (fun h4 =>
  some ((1 : Int32), h4))))))
def f_X8_readLength (h : Hp) (p1 : Nat) : Option (Int32 × Hp) :=
  bnd (f_X9_advance h) (fun u1 =>
  bnd (f_X9_numberHere u1 (1 : Int32) (99999 : Int32)) (fun u2 =>
  if u2.1 = (-1 : Int32) then (
  some ((0 : Int32), u2.2))
  else (
  bnd (f_X9_advance u2.2) (fun u3 =>
  stp (up u3 p1 0 u2.1) (fun h4 =>
  some ((1 : Int32), h4))))))
def f_X8_readSpeaker (h : Hp) (p1 : Nat) : Option (Int32 × Hp) :=
  if h p1 2 < (4 : Int32) then (
  bnd (f_X9_advance h) (fun u1 =>
  bnd (f_X9_nameHere u1) (fun u2 =>
  if u2.1 = (-1 : Int32) then (
  some ((0 : Int32), u2.2))
  else (
  bnd (f_X4_speakerNamed u2.2 p1 u2.1) (fun u3 =>
  if u3 = (-1 : Int32) then (
  bnd (f_X9_advance u2.2) (fun u4 =>
  bnd (f_X4_addSpeaker u4 p1 u2.1) (fun u5 =>
  some ((1 : Int32), u5))))
  else (
  bnd (f_X9_fail u2.2 (3 : Int32)) (fun u6 =>
  ck (zb u6.1) (some (u6.1, u6.2)))))))))
  else (
  bnd (f_X9_fail h (4 : Int32)) (fun u7 =>
  ck (zb u7.1) (some (u7.1, u7.2))))
def f_X8_readWord (h : Hp) (p1 : Nat) : Option (Int32 × Hp) :=
  if h p1 4 < (40 : Int32) then (
  bnd (f_X9_advance h) (fun u1 =>
  bnd (f_X9_nameHere u1) (fun u2 =>
  if u2.1 = (-1 : Int32) then (
  some ((0 : Int32), u2.2))
  else (
  bnd (f_X4_speakerNamed u2.2 p1 u2.1) (fun u3 =>
  if u3 = (-1 : Int32) then (
  bnd (f_X9_fail u2.2 (3 : Int32)) (fun u16 =>
  ck (zb u16.1) (some (u16.1, u16.2))))
  else (
  bnd (f_X9_advance u2.2) (fun u4 =>
  bnd (f_X9_nameHere u4) (fun u5 =>
  if u5.1 = (-1 : Int32) then (
  some ((0 : Int32), u5.2))
  else (
  bnd (f_X9_advance u5.2) (fun u6 =>
  bnd (f_X9_numberHere u6 (0 : Int32) (99998 : Int32)) (fun u7 =>
  if u7.1 = (-1 : Int32) then (
  some ((0 : Int32), u7.2))
  else (
  bnd (f_X4_speaksBetween u7.2 p1 u3 u7.1 (u7.1 + (1 : Int32))) (fun u8 =>
  if u8 = 0 then (
  bnd (f_X9_advance u7.2) (fun u9 =>
  bnd (f_X9_numberHere u9 (u7.1 + (1 : Int32)) (99999 : Int32)) (fun u10 =>
  if u10.1 = (-1 : Int32) then (
  some ((0 : Int32), u10.2))
  else (
  bnd (f_X4_speaksBetween u10.2 p1 u3 u7.1 u10.1) (fun u11 =>
  if u11 = 0 then (
  bnd (f_X9_advance u10.2) (fun u12 =>
  bnd (f_X4_addWord u12 p1 u5.1 u3 u7.1 u10.1) (fun u13 =>
  some ((1 : Int32), u13))))
  else (
  bnd (f_X9_fail u10.2 (2 : Int32)) (fun u14 =>
  ck (zb u14.1) (some (u14.1, u14.2)))))))))
  else (
  bnd (f_X9_fail u7.2 (2 : Int32)) (fun u15 =>
  ck (zb u15.1) (some (u15.1, u15.2)))))))))))))))))
  else (
  bnd (f_X9_fail h (4 : Int32)) (fun u17 =>
  ck (zb u17.1) (some (u17.1, u17.2))))
def f_X8_readLine (h : Hp) (p1 : Nat) : Option (Int32 × Hp) :=
  bnd (f_X9_isKeyword h 2) (fun u1 =>
  if u1 = 0 then (
  bnd (f_X9_isKeyword h 3) (fun u2 =>
  if u2 = 0 then (
  bnd (f_X9_isKeyword h 4) (fun u3 =>
  if u3 = 0 then (
  bnd (f_X9_isKeyword h 5) (fun u4 =>
  if u4 = 0 then (
  bnd (f_X9_isKeyword h 6) (fun u5 =>
  if u5 = 0 then (
  bnd (f_X9_fail h (1 : Int32)) (fun u6 =>
  ck (zb u6.1) (some (u6.1, u6.2))))
  else (
  bnd (f_X8_readHandle h p1) (fun u7 =>
  ck (zb u7.1) (some (u7.1, u7.2))))))
  else (
  bnd (f_X8_readBreath h p1) (fun u8 =>
  ck (zb u8.1) (some (u8.1, u8.2))))))
  else (
  bnd (f_X8_readWord h p1) (fun u9 =>
  ck (zb u9.1) (some (u9.1, u9.2))))))
  else (
  bnd (f_X8_readSpeaker h p1) (fun u10 =>
  ck (zb u10.1) (some (u10.1, u10.2))))))
  else (
  bnd (f_X8_readLength h p1) (fun u11 =>
  ck (zb u11.1) (some (u11.1, u11.2)))))
def J_X8_read_49 (p1 : Nat) (h : Hp) : Option (Int32 × Hp) :=
  bnd (f_X4_holdsAllWords h p1) (fun u1 =>
  if u1 = 0 then (
  bnd (f_X9_fail h (2 : Int32)) (fun u3 =>
  ck (zb u3.1) (some (u3.1, u3.2))))
  else (
  bnd (f_X4_findBlocks h p1) (fun u2 =>
  some ((1 : Int32), u2))))
def F_X8_read_10 (p1 : Nat) (r10 : Int32 × Hp → Option (Int32 × Hp)) : Int32 × Hp → Option (Int32 × Hp) := fun ⟨x2, h⟩ =>
  if x2 < (900 : Int32) then (
  bnd (f_X9_isEnd h) (fun u4 =>
  if u4 = 0 then (
  bnd (f_X8_readLine h p1) (fun u5 =>
  if u5.1 = 0 then (
  some ((0 : Int32), u5.2))
  else (
  bnd (f_X9_takeSign u5.2 (59 : Int32)) (fun u6 =>
  if u6.1 = 0 then (
  some ((0 : Int32), u6.2))
  else (
  stp (x2 + 1) (fun v7 =>
  r10 (v7, u6.2)))))))
  else (
  J_X8_read_49 p1 h)))
  else (
  J_X8_read_49 p1 h)
def f_X8_read (h : Hp) (p1 : Nat) : Option (Int32 × Hp) :=
  bnd (f_X4_clear h p1) (fun u8 =>
  bnd (f_X9_begin u8) (fun u9 =>
  Lp (F_X8_read_10 p1) FU ((0 : Int32), u9)))
def f_X11_thrown (g : Hp) : Option (Int32) :=
  some (g 125 0)
def f_X11_throwsIf (g : Hp) (p1 : Int32) (p2 : Int32) : Option (Int32 × Hp) :=
  if p1 = 0 then (
  ck (zb p1) (some (p1, g)))
  else (
  stp (up g 125 0 p2) (fun g1 =>
  ck (zb p1) (some (p1, g1))))
def f_X11_in (g : Hp) (p0 : Int32) (p1 : Int32) (p2 : Int32) : Option (Int32) :=
  if p0 < p1 then (
  some (0 : Int32))
  else (
  if p2 < p0 then (
  some (0 : Int32))
  else (
  some (1 : Int32)))
def J_X11_begins_22 (g : Hp) : Option (Hp) :=
  ck (inb (0 : Int32) 193) (stp (up g 127 (ix (0 : Int32)) (1000 : Int32)) (fun g1 =>
  ck (inb (1 : Int32) 193) (stp (up g1 127 (ix (1 : Int32)) (12 : Int32)) (fun g2 =>
  some g2))))
def F_X11_begins_2 (r2 : Int32 × Hp → Option (Hp)) : Int32 × Hp → Option (Hp) := fun ⟨x1, g⟩ =>
  if x1 < (193 : Int32) then (
  ck (inb x1 193) (stp (up g 127 (ix x1) (0 : Int32)) (fun g3 =>
  stp (x1 + 1) (fun v4 =>
  r2 (v4, g3)))))
  else (
  J_X11_begins_22 g)
def f_X11_begins (g : Hp) : Option (Hp) :=
  Lp (F_X11_begins_2) FU ((0 : Int32), g)
def J_X11_laysCut_131 (p1 : Int32) (g : Hp) (r40 : Int32 × Int32 × Hp → Option (Hp)) (x2 : Int32) (x3 : Int32) (x4 : Int32) (x5 : Int32) : Option (Hp) :=
  stp (x5 + 1) (fun v1 =>
  r40 (x4, v1, g))
def F_X11_laysCut_40 (p1 : Int32) (x2 : Int32) (x3 : Int32) (r40 : Int32 × Int32 × Hp → Option (Hp)) : Int32 × Int32 × Hp → Option (Hp) := fun ⟨x4, x5, g⟩ =>
  ck (inb (4 : Int32) 193) (
  if x5 < g 126 (ix (4 : Int32)) then (
  ck (inb ((169 : Int32) + ((2 : Int32) * x5)) 193) (
  stp ((imax x2 (g 126 (ix ((169 : Int32) + ((2 : Int32) * x5)))))) (fun v2 =>
  ck (inb (((169 : Int32) + ((2 : Int32) * x5)) + (1 : Int32)) 193) (
  stp ((imin x3 (g 126 (ix (((169 : Int32) + ((2 : Int32) * x5)) + (1 : Int32)))))) (fun v3 =>
  if x4 < (v3 - v2) then (
  stp ((v3 - v2)) (fun v4 =>
  ck (inb p1 40) (stp (up g 132 (ix p1) ((v2 + v3) / (2 : Int32))) (fun g5 =>
  ck (inb p1 40) (stp (up g5 133 (ix p1) (1 : Int32)) (fun g6 =>
  J_X11_laysCut_131 p1 g6 r40 x2 x3 v4 x5))))))
  else (
  J_X11_laysCut_131 p1 g r40 x2 x3 x4 x5))))))
  else (
  some g))
def f_X11_laysCut (g : Hp) (p1 : Int32) : Option (Hp) :=
  ck (inb p1 40) (
  stp (g 130 (ix p1)) (fun v7 =>
  ck (inb (p1 + (1 : Int32)) 40) (
  stp (g 129 (ix (p1 + (1 : Int32)))) (fun v8 =>
  ck (inb p1 40) (stp (up g 132 (ix p1) ((v7 + v8) / (2 : Int32))) (fun g9 =>
  ck (inb p1 40) (stp (up g9 133 (ix p1) (0 : Int32)) (fun g10 =>
  Lp (F_X11_laysCut_40 p1 v7 v8) FU ((0 : Int32), (0 : Int32), g10)))))))))
def f_X11_of (g : Hp) (p1 : Int32) (p2 : Int32) : Option (Int32) :=
  ck (inb (((9 : Int32) + ((4 : Int32) * p1)) + p2) 193) (
  some (g 126 (ix (((9 : Int32) + ((4 : Int32) * p1)) + p2))))
def f_X11_words (g : Hp) : Option (Int32) :=
  ck (inb (3 : Int32) 193) (
  some (g 126 (ix (3 : Int32))))
def J_X11_laysBlocks_177 (g : Hp) : Option (Hp) :=
  if g 125 3 ≤ 0 then (
  some g)
  else (
  ck (inb (g 125 3 - (1 : Int32)) 40) (stp (up g 133 (ix (g 125 3 - (1 : Int32))) (0 : Int32)) (fun g1 =>
  some g1)))
def F_X11_laysBlocks_156 (r156 : Int32 × Hp → Option (Hp)) : Int32 × Hp → Option (Hp) := fun ⟨x1, g⟩ =>
  if x1 < (g 125 3 - (1 : Int32)) then (
  bnd (f_X11_laysCut g x1) (fun u2 =>
  stp (x1 + 1) (fun v3 =>
  r156 (v3, u2))))
  else (
  J_X11_laysBlocks_177 g)
def J_X11_laysBlocks_141 (g : Hp) : Option (Hp) :=
  bnd (f_X11_words g) (fun u4 =>
  ck (inb (g 125 3) 41) (stp (up g 131 (ix (g 125 3)) u4) (fun g5 =>
  Lp (F_X11_laysBlocks_156) FU ((0 : Int32), g5))))
def J_X11_laysBlocks_92 (g : Hp) (r7 : Int32 × Hp → Option (Hp)) (x1 : Int32) : Option (Hp) :=
  ck (inb x1 40) (stp (up g 128 (ix x1) (g 125 3 - (1 : Int32))) (fun g6 =>
  ck (inb (g6 125 3 - (1 : Int32)) 40) (
  bnd (f_X11_of g6 x1 (3 : Int32)) (fun u7 =>
  ck (inb (g6 125 3 - (1 : Int32)) 40) (stp (up g6 130 (ix (g6 125 3 - (1 : Int32))) (imax (g6 130 (ix (g6 125 3 - (1 : Int32)))) u7)) (fun g8 =>
  stp (x1 + 1) (fun v9 =>
  r7 (v9, g8))))))))
def J_X11_laysBlocks_42 (g : Hp) (r7 : Int32 × Hp → Option (Hp)) (x1 : Int32) : Option (Hp) :=
  ck (inb (g 125 3) 41) (stp (up g 131 (ix (g 125 3)) x1) (fun g10 =>
  bnd (f_X11_of g10 x1 (2 : Int32)) (fun u11 =>
  ck (inb (g10 125 3) 40) (stp (up g10 129 (ix (g10 125 3)) u11) (fun g12 =>
  bnd (f_X11_of g12 x1 (3 : Int32)) (fun u13 =>
  ck (inb (g12 125 3) 40) (stp (up g12 130 (ix (g12 125 3)) u13) (fun g14 =>
  stp (up g14 125 3 (g14 125 3 + (1 : Int32))) (fun g15 =>
  J_X11_laysBlocks_92 g15 r7 x1)))))))))
def F_X11_laysBlocks_7 (r7 : Int32 × Hp → Option (Hp)) : Int32 × Hp → Option (Hp) := fun ⟨x1, g⟩ =>
  bnd (f_X11_words g) (fun u16 =>
  if x1 < u16 then (
  if g 125 3 = 0 then (
  J_X11_laysBlocks_42 g r7 x1)
  else (
  bnd (f_X11_of g x1 (2 : Int32)) (fun u17 =>
  ck (inb (g 125 3 - (1 : Int32)) 40) (
  if u17 < g 130 (ix (g 125 3 - (1 : Int32))) then (
  J_X11_laysBlocks_92 g r7 x1)
  else (
  J_X11_laysBlocks_42 g r7 x1)))))
  else (
  J_X11_laysBlocks_141 g))
def f_X11_laysBlocks (g : Hp) : Option (Hp) :=
  stp (up g 125 3 (0 : Int32)) (fun g18 =>
  Lp (F_X11_laysBlocks_7) FU ((0 : Int32), g18))
def J_X11_takesOver_90 (g : Hp) : Option (Hp) :=
  stp (up g 125 13 (0 : Int32)) (fun g1 =>
  some g1)
def F_X11_takesOver_66 (r66 : Int32 × Hp → Option (Hp)) : Int32 × Hp → Option (Hp) := fun ⟨x1, g⟩ =>
  if x1 < g 125 3 then (
  ck (inb ((41 : Int32) + x1) 161) (stp (up g 134 (ix ((41 : Int32) + x1)) x1) (fun g2 =>
  stp (x1 + 1) (fun v3 =>
  r66 (v3, g2)))))
  else (
  J_X11_takesOver_90 g)
def J_X11_takesOver_53 (g : Hp) : Option (Hp) :=
  ck (inb (40 : Int32) 161) (stp (up g 134 (ix (40 : Int32)) (g 125 3)) (fun g4 =>
  Lp (F_X11_takesOver_66) FU ((0 : Int32), g4)))
def F_X11_takesOver_33 (r33 : Int32 × Hp → Option (Hp)) : Int32 × Hp → Option (Hp) := fun ⟨x1, g⟩ =>
  if x1 < (161 : Int32) then (
  ck (inb x1 161) (stp (up g 134 (ix x1) (0 : Int32)) (fun g5 =>
  stp (x1 + 1) (fun v6 =>
  r33 (v6, g5)))))
  else (
  J_X11_takesOver_53 g)
def J_X11_takesOver_27 (g : Hp) : Option (Hp) :=
  bnd (f_X11_laysBlocks g) (fun u7 =>
  Lp (F_X11_takesOver_33) FU ((0 : Int32), u7))
def F_X11_takesOver_2 (r2 : Int32 × Hp → Option (Hp)) : Int32 × Hp → Option (Hp) := fun ⟨x1, g⟩ =>
  if x1 < (193 : Int32) then (
  ck (inb x1 193) (
  ck (inb x1 193) (stp (up g 126 (ix x1) (g 127 (ix x1))) (fun g8 =>
  stp (x1 + 1) (fun v9 =>
  r2 (v9, g8))))))
  else (
  J_X11_takesOver_27 g)
def f_X11_takesOver (g : Hp) : Option (Hp) :=
  Lp (F_X11_takesOver_2) FU ((0 : Int32), g)
def J_X11_keeps_88 (g : Hp) : Option (Hp) :=
  stp (up g 125 13 (g 125 13 + (1 : Int32))) (fun g1 =>
  some g1)
def F_X11_keeps_54 (r54 : Int32 × Hp → Option (Hp)) : Int32 × Hp → Option (Hp) := fun ⟨x1, g⟩ =>
  if x1 < (161 : Int32) then (
  ck (inb x1 161) (
  ck (inb (((161 : Int32) * g 125 13) + x1) 1932) (stp (up g 135 (ix (((161 : Int32) * g 125 13) + x1)) (g 134 (ix x1))) (fun g2 =>
  stp (x1 + 1) (fun v3 =>
  r54 (v3, g2))))))
  else (
  J_X11_keeps_88 g)
def J_X11_keeps_52 (g : Hp) : Option (Hp) :=
  Lp (F_X11_keeps_54) FU ((0 : Int32), g)
def J_X11_keeps_42 (g : Hp) : Option (Hp) :=
  stp (up g 125 13 (g 125 13 - (1 : Int32))) (fun g4 =>
  J_X11_keeps_52 g4)
def F_X11_keeps_13 (r13 : Int32 × Hp → Option (Hp)) : Int32 × Hp → Option (Hp) := fun ⟨x1, g⟩ =>
  if x1 < (1932 : Int32) then (
  ck (inb x1 1932) (
  ck (inb (x1 - (161 : Int32)) 1932) (stp (up g 135 (ix (x1 - (161 : Int32))) (g 135 (ix x1))) (fun g5 =>
  stp (x1 + 1) (fun v6 =>
  r13 (v6, g5))))))
  else (
  J_X11_keeps_42 g)
def f_X11_keeps (g : Hp) : Option (Hp) :=
  if g 125 13 = (12 : Int32) then (
  Lp (F_X11_keeps_13) FU ((161 : Int32), g))
  else (
  J_X11_keeps_52 g)
def F_X11_undo_26 (r26 : Int32 × Hp → Option (Int32 × Hp)) : Int32 × Hp → Option (Int32 × Hp) := fun ⟨x1, g⟩ =>
  if x1 < (161 : Int32) then (
  ck (inb (((161 : Int32) * g 125 13) + x1) 1932) (
  ck (inb x1 161) (stp (up g 134 (ix x1) (g 135 (ix (((161 : Int32) * g 125 13) + x1)))) (fun g1 =>
  stp (x1 + 1) (fun v2 =>
  r26 (v2, g1))))))
  else (
  some (g 125 13, g))
def f_X11_undo (g : Hp) : Option (Int32 × Hp) :=
  stp (up g 125 0 (0 : Int32)) (fun g3 =>
  if g3 125 13 = 0 then (
  some ((-1 : Int32), g3))
  else (
  stp (up g3 125 13 (g3 125 13 - (1 : Int32))) (fun g4 =>
  Lp (F_X11_undo_26) FU ((0 : Int32), g4))))
def f_X11_undoDepth (g : Hp) : Option (Int32 × Hp) :=
  stp (up g 125 0 (0 : Int32)) (fun g1 =>
  some (g1 125 13, g1))
def F_X11_putsAside_2 (r2 : Int32 × Hp → Option (Hp)) : Int32 × Hp → Option (Hp) := fun ⟨x1, g⟩ =>
  if x1 < (161 : Int32) then (
  ck (inb x1 161) (
  ck (inb x1 161) (stp (up g 136 (ix x1) (g 134 (ix x1))) (fun g1 =>
  stp (x1 + 1) (fun v2 =>
  r2 (v2, g1))))))
  else (
  some g)
def f_X11_putsAside (g : Hp) : Option (Hp) :=
  Lp (F_X11_putsAside_2) FU ((0 : Int32), g)
def F_X11_takesBack_2 (r2 : Int32 × Hp → Option (Hp)) : Int32 × Hp → Option (Hp) := fun ⟨x1, g⟩ =>
  if x1 < (161 : Int32) then (
  ck (inb x1 161) (
  ck (inb x1 161) (stp (up g 134 (ix x1) (g 136 (ix x1))) (fun g1 =>
  stp (x1 + 1) (fun v2 =>
  r2 (v2, g1))))))
  else (
  some g)
def f_X11_takesBack (g : Hp) : Option (Hp) :=
  Lp (F_X11_takesBack_2) FU ((0 : Int32), g)
def f_X11_isKept (g : Hp) (p1 : Int32) : Option (Int32) :=
  ck (inb ((0 : Int32) + p1) 161) (
  if g 134 (ix ((0 : Int32) + p1)) = 0 then (
  some (1 : Int32))
  else (
  some (0 : Int32)))
def f_X11_rangeStart (g : Hp) (p1 : Int32) : Option (Int32) :=
  if p1 = 0 then (
  some (0 : Int32))
  else (
  ck (inb (p1 - (1 : Int32)) 40) (
  some (g 132 (ix (p1 - (1 : Int32))))))
def f_X11_rangeEnd (g : Hp) (p1 : Int32) : Option (Int32) :=
  if p1 = (g 125 3 - (1 : Int32)) then (
  ck (inb (0 : Int32) 193) (
  some (g 126 (ix (0 : Int32)))))
  else (
  ck (inb p1 40) (
  some (g 132 (ix p1))))
def J_X11_append_106 (p1 : Int32) (p2 : Int32) (p3 : Int32) (p4 : Int32) (p5 : Int32) (g : Hp) : Option (Int32 × Hp) :=
  stp (up g 125 16 (g 125 16 + (20 : Int32))) (fun g1 =>
  some (g1 125 16, g1))
def F_X11_append_60 (p1 : Int32) (p2 : Int32) (p3 : Int32) (p4 : Int32) (p5 : Int32) (r60 : Int32 × Hp → Option (Int32 × Hp)) : Int32 × Hp → Option (Int32 × Hp) := fun ⟨x6, g⟩ =>
  if x6 < (20 : Int32) then (
  ck (inb (x6 / (4 : Int32)) 5) (
  ck (inb (g 125 16 + x6) 900) (stp (up g 137 (ix (g 125 16 + x6)) (i2b (i2b (g 138 (ix (x6 / (4 : Int32))) >>> (((24 : Int32) - ((8 : Int32) * (irem x6 (4 : Int32)))) &&& 31))))) (fun g2 =>
  stp (x6 + 1) (fun v3 =>
  r60 (v3, g2))))))
  else (
  J_X11_append_106 p1 p2 p3 p4 p5 g)
def f_X11_append (g : Hp) (p1 : Int32) (p2 : Int32) (p3 : Int32) (p4 : Int32) (p5 : Int32) : Option (Int32 × Hp) :=
  stp (up g 125 0 (0 : Int32)) (fun g4 =>
  if (900 : Int32) < (g4 125 16 + (20 : Int32)) then (
  some ((-1 : Int32), g4))
  else (
  ck (inb (0 : Int32) 5) (stp (up g4 138 (ix (0 : Int32)) p1) (fun g5 =>
  ck (inb (1 : Int32) 5) (stp (up g5 138 (ix (1 : Int32)) p2) (fun g6 =>
  ck (inb (2 : Int32) 5) (stp (up g6 138 (ix (2 : Int32)) p3) (fun g7 =>
  ck (inb (3 : Int32) 5) (stp (up g7 138 (ix (3 : Int32)) p4) (fun g8 =>
  ck (inb (4 : Int32) 5) (stp (up g8 138 (ix (4 : Int32)) p5) (fun g9 =>
  Lp (F_X11_append_60 p1 p2 p3 p4 p5) FU ((0 : Int32), g9)))))))))))))
def f_X11_truncate (g : Hp) (p1 : Int32) : Option (Int32 × Hp) :=
  stp (up g 125 0 (0 : Int32)) (fun g1 =>
  if p1 < 0 then (
  some ((0 : Int32), g1))
  else (
  if g1 125 16 < p1 then (
  some ((0 : Int32), g1))
  else (
  stp (up g1 125 16 p1) (fun g2 =>
  some ((1 : Int32), g2)))))
def f_X11_errorOffset (g : Hp) : Option (Int32 × Hp) :=
  stp (up g 125 0 (0 : Int32)) (fun g1 =>
  some (g1 125 22, g1))
def f_X11_errorKind (g : Hp) : Option (Int32 × Hp) :=
  stp (up g 125 0 (0 : Int32)) (fun g1 =>
  some (g1 125 23, g1))
def f_X11_hasFailed (g : Hp) : Option (Int32) :=
  if g 125 20 = (-1 : Int32) then (
  some (0 : Int32))
  else (
  some (1 : Int32))
def f_X11_isAt (g : Hp) (p1 : Int32) (p2 : Int32) : Option (Int32) :=
  if g 125 17 < g 125 19 then (
  ck (inb (g 125 17) 900) (
  if g 137 (ix (g 125 17)) < p1 then (
  some (0 : Int32))
  else (
  ck (inb (g 125 17) 900) (
  if p2 < g 137 (ix (g 125 17)) then (
  some (0 : Int32))
  else (
  some (1 : Int32))))))
  else (
  some (0 : Int32))
def J_X11_blanks_30 (g : Hp) (r8 : Hp → Option (Hp)) : Option (Hp) :=
  stp (up g 125 17 (g 125 17 + (1 : Int32))) (fun g1 =>
  r8 g1)
def J_X11_blanks_43 (g : Hp) : Option (Hp) :=
  stp (up g 125 18 (g 125 17)) (fun g2 =>
  some g2)
def F_X11_blanks_8 (r8 : Hp → Option (Hp)) : Hp → Option (Hp) := fun g =>
  bnd (f_X11_isAt g (9 : Int32) (10 : Int32)) (fun u3 =>
  if u3 = 0 then (
  bnd (f_X11_isAt g (32 : Int32) (32 : Int32)) (fun u4 =>
  if u4 = 0 then (
  J_X11_blanks_43 g)
  else (
  J_X11_blanks_30 g r8)))
  else (
  J_X11_blanks_30 g r8))
def f_X11_blanks (g : Hp) : Option (Hp) :=
  bnd (f_X11_hasFailed g) (fun u5 =>
  if u5 = 0 then (
  Lp (F_X11_blanks_8) FU g)
  else (
  some g))
def f_X11_must (g : Hp) (p1 : Int32) (p2 : Int32) : Option (Hp) :=
  if p1 = 0 then (
  bnd (f_X11_hasFailed g) (fun u1 =>
  if u1 = 0 then (
  stp (up g 125 20 (g 125 18)) (fun g2 =>
  stp (up g2 125 21 p2) (fun g3 =>
  some g3)))
  else (
  some g)))
  else (
  some g)
def F_X11_letters_9 (g : Hp) (r9 : Int32 → Option (Int32 × Hp)) : Int32 → Option (Int32 × Hp) := fun x1 =>
  if x1 < g 125 19 then (
  ck (inb x1 900) (
  if g 137 (ix x1) < (97 : Int32) then (
  some ((x1 - g 125 17), g))
  else (
  ck (inb x1 900) (
  if (122 : Int32) < g 137 (ix x1) then (
  some ((x1 - g 125 17), g))
  else (
  stp (x1 + 1) (fun v1 =>
  r9 v1))))))
  else (
  some ((x1 - g 125 17), g))
def f_X11_letters (g : Hp) : Option (Int32 × Hp) :=
  bnd (f_X11_blanks g) (fun u2 =>
  stp (u2 125 17) (fun v3 =>
  Lp (F_X11_letters_9 u2) FU v3))
def J_X11_isWord_62 (p1 : Nat) (g : Hp) (r26 : Int32 × Int32 → Option (Int32 × Hp)) (x3 : Int32) (s0 : Int32) : Option (Int32 × Hp) :=
  stp (x3 + 1) (fun v1 =>
  r26 (s0, v1))
def F_X11_isWord_26 (p1 : Nat) (g : Hp) (r26 : Int32 × Int32 → Option (Int32 × Hp)) : Int32 × Int32 → Option (Int32 × Hp) := fun ⟨x2, x3⟩ =>
  if x2 = 0 then (
  ck (zb x2) (some (x2, g)))
  else (
  if x3 < (nI (tl p1)) then (
  ck (inb (g 125 17 + x3) 900) (
  ck (inb x3 (tl p1)) (
  if g 137 (ix (g 125 17 + x3)) = (tb p1 (ix x3)) then (
  J_X11_isWord_62 p1 g r26 x3 (1 : Int32))
  else (
  J_X11_isWord_62 p1 g r26 x3 (0 : Int32)))))
  else (
  ck (zb x2) (some (x2, g))))
def J_X11_isWord_23 (p1 : Nat) (g : Hp) (s0 : Int32) : Option (Int32 × Hp) :=
  Lp (F_X11_isWord_26 p1 g) FU (s0, (0 : Int32))
def J_X11_isWord_22 (p1 : Nat) (g : Hp) : Option (Int32 × Hp) :=
  J_X11_isWord_23 p1 g (0 : Int32)
def f_X11_isWord (g : Hp) (p1 : Nat) : Option (Int32 × Hp) :=
  bnd (f_X11_hasFailed g) (fun u2 =>
  if u2 = 0 then (
  bnd (f_X11_letters g) (fun u3 =>
  if u3.1 = (nI (tl p1)) then (
  J_X11_isWord_23 p1 u3.2 (1 : Int32))
  else (
  J_X11_isWord_22 p1 u3.2)))
  else (
  J_X11_isWord_22 p1 g))
def f_X11_takes (g : Hp) (p1 : Nat) : Option (Int32 × Hp) :=
  bnd (f_X11_isWord g p1) (fun u1 =>
  if u1.1 = 0 then (
  ck (zb u1.1) (some (u1.1, u1.2)))
  else (
  stp (up u1.2 125 17 (u1.2 125 17 + (nI (tl p1)))) (fun g2 =>
  ck (zb u1.1) (some (u1.1, g2)))))
def J_X11_takesSign_25 (p1 : Int32) (g : Hp) (s0 : Int32) : Option (Int32 × Hp) :=
  if s0 = 0 then (
  ck (zb s0) (some (s0, g)))
  else (
  stp (up g 125 17 (g 125 17 + (1 : Int32))) (fun g1 =>
  ck (zb s0) (some (s0, g1))))
def J_X11_takesSign_24 (p1 : Int32) (g : Hp) : Option (Int32 × Hp) :=
  J_X11_takesSign_25 p1 g (0 : Int32)
def f_X11_takesSign (g : Hp) (p1 : Int32) : Option (Int32 × Hp) :=
  bnd (f_X11_blanks g) (fun u2 =>
  bnd (f_X11_hasFailed u2) (fun u3 =>
  if u3 = 0 then (
  bnd (f_X11_isAt u2 p1 p1) (fun u4 =>
  if u4 = 0 then (
  J_X11_takesSign_24 p1 u2)
  else (
  J_X11_takesSign_25 p1 u2 (1 : Int32))))
  else (
  J_X11_takesSign_24 p1 u2)))
def f_X11_needs (g : Hp) (p1 : Int32) : Option (Hp) :=
  bnd (f_X11_takesSign g p1) (fun u1 =>
  bnd (f_X11_must u1.2 u1.1 (1 : Int32)) (fun u2 =>
  some u2))
def J_X11_number_111 (p1 : Int32) (p2 : Int32) (g : Hp) (x3 : Int32) (s1 : Int32) : Option (Int32 × Hp) :=
  bnd (f_X11_must g s1 (2 : Int32)) (fun u1 =>
  bnd (f_X11_hasFailed u1) (fun u2 =>
  if u2 = 0 then (
  some (x3, u1))
  else (
  some (p1, u1))))
def J_X11_number_110 (p1 : Int32) (p2 : Int32) (g : Hp) (x3 : Int32) : Option (Int32 × Hp) :=
  J_X11_number_111 p1 p2 g x3 (0 : Int32)
def J_X11_number_83 (p1 : Int32) (p2 : Int32) (g : Hp) (x3 : Int32) : Option (Int32 × Hp) :=
  if (5 : Int32) < (g 125 17 - g 125 18) then (
  J_X11_number_110 p1 p2 g x3)
  else (
  bnd (f_X11_in g x3 p1 p2) (fun u3 =>
  if u3 = 0 then (
  J_X11_number_110 p1 p2 g x3)
  else (
  J_X11_number_111 p1 p2 g x3 (1 : Int32))))
def J_X11_number_70 (p1 : Int32) (p2 : Int32) (g : Hp) (r28 : Int32 × Hp → Option (Int32 × Hp)) (x3 : Int32) : Option (Int32 × Hp) :=
  stp (up g 125 17 (g 125 17 + (1 : Int32))) (fun g4 =>
  r28 (x3, g4))
def F_X11_number_28 (p1 : Int32) (p2 : Int32) (r28 : Int32 × Hp → Option (Int32 × Hp)) : Int32 × Hp → Option (Int32 × Hp) := fun ⟨x3, g⟩ =>
  bnd (f_X11_isAt g (48 : Int32) (57 : Int32)) (fun u5 =>
  if u5 = 0 then (
  J_X11_number_83 p1 p2 g x3)
  else (
  if (g 125 17 - g 125 18) < (5 : Int32) then (
  ck (inb (g 125 17) 900) (
  stp (((((10 : Int32) * x3) + g 137 (ix (g 125 17))) - (48 : Int32))) (fun v6 =>
  J_X11_number_70 p1 p2 g r28 v6)))
  else (
  J_X11_number_70 p1 p2 g r28 x3)))
def f_X11_number (g : Hp) (p1 : Int32) (p2 : Int32) : Option (Int32 × Hp) :=
  bnd (f_X11_blanks g) (fun u7 =>
  bnd (f_X11_isAt u7 (48 : Int32) (57 : Int32)) (fun u8 =>
  bnd (f_X11_must u7 u8 (1 : Int32)) (fun u9 =>
  bnd (f_X11_hasFailed u9) (fun u10 =>
  if u10 = 0 then (
  Lp (F_X11_number_28 p1 p2) FU ((0 : Int32), u9))
  else (
  some (p1, u9))))))
def F_X11_seesName_21 (g : Hp) (x1 : Int32) (r21 : Int32 × Int32 → Option (Int32 × Hp)) : Int32 × Int32 → Option (Int32 × Hp) := fun ⟨x2, x3⟩ =>
  if x3 < x1 then (
  bnd (f_X11_hasFailed g) (fun u1 =>
  if u1 = 0 then (
  ck (inb (g 125 17 + x3) 900) (
  stp ((((((27 : Int32) * x2) + g 137 (ix (g 125 17 + x3))) - (97 : Int32)) + (1 : Int32))) (fun v2 =>
  stp (x3 + 1) (fun v3 =>
  r21 (v2, v3)))))
  else (
  some (x2, g))))
  else (
  some (x2, g))
def f_X11_seesName (g : Hp) : Option (Int32 × Hp) :=
  bnd (f_X11_letters g) (fun u4 =>
  bnd (f_X11_in u4.2 u4.1 (1 : Int32) (6 : Int32)) (fun u5 =>
  bnd (f_X11_must u4.2 u5 (1 : Int32)) (fun u6 =>
  Lp (F_X11_seesName_21 u6 u4.1) FU ((0 : Int32), (0 : Int32)))))
def f_X11_takesName (g : Hp) : Option (Int32 × Hp) :=
  bnd (f_X11_seesName g) (fun u1 =>
  bnd (f_X11_hasFailed u1.2) (fun u2 =>
  if u2 = 0 then (
  bnd (f_X11_letters u1.2) (fun u3 =>
  stp (up u3.2 125 17 (u1.2 125 17 + u3.1)) (fun g4 =>
  some (u1.1, g4))))
  else (
  some (u1.1, u1.2))))
def F_X11_speakerNamed_2 (g : Hp) (p1 : Int32) (r2 : Int32 → Option (Int32)) : Int32 → Option (Int32) := fun x2 =>
  ck (inb (2 : Int32) 193) (
  if x2 < g 127 (ix (2 : Int32)) then (
  ck (inb ((5 : Int32) + x2) 193) (
  if g 127 (ix ((5 : Int32) + x2)) = p1 then (
  some x2)
  else (
  stp (x2 + 1) (fun v1 =>
  r2 v1))))
  else (
  some (-1 : Int32)))
def f_X11_speakerNamed (g : Hp) (p1 : Int32) : Option (Int32) :=
  Lp (F_X11_speakerNamed_2 g p1) FU (0 : Int32)
def J_X11_readSpeaker_53 (p1 : Int32) (g : Hp) (s1 : Int32) : Option (Hp) :=
  bnd (f_X11_must g s1 (3 : Int32)) (fun u1 =>
  bnd (f_X11_hasFailed u1) (fun u2 =>
  if u2 = 0 then (
  ck (inb (2 : Int32) 193) (
  bnd (f_X11_takesName u1) (fun u3 =>
  ck (inb ((5 : Int32) + u1 127 (ix (2 : Int32))) 193) (stp (up u3.2 127 (ix ((5 : Int32) + u1 127 (ix (2 : Int32)))) u3.1) (fun g4 =>
  ck (inb (2 : Int32) 193) (
  ck (inb (2 : Int32) 193) (stp (up g4 127 (ix (2 : Int32)) (g4 127 (ix (2 : Int32)) + (1 : Int32))) (fun g5 =>
  some g5))))))))
  else (
  some u1)))
def J_X11_readSpeaker_21 (p1 : Int32) (g : Hp) (s1 : Int32) : Option (Hp) :=
  bnd (f_X11_must g s1 (4 : Int32)) (fun u6 =>
  bnd (f_X11_hasFailed u6) (fun u7 =>
  if u7 = 0 then (
  bnd (f_X11_seesName u6) (fun u8 =>
  bnd (f_X11_speakerNamed u8.2 u8.1) (fun u9 =>
  if u9 = (-1 : Int32) then (
  J_X11_readSpeaker_53 p1 u8.2 (1 : Int32))
  else (
  J_X11_readSpeaker_53 p1 u8.2 (0 : Int32)))))
  else (
  some u6)))
def f_X11_readSpeaker (g : Hp) (p1 : Int32) : Option (Hp) :=
  stp (up g 125 18 p1) (fun g10 =>
  ck (inb (2 : Int32) 193) (
  if g10 127 (ix (2 : Int32)) < (4 : Int32) then (
  J_X11_readSpeaker_21 p1 g10 (1 : Int32))
  else (
  J_X11_readSpeaker_21 p1 g10 (0 : Int32))))
def J_X11_speaks_64 (g : Hp) (p1 : Int32) (p2 : Int32) (p3 : Int32) (r3 : Int32 → Option (Int32)) (x4 : Int32) : Option (Int32) :=
  stp (x4 + 1) (fun v1 =>
  r3 v1)
def F_X11_speaks_3 (g : Hp) (p1 : Int32) (p2 : Int32) (p3 : Int32) (r3 : Int32 → Option (Int32)) : Int32 → Option (Int32) := fun x4 =>
  ck (inb (3 : Int32) 193) (
  if x4 < g 127 (ix (3 : Int32)) then (
  stp (((9 : Int32) + ((4 : Int32) * x4))) (fun v2 =>
  ck (inb (v2 + (0 : Int32)) 193) (
  if g 127 (ix (v2 + (0 : Int32))) = p1 then (
  ck (inb (v2 + (2 : Int32)) 193) (
  if g 127 (ix (v2 + (2 : Int32))) < p3 then (
  ck (inb (v2 + (3 : Int32)) 193) (
  if p2 < g 127 (ix (v2 + (3 : Int32))) then (
  some (1 : Int32))
  else (
  J_X11_speaks_64 g p1 p2 p3 r3 x4)))
  else (
  J_X11_speaks_64 g p1 p2 p3 r3 x4)))
  else (
  J_X11_speaks_64 g p1 p2 p3 r3 x4))))
  else (
  some (0 : Int32)))
def f_X11_speaks (g : Hp) (p1 : Int32) (p2 : Int32) (p3 : Int32) : Option (Int32) :=
  Lp (F_X11_speaks_3 g p1 p2 p3) FU (0 : Int32)
def f_X11_isBehind (g : Hp) (p1 : Int32) (p2 : Int32) (p3 : Int32) : Option (Int32) :=
  stp (((9 : Int32) + ((4 : Int32) * p1))) (fun v1 =>
  ck (inb (v1 + (2 : Int32)) 193) (
  if p2 < g 127 (ix (v1 + (2 : Int32))) then (
  some (1 : Int32))
  else (
  ck (inb (v1 + (2 : Int32)) 193) (
  if g 127 (ix (v1 + (2 : Int32))) = p2 then (
  ck (inb (v1 + (0 : Int32)) 193) (
  if p3 < g 127 (ix (v1 + (0 : Int32))) then (
  some (1 : Int32))
  else (
  some (0 : Int32))))
  else (
  some (0 : Int32))))))
def J_X11_putsWord_79 (p1 : Int32) (p2 : Int32) (p3 : Int32) (p4 : Int32) (g : Hp) (x5 : Int32) : Option (Hp) :=
  stp (((9 : Int32) + ((4 : Int32) * x5))) (fun v1 =>
  ck (inb (v1 + (0 : Int32)) 193) (stp (up g 127 (ix (v1 + (0 : Int32))) p1) (fun g2 =>
  ck (inb (v1 + (1 : Int32)) 193) (stp (up g2 127 (ix (v1 + (1 : Int32))) p2) (fun g3 =>
  ck (inb (v1 + (2 : Int32)) 193) (stp (up g3 127 (ix (v1 + (2 : Int32))) p3) (fun g4 =>
  ck (inb (v1 + (3 : Int32)) 193) (stp (up g4 127 (ix (v1 + (3 : Int32))) p4) (fun g5 =>
  ck (inb (3 : Int32) 193) (
  ck (inb (3 : Int32) 193) (stp (up g5 127 (ix (3 : Int32)) (g5 127 (ix (3 : Int32)) + (1 : Int32))) (fun g6 =>
  some g6))))))))))))
def J_X11_putsWord_73 (p1 : Int32) (p2 : Int32) (p3 : Int32) (p4 : Int32) (g : Hp) (r8 : Int32 × Hp → Option (Hp)) (x5 : Int32) : Option (Hp) :=
  stp (x5 + (-1)) (fun v7 =>
  r8 (v7, g))
def F_X11_putsWord_29 (p1 : Int32) (p2 : Int32) (p3 : Int32) (p4 : Int32) (r8 : Int32 × Hp → Option (Hp)) (x5 : Int32) (r29 : Int32 × Hp → Option (Hp)) : Int32 × Hp → Option (Hp) := fun ⟨x6, g⟩ =>
  if x6 < (4 : Int32) then (
  ck (inb (((9 : Int32) + ((4 : Int32) * (x5 - (1 : Int32)))) + x6) 193) (
  ck (inb (((9 : Int32) + ((4 : Int32) * x5)) + x6) 193) (stp (up g 127 (ix (((9 : Int32) + ((4 : Int32) * x5)) + x6)) (g 127 (ix (((9 : Int32) + ((4 : Int32) * (x5 - (1 : Int32)))) + x6)))) (fun g8 =>
  stp (x6 + 1) (fun v9 =>
  r29 (v9, g8))))))
  else (
  J_X11_putsWord_73 p1 p2 p3 p4 g r8 x5)
def F_X11_putsWord_8 (p1 : Int32) (p2 : Int32) (p3 : Int32) (p4 : Int32) (r8 : Int32 × Hp → Option (Hp)) : Int32 × Hp → Option (Hp) := fun ⟨x5, g⟩ =>
  if x5 ≤ 0 then (
  J_X11_putsWord_79 p1 p2 p3 p4 g x5)
  else (
  bnd (f_X11_isBehind g (x5 - (1 : Int32)) p3 p1) (fun u10 =>
  if u10 = 0 then (
  J_X11_putsWord_79 p1 p2 p3 p4 g x5)
  else (
  Lp (F_X11_putsWord_29 p1 p2 p3 p4 r8 x5) FU ((0 : Int32), g))))
def f_X11_putsWord (g : Hp) (p1 : Int32) (p2 : Int32) (p3 : Int32) (p4 : Int32) : Option (Hp) :=
  ck (inb (3 : Int32) 193) (
  stp (g 127 (ix (3 : Int32))) (fun v11 =>
  Lp (F_X11_putsWord_8 p1 p2 p3 p4) FU (v11, g)))
def J_X11_readWord_147 (p1 : Int32) (g : Hp) (x2 : Int32) (x3 : Int32) (x4 : Int32) (x5 : Int32) (s1 : Int32) : Option (Hp) :=
  bnd (f_X11_must g s1 (2 : Int32)) (fun u1 =>
  bnd (f_X11_hasFailed u1) (fun u2 =>
  if u2 = 0 then (
  bnd (f_X11_putsWord u1 x2 x3 x4 x5) (fun u3 =>
  some u3))
  else (
  some u1)))
def J_X11_readWord_113 (p1 : Int32) (g : Hp) (x2 : Int32) (x3 : Int32) (x4 : Int32) (s1 : Int32) : Option (Hp) :=
  bnd (f_X11_must g s1 (2 : Int32)) (fun u4 =>
  bnd (f_X11_number u4 (x4 + (1 : Int32)) (99999 : Int32)) (fun u5 =>
  bnd (f_X11_speaks u5.2 x2 x4 u5.1) (fun u6 =>
  if u6 = 0 then (
  J_X11_readWord_147 p1 u5.2 x2 x3 x4 u5.1 (1 : Int32))
  else (
  J_X11_readWord_147 p1 u5.2 x2 x3 x4 u5.1 (0 : Int32)))))
def J_X11_readWord_54 (p1 : Int32) (g : Hp) (x2 : Int32) (s1 : Int32) : Option (Hp) :=
  bnd (f_X11_must g s1 (3 : Int32)) (fun u7 =>
  bnd (f_X11_hasFailed u7) (fun u8 =>
  if u8 = 0 then (
  bnd (f_X11_letters u7) (fun u9 =>
  stp (up u9.2 125 17 (u7 125 17 + u9.1)) (fun g10 =>
  bnd (f_X11_takesName g10) (fun u11 =>
  bnd (f_X11_number u11.2 (0 : Int32) (99998 : Int32)) (fun u12 =>
  bnd (f_X11_speaks u12.2 x2 u12.1 (u12.1 + (1 : Int32))) (fun u13 =>
  if u13 = 0 then (
  J_X11_readWord_113 p1 u12.2 x2 u11.1 u12.1 (1 : Int32))
  else (
  J_X11_readWord_113 p1 u12.2 x2 u11.1 u12.1 (0 : Int32))))))))
  else (
  some u7)))
def J_X11_readWord_22 (p1 : Int32) (g : Hp) (s1 : Int32) : Option (Hp) :=
  bnd (f_X11_must g s1 (4 : Int32)) (fun u14 =>
  bnd (f_X11_hasFailed u14) (fun u15 =>
  if u15 = 0 then (
  bnd (f_X11_seesName u14) (fun u16 =>
  bnd (f_X11_speakerNamed u16.2 u16.1) (fun u17 =>
  if u17 = (-1 : Int32) then (
  J_X11_readWord_54 p1 u16.2 u17 (0 : Int32))
  else (
  J_X11_readWord_54 p1 u16.2 u17 (1 : Int32)))))
  else (
  some u14)))
def f_X11_readWord (g : Hp) (p1 : Int32) : Option (Hp) :=
  stp (up g 125 18 p1) (fun g18 =>
  ck (inb (3 : Int32) 193) (
  if g18 127 (ix (3 : Int32)) < (40 : Int32) then (
  J_X11_readWord_22 p1 g18 (1 : Int32))
  else (
  J_X11_readWord_22 p1 g18 (0 : Int32))))
def J_X11_readBreath_22 (p1 : Int32) (g : Hp) (s1 : Int32) : Option (Hp) :=
  bnd (f_X11_must g s1 (4 : Int32)) (fun u1 =>
  bnd (f_X11_number u1 (0 : Int32) (99998 : Int32)) (fun u2 =>
  bnd (f_X11_number u2.2 (u2.1 + (1 : Int32)) (99999 : Int32)) (fun u3 =>
  bnd (f_X11_hasFailed u3.2) (fun u4 =>
  if u4 = 0 then (
  ck (inb (4 : Int32) 193) (
  ck (inb ((169 : Int32) + ((2 : Int32) * u3.2 127 (ix (4 : Int32)))) 193) (stp (up u3.2 127 (ix ((169 : Int32) + ((2 : Int32) * u3.2 127 (ix (4 : Int32))))) u2.1) (fun g5 =>
  ck (inb (4 : Int32) 193) (
  ck (inb (((169 : Int32) + ((2 : Int32) * g5 127 (ix (4 : Int32)))) + (1 : Int32)) 193) (stp (up g5 127 (ix (((169 : Int32) + ((2 : Int32) * g5 127 (ix (4 : Int32)))) + (1 : Int32))) u3.1) (fun g6 =>
  ck (inb (4 : Int32) 193) (
  ck (inb (4 : Int32) 193) (stp (up g6 127 (ix (4 : Int32)) (g6 127 (ix (4 : Int32)) + (1 : Int32))) (fun g7 =>
  some g7))))))))))
  else (
  some u3.2)))))
def f_X11_readBreath (g : Hp) (p1 : Int32) : Option (Hp) :=
  stp (up g 125 18 p1) (fun g8 =>
  ck (inb (4 : Int32) 193) (
  if g8 127 (ix (4 : Int32)) < (12 : Int32) then (
  J_X11_readBreath_22 p1 g8 (1 : Int32))
  else (
  J_X11_readBreath_22 p1 g8 (0 : Int32))))
def f_X11_readLine (g : Hp) : Option (Hp) :=
  stp (g 125 18) (fun v1 =>
  bnd (f_X11_takes g 34) (fun u2 =>
  if u2.1 = 0 then (
  bnd (f_X11_takes u2.2 35) (fun u3 =>
  if u3.1 = 0 then (
  bnd (f_X11_takes u3.2 36) (fun u4 =>
  if u4.1 = 0 then (
  bnd (f_X11_takes u4.2 37) (fun u5 =>
  if u5.1 = 0 then (
  bnd (f_X11_takes u5.2 38) (fun u6 =>
  if u6.1 = 0 then (
  bnd (f_X11_must u6.2 (0 : Int32) (1 : Int32)) (fun u7 =>
  some u7))
  else (
  bnd (f_X11_number u6.2 (0 : Int32) (999 : Int32)) (fun u8 =>
  ck (inb (1 : Int32) 193) (stp (up u8.2 127 (ix (1 : Int32)) u8.1) (fun g9 =>
  some g9))))))
  else (
  bnd (f_X11_readBreath u5.2 v1) (fun u10 =>
  some u10))))
  else (
  bnd (f_X11_readWord u4.2 v1) (fun u11 =>
  some u11))))
  else (
  bnd (f_X11_readSpeaker u3.2 v1) (fun u12 =>
  some u12))))
  else (
  bnd (f_X11_number u2.2 (1 : Int32) (99999 : Int32)) (fun u13 =>
  ck (inb (0 : Int32) 193) (stp (up u13.2 127 (ix (0 : Int32)) u13.1) (fun g14 =>
  some g14))))))
def f_X11_beginsText (g : Hp) : Option (Hp) :=
  stp (up g 125 19 (g 125 16)) (fun g1 =>
  stp (up g1 125 16 (0 : Int32)) (fun g2 =>
  stp (up g2 125 17 (0 : Int32)) (fun g3 =>
  stp (up g3 125 20 (-1 : Int32)) (fun g4 =>
  stp (up g4 125 21 (0 : Int32)) (fun g5 =>
  bnd (f_X11_blanks g5) (fun u6 =>
  some u6))))))
def f_X11_endsText (g : Hp) : Option (Int32 × Hp) :=
  stp (up g 125 22 (g 125 20)) (fun g1 =>
  stp (up g1 125 23 (g1 125 21)) (fun g2 =>
  bnd (f_X11_hasFailed g2) (fun u3 =>
  bnd (f_X11_throwsIf g2 u3 (1 : Int32)) (fun u4 =>
  if u4.1 = 0 then (
  some ((1 : Int32), u4.2))
  else (
  some ((0 : Int32), u4.2))))))
def J_X11_load_98 (g : Hp) : Option (Int32 × Hp) :=
  bnd (f_X11_endsText g) (fun u1 =>
  if u1.1 = 0 then (
  some ((0 : Int32), u1.2))
  else (
  bnd (f_X11_takesOver u1.2) (fun u2 =>
  bnd (f_X11_words u2) (fun u3 =>
  some (u3, u2)))))
def J_X11_load_88 (g : Hp) (r50 : Int32 × Hp → Option (Int32 × Hp)) (x1 : Int32) (s1 : Int32) : Option (Int32 × Hp) :=
  bnd (f_X11_must g s1 (2 : Int32)) (fun u4 =>
  stp (x1 + 1) (fun v5 =>
  r50 (v5, u4)))
def F_X11_load_50 (r50 : Int32 × Hp → Option (Int32 × Hp)) : Int32 × Hp → Option (Int32 × Hp) := fun ⟨x1, g⟩ =>
  ck (inb (3 : Int32) 193) (
  if x1 < g 127 (ix (3 : Int32)) then (
  ck (inb (((9 : Int32) + ((4 : Int32) * x1)) + (3 : Int32)) 193) (
  ck (inb (0 : Int32) 193) (
  if g 127 (ix (0 : Int32)) < g 127 (ix (((9 : Int32) + ((4 : Int32) * x1)) + (3 : Int32))) then (
  J_X11_load_88 g r50 x1 (0 : Int32))
  else (
  J_X11_load_88 g r50 x1 (1 : Int32)))))
  else (
  J_X11_load_98 g))
def J_X11_load_48 (g : Hp) : Option (Int32 × Hp) :=
  Lp (F_X11_load_50) FU ((0 : Int32), g)
def F_X11_load_13 (r13 : Hp → Option (Int32 × Hp)) : Hp → Option (Int32 × Hp) := fun g =>
  bnd (f_X11_hasFailed g) (fun u6 =>
  if u6 = 0 then (
  if g 125 17 < g 125 19 then (
  bnd (f_X11_readLine g) (fun u7 =>
  bnd (f_X11_needs u7 (59 : Int32)) (fun u8 =>
  bnd (f_X11_blanks u8) (fun u9 =>
  r13 u9))))
  else (
  J_X11_load_48 g))
  else (
  J_X11_load_48 g))
def f_X11_load (g : Hp) : Option (Int32 × Hp) :=
  stp (up g 125 0 (0 : Int32)) (fun g10 =>
  bnd (f_X11_begins g10) (fun u11 =>
  bnd (f_X11_beginsText u11) (fun u12 =>
  Lp (F_X11_load_13) FU u12)))
def f_X11_drafts (g : Hp) (p1 : Int32) : Option (Hp) :=
  ck (inb (g 125 27) 700) (stp (up g 140 (ix (g 125 27)) p1) (fun g1 =>
  stp (up g1 125 27 (g1 125 27 + (1 : Int32))) (fun g2 =>
  some g2)))
def J_X11_readPhrase_107 (g : Hp) : Option (Hp) :=
  bnd (f_X11_needs g (41 : Int32)) (fun u1 =>
  some u1)
def J_X11_readPhrase_103 (g : Hp) (r18 : Int32 × Hp → Option (Hp)) (x1 : Int32) (s0 : Int32) : Option (Hp) :=
  r18 (s0, g)
def J_X11_readPhrase_51 (g : Hp) (r18 : Int32 × Hp → Option (Hp)) (x1 : Int32) (x3 : Int32) (s1 : Int32) : Option (Hp) :=
  bnd (f_X11_must g s1 (4 : Int32)) (fun u2 =>
  bnd (f_X11_hasFailed u2) (fun u3 =>
  if u3 = 0 then (
  bnd (f_X11_letters u2) (fun u4 =>
  stp (up u4.2 125 17 (u2 125 17 + u4.1)) (fun g5 =>
  bnd (f_X11_drafts g5 x3) (fun u6 =>
  ck (inb x1 700) (
  ck (inb x1 700) (stp (up u6 140 (ix x1) (u6 140 (ix x1) + (1 : Int32))) (fun g7 =>
  bnd (f_X11_letters g7) (fun u8 =>
  if u8.1 ≤ 0 then (
  J_X11_readPhrase_103 u8.2 r18 x1 (0 : Int32))
  else (
  J_X11_readPhrase_103 u8.2 r18 x1 (1 : Int32))))))))))
  else (
  some u2)))
def F_X11_readPhrase_18 (x1 : Int32) (r18 : Int32 × Hp → Option (Hp)) : Int32 × Hp → Option (Hp) := fun ⟨x2, g⟩ =>
  if x2 = 0 then (
  J_X11_readPhrase_107 g)
  else (
  bnd (f_X11_hasFailed g) (fun u9 =>
  if u9 = 0 then (
  bnd (f_X11_seesName g) (fun u10 =>
  ck (inb x1 700) (
  if u10.2 140 (ix x1) < (6 : Int32) then (
  J_X11_readPhrase_51 u10.2 r18 x1 u10.1 (1 : Int32))
  else (
  J_X11_readPhrase_51 u10.2 r18 x1 u10.1 (0 : Int32)))))
  else (
  J_X11_readPhrase_107 g)))
def f_X11_readPhrase (g : Hp) : Option (Hp) :=
  bnd (f_X11_needs g (40 : Int32)) (fun u11 =>
  stp (u11 125 27) (fun v12 =>
  bnd (f_X11_drafts u11 (0 : Int32)) (fun u13 =>
  Lp (F_X11_readPhrase_18 v12) FU ((1 : Int32), u13))))
def f_X11_commandHere (g : Hp) : Option (Int32 × Hp) :=
  bnd (f_X11_isWord g 39) (fun u1 =>
  if u1.1 = 0 then (
  bnd (f_X11_isWord u1.2 40) (fun u2 =>
  if u2.1 = 0 then (
  bnd (f_X11_isWord u2.2 41) (fun u3 =>
  if u3.1 = 0 then (
  bnd (f_X11_isWord u3.2 42) (fun u4 =>
  if u4.1 = 0 then (
  bnd (f_X11_isWord u4.2 43) (fun u5 =>
  if u5.1 = 0 then (
  bnd (f_X11_isWord u5.2 44) (fun u6 =>
  if u6.1 = 0 then (
  some ((-1 : Int32), u6.2))
  else (
  some ((5 : Int32), u6.2))))
  else (
  some ((4 : Int32), u5.2))))
  else (
  some ((3 : Int32), u4.2))))
  else (
  some ((2 : Int32), u3.2))))
  else (
  some ((1 : Int32), u2.2))))
  else (
  some ((0 : Int32), u1.2)))
def J_X11_readBlock_106 (cf_X11_readBlock : Hp → Option (Hp)) (cf_X11_readCommand : Hp → Option (Hp)) (g : Hp) (x1 : Int32) : Option (Hp) :=
  ck (inb x1 700) (stp (up g 140 (ix x1) ((g 125 27 - x1) - (1 : Int32))) (fun g1 =>
  stp (up g1 125 29 (g1 125 29 - (1 : Int32))) (fun g2 =>
  bnd (f_X11_needs g2 (125 : Int32)) (fun u3 =>
  some u3))))
def F_X11_readBlock_77 (cf_X11_readBlock : Hp → Option (Hp)) (cf_X11_readCommand : Hp → Option (Hp)) (x1 : Int32) (r77 : Hp → Option (Hp)) : Hp → Option (Hp) := fun g =>
  bnd (f_X11_hasFailed g) (fun u4 =>
  if u4 = 0 then (
  bnd (f_X11_isAt g (125 : Int32) (125 : Int32)) (fun u5 =>
  if u5 = 0 then (
  bnd (cf_X11_readCommand g) (fun u6 =>
  bnd (f_X11_blanks u6) (fun u7 =>
  r77 u7)))
  else (
  J_X11_readBlock_106 cf_X11_readBlock cf_X11_readCommand g x1)))
  else (
  J_X11_readBlock_106 cf_X11_readBlock cf_X11_readCommand g x1))
def J_X11_readBlock_31 (cf_X11_readBlock : Hp → Option (Hp)) (cf_X11_readCommand : Hp → Option (Hp)) (g : Hp) (s1 : Int32) : Option (Hp) :=
  bnd (f_X11_must g s1 (4 : Int32)) (fun u8 =>
  bnd (f_X11_hasFailed u8) (fun u9 =>
  if u9 = 0 then (
  stp (up u8 125 17 (u8 125 17 + (1 : Int32))) (fun g10 =>
  stp (up g10 125 29 (g10 125 29 + (1 : Int32))) (fun g11 =>
  stp (g11 125 27) (fun v12 =>
  bnd (f_X11_drafts g11 (0 : Int32)) (fun u13 =>
  bnd (f_X11_blanks u13) (fun u14 =>
  Lp (F_X11_readBlock_77 cf_X11_readBlock cf_X11_readCommand v12) FU u14))))))
  else (
  some u8)))
def B_X11_readBlock (cf_X11_readBlock : Hp → Option (Hp)) (cf_X11_readCommand : Hp → Option (Hp)) (g : Hp) : Option (Hp) :=
  bnd (f_X11_blanks g) (fun u15 =>
  bnd (f_X11_isAt u15 (123 : Int32) (123 : Int32)) (fun u16 =>
  bnd (f_X11_must u15 u16 (1 : Int32)) (fun u17 =>
  if u17 125 29 < (5 : Int32) then (
  J_X11_readBlock_31 cf_X11_readBlock cf_X11_readCommand u17 (1 : Int32))
  else (
  J_X11_readBlock_31 cf_X11_readBlock cf_X11_readCommand u17 (0 : Int32)))))
def J_X11_readCommand_155 (cf_X11_readBlock : Hp → Option (Hp)) (cf_X11_readCommand : Hp → Option (Hp)) (g : Hp) : Option (Hp) :=
  bnd (f_X11_needs g (59 : Int32)) (fun u1 =>
  some u1)
def J_X11_readCommand_35 (cf_X11_readBlock : Hp → Option (Hp)) (cf_X11_readCommand : Hp → Option (Hp)) (g : Hp) (x1 : Int32) (s1 : Int32) : Option (Hp) :=
  bnd (f_X11_must g s1 (4 : Int32)) (fun u2 =>
  bnd (f_X11_hasFailed u2) (fun u3 =>
  if u3 = 0 then (
  bnd (f_X11_letters u2) (fun u4 =>
  stp (up u4.2 125 17 (u2 125 17 + u4.1)) (fun g5 =>
  stp (up g5 125 28 (g5 125 28 + (1 : Int32))) (fun g6 =>
  bnd (f_X11_drafts g6 x1) (fun u7 =>
  if x1 = (5 : Int32) then (
  bnd (f_X11_number u7 (1 : Int32) (9 : Int32)) (fun u16 =>
  bnd (f_X11_drafts u16.2 u16.1) (fun u17 =>
  bnd (cf_X11_readBlock u17) (fun u18 =>
  some u18))))
  else (
  bnd (f_X11_readPhrase u7) (fun u8 =>
  if x1 = (4 : Int32) then (
  bnd (cf_X11_readBlock u8) (fun u12 =>
  bnd (f_X11_takes u12 45) (fun u13 =>
  if u13.1 = 0 then (
  bnd (f_X11_drafts u13.2 (0 : Int32)) (fun u14 =>
  some u14))
  else (
  bnd (cf_X11_readBlock u13.2) (fun u15 =>
  some u15)))))
  else (
  if x1 = (3 : Int32) then (
  bnd (f_X11_takes u8 46) (fun u9 =>
  bnd (f_X11_must u9.2 u9.1 (1 : Int32)) (fun u10 =>
  bnd (f_X11_readPhrase u10) (fun u11 =>
  J_X11_readCommand_155 cf_X11_readBlock cf_X11_readCommand u11))))
  else (
  J_X11_readCommand_155 cf_X11_readBlock cf_X11_readCommand u8)))))))))
  else (
  some u2)))
def J_X11_readCommand_16 (cf_X11_readBlock : Hp → Option (Hp)) (cf_X11_readCommand : Hp → Option (Hp)) (g : Hp) (x1 : Int32) (s1 : Int32) : Option (Hp) :=
  bnd (f_X11_must g s1 (1 : Int32)) (fun u19 =>
  if u19 125 28 < (30 : Int32) then (
  J_X11_readCommand_35 cf_X11_readBlock cf_X11_readCommand u19 x1 (1 : Int32))
  else (
  J_X11_readCommand_35 cf_X11_readBlock cf_X11_readCommand u19 x1 (0 : Int32)))
def B_X11_readCommand (cf_X11_readBlock : Hp → Option (Hp)) (cf_X11_readCommand : Hp → Option (Hp)) (g : Hp) : Option (Hp) :=
  bnd (f_X11_commandHere g) (fun u20 =>
  if u20.1 = (-1 : Int32) then (
  J_X11_readCommand_16 cf_X11_readBlock cf_X11_readCommand u20.2 u20.1 (0 : Int32))
  else (
  J_X11_readCommand_16 cf_X11_readBlock cf_X11_readCommand u20.2 u20.1 (1 : Int32)))
def REC_X11_readBlock : Nat → (Hp → Option (Hp)) × (Hp → Option (Hp))
  | 0 => ((fun _ => none), (fun _ => none))
  | n + 1 => ((B_X11_readBlock (REC_X11_readBlock n).1 (REC_X11_readBlock n).2), (B_X11_readCommand (REC_X11_readBlock n).1 (REC_X11_readBlock n).2))
def f_X11_readBlock : Hp → Option (Hp) := (REC_X11_readBlock 64).1
def f_X11_readCommand : Hp → Option (Hp) := (REC_X11_readBlock 64).2
def F_X11_loadScript_72 (r72 : Int32 × Hp → Option (Int32 × Hp)) : Int32 × Hp → Option (Int32 × Hp) := fun ⟨x1, g⟩ =>
  if x1 < g 125 26 then (
  ck (inb x1 700) (
  ck (inb x1 700) (stp (up g 139 (ix x1) (g 140 (ix x1))) (fun g1 =>
  stp (x1 + 1) (fun v2 =>
  r72 (v2, g1))))))
  else (
  some (g 125 28, g))
def J_X11_loadScript_53 (g : Hp) : Option (Int32 × Hp) :=
  bnd (f_X11_endsText g) (fun u3 =>
  if u3.1 = 0 then (
  some ((0 : Int32), u3.2))
  else (
  stp (up u3.2 125 26 (u3.2 125 27)) (fun g4 =>
  Lp (F_X11_loadScript_72) FU ((0 : Int32), g4))))
def F_X11_loadScript_24 (r24 : Hp → Option (Int32 × Hp)) : Hp → Option (Int32 × Hp) := fun g =>
  bnd (f_X11_hasFailed g) (fun u5 =>
  if u5 = 0 then (
  if g 125 17 < g 125 19 then (
  bnd (f_X11_readCommand g) (fun u6 =>
  bnd (f_X11_blanks u6) (fun u7 =>
  r24 u7)))
  else (
  J_X11_loadScript_53 g))
  else (
  J_X11_loadScript_53 g))
def f_X11_loadScript (g : Hp) : Option (Int32 × Hp) :=
  stp (up g 125 0 (0 : Int32)) (fun g8 =>
  bnd (f_X11_beginsText g8) (fun u9 =>
  stp (up u9 125 27 (0 : Int32)) (fun g10 =>
  stp (up g10 125 28 (0 : Int32)) (fun g11 =>
  stp (up g11 125 29 (0 : Int32)) (fun g12 =>
  Lp (F_X11_loadScript_24) FU g12)))))
def J_X11_noSpeaker_22 (p1 : Int32) (g : Hp) (s1 : Int32) : Option (Int32 × Hp) :=
  bnd (f_X11_throwsIf g s1 (1 : Int32)) (fun u1 =>
  ck (zb u1.1) (some (u1.1, u1.2)))
def f_X11_noSpeaker (g : Hp) (p1 : Int32) : Option (Int32 × Hp) :=
  ck (inb (2 : Int32) 193) (
  bnd (f_X11_in g p1 (0 : Int32) (g 126 (ix (2 : Int32)) - (1 : Int32))) (fun u2 =>
  if u2 = 0 then (
  J_X11_noSpeaker_22 p1 g (1 : Int32))
  else (
  J_X11_noSpeaker_22 p1 g (0 : Int32))))
def J_X11_noWord_20 (p1 : Int32) (g : Hp) (s1 : Int32) : Option (Int32 × Hp) :=
  bnd (f_X11_throwsIf g s1 (1 : Int32)) (fun u1 =>
  ck (zb u1.1) (some (u1.1, u1.2)))
def f_X11_noWord (g : Hp) (p1 : Int32) : Option (Int32 × Hp) :=
  bnd (f_X11_words g) (fun u2 =>
  bnd (f_X11_in g p1 (0 : Int32) (u2 - (1 : Int32))) (fun u3 =>
  if u3 = 0 then (
  J_X11_noWord_20 p1 g (1 : Int32))
  else (
  J_X11_noWord_20 p1 g (0 : Int32))))
def J_X11_noBlock_20 (p1 : Int32) (g : Hp) (s1 : Int32) : Option (Int32 × Hp) :=
  bnd (f_X11_throwsIf g s1 (1 : Int32)) (fun u1 =>
  ck (zb u1.1) (some (u1.1, u1.2)))
def f_X11_noBlock (g : Hp) (p1 : Int32) : Option (Int32 × Hp) :=
  bnd (f_X11_in g p1 (0 : Int32) (g 125 3 - (1 : Int32))) (fun u2 =>
  if u2 = 0 then (
  J_X11_noBlock_20 p1 g (1 : Int32))
  else (
  J_X11_noBlock_20 p1 g (0 : Int32)))
def J_X11_noShot_23 (p1 : Int32) (g : Hp) (s1 : Int32) : Option (Int32 × Hp) :=
  bnd (f_X11_throwsIf g s1 (1 : Int32)) (fun u1 =>
  ck (zb u1.1) (some (u1.1, u1.2)))
def f_X11_noShot (g : Hp) (p1 : Int32) : Option (Int32 × Hp) :=
  ck (inb (40 : Int32) 161) (
  bnd (f_X11_in g p1 (0 : Int32) (g 134 (ix (40 : Int32)) - (1 : Int32))) (fun u2 =>
  if u2 = 0 then (
  J_X11_noShot_23 p1 g (1 : Int32))
  else (
  J_X11_noShot_23 p1 g (0 : Int32))))
def f_X11_count (g : Hp) (p1 : Int32) : Option (Int32 × Hp) :=
  stp (up g 125 0 (0 : Int32)) (fun g1 =>
  if p1 = 0 then (
  ck (inb (0 : Int32) 193) (
  some (g1 126 (ix (0 : Int32)), g1)))
  else (
  if p1 = 1 then (
  ck (inb (2 : Int32) 193) (
  some (g1 126 (ix (2 : Int32)), g1)))
  else (
  if p1 = 2 then (
  bnd (f_X11_words g1) (fun u2 =>
  some (u2, g1)))
  else (
  if p1 = 3 then (
  some (g1 125 3, g1))
  else (
  if p1 = 4 then (
  ck (inb (4 : Int32) 193) (
  some (g1 126 (ix (4 : Int32)), g1)))
  else (
  if p1 = 5 then (
  ck (inb (1 : Int32) 193) (
  some (g1 126 (ix (1 : Int32)), g1)))
  else (
  some ((-1 : Int32), g1))))))))
def f_X11_share (g : Hp) (p1 : Int32) (p2 : Int32) : Option (Int32) :=
  bnd (f_X11_of g p1 (2 : Int32)) (fun u1 =>
  bnd (f_X11_of g p2 (3 : Int32)) (fun u2 =>
  if u1 < u2 then (
  bnd (f_X11_of g p2 (2 : Int32)) (fun u3 =>
  bnd (f_X11_of g p1 (3 : Int32)) (fun u4 =>
  if u3 < u4 then (
  some (1 : Int32))
  else (
  some (0 : Int32)))))
  else (
  some (0 : Int32))))
def F_X11_shotOf_2 (g : Hp) (p1 : Int32) (r2 : Int32 → Option (Int32)) : Int32 → Option (Int32) := fun x2 =>
  ck (inb (40 : Int32) 161) (
  if x2 < g 134 (ix (40 : Int32)) then (
  ck (inb ((41 : Int32) + x2) 161) (
  if g 134 (ix ((41 : Int32) + x2)) = p1 then (
  some x2)
  else (
  stp (x2 + 1) (fun v1 =>
  r2 v1))))
  else (
  some (-1 : Int32)))
def f_X11_shotOf (g : Hp) (p1 : Int32) : Option (Int32) :=
  Lp (F_X11_shotOf_2 g p1) FU (0 : Int32)
def f_X11_stateOf (g : Hp) (p1 : Int32) : Option (Int32) :=
  bnd (f_X11_isKept g p1) (fun u1 =>
  if u1 = 0 then (
  ck (inb p1 40) (
  bnd (f_X11_shotOf g (g 128 (ix p1))) (fun u2 =>
  if u2 = (-1 : Int32) then (
  some (2 : Int32))
  else (
  some (1 : Int32)))))
  else (
  some (0 : Int32)))
def J_X11_overlaps_32 (g : Hp) (p1 : Int32) (r4 : Int32 × Int32 → Option (Int32)) (x3 : Int32) (s0 : Int32) (s1 : Int32) : Option (Int32) :=
  stp ((s0 + s1)) (fun v1 =>
  stp (x3 + 1) (fun v2 =>
  r4 (v1, v2)))
def J_X11_overlaps_31 (g : Hp) (p1 : Int32) (r4 : Int32 × Int32 → Option (Int32)) (x3 : Int32) (s0 : Int32) : Option (Int32) :=
  J_X11_overlaps_32 g p1 r4 x3 s0 (0 : Int32)
def F_X11_overlaps_4 (g : Hp) (p1 : Int32) (r4 : Int32 × Int32 → Option (Int32)) : Int32 × Int32 → Option (Int32) := fun ⟨x2, x3⟩ =>
  bnd (f_X11_words g) (fun u3 =>
  if x3 < u3 then (
  if x3 = p1 then (
  J_X11_overlaps_31 g p1 r4 x3 x2)
  else (
  bnd (f_X11_share g p1 x3) (fun u4 =>
  if u4 = 0 then (
  J_X11_overlaps_31 g p1 r4 x3 x2)
  else (
  J_X11_overlaps_32 g p1 r4 x3 x2 (1 : Int32)))))
  else (
  some x2))
def f_X11_overlaps (g : Hp) (p1 : Int32) : Option (Int32) :=
  Lp (F_X11_overlaps_4 g p1) FU ((0 : Int32), (0 : Int32))
def f_X11_wordField (g : Hp) (p1 : Int32) (p2 : Int32) : Option (Int32 × Hp) :=
  stp (up g 125 0 (0 : Int32)) (fun g1 =>
  bnd (f_X11_noWord g1 p1) (fun u2 =>
  if u2.1 = 0 then (
  if p2 = 0 then (
  bnd (f_X11_of u2.2 p1 (0 : Int32)) (fun u3 =>
  some (u3, u2.2)))
  else (
  if p2 = 1 then (
  bnd (f_X11_of u2.2 p1 (2 : Int32)) (fun u4 =>
  some (u4, u2.2)))
  else (
  if p2 = 2 then (
  bnd (f_X11_of u2.2 p1 (3 : Int32)) (fun u5 =>
  some (u5, u2.2)))
  else (
  if p2 = 3 then (
  ck (inb p1 40) (
  some (u2.2 128 (ix p1), u2.2)))
  else (
  if p2 = 4 then (
  bnd (f_X11_stateOf u2.2 p1) (fun u6 =>
  some (u6, u2.2)))
  else (
  if p2 = 5 then (
  bnd (f_X11_overlaps u2.2 p1) (fun u7 =>
  some (u7, u2.2)))
  else (
  some ((-1 : Int32), u2.2))))))))
  else (
  some ((0 : Int32), u2.2))))
def f_X11_isSameText (g : Hp) (p1 : Int32) (p2 : Int32) : Option (Int32 × Hp) :=
  stp (up g 125 0 (0 : Int32)) (fun g1 =>
  bnd (f_X11_noWord g1 p1) (fun u2 =>
  if u2.1 = 0 then (
  bnd (f_X11_noWord u2.2 p2) (fun u3 =>
  if u3.1 = 0 then (
  bnd (f_X11_of u3.2 p1 (1 : Int32)) (fun u4 =>
  bnd (f_X11_of u3.2 p2 (1 : Int32)) (fun u5 =>
  if u4 = u5 then (
  some ((1 : Int32), u3.2))
  else (
  some ((0 : Int32), u3.2)))))
  else (
  some ((0 : Int32), u3.2))))
  else (
  some ((0 : Int32), u2.2))))
def f_X11_overlap (g : Hp) (p1 : Int32) (p2 : Int32) : Option (Int32 × Hp) :=
  stp (up g 125 0 (0 : Int32)) (fun g1 =>
  bnd (f_X11_noWord g1 p1) (fun u2 =>
  if u2.1 = 0 then (
  bnd (f_X11_noWord u2.2 p2) (fun u3 =>
  if u3.1 = 0 then (
  bnd (f_X11_share u3.2 p1 p2) (fun u4 =>
  if u4 = 0 then (
  some ((0 : Int32), u3.2))
  else (
  some ((1 : Int32), u3.2))))
  else (
  some ((0 : Int32), u3.2))))
  else (
  some ((0 : Int32), u2.2))))
def J_X11_differentTexts_70 (g : Hp) (r9 : Int32 × Int32 → Option (Int32 × Hp)) (x2 : Int32) (s0 : Int32) (s1 : Int32) : Option (Int32 × Hp) :=
  stp ((s0 + s1)) (fun v1 =>
  stp (x2 + 1) (fun v2 =>
  r9 (v1, v2)))
def J_X11_differentTexts_60 (g : Hp) (r9 : Int32 × Int32 → Option (Int32 × Hp)) (x1 : Int32) (x2 : Int32) (x3 : Int32) : Option (Int32 × Hp) :=
  if x3 = 0 then (
  J_X11_differentTexts_70 g r9 x2 x1 (0 : Int32))
  else (
  J_X11_differentTexts_70 g r9 x2 x1 (1 : Int32))
def J_X11_differentTexts_53 (g : Hp) (r9 : Int32 × Int32 → Option (Int32 × Hp)) (r22 : Int32 × Int32 → Option (Int32 × Hp)) (x1 : Int32) (x2 : Int32) (x4 : Int32) (s0 : Int32) : Option (Int32 × Hp) :=
  stp (x4 + 1) (fun v3 =>
  r22 (s0, v3))
def J_X11_differentTexts_52 (g : Hp) (r9 : Int32 × Int32 → Option (Int32 × Hp)) (r22 : Int32 × Int32 → Option (Int32 × Hp)) (x1 : Int32) (x2 : Int32) (x4 : Int32) : Option (Int32 × Hp) :=
  J_X11_differentTexts_53 g r9 r22 x1 x2 x4 (0 : Int32)
def F_X11_differentTexts_22 (g : Hp) (r9 : Int32 × Int32 → Option (Int32 × Hp)) (x1 : Int32) (x2 : Int32) (r22 : Int32 × Int32 → Option (Int32 × Hp)) : Int32 × Int32 → Option (Int32 × Hp) := fun ⟨x3, x4⟩ =>
  if x4 < x2 then (
  if x3 = 0 then (
  J_X11_differentTexts_52 g r9 r22 x1 x2 x4)
  else (
  bnd (f_X11_of g x4 (1 : Int32)) (fun u4 =>
  bnd (f_X11_of g x2 (1 : Int32)) (fun u5 =>
  if u4 = u5 then (
  J_X11_differentTexts_52 g r9 r22 x1 x2 x4)
  else (
  J_X11_differentTexts_53 g r9 r22 x1 x2 x4 (1 : Int32))))))
  else (
  J_X11_differentTexts_60 g r9 x1 x2 x3)
def F_X11_differentTexts_9 (g : Hp) (r9 : Int32 × Int32 → Option (Int32 × Hp)) : Int32 × Int32 → Option (Int32 × Hp) := fun ⟨x1, x2⟩ =>
  bnd (f_X11_words g) (fun u6 =>
  if x2 < u6 then (
  Lp (F_X11_differentTexts_22 g r9 x1 x2) FU ((1 : Int32), (0 : Int32)))
  else (
  some (x1, g)))
def f_X11_differentTexts (g : Hp) : Option (Int32 × Hp) :=
  stp (up g 125 0 (0 : Int32)) (fun g7 =>
  Lp (F_X11_differentTexts_9 g7) FU ((0 : Int32), (0 : Int32)))
def J_X11_keptIn_35 (g : Hp) (p1 : Int32) (r9 : Int32 × Int32 → Option (Int32)) (x3 : Int32) (s0 : Int32) (s1 : Int32) : Option (Int32) :=
  stp ((s0 + s1)) (fun v1 =>
  stp (x3 + 1) (fun v2 =>
  r9 (v1, v2)))
def F_X11_keptIn_9 (g : Hp) (p1 : Int32) (r9 : Int32 × Int32 → Option (Int32)) : Int32 × Int32 → Option (Int32) := fun ⟨x2, x3⟩ =>
  ck (inb (p1 + (1 : Int32)) 41) (
  if x3 < g 131 (ix (p1 + (1 : Int32))) then (
  bnd (f_X11_isKept g x3) (fun u3 =>
  if u3 = 0 then (
  J_X11_keptIn_35 g p1 r9 x3 x2 (0 : Int32))
  else (
  J_X11_keptIn_35 g p1 r9 x3 x2 (1 : Int32))))
  else (
  some x2))
def f_X11_keptIn (g : Hp) (p1 : Int32) : Option (Int32) :=
  ck (inb p1 41) (
  stp (g 131 (ix p1)) (fun v4 =>
  Lp (F_X11_keptIn_9 g p1) FU ((0 : Int32), v4)))
def f_X11_blockField (g : Hp) (p1 : Int32) (p2 : Int32) : Option (Int32 × Hp) :=
  stp (up g 125 0 (0 : Int32)) (fun g1 =>
  bnd (f_X11_noBlock g1 p1) (fun u2 =>
  if u2.1 = 0 then (
  if p2 = 0 then (
  ck (inb p1 40) (
  some (u2.2 129 (ix p1), u2.2)))
  else (
  if p2 = 1 then (
  ck (inb p1 40) (
  some (u2.2 130 (ix p1), u2.2)))
  else (
  if p2 = 2 then (
  ck (inb (p1 + (1 : Int32)) 41) (
  ck (inb p1 41) (
  some ((u2.2 131 (ix (p1 + (1 : Int32))) - u2.2 131 (ix p1)), u2.2))))
  else (
  if p2 = 3 then (
  bnd (f_X11_keptIn u2.2 p1) (fun u3 =>
  some (u3, u2.2)))
  else (
  if p2 = 4 then (
  bnd (f_X11_rangeStart u2.2 p1) (fun u4 =>
  some (u4, u2.2)))
  else (
  if p2 = 5 then (
  bnd (f_X11_rangeEnd u2.2 p1) (fun u5 =>
  some (u5, u2.2)))
  else (
  if p2 = 6 then (
  ck (inb ((81 : Int32) + p1) 161) (
  some (u2.2 134 (ix ((81 : Int32) + p1)), u2.2)))
  else (
  if p2 = 7 then (
  ck (inb ((121 : Int32) + p1) 161) (
  some (u2.2 134 (ix ((121 : Int32) + p1)), u2.2)))
  else (
  if p2 = 8 then (
  bnd (f_X11_shotOf u2.2 p1) (fun u6 =>
  some (u6, u2.2)))
  else (
  some ((-1 : Int32), u2.2)))))))))))
  else (
  some ((0 : Int32), u2.2))))
def F_X11_blockAt_7 (p1 : Int32) (g : Hp) (r7 : Int32 → Option (Int32 × Hp)) : Int32 → Option (Int32 × Hp) := fun x2 =>
  if x2 < g 125 3 then (
  bnd (f_X11_rangeStart g x2) (fun u1 =>
  bnd (f_X11_rangeEnd g x2) (fun u2 =>
  bnd (f_X11_in g p1 u1 (u2 - (1 : Int32))) (fun u3 =>
  if u3 = 0 then (
  stp (x2 + 1) (fun v4 =>
  r7 v4))
  else (
  some (x2, g))))))
  else (
  some ((-1 : Int32), g))
def f_X11_blockAt (g : Hp) (p1 : Int32) : Option (Int32 × Hp) :=
  stp (up g 125 0 (0 : Int32)) (fun g5 =>
  Lp (F_X11_blockAt_7 p1 g5) FU (0 : Int32))
def f_X11_isSnapped (g : Hp) (p1 : Int32) : Option (Int32 × Hp) :=
  stp (up g 125 0 (0 : Int32)) (fun g1 =>
  bnd (f_X11_noBlock g1 p1) (fun u2 =>
  if u2.1 = 0 then (
  ck (inb p1 40) (
  if u2.2 133 (ix p1) = (1 : Int32) then (
  some ((1 : Int32), u2.2))
  else (
  some ((0 : Int32), u2.2))))
  else (
  some ((0 : Int32), u2.2))))
def J_X11_speakersAt_51 (p1 : Int32) (g : Hp) (r9 : Int32 × Int32 → Option (Int32 × Hp)) (x3 : Int32) (s0 : Int32) (s1 : Int32) : Option (Int32 × Hp) :=
  stp ((s0 ||| s1)) (fun v1 =>
  stp (x3 + 1) (fun v2 =>
  r9 (v1, v2)))
def F_X11_speakersAt_9 (p1 : Int32) (g : Hp) (r9 : Int32 × Int32 → Option (Int32 × Hp)) : Int32 × Int32 → Option (Int32 × Hp) := fun ⟨x2, x3⟩ =>
  bnd (f_X11_words g) (fun u3 =>
  if x3 < u3 then (
  bnd (f_X11_of g x3 (2 : Int32)) (fun u4 =>
  bnd (f_X11_of g x3 (3 : Int32)) (fun u5 =>
  bnd (f_X11_in g p1 u4 (u5 - (1 : Int32))) (fun u6 =>
  if u6 = 0 then (
  J_X11_speakersAt_51 p1 g r9 x3 x2 (0 : Int32))
  else (
  bnd (f_X11_of g x3 (0 : Int32)) (fun u7 =>
  J_X11_speakersAt_51 p1 g r9 x3 x2 ((1 : Int32) <<< (u7 &&& 31))))))))
  else (
  some (x2, g)))
def f_X11_speakersAt (g : Hp) (p1 : Int32) : Option (Int32 × Hp) :=
  stp (up g 125 0 (0 : Int32)) (fun g8 =>
  Lp (F_X11_speakersAt_9 p1 g8) FU ((0 : Int32), (0 : Int32)))
def f_X11_shotBlock (g : Hp) (p1 : Int32) : Option (Int32) :=
  ck (inb ((41 : Int32) + p1) 161) (
  some (g 134 (ix ((41 : Int32) + p1))))
def J_X11_playsFrom_31 (g : Hp) (p1 : Int32) (s0 : Int32) (s1 : Int32) : Option (Int32) :=
  some (imax s0 s1)
def f_X11_playsFrom (g : Hp) (p1 : Int32) : Option (Int32) :=
  bnd (f_X11_rangeStart g p1) (fun u1 =>
  ck (inb ((81 : Int32) + p1) 161) (
  if p1 = 0 then (
  J_X11_playsFrom_31 g p1 (u1 - g 134 (ix ((81 : Int32) + p1))) (0 : Int32))
  else (
  ck (inb (p1 - (1 : Int32)) 40) (
  J_X11_playsFrom_31 g p1 (u1 - g 134 (ix ((81 : Int32) + p1))) (g 130 (ix (p1 - (1 : Int32))))))))
def J_X11_playsTo_42 (g : Hp) (p1 : Int32) (s0 : Int32) (s1 : Int32) : Option (Int32) :=
  some (imin s0 s1)
def f_X11_playsTo (g : Hp) (p1 : Int32) : Option (Int32) :=
  bnd (f_X11_rangeEnd g p1) (fun u1 =>
  ck (inb ((121 : Int32) + p1) 161) (
  if p1 = (g 125 3 - (1 : Int32)) then (
  ck (inb (0 : Int32) 193) (
  J_X11_playsTo_42 g p1 (u1 + g 134 (ix ((121 : Int32) + p1))) (g 126 (ix (0 : Int32)))))
  else (
  ck (inb (p1 + (1 : Int32)) 40) (
  J_X11_playsTo_42 g p1 (u1 + g 134 (ix ((121 : Int32) + p1))) (g 129 (ix (p1 + (1 : Int32))))))))
def f_X11_plays (g : Hp) (p1 : Int32) : Option (Int32) :=
  bnd (f_X11_playsTo g p1) (fun u1 =>
  bnd (f_X11_playsFrom g p1) (fun u2 =>
  some (u1 - u2)))
def F_X11_filmStart_4 (g : Hp) (p1 : Int32) (r4 : Int32 × Int32 → Option (Int32)) : Int32 × Int32 → Option (Int32) := fun ⟨x2, x3⟩ =>
  if x3 < p1 then (
  bnd (f_X11_shotBlock g x3) (fun u1 =>
  bnd (f_X11_plays g u1) (fun u2 =>
  stp ((x2 + u2)) (fun v3 =>
  stp (x3 + 1) (fun v4 =>
  r4 (v3, v4))))))
  else (
  some x2)
def f_X11_filmStart (g : Hp) (p1 : Int32) : Option (Int32) :=
  Lp (F_X11_filmStart_4 g p1) FU ((0 : Int32), (0 : Int32))
def f_X11_film (g : Hp) : Option (Int32) :=
  ck (inb (40 : Int32) 161) (
  bnd (f_X11_filmStart g (g 134 (ix (40 : Int32)))) (fun u1 =>
  some u1))
def f_X11_shots (g : Hp) : Option (Int32 × Hp) :=
  stp (up g 125 0 (0 : Int32)) (fun g1 =>
  ck (inb (40 : Int32) 161) (
  some (g1 134 (ix (40 : Int32)), g1)))
def f_X11_blockOf (g : Hp) (p1 : Int32) : Option (Int32 × Hp) :=
  stp (up g 125 0 (0 : Int32)) (fun g1 =>
  bnd (f_X11_noShot g1 p1) (fun u2 =>
  if u2.1 = 0 then (
  bnd (f_X11_shotBlock u2.2 p1) (fun u3 =>
  some (u3, u2.2)))
  else (
  some ((0 : Int32), u2.2))))
def f_X11_shotField (g : Hp) (p1 : Int32) (p2 : Int32) : Option (Int32 × Hp) :=
  stp (up g 125 0 (0 : Int32)) (fun g1 =>
  bnd (f_X11_noShot g1 p1) (fun u2 =>
  if u2.1 = 0 then (
  bnd (f_X11_shotBlock u2.2 p1) (fun u3 =>
  if p2 = 0 then (
  bnd (f_X11_playsFrom u2.2 u3) (fun u6 =>
  some (u6, u2.2)))
  else (
  if p2 = (1 : Int32) then (
  bnd (f_X11_playsTo u2.2 u3) (fun u5 =>
  some (u5, u2.2)))
  else (
  if p2 = (2 : Int32) then (
  bnd (f_X11_filmStart u2.2 p1) (fun u4 =>
  some (u4, u2.2)))
  else (
  some ((-1 : Int32), u2.2))))))
  else (
  some ((0 : Int32), u2.2))))
def f_X11_filmLength (g : Hp) : Option (Int32 × Hp) :=
  stp (up g 125 0 (0 : Int32)) (fun g1 =>
  bnd (f_X11_film g1) (fun u2 =>
  some (u2, g1)))
def f_X11_beginsClip (g : Hp) (p1 : Int32) : Option (Int32) :=
  if p1 = 0 then (
  some (1 : Int32))
  else (
  bnd (f_X11_shotBlock g p1) (fun u1 =>
  bnd (f_X11_playsFrom g u1) (fun u2 =>
  bnd (f_X11_shotBlock g (p1 - (1 : Int32))) (fun u3 =>
  bnd (f_X11_playsTo g u3) (fun u4 =>
  if u2 = u4 then (
  some (0 : Int32))
  else (
  some (1 : Int32)))))))
def J_X11_clips_34 (g : Hp) (r9 : Int32 × Int32 → Option (Int32 × Hp)) (x2 : Int32) (s0 : Int32) (s1 : Int32) : Option (Int32 × Hp) :=
  stp ((s0 + s1)) (fun v1 =>
  stp (x2 + 1) (fun v2 =>
  r9 (v1, v2)))
def F_X11_clips_9 (g : Hp) (r9 : Int32 × Int32 → Option (Int32 × Hp)) : Int32 × Int32 → Option (Int32 × Hp) := fun ⟨x1, x2⟩ =>
  ck (inb (40 : Int32) 161) (
  if x2 < g 134 (ix (40 : Int32)) then (
  bnd (f_X11_beginsClip g x2) (fun u3 =>
  if u3 = 0 then (
  J_X11_clips_34 g r9 x2 x1 (0 : Int32))
  else (
  J_X11_clips_34 g r9 x2 x1 (1 : Int32))))
  else (
  some (x1, g)))
def f_X11_clips (g : Hp) : Option (Int32 × Hp) :=
  stp (up g 125 0 (0 : Int32)) (fun g4 =>
  Lp (F_X11_clips_9 g4) FU ((0 : Int32), (0 : Int32)))
def J_X11_clipAt_36 (g : Hp) (p1 : Int32) (r4 : Int32 × Int32 → Option (Int32)) (x2 : Int32) (x3 : Int32) : Option (Int32) :=
  stp (x3 + 1) (fun v1 =>
  r4 (x2, v1))
def F_X11_clipAt_4 (g : Hp) (p1 : Int32) (r4 : Int32 × Int32 → Option (Int32)) : Int32 × Int32 → Option (Int32) := fun ⟨x2, x3⟩ =>
  ck (inb (40 : Int32) 161) (
  if x3 < g 134 (ix (40 : Int32)) then (
  bnd (f_X11_beginsClip g x3) (fun u2 =>
  if u2 = 0 then (
  J_X11_clipAt_36 g p1 r4 x2 x3)
  else (
  if x2 = p1 then (
  some x3)
  else (
  stp (x2 + 1) (fun v3 =>
  J_X11_clipAt_36 g p1 r4 v3 x3)))))
  else (
  some (-1 : Int32)))
def f_X11_clipAt (g : Hp) (p1 : Int32) : Option (Int32) :=
  Lp (F_X11_clipAt_4 g p1) FU ((0 : Int32), (0 : Int32))
def J_X11_clipField_52 (p1 : Int32) (p2 : Int32) (g : Hp) (x3 : Int32) (x4 : Int32) : Option (Int32 × Hp) :=
  if p2 = 0 then (
  bnd (f_X11_shotBlock g x3) (fun u1 =>
  bnd (f_X11_playsFrom g u1) (fun u2 =>
  some (u2, g))))
  else (
  if p2 = 1 then (
  bnd (f_X11_shotBlock g x4) (fun u3 =>
  bnd (f_X11_playsTo g u3) (fun u4 =>
  some (u4, g))))
  else (
  if p2 = 2 then (
  bnd (f_X11_filmStart g x3) (fun u5 =>
  some (u5, g)))
  else (
  if p2 = 3 then (
  some (((x4 - x3) + (1 : Int32)), g))
  else (
  some ((-1 : Int32), g)))))
def F_X11_clipField_21 (p1 : Int32) (p2 : Int32) (g : Hp) (x3 : Int32) (r21 : Int32 → Option (Int32 × Hp)) : Int32 → Option (Int32 × Hp) := fun x4 =>
  ck (inb (40 : Int32) 161) (
  if (x4 + (1 : Int32)) < g 134 (ix (40 : Int32)) then (
  bnd (f_X11_beginsClip g (x4 + (1 : Int32))) (fun u6 =>
  if u6 = 0 then (
  stp (x4 + 1) (fun v7 =>
  r21 v7))
  else (
  J_X11_clipField_52 p1 p2 g x3 x4)))
  else (
  J_X11_clipField_52 p1 p2 g x3 x4))
def f_X11_clipField (g : Hp) (p1 : Int32) (p2 : Int32) : Option (Int32 × Hp) :=
  stp (up g 125 0 (0 : Int32)) (fun g8 =>
  bnd (f_X11_clipAt g8 p1) (fun u9 =>
  if u9 = (-1 : Int32) then (
  some ((-1 : Int32), g8))
  else (
  Lp (F_X11_clipField_21 p1 p2 g8 u9) FU u9)))
def J_X11_finds_36 (p1 : Int32) (g : Hp) (x2 : Int32) (x3 : Int32) (x4 : Int32) : Option (Int32 × Hp) :=
  stp (up g 125 30 x3) (fun g1 =>
  bnd (f_X11_playsFrom g1 x4) (fun u2 =>
  stp (up g1 125 31 (u2 + x2)) (fun g3 =>
  some ((1 : Int32), g3))))
def F_X11_finds_4 (p1 : Int32) (g : Hp) (r4 : Int32 × Int32 → Option (Int32 × Hp)) : Int32 × Int32 → Option (Int32 × Hp) := fun ⟨x2, x3⟩ =>
  ck (inb (40 : Int32) 161) (
  if x3 < g 134 (ix (40 : Int32)) then (
  if x2 < 0 then (
  some ((0 : Int32), g))
  else (
  bnd (f_X11_shotBlock g x3) (fun u4 =>
  bnd (f_X11_plays g u4) (fun u5 =>
  if x2 < u5 then (
  J_X11_finds_36 p1 g x2 x3 u4)
  else (
  bnd (f_X11_plays g u4) (fun u6 =>
  stp ((x2 - u6)) (fun v7 =>
  stp (x3 + 1) (fun v8 =>
  r4 (v7, v8)))))))))
  else (
  some ((0 : Int32), g)))
def f_X11_finds (g : Hp) (p1 : Int32) : Option (Int32 × Hp) :=
  Lp (F_X11_finds_4 p1 g) FU (p1, (0 : Int32))
def f_X11_sourceOf (g : Hp) (p1 : Int32) : Option (Int32 × Hp) :=
  stp (up g 125 0 (0 : Int32)) (fun g1 =>
  bnd (f_X11_finds g1 p1) (fun u2 =>
  if u2.1 = 0 then (
  some ((-1 : Int32), u2.2))
  else (
  some (u2.2 125 31, u2.2))))
def J_X11_heardBy_89 (g : Hp) (p1 : Int32) (r16 : Int32 → Option (Int32)) (x2 : Int32) (x3 : Int32) : Option (Int32) :=
  stp (x3 + 1) (fun v1 =>
  r16 v1)
def J_X11_heardBy_48 (g : Hp) (p1 : Int32) (r16 : Int32 → Option (Int32)) (x2 : Int32) (x3 : Int32) (s0 : Int32) : Option (Int32) :=
  if s0 = 0 then (
  J_X11_heardBy_89 g p1 r16 x2 x3)
  else (
  bnd (f_X11_isKept g x3) (fun u2 =>
  if u2 = 0 then (
  J_X11_heardBy_89 g p1 r16 x2 x3)
  else (
  bnd (f_X11_of g x3 (2 : Int32)) (fun u3 =>
  bnd (f_X11_of g x3 (3 : Int32)) (fun u4 =>
  bnd (f_X11_in g (g 125 31) u3 (u4 - (1 : Int32))) (fun u5 =>
  if u5 = 0 then (
  J_X11_heardBy_89 g p1 r16 x2 x3)
  else (
  some x3)))))))
def J_X11_heardBy_43 (g : Hp) (p1 : Int32) (r16 : Int32 → Option (Int32)) (x2 : Int32) (x3 : Int32) : Option (Int32) :=
  J_X11_heardBy_48 g p1 r16 x2 x3 (1 : Int32)
def F_X11_heardBy_16 (g : Hp) (p1 : Int32) (x2 : Int32) (r16 : Int32 → Option (Int32)) : Int32 → Option (Int32) := fun x3 =>
  ck (inb (x2 + (1 : Int32)) 41) (
  if x3 < g 131 (ix (x2 + (1 : Int32))) then (
  if p1 = (-1 : Int32) then (
  J_X11_heardBy_43 g p1 r16 x2 x3)
  else (
  bnd (f_X11_of g x3 (0 : Int32)) (fun u6 =>
  if u6 = p1 then (
  J_X11_heardBy_43 g p1 r16 x2 x3)
  else (
  J_X11_heardBy_48 g p1 r16 x2 x3 (0 : Int32)))))
  else (
  some (-1 : Int32)))
def f_X11_heardBy (g : Hp) (p1 : Int32) : Option (Int32) :=
  bnd (f_X11_shotBlock g (g 125 30)) (fun u7 =>
  ck (inb u7 41) (
  stp (g 131 (ix u7)) (fun v8 =>
  Lp (F_X11_heardBy_16 g p1 u7) FU v8)))
def f_X11_heard (g : Hp) (p1 : Int32) (p2 : Int32) : Option (Int32 × Hp) :=
  stp (up g 125 0 (0 : Int32)) (fun g1 =>
  bnd (f_X11_noSpeaker g1 p2) (fun u2 =>
  if u2.1 = 0 then (
  bnd (f_X11_finds u2.2 p1) (fun u3 =>
  if u3.1 = 0 then (
  some ((-1 : Int32), u3.2))
  else (
  bnd (f_X11_heardBy u3.2 p2) (fun u4 =>
  some (u4, u3.2)))))
  else (
  some ((0 : Int32), u2.2))))
def J_X11_countsSilence_130 (g : Hp) (r14 : Int32 × Int32 × Hp → Option (Hp)) (x1 : Int32) (x2 : Int32) : Option (Hp) :=
  stp (x2 + 1) (fun v1 =>
  r14 (x1, v1, g))
def J_X11_countsSilence_104 (g : Hp) (r14 : Int32 × Int32 × Hp → Option (Hp)) (r45 : Int32 × Hp → Option (Hp)) (x2 : Int32) (x3 : Int32) (s0 : Int32) : Option (Hp) :=
  stp (up g 125 33 (imax (g 125 33) s0)) (fun g2 =>
  stp (up g2 125 31 (g2 125 31 + (1 : Int32))) (fun g3 =>
  r45 (s0, g3)))
def J_X11_countsSilence_88 (g : Hp) (r14 : Int32 × Int32 × Hp → Option (Hp)) (r45 : Int32 × Hp → Option (Hp)) (x1 : Int32) (x2 : Int32) (x3 : Int32) (x4 : Int32) (s1 : Int32) (s2 : Int32) : Option (Hp) :=
  stp (up g 125 32 (s1 + s2)) (fun g4 =>
  if x4 = 0 then (
  J_X11_countsSilence_104 g4 r14 r45 x2 x3 (0 : Int32))
  else (
  J_X11_countsSilence_104 g4 r14 r45 x2 x3 (x1 + (1 : Int32))))
def J_X11_countsSilence_71 (g : Hp) (r14 : Int32 × Int32 × Hp → Option (Hp)) (r45 : Int32 × Hp → Option (Hp)) (x1 : Int32) (x2 : Int32) (x3 : Int32) (s0 : Int32) : Option (Hp) :=
  if s0 = 0 then (
  J_X11_countsSilence_88 g r14 r45 x1 x2 x3 s0 (g 125 32) (0 : Int32))
  else (
  J_X11_countsSilence_88 g r14 r45 x1 x2 x3 s0 (g 125 32) (1 : Int32))
def F_X11_countsSilence_45 (r14 : Int32 × Int32 × Hp → Option (Hp)) (x2 : Int32) (x3 : Int32) (r45 : Int32 × Hp → Option (Hp)) : Int32 × Hp → Option (Hp) := fun ⟨x1, g⟩ =>
  bnd (f_X11_playsTo g x3) (fun u5 =>
  if g 125 31 < u5 then (
  bnd (f_X11_heardBy g (-1 : Int32)) (fun u6 =>
  if u6 = (-1 : Int32) then (
  J_X11_countsSilence_71 g r14 r45 x1 x2 x3 (1 : Int32))
  else (
  J_X11_countsSilence_71 g r14 r45 x1 x2 x3 (0 : Int32))))
  else (
  J_X11_countsSilence_130 g r14 x1 x2))
def F_X11_countsSilence_14 (r14 : Int32 × Int32 × Hp → Option (Hp)) : Int32 × Int32 × Hp → Option (Hp) := fun ⟨x1, x2, g⟩ =>
  ck (inb (40 : Int32) 161) (
  if x2 < g 134 (ix (40 : Int32)) then (
  stp (up g 125 30 x2) (fun g7 =>
  bnd (f_X11_shotBlock g7 x2) (fun u8 =>
  bnd (f_X11_playsFrom g7 u8) (fun u9 =>
  stp (up g7 125 31 u9) (fun g10 =>
  Lp (F_X11_countsSilence_45 r14 x2 u8) FU (x1, g10))))))
  else (
  some g))
def f_X11_countsSilence (g : Hp) : Option (Hp) :=
  stp (up g 125 32 (0 : Int32)) (fun g11 =>
  stp (up g11 125 33 (0 : Int32)) (fun g12 =>
  Lp (F_X11_countsSilence_14) FU ((0 : Int32), (0 : Int32), g12)))
def f_X11_silence (g : Hp) : Option (Int32 × Hp) :=
  stp (up g 125 0 (0 : Int32)) (fun g1 =>
  bnd (f_X11_countsSilence g1) (fun u2 =>
  some (u2 125 32, u2)))
def f_X11_longestSilence (g : Hp) : Option (Int32 × Hp) :=
  stp (up g 125 0 (0 : Int32)) (fun g1 =>
  bnd (f_X11_countsSilence g1) (fun u2 =>
  some (u2 125 33, u2)))
def J_X11_speakingTime_63 (p1 : Int32) (g : Hp) (r19 : Int32 × Int32 → Option (Int32 × Hp)) (x3 : Int32) (s0 : Int32) (s1 : Int32) : Option (Int32 × Hp) :=
  stp ((s0 + s1)) (fun v1 =>
  stp (x3 + 1) (fun v2 =>
  r19 (v1, v2)))
def J_X11_speakingTime_62 (p1 : Int32) (g : Hp) (r19 : Int32 × Int32 → Option (Int32 × Hp)) (x3 : Int32) (s0 : Int32) : Option (Int32 × Hp) :=
  J_X11_speakingTime_63 p1 g r19 x3 s0 (0 : Int32)
def F_X11_speakingTime_19 (p1 : Int32) (g : Hp) (r19 : Int32 × Int32 → Option (Int32 × Hp)) : Int32 × Int32 → Option (Int32 × Hp) := fun ⟨x2, x3⟩ =>
  bnd (f_X11_words g) (fun u3 =>
  if x3 < u3 then (
  bnd (f_X11_isKept g x3) (fun u4 =>
  if u4 = 0 then (
  J_X11_speakingTime_62 p1 g r19 x3 x2)
  else (
  bnd (f_X11_of g x3 (0 : Int32)) (fun u5 =>
  if u5 = p1 then (
  bnd (f_X11_of g x3 (3 : Int32)) (fun u6 =>
  bnd (f_X11_of g x3 (2 : Int32)) (fun u7 =>
  J_X11_speakingTime_63 p1 g r19 x3 x2 (u6 - u7))))
  else (
  J_X11_speakingTime_62 p1 g r19 x3 x2)))))
  else (
  some (x2, g)))
def f_X11_speakingTime (g : Hp) (p1 : Int32) : Option (Int32 × Hp) :=
  stp (up g 125 0 (0 : Int32)) (fun g8 =>
  bnd (f_X11_noSpeaker g8 p1) (fun u9 =>
  if u9.1 = 0 then (
  Lp (F_X11_speakingTime_19 p1 u9.2) FU ((0 : Int32), (0 : Int32)))
  else (
  some ((0 : Int32), u9.2))))
def J_X11_laysRow_90 (g : Hp) (r7 : Int32 × Hp → Option (Hp)) (x1 : Int32) : Option (Hp) :=
  stp (x1 + 1) (fun v1 =>
  r7 (v1, g))
def J_X11_laysRow_84 (g : Hp) (r7 : Int32 × Hp → Option (Hp)) (r31 : Int32 × Hp → Option (Hp)) (x1 : Int32) (x2 : Int32) (x3 : Int32) : Option (Hp) :=
  stp (x3 + 1) (fun v2 =>
  r31 (v2, g))
def F_X11_laysRow_31 (r7 : Int32 × Hp → Option (Hp)) (x1 : Int32) (x2 : Int32) (r31 : Int32 × Hp → Option (Hp)) : Int32 × Hp → Option (Hp) := fun ⟨x3, g⟩ =>
  ck (inb (x2 + (1 : Int32)) 41) (
  if x3 < g 131 (ix (x2 + (1 : Int32))) then (
  bnd (f_X11_isKept g x3) (fun u3 =>
  if u3 = 0 then (
  J_X11_laysRow_84 g r7 r31 x1 x2 x3)
  else (
  ck (inb (g 125 36) 40) (stp (up g 141 (ix (g 125 36)) x3) (fun g4 =>
  ck (inb (g4 125 36) 40) (stp (up g4 142 (ix (g4 125 36)) x1) (fun g5 =>
  stp (up g5 125 36 (g5 125 36 + (1 : Int32))) (fun g6 =>
  J_X11_laysRow_84 g6 r7 r31 x1 x2 x3))))))))
  else (
  J_X11_laysRow_90 g r7 x1))
def F_X11_laysRow_7 (r7 : Int32 × Hp → Option (Hp)) : Int32 × Hp → Option (Hp) := fun ⟨x1, g⟩ =>
  ck (inb (40 : Int32) 161) (
  if x1 < g 134 (ix (40 : Int32)) then (
  bnd (f_X11_shotBlock g x1) (fun u7 =>
  ck (inb u7 41) (
  stp (g 131 (ix u7)) (fun v8 =>
  Lp (F_X11_laysRow_31 r7 x1 u7) FU (v8, g)))))
  else (
  some g))
def f_X11_laysRow (g : Hp) : Option (Hp) :=
  stp (up g 125 36 (0 : Int32)) (fun g9 =>
  Lp (F_X11_laysRow_7) FU ((0 : Int32), g9))
def f_X11_transcriptSize (g : Hp) : Option (Int32 × Hp) :=
  stp (up g 125 0 (0 : Int32)) (fun g1 =>
  bnd (f_X11_laysRow g1) (fun u2 =>
  some (u2 125 36, u2)))
def f_X11_transcriptWord (g : Hp) (p1 : Int32) : Option (Int32 × Hp) :=
  stp (up g 125 0 (0 : Int32)) (fun g1 =>
  bnd (f_X11_laysRow g1) (fun u2 =>
  bnd (f_X11_in u2 p1 (0 : Int32) (u2 125 36 - (1 : Int32))) (fun u3 =>
  if u3 = 0 then (
  some ((-1 : Int32), u2))
  else (
  ck (inb p1 40) (
  some (u2 141 (ix p1), u2))))))
def F_X11_placeOf_21 (p1 : Int32) (g : Hp) (r21 : Int32 → Option (Int32 × Hp)) : Int32 → Option (Int32 × Hp) := fun x2 =>
  if x2 < g 125 36 then (
  ck (inb x2 40) (
  if g 141 (ix x2) = p1 then (
  some (x2, g))
  else (
  stp (x2 + 1) (fun v1 =>
  r21 v1))))
  else (
  some ((-1 : Int32), g))
def f_X11_placeOf (g : Hp) (p1 : Int32) : Option (Int32 × Hp) :=
  stp (up g 125 0 (0 : Int32)) (fun g2 =>
  bnd (f_X11_noWord g2 p1) (fun u3 =>
  if u3.1 = 0 then (
  bnd (f_X11_laysRow u3.2) (fun u4 =>
  Lp (F_X11_placeOf_21 p1 u4) FU (0 : Int32)))
  else (
  some ((0 : Int32), u3.2))))
def f_X11_startInFilm (g : Hp) (p1 : Int32) : Option (Int32 × Hp) :=
  stp (up g 125 0 (0 : Int32)) (fun g1 =>
  bnd (f_X11_noWord g1 p1) (fun u2 =>
  if u2.1 = 0 then (
  bnd (f_X11_isKept u2.2 p1) (fun u3 =>
  if u3 = 0 then (
  some ((-1 : Int32), u2.2))
  else (
  ck (inb p1 40) (
  stp (u2.2 128 (ix p1)) (fun v4 =>
  bnd (f_X11_shotOf u2.2 v4) (fun u5 =>
  bnd (f_X11_filmStart u2.2 u5) (fun u6 =>
  bnd (f_X11_of u2.2 p1 (2 : Int32)) (fun u7 =>
  bnd (f_X11_playsFrom u2.2 v4) (fun u8 =>
  some (((u6 + u7) - u8), u2.2))))))))))
  else (
  some ((0 : Int32), u2.2))))
def J_X11_occurrences_57 (p1 : Int32) (g : Hp) (r23 : Int32 × Int32 → Option (Int32 × Hp)) (x3 : Int32) (s0 : Int32) (s1 : Int32) : Option (Int32 × Hp) :=
  stp ((s0 + s1)) (fun v1 =>
  stp (x3 + 1) (fun v2 =>
  r23 (v1, v2)))
def F_X11_occurrences_23 (p1 : Int32) (g : Hp) (r23 : Int32 × Int32 → Option (Int32 × Hp)) : Int32 × Int32 → Option (Int32 × Hp) := fun ⟨x2, x3⟩ =>
  if x3 < g 125 36 then (
  ck (inb x3 40) (
  bnd (f_X11_of g (g 141 (ix x3)) (1 : Int32)) (fun u3 =>
  bnd (f_X11_of g p1 (1 : Int32)) (fun u4 =>
  if u3 = u4 then (
  J_X11_occurrences_57 p1 g r23 x3 x2 (1 : Int32))
  else (
  J_X11_occurrences_57 p1 g r23 x3 x2 (0 : Int32))))))
  else (
  some (x2, g))
def f_X11_occurrences (g : Hp) (p1 : Int32) : Option (Int32 × Hp) :=
  stp (up g 125 0 (0 : Int32)) (fun g5 =>
  bnd (f_X11_noWord g5 p1) (fun u6 =>
  if u6.1 = 0 then (
  bnd (f_X11_laysRow u6.2) (fun u7 =>
  Lp (F_X11_occurrences_23 p1 u7) FU ((0 : Int32), (0 : Int32))))
  else (
  some ((0 : Int32), u6.2))))
def J_X11_stutters_56 (g : Hp) (r13 : Int32 × Int32 → Option (Int32 × Hp)) (x2 : Int32) (s0 : Int32) (s1 : Int32) : Option (Int32 × Hp) :=
  stp ((s0 + s1)) (fun v1 =>
  stp (x2 + 1) (fun v2 =>
  r13 (v1, v2)))
def F_X11_stutters_13 (g : Hp) (r13 : Int32 × Int32 → Option (Int32 × Hp)) : Int32 × Int32 → Option (Int32 × Hp) := fun ⟨x1, x2⟩ =>
  if (x2 + (1 : Int32)) < g 125 36 then (
  ck (inb x2 40) (
  bnd (f_X11_of g (g 141 (ix x2)) (1 : Int32)) (fun u3 =>
  ck (inb (x2 + (1 : Int32)) 40) (
  bnd (f_X11_of g (g 141 (ix (x2 + (1 : Int32)))) (1 : Int32)) (fun u4 =>
  if u3 = u4 then (
  J_X11_stutters_56 g r13 x2 x1 (1 : Int32))
  else (
  J_X11_stutters_56 g r13 x2 x1 (0 : Int32)))))))
  else (
  some (x1, g))
def f_X11_stutters (g : Hp) : Option (Int32 × Hp) :=
  stp (up g 125 0 (0 : Int32)) (fun g5 =>
  bnd (f_X11_laysRow g5) (fun u6 =>
  Lp (F_X11_stutters_13 u6) FU ((0 : Int32), (0 : Int32))))
def F_X11_takesOut_19 (p1 : Int32) (r19 : Int32 × Hp → Option (Hp)) : Int32 × Hp → Option (Hp) := fun ⟨x2, g⟩ =>
  ck (inb (40 : Int32) 161) (
  if x2 < g 134 (ix (40 : Int32)) then (
  ck (inb (((41 : Int32) + x2) + (1 : Int32)) 161) (
  ck (inb ((41 : Int32) + x2) 161) (stp (up g 134 (ix ((41 : Int32) + x2)) (g 134 (ix (((41 : Int32) + x2) + (1 : Int32))))) (fun g1 =>
  stp (x2 + 1) (fun v2 =>
  r19 (v2, g1))))))
  else (
  some g))
def f_X11_takesOut (g : Hp) (p1 : Int32) : Option (Hp) :=
  if p1 = (-1 : Int32) then (
  some g)
  else (
  ck (inb (40 : Int32) 161) (
  ck (inb (40 : Int32) 161) (stp (up g 134 (ix (40 : Int32)) (g 134 (ix (40 : Int32)) - (1 : Int32))) (fun g3 =>
  Lp (F_X11_takesOut_19 p1) FU (p1, g3)))))
def f_X11_cutsWord (g : Hp) (p1 : Int32) : Option (Hp) :=
  ck (inb ((0 : Int32) + p1) 161) (stp (up g 134 (ix ((0 : Int32) + p1)) (1 : Int32)) (fun g1 =>
  ck (inb p1 40) (
  stp (g1 128 (ix p1)) (fun v2 =>
  bnd (f_X11_keptIn g1 v2) (fun u3 =>
  if u3 = 0 then (
  bnd (f_X11_shotOf g1 v2) (fun u4 =>
  bnd (f_X11_takesOut g1 u4) (fun u5 =>
  some u5)))
  else (
  some g1))))))
def J_X11_putsIn_39 (p1 : Int32) (p2 : Int32) (g : Hp) : Option (Hp) :=
  ck (inb ((41 : Int32) + p1) 161) (stp (up g 134 (ix ((41 : Int32) + p1)) p2) (fun g1 =>
  ck (inb (40 : Int32) 161) (
  ck (inb (40 : Int32) 161) (stp (up g1 134 (ix (40 : Int32)) (g1 134 (ix (40 : Int32)) + (1 : Int32))) (fun g2 =>
  some g2)))))
def F_X11_putsIn_8 (p1 : Int32) (p2 : Int32) (r8 : Int32 × Hp → Option (Hp)) : Int32 × Hp → Option (Hp) := fun ⟨x3, g⟩ =>
  if p1 < x3 then (
  ck (inb (((41 : Int32) + x3) - (1 : Int32)) 161) (
  ck (inb ((41 : Int32) + x3) 161) (stp (up g 134 (ix ((41 : Int32) + x3)) (g 134 (ix (((41 : Int32) + x3) - (1 : Int32))))) (fun g3 =>
  stp (x3 + (-1)) (fun v4 =>
  r8 (v4, g3))))))
  else (
  J_X11_putsIn_39 p1 p2 g)
def f_X11_putsIn (g : Hp) (p1 : Int32) (p2 : Int32) : Option (Hp) :=
  ck (inb (40 : Int32) 161) (
  stp (g 134 (ix (40 : Int32))) (fun v5 =>
  Lp (F_X11_putsIn_8 p1 p2) FU (v5, g)))
def F_X11_cutsPlaces_6 (p1 : Int32) (p2 : Int32) (r6 : Int32 × Hp → Option (Hp)) : Int32 × Hp → Option (Hp) := fun ⟨x3, g⟩ =>
  if p2 < x3 then (
  some g)
  else (
  ck (inb x3 40) (
  bnd (f_X11_cutsWord g (g 141 (ix x3))) (fun u1 =>
  stp (x3 + 1) (fun v2 =>
  r6 (v2, u1)))))
def f_X11_cutsPlaces (g : Hp) (p1 : Int32) (p2 : Int32) : Option (Hp) :=
  bnd (f_X11_laysRow g) (fun u3 =>
  Lp (F_X11_cutsPlaces_6 p1 p2) FU (p1, u3))
def J_X11_restoresWord_81 (p1 : Int32) (g : Hp) (x2 : Int32) (x3 : Int32) : Option (Hp) :=
  bnd (f_X11_putsIn g (x3 + (1 : Int32)) x2) (fun u1 =>
  ck (inb ((81 : Int32) + x2) 161) (stp (up u1 134 (ix ((81 : Int32) + x2)) (0 : Int32)) (fun g2 =>
  ck (inb ((121 : Int32) + x2) 161) (stp (up g2 134 (ix ((121 : Int32) + x2)) (0 : Int32)) (fun g3 =>
  some g3)))))
def J_X11_restoresWord_75 (p1 : Int32) (g : Hp) (r31 : Int32 × Int32 → Option (Hp)) (x2 : Int32) (x3 : Int32) (x4 : Int32) : Option (Hp) :=
  stp (x4 + 1) (fun v4 =>
  r31 (x3, v4))
def J_X11_restoresWord_72 (p1 : Int32) (g : Hp) (r31 : Int32 × Int32 → Option (Hp)) (x2 : Int32) (x4 : Int32) : Option (Hp) :=
  J_X11_restoresWord_75 p1 g r31 x2 x4 x4
def F_X11_restoresWord_31 (p1 : Int32) (g : Hp) (x2 : Int32) (r31 : Int32 × Int32 → Option (Hp)) : Int32 × Int32 → Option (Hp) := fun ⟨x3, x4⟩ =>
  ck (inb (40 : Int32) 161) (
  if x4 < g 134 (ix (40 : Int32)) then (
  bnd (f_X11_shotBlock g x4) (fun u5 =>
  if u5 < x2 then (
  if x3 = (-1 : Int32) then (
  J_X11_restoresWord_72 p1 g r31 x2 x4)
  else (
  bnd (f_X11_shotBlock g x3) (fun u6 =>
  if u6 < u5 then (
  J_X11_restoresWord_72 p1 g r31 x2 x4)
  else (
  J_X11_restoresWord_75 p1 g r31 x2 x3 x4))))
  else (
  J_X11_restoresWord_75 p1 g r31 x2 x3 x4)))
  else (
  J_X11_restoresWord_81 p1 g x2 x3))
def f_X11_restoresWord (g : Hp) (p1 : Int32) : Option (Hp) :=
  ck (inb ((0 : Int32) + p1) 161) (stp (up g 134 (ix ((0 : Int32) + p1)) (0 : Int32)) (fun g7 =>
  ck (inb p1 40) (
  stp (g7 128 (ix p1)) (fun v8 =>
  bnd (f_X11_shotOf g7 v8) (fun u9 =>
  if u9 = (-1 : Int32) then (
  Lp (F_X11_restoresWord_31 p1 g7 v8) FU ((-1 : Int32), (0 : Int32)))
  else (
  some g7))))))
def J_X11_restoresAll_32 (p1 : Int32) (p2 : Int32) (g : Hp) (r5 : Int32 × Int32 × Hp → Option (Int32 × Hp)) (x3 : Int32) (x4 : Int32) : Option (Int32 × Hp) :=
  stp (x4 + 1) (fun v1 =>
  r5 (x3, v1, g))
def F_X11_restoresAll_5 (p1 : Int32) (p2 : Int32) (r5 : Int32 × Int32 × Hp → Option (Int32 × Hp)) : Int32 × Int32 × Hp → Option (Int32 × Hp) := fun ⟨x3, x4, g⟩ =>
  if p2 < x4 then (
  some (x3, g))
  else (
  bnd (f_X11_isKept g x4) (fun u2 =>
  if u2 = 0 then (
  bnd (f_X11_restoresWord g x4) (fun u3 =>
  stp (x3 + 1) (fun v4 =>
  J_X11_restoresAll_32 p1 p2 u3 r5 v4 x4)))
  else (
  J_X11_restoresAll_32 p1 p2 g r5 x3 x4)))
def f_X11_restoresAll (g : Hp) (p1 : Int32) (p2 : Int32) : Option (Int32 × Hp) :=
  Lp (F_X11_restoresAll_5 p1 p2) FU ((0 : Int32), p1, g)
def J_X11_movesAll_110 (p1 : Int32) (p2 : Int32) (p3 : Int32) (g : Hp) (x4 : Int32) (x5 : Int32) : Option (Int32 × Hp) :=
  ck (inb (0 : Int32) 40) (
  ck (inb (1 : Int32) 193) (
  ck (inb ((81 : Int32) + g 143 (ix (0 : Int32))) 161) (stp (up g 134 (ix ((81 : Int32) + g 143 (ix (0 : Int32)))) (g 126 (ix (1 : Int32)))) (fun g1 =>
  ck (inb (x4 - (1 : Int32)) 40) (
  ck (inb (1 : Int32) 193) (
  ck (inb ((121 : Int32) + g1 143 (ix (x4 - (1 : Int32)))) 161) (stp (up g1 134 (ix ((121 : Int32) + g1 143 (ix (x4 - (1 : Int32))))) (g1 126 (ix (1 : Int32)))) (fun g2 =>
  some (x5, g2)))))))))
def F_X11_movesAll_81 (p1 : Int32) (p2 : Int32) (p3 : Int32) (x4 : Int32) (x5 : Int32) (r81 : Int32 × Hp → Option (Int32 × Hp)) : Int32 × Hp → Option (Int32 × Hp) := fun ⟨x6, g⟩ =>
  if x6 < x4 then (
  ck (inb x6 40) (
  bnd (f_X11_putsIn g (x5 + x6) (g 143 (ix x6))) (fun u3 =>
  stp (x6 + 1) (fun v4 =>
  r81 (v4, u3)))))
  else (
  J_X11_movesAll_110 p1 p2 p3 g x4 x5)
def J_X11_movesAll_76 (p1 : Int32) (p2 : Int32) (p3 : Int32) (g : Hp) (x4 : Int32) (s0 : Int32) : Option (Int32 × Hp) :=
  Lp (F_X11_movesAll_81 p1 p2 p3 x4 s0) FU ((0 : Int32), g)
def J_X11_movesAll_59 (p1 : Int32) (p2 : Int32) (p3 : Int32) (g : Hp) (x4 : Int32) : Option (Int32 × Hp) :=
  if p3 < p1 then (
  J_X11_movesAll_76 p1 p2 p3 g x4 (p3 + (1 : Int32)))
  else (
  J_X11_movesAll_76 p1 p2 p3 g x4 ((p3 + (1 : Int32)) - x4))
def F_X11_movesAll_41 (p1 : Int32) (p2 : Int32) (p3 : Int32) (x4 : Int32) (r41 : Int32 × Hp → Option (Int32 × Hp)) : Int32 × Hp → Option (Int32 × Hp) := fun ⟨x5, g⟩ =>
  if x5 < x4 then (
  bnd (f_X11_takesOut g p1) (fun u5 =>
  stp (x5 + 1) (fun v6 =>
  r41 (v6, u5))))
  else (
  J_X11_movesAll_59 p1 p2 p3 g x4)
def J_X11_movesAll_38 (p1 : Int32) (p2 : Int32) (p3 : Int32) (g : Hp) (x4 : Int32) : Option (Int32 × Hp) :=
  Lp (F_X11_movesAll_41 p1 p2 p3 x4) FU ((0 : Int32), g)
def F_X11_movesAll_10 (p1 : Int32) (p2 : Int32) (p3 : Int32) (x4 : Int32) (r10 : Int32 × Hp → Option (Int32 × Hp)) : Int32 × Hp → Option (Int32 × Hp) := fun ⟨x5, g⟩ =>
  if x5 < x4 then (
  bnd (f_X11_shotBlock g (p1 + x5)) (fun u7 =>
  ck (inb x5 40) (stp (up g 143 (ix x5) u7) (fun g8 =>
  stp (x5 + 1) (fun v9 =>
  r10 (v9, g8))))))
  else (
  J_X11_movesAll_38 p1 p2 p3 g x4)
def f_X11_movesAll (g : Hp) (p1 : Int32) (p2 : Int32) (p3 : Int32) : Option (Int32 × Hp) :=
  stp (((p2 - p1) + (1 : Int32))) (fun v10 =>
  Lp (F_X11_movesAll_10 p1 p2 p3 v10) FU ((0 : Int32), g))
def J_X11_noPlaces_38 (p1 : Int32) (p2 : Int32) (g : Hp) (s1 : Int32) : Option (Int32 × Hp) :=
  bnd (f_X11_throwsIf g s1 (1 : Int32)) (fun u1 =>
  ck (zb u1.1) (some (u1.1, u1.2)))
def J_X11_noPlaces_33 (p1 : Int32) (p2 : Int32) (g : Hp) : Option (Int32 × Hp) :=
  J_X11_noPlaces_38 p1 p2 g (1 : Int32)
def f_X11_noPlaces (g : Hp) (p1 : Int32) (p2 : Int32) : Option (Int32 × Hp) :=
  bnd (f_X11_laysRow g) (fun u2 =>
  bnd (f_X11_in u2 p1 (0 : Int32) (u2 125 36 - (1 : Int32))) (fun u3 =>
  if u3 = 0 then (
  J_X11_noPlaces_33 p1 p2 u2)
  else (
  bnd (f_X11_in u2 p2 p1 (u2 125 36 - (1 : Int32))) (fun u4 =>
  if u4 = 0 then (
  J_X11_noPlaces_33 p1 p2 u2)
  else (
  J_X11_noPlaces_38 p1 p2 u2 (0 : Int32))))))
def f_X11_lengthIfCut (g : Hp) (p1 : Int32) (p2 : Int32) : Option (Int32 × Hp) :=
  stp (up g 125 0 (0 : Int32)) (fun g1 =>
  bnd (f_X11_noPlaces g1 p1 p2) (fun u2 =>
  if u2.1 = 0 then (
  bnd (f_X11_putsAside u2.2) (fun u3 =>
  bnd (f_X11_cutsPlaces u3 p1 p2) (fun u4 =>
  bnd (f_X11_film u4) (fun u5 =>
  bnd (f_X11_takesBack u4) (fun u6 =>
  some (u5, u6))))))
  else (
  some ((0 : Int32), u2.2))))
def f_X11_lengthIfRestored (g : Hp) (p1 : Int32) : Option (Int32 × Hp) :=
  stp (up g 125 0 (0 : Int32)) (fun g1 =>
  bnd (f_X11_noWord g1 p1) (fun u2 =>
  if u2.1 = 0 then (
  bnd (f_X11_putsAside u2.2) (fun u3 =>
  bnd (f_X11_restoresAll u3 p1 p1) (fun u4 =>
  bnd (f_X11_film u4.2) (fun u5 =>
  bnd (f_X11_takesBack u4.2) (fun u6 =>
  some (u5, u6))))))
  else (
  some ((0 : Int32), u2.2))))
def J_X11_shotsToCut_84 (p1 : Int32) (g : Hp) (x2 : Int32) : Option (Int32 × Hp) :=
  bnd (f_X11_takesBack g) (fun u1 =>
  some (x2, u1))
def J_X11_shotsToCut_73 (p1 : Int32) (g : Hp) (r17 : Int32 × Hp → Option (Int32 × Hp)) (x2 : Int32) (x3 : Int32) : Option (Int32 × Hp) :=
  bnd (f_X11_takesOut g x3) (fun u2 =>
  stp (x2 + 1) (fun v3 =>
  r17 (v3, u2)))
def J_X11_shotsToCut_67 (p1 : Int32) (g : Hp) (r17 : Int32 × Hp → Option (Int32 × Hp)) (r30 : Int32 × Int32 → Option (Int32 × Hp)) (x2 : Int32) (x3 : Int32) (x4 : Int32) : Option (Int32 × Hp) :=
  stp (x4 + 1) (fun v4 =>
  r30 (x3, v4))
def F_X11_shotsToCut_30 (p1 : Int32) (g : Hp) (r17 : Int32 × Hp → Option (Int32 × Hp)) (x2 : Int32) (r30 : Int32 × Int32 → Option (Int32 × Hp)) : Int32 × Int32 → Option (Int32 × Hp) := fun ⟨x3, x4⟩ =>
  ck (inb (40 : Int32) 161) (
  if x4 < g 134 (ix (40 : Int32)) then (
  bnd (f_X11_shotBlock g x4) (fun u5 =>
  bnd (f_X11_plays g u5) (fun u6 =>
  bnd (f_X11_shotBlock g x3) (fun u7 =>
  bnd (f_X11_plays g u7) (fun u8 =>
  if u8 < u6 then (
  J_X11_shotsToCut_67 p1 g r17 r30 x2 x4 x4)
  else (
  J_X11_shotsToCut_67 p1 g r17 r30 x2 x3 x4))))))
  else (
  J_X11_shotsToCut_73 p1 g r17 x2 x3))
def F_X11_shotsToCut_17 (p1 : Int32) (r17 : Int32 × Hp → Option (Int32 × Hp)) : Int32 × Hp → Option (Int32 × Hp) := fun ⟨x2, g⟩ =>
  bnd (f_X11_film g) (fun u9 =>
  if p1 < u9 then (
  Lp (F_X11_shotsToCut_30 p1 g r17 x2) FU ((0 : Int32), (1 : Int32)))
  else (
  J_X11_shotsToCut_84 p1 g x2))
def f_X11_shotsToCut (g : Hp) (p1 : Int32) : Option (Int32 × Hp) :=
  stp (up g 125 0 (0 : Int32)) (fun g10 =>
  if 0 ≤ p1 then (
  bnd (f_X11_putsAside g10) (fun u11 =>
  Lp (F_X11_shotsToCut_17 p1) FU ((0 : Int32), u11)))
  else (
  some ((-1 : Int32), g10)))
def f_X11_cut (g : Hp) (p1 : Int32) (p2 : Int32) : Option (Int32 × Hp) :=
  stp (up g 125 0 (0 : Int32)) (fun g1 =>
  bnd (f_X11_noPlaces g1 p1 p2) (fun u2 =>
  if u2.1 = 0 then (
  bnd (f_X11_keeps u2.2) (fun u3 =>
  bnd (f_X11_film u3) (fun u4 =>
  bnd (f_X11_cutsPlaces u3 p1 p2) (fun u5 =>
  bnd (f_X11_film u5) (fun u6 =>
  some ((u4 - u6), u5))))))
  else (
  some ((0 : Int32), u2.2))))
def J_X11_cutWord_27 (p1 : Int32) (g : Hp) (s1 : Int32) : Option (Int32 × Hp) :=
  bnd (f_X11_throwsIf g s1 (2 : Int32)) (fun u1 =>
  if u1.1 = 0 then (
  bnd (f_X11_keeps u1.2) (fun u2 =>
  bnd (f_X11_cutsWord u2 p1) (fun u3 =>
  bnd (f_X11_stateOf u3 p1) (fun u4 =>
  some (u4, u3)))))
  else (
  some ((0 : Int32), u1.2)))
def f_X11_cutWord (g : Hp) (p1 : Int32) : Option (Int32 × Hp) :=
  stp (up g 125 0 (0 : Int32)) (fun g5 =>
  bnd (f_X11_noWord g5 p1) (fun u6 =>
  if u6.1 = 0 then (
  bnd (f_X11_isKept u6.2 p1) (fun u7 =>
  if u7 = 0 then (
  J_X11_cutWord_27 p1 u6.2 (1 : Int32))
  else (
  J_X11_cutWord_27 p1 u6.2 (0 : Int32))))
  else (
  some ((0 : Int32), u6.2))))
def J_X11_restore_32 (p1 : Int32) (p2 : Int32) (g : Hp) (s1 : Int32) : Option (Int32 × Hp) :=
  bnd (f_X11_throwsIf g s1 (2 : Int32)) (fun u1 =>
  if u1.1 = 0 then (
  bnd (f_X11_keeps u1.2) (fun u2 =>
  bnd (f_X11_restoresAll u2 p1 p2) (fun u3 =>
  some (u3.1, u3.2))))
  else (
  some ((0 : Int32), u1.2)))
def f_X11_restore (g : Hp) (p1 : Int32) (p2 : Int32) : Option (Int32 × Hp) :=
  stp (up g 125 0 (0 : Int32)) (fun g4 =>
  bnd (f_X11_noWord g4 p1) (fun u5 =>
  if u5.1 = 0 then (
  bnd (f_X11_noWord u5.2 p2) (fun u6 =>
  if u6.1 = 0 then (
  if p2 < p1 then (
  J_X11_restore_32 p1 p2 u6.2 (1 : Int32))
  else (
  J_X11_restore_32 p1 p2 u6.2 (0 : Int32)))
  else (
  some ((0 : Int32), u6.2))))
  else (
  some ((0 : Int32), u5.2))))
def J_X11_move_58 (p1 : Int32) (p2 : Int32) (p3 : Int32) (g : Hp) (s1 : Int32) : Option (Int32 × Hp) :=
  bnd (f_X11_throwsIf g s1 (2 : Int32)) (fun u1 =>
  if u1.1 = 0 then (
  bnd (f_X11_keeps u1.2) (fun u2 =>
  bnd (f_X11_movesAll u2 p1 p2 p3) (fun u3 =>
  some (u3.1, u3.2))))
  else (
  some ((0 : Int32), u1.2)))
def J_X11_move_53 (p1 : Int32) (p2 : Int32) (p3 : Int32) (g : Hp) : Option (Int32 × Hp) :=
  J_X11_move_58 p1 p2 p3 g (1 : Int32)
def f_X11_move (g : Hp) (p1 : Int32) (p2 : Int32) (p3 : Int32) : Option (Int32 × Hp) :=
  stp (up g 125 0 (0 : Int32)) (fun g4 =>
  bnd (f_X11_noShot g4 p1) (fun u5 =>
  if u5.1 = 0 then (
  bnd (f_X11_noShot u5.2 p2) (fun u6 =>
  if u6.1 = 0 then (
  if p2 < p1 then (
  J_X11_move_53 p1 p2 p3 u6.2)
  else (
  ck (inb (40 : Int32) 161) (
  bnd (f_X11_in u6.2 p3 (-1 : Int32) (u6.2 134 (ix (40 : Int32)) - (1 : Int32))) (fun u7 =>
  if u7 = 0 then (
  J_X11_move_53 p1 p2 p3 u6.2)
  else (
  bnd (f_X11_in u6.2 p3 p1 p2) (fun u8 =>
  if u8 = 0 then (
  J_X11_move_58 p1 p2 p3 u6.2 (0 : Int32))
  else (
  J_X11_move_53 p1 p2 p3 u6.2)))))))
  else (
  some ((0 : Int32), u6.2))))
  else (
  some ((0 : Int32), u5.2))))
def J_X11_setHandles_41 (p1 : Int32) (p2 : Int32) (p3 : Int32) (g : Hp) (s1 : Int32) : Option (Int32 × Hp) :=
  bnd (f_X11_throwsIf g s1 (2 : Int32)) (fun u1 =>
  if u1.1 = 0 then (
  bnd (f_X11_keeps u1.2) (fun u2 =>
  ck (inb ((81 : Int32) + p1) 161) (stp (up u2 134 (ix ((81 : Int32) + p1)) p2) (fun g3 =>
  ck (inb ((121 : Int32) + p1) 161) (stp (up g3 134 (ix ((121 : Int32) + p1)) p3) (fun g4 =>
  bnd (f_X11_shotOf g4 p1) (fun u5 =>
  if u5 = (-1 : Int32) then (
  some ((0 : Int32), g4))
  else (
  bnd (f_X11_plays g4 p1) (fun u6 =>
  some (u6, g4))))))))))
  else (
  some ((0 : Int32), u1.2)))
def J_X11_setHandles_36 (p1 : Int32) (p2 : Int32) (p3 : Int32) (g : Hp) : Option (Int32 × Hp) :=
  J_X11_setHandles_41 p1 p2 p3 g (1 : Int32)
def f_X11_setHandles (g : Hp) (p1 : Int32) (p2 : Int32) (p3 : Int32) : Option (Int32 × Hp) :=
  stp (up g 125 0 (0 : Int32)) (fun g7 =>
  bnd (f_X11_noBlock g7 p1) (fun u8 =>
  if u8.1 = 0 then (
  bnd (f_X11_in u8.2 p2 (0 : Int32) (999 : Int32)) (fun u9 =>
  if u9 = 0 then (
  J_X11_setHandles_36 p1 p2 p3 u8.2)
  else (
  bnd (f_X11_in u8.2 p3 (0 : Int32) (999 : Int32)) (fun u10 =>
  if u10 = 0 then (
  J_X11_setHandles_36 p1 p2 p3 u8.2)
  else (
  J_X11_setHandles_41 p1 p2 p3 u8.2 (0 : Int32))))))
  else (
  some ((0 : Int32), u8.2))))
def f_X11_phraseEnd (g : Hp) (p1 : Int32) : Option (Int32) :=
  ck (inb p1 700) (
  some ((p1 + (1 : Int32)) + g 139 (ix p1)))
def J_X11_find_81 (p1 : Int32) (g : Hp) (r13 : Int32 → Option (Int32 × Hp)) (x2 : Int32) (x3 : Int32) (x4 : Int32) : Option (Int32 × Hp) :=
  if x4 = 0 then (
  stp (x3 + 1) (fun v1 =>
  r13 v1))
  else (
  some (x3, g))
def J_X11_find_73 (p1 : Int32) (g : Hp) (r13 : Int32 → Option (Int32 × Hp)) (r29 : Int32 × Int32 → Option (Int32 × Hp)) (x2 : Int32) (x3 : Int32) (x5 : Int32) (s0 : Int32) : Option (Int32 × Hp) :=
  stp (x5 + 1) (fun v2 =>
  r29 (s0, v2))
def J_X11_find_72 (p1 : Int32) (g : Hp) (r13 : Int32 → Option (Int32 × Hp)) (r29 : Int32 × Int32 → Option (Int32 × Hp)) (x2 : Int32) (x3 : Int32) (x5 : Int32) : Option (Int32 × Hp) :=
  J_X11_find_73 p1 g r13 r29 x2 x3 x5 (0 : Int32)
def F_X11_find_29 (p1 : Int32) (g : Hp) (r13 : Int32 → Option (Int32 × Hp)) (x2 : Int32) (x3 : Int32) (r29 : Int32 × Int32 → Option (Int32 × Hp)) : Int32 × Int32 → Option (Int32 × Hp) := fun ⟨x4, x5⟩ =>
  if x5 < x2 then (
  if x4 = 0 then (
  J_X11_find_72 p1 g r13 r29 x2 x3 x5)
  else (
  ck (inb (x3 + x5) 40) (
  bnd (f_X11_of g (g 141 (ix (x3 + x5))) (1 : Int32)) (fun u3 =>
  ck (inb ((p1 + (1 : Int32)) + x5) 700) (
  if u3 = g 139 (ix ((p1 + (1 : Int32)) + x5)) then (
  J_X11_find_73 p1 g r13 r29 x2 x3 x5 (1 : Int32))
  else (
  J_X11_find_72 p1 g r13 r29 x2 x3 x5))))))
  else (
  J_X11_find_81 p1 g r13 x2 x3 x4)
def F_X11_find_13 (p1 : Int32) (g : Hp) (x2 : Int32) (r13 : Int32 → Option (Int32 × Hp)) : Int32 → Option (Int32 × Hp) := fun x3 =>
  if g 125 36 < (x3 + x2) then (
  some ((-1 : Int32), g))
  else (
  Lp (F_X11_find_29 p1 g r13 x2 x3) FU ((1 : Int32), (0 : Int32)))
def f_X11_find (g : Hp) (p1 : Int32) : Option (Int32 × Hp) :=
  bnd (f_X11_laysRow g) (fun u4 =>
  ck (inb p1 700) (
  stp (u4 139 (ix p1)) (fun v5 =>
  Lp (F_X11_find_13 p1 u4 v5) FU (0 : Int32))))
def J_X11_cutsPhrase_26 (p1 : Int32) (g : Hp) (x2 : Int32) : Option (Int32 × Hp) :=
  if x2 = (-1 : Int32) then (
  some ((0 : Int32), g))
  else (
  some ((1 : Int32), g))
def f_X11_cutsPhrase (g : Hp) (p1 : Int32) : Option (Int32 × Hp) :=
  bnd (f_X11_find g p1) (fun u1 =>
  if u1.1 = (-1 : Int32) then (
  J_X11_cutsPhrase_26 p1 u1.2 u1.1)
  else (
  ck (inb p1 700) (
  bnd (f_X11_cutsPlaces u1.2 u1.1 ((u1.1 + u1.2 139 (ix p1)) - (1 : Int32))) (fun u2 =>
  J_X11_cutsPhrase_26 p1 u2 u1.1))))
def F_X11_cleans_2 (p1 : Int32) (r2 : Int32 × Hp → Option (Int32 × Hp)) : Int32 × Hp → Option (Int32 × Hp) := fun ⟨x2, g⟩ =>
  bnd (f_X11_cutsPhrase g p1) (fun u1 =>
  if u1.1 = 0 then (
  ck (zb x2) (some (x2, u1.2)))
  else (
  r2 ((1 : Int32), u1.2)))
def f_X11_cleans (g : Hp) (p1 : Int32) : Option (Int32 × Hp) :=
  Lp (F_X11_cleans_2 p1) FU ((0 : Int32), g)
def J_X11_restoresPhrase_127 (p1 : Int32) (g : Hp) (r9 : Int32 → Option (Int32 × Hp)) (x2 : Int32) (x3 : Int32) : Option (Int32 × Hp) :=
  stp (x3 + 1) (fun v1 =>
  r9 v1)
def J_X11_restoresPhrase_108 (p1 : Int32) (g : Hp) (x2 : Int32) (x3 : Int32) : Option (Int32 × Hp) :=
  bnd (f_X11_restoresAll g x3 ((x3 + x2) - (1 : Int32))) (fun u2 =>
  if u2.1 ≤ 0 then (
  some ((0 : Int32), u2.2))
  else (
  some ((1 : Int32), u2.2)))
def J_X11_restoresPhrase_98 (p1 : Int32) (g : Hp) (r9 : Int32 → Option (Int32 × Hp)) (x2 : Int32) (x3 : Int32) (x4 : Int32) (x5 : Int32) : Option (Int32 × Hp) :=
  if x4 = 0 then (
  J_X11_restoresPhrase_127 p1 g r9 x2 x3)
  else (
  if x5 = 0 then (
  J_X11_restoresPhrase_127 p1 g r9 x2 x3)
  else (
  J_X11_restoresPhrase_108 p1 g x2 x3))
def J_X11_restoresPhrase_90 (p1 : Int32) (g : Hp) (r9 : Int32 → Option (Int32 × Hp)) (r28 : Int32 × Int32 × Int32 → Option (Int32 × Hp)) (x2 : Int32) (x3 : Int32) (x4 : Int32) (x6 : Int32) (s0 : Int32) : Option (Int32 × Hp) :=
  stp (x6 + 1) (fun v3 =>
  r28 (x4, s0, v3))
def J_X11_restoresPhrase_85 (p1 : Int32) (g : Hp) (r9 : Int32 → Option (Int32 × Hp)) (r28 : Int32 × Int32 × Int32 → Option (Int32 × Hp)) (x2 : Int32) (x3 : Int32) (x4 : Int32) (x6 : Int32) : Option (Int32 × Hp) :=
  J_X11_restoresPhrase_90 p1 g r9 r28 x2 x3 x4 x6 (1 : Int32)
def J_X11_restoresPhrase_67 (p1 : Int32) (g : Hp) (r9 : Int32 → Option (Int32 × Hp)) (r28 : Int32 × Int32 × Int32 → Option (Int32 × Hp)) (x2 : Int32) (x3 : Int32) (x5 : Int32) (x6 : Int32) (s0 : Int32) : Option (Int32 × Hp) :=
  if x5 = 0 then (
  bnd (f_X11_isKept g (x3 + x6)) (fun u4 =>
  if u4 = 0 then (
  J_X11_restoresPhrase_85 p1 g r9 r28 x2 x3 s0 x6)
  else (
  J_X11_restoresPhrase_90 p1 g r9 r28 x2 x3 s0 x6 (0 : Int32))))
  else (
  J_X11_restoresPhrase_85 p1 g r9 r28 x2 x3 s0 x6)
def J_X11_restoresPhrase_66 (p1 : Int32) (g : Hp) (r9 : Int32 → Option (Int32 × Hp)) (r28 : Int32 × Int32 × Int32 → Option (Int32 × Hp)) (x2 : Int32) (x3 : Int32) (x5 : Int32) (x6 : Int32) : Option (Int32 × Hp) :=
  J_X11_restoresPhrase_67 p1 g r9 r28 x2 x3 x5 x6 (0 : Int32)
def F_X11_restoresPhrase_28 (p1 : Int32) (g : Hp) (r9 : Int32 → Option (Int32 × Hp)) (x2 : Int32) (x3 : Int32) (r28 : Int32 × Int32 × Int32 → Option (Int32 × Hp)) : Int32 × Int32 × Int32 → Option (Int32 × Hp) := fun ⟨x4, x5, x6⟩ =>
  if x6 < x2 then (
  if x4 = 0 then (
  J_X11_restoresPhrase_66 p1 g r9 r28 x2 x3 x5 x6)
  else (
  bnd (f_X11_of g (x3 + x6) (1 : Int32)) (fun u5 =>
  ck (inb ((p1 + (1 : Int32)) + x6) 700) (
  if u5 = g 139 (ix ((p1 + (1 : Int32)) + x6)) then (
  J_X11_restoresPhrase_67 p1 g r9 r28 x2 x3 x5 x6 (1 : Int32))
  else (
  J_X11_restoresPhrase_66 p1 g r9 r28 x2 x3 x5 x6)))))
  else (
  J_X11_restoresPhrase_98 p1 g r9 x2 x3 x4 x5)
def F_X11_restoresPhrase_9 (p1 : Int32) (g : Hp) (x2 : Int32) (r9 : Int32 → Option (Int32 × Hp)) : Int32 → Option (Int32 × Hp) := fun x3 =>
  bnd (f_X11_words g) (fun u6 =>
  if u6 < (x3 + x2) then (
  some ((0 : Int32), g))
  else (
  Lp (F_X11_restoresPhrase_28 p1 g r9 x2 x3) FU ((1 : Int32), (0 : Int32), (0 : Int32))))
def f_X11_restoresPhrase (g : Hp) (p1 : Int32) : Option (Int32 × Hp) :=
  ck (inb p1 700) (
  stp (g 139 (ix p1)) (fun v7 =>
  Lp (F_X11_restoresPhrase_9 p1 g v7) FU (0 : Int32)))
def f_X11_movesPhrase (g : Hp) (p1 : Int32) (p2 : Int32) : Option (Int32 × Hp) :=
  bnd (f_X11_find g p1) (fun u1 =>
  bnd (f_X11_find u1.2 p2) (fun u2 =>
  if u1.1 = (-1 : Int32) then (
  some ((0 : Int32), u2.2))
  else (
  if u2.1 = (-1 : Int32) then (
  some ((0 : Int32), u2.2))
  else (
  ck (inb u1.1 40) (
  stp (u2.2 142 (ix u1.1)) (fun v3 =>
  ck (inb p1 700) (
  ck (inb ((u1.1 + u2.2 139 (ix p1)) - (1 : Int32)) 40) (
  stp (u2.2 142 (ix ((u1.1 + u2.2 139 (ix p1)) - (1 : Int32)))) (fun v4 =>
  ck (inb p2 700) (
  ck (inb ((u2.1 + u2.2 139 (ix p2)) - (1 : Int32)) 40) (
  stp (u2.2 142 (ix ((u2.1 + u2.2 139 (ix p2)) - (1 : Int32)))) (fun v5 =>
  bnd (f_X11_in u2.2 v5 v3 v4) (fun u6 =>
  if u6 = 0 then (
  bnd (f_X11_movesAll u2.2 v3 v4 v5) (fun u7 =>
  if u7.1 < 0 then (
  some ((0 : Int32), u7.2))
  else (
  some ((1 : Int32), u7.2))))
  else (
  some ((0 : Int32), u2.2)))))))))))))))
def J_X11_executes_216 (cf_X11_executes : Hp → Int32 → Option (Int32 × Hp)) (cf_X11_executesBlock : Hp → Int32 → Option (Hp)) (p1 : Int32) (g : Hp) (x2 : Int32) (x3 : Int32) (s1 : Int32) (s2 : Int32) : Option (Int32 × Hp) :=
  stp (up g 125 39 (s1 + s2)) (fun g1 =>
  if x2 = (3 : Int32) then (
  bnd (f_X11_phraseEnd g1 x3) (fun u2 =>
  some (u2, g1)))
  else (
  some (x3, g1)))
def J_X11_executes_201 (cf_X11_executes : Hp → Int32 → Option (Int32 × Hp)) (cf_X11_executesBlock : Hp → Int32 → Option (Hp)) (p1 : Int32) (g : Hp) (x2 : Int32) (x3 : Int32) (x4 : Int32) : Option (Int32 × Hp) :=
  if x4 = 0 then (
  J_X11_executes_216 cf_X11_executes cf_X11_executesBlock p1 g x2 x3 (g 125 39) (1 : Int32))
  else (
  J_X11_executes_216 cf_X11_executes cf_X11_executesBlock p1 g x2 x3 (g 125 39) (0 : Int32))
def J_X11_executes_199 (cf_X11_executes : Hp → Int32 → Option (Int32 × Hp)) (cf_X11_executesBlock : Hp → Int32 → Option (Hp)) (p1 : Int32) (g : Hp) (x2 : Int32) (x3 : Int32) (s0 : Int32) : Option (Int32 × Hp) :=
  J_X11_executes_201 cf_X11_executes cf_X11_executesBlock p1 g x2 x3 s0
def J_X11_executes_129 (cf_X11_executes : Hp → Int32 → Option (Int32 × Hp)) (cf_X11_executesBlock : Hp → Int32 → Option (Hp)) (p1 : Int32) (g : Hp) (x4 : Int32) (s1 : Int32) : Option (Int32 × Hp) :=
  bnd (cf_X11_executesBlock g s1) (fun u3 =>
  ck (inb x4 700) (
  some (((x4 + (1 : Int32)) + u3 139 (ix x4)), u3)))
def J_X11_executes_73 (cf_X11_executes : Hp → Int32 → Option (Int32 × Hp)) (cf_X11_executesBlock : Hp → Int32 → Option (Hp)) (p1 : Int32) (g : Hp) : Option (Int32 × Hp) :=
  ck (inb (p1 + (2 : Int32)) 700) (
  some (((p1 + (3 : Int32)) + g 139 (ix (p1 + (2 : Int32)))), g))
def F_X11_executes_41 (cf_X11_executes : Hp → Int32 → Option (Int32 × Hp)) (cf_X11_executesBlock : Hp → Int32 → Option (Hp)) (p1 : Int32) (r41 : Int32 × Hp → Option (Int32 × Hp)) : Int32 × Hp → Option (Int32 × Hp) := fun ⟨x3, g⟩ =>
  ck (inb (p1 + (1 : Int32)) 700) (
  if x3 < g 139 (ix (p1 + (1 : Int32))) then (
  if g 125 40 = 0 then (
  bnd (cf_X11_executesBlock g (p1 + (2 : Int32))) (fun u4 =>
  stp (x3 + 1) (fun v5 =>
  r41 (v5, u4))))
  else (
  J_X11_executes_73 cf_X11_executes cf_X11_executesBlock p1 g))
  else (
  J_X11_executes_73 cf_X11_executes cf_X11_executesBlock p1 g))
def B_X11_executes (cf_X11_executes : Hp → Int32 → Option (Int32 × Hp)) (cf_X11_executesBlock : Hp → Int32 → Option (Hp)) (g : Hp) (p1 : Int32) : Option (Int32 × Hp) :=
  if g 125 38 = (200 : Int32) then (
  stp (up g 125 40 (1 : Int32)) (fun g15 =>
  some (p1, g15)))
  else (
  stp (up g 125 38 (g 125 38 + (1 : Int32))) (fun g6 =>
  ck (inb p1 700) (
  stp (g6 139 (ix p1)) (fun v7 =>
  if v7 = (5 : Int32) then (
  Lp (F_X11_executes_41 cf_X11_executes cf_X11_executesBlock p1) FU ((0 : Int32), g6))
  else (
  bnd (f_X11_phraseEnd g6 (p1 + (1 : Int32))) (fun u8 =>
  if v7 = (4 : Int32) then (
  ck (inb u8 700) (
  stp (((u8 + (1 : Int32)) + g6 139 (ix u8))) (fun v13 =>
  bnd (f_X11_find g6 (p1 + (1 : Int32))) (fun u14 =>
  if u14.1 = (-1 : Int32) then (
  J_X11_executes_129 cf_X11_executes cf_X11_executesBlock p1 u14.2 v13 v13)
  else (
  J_X11_executes_129 cf_X11_executes cf_X11_executesBlock p1 u14.2 v13 u8)))))
  else (
  if v7 = (3 : Int32) then (
  bnd (f_X11_movesPhrase g6 (p1 + (1 : Int32)) u8) (fun u12 =>
  J_X11_executes_201 cf_X11_executes cf_X11_executesBlock p1 u12.2 v7 u8 u12.1))
  else (
  if v7 = 0 then (
  bnd (f_X11_cutsPhrase g6 (p1 + (1 : Int32))) (fun u11 =>
  J_X11_executes_199 cf_X11_executes cf_X11_executesBlock p1 u11.2 v7 u8 u11.1))
  else (
  if v7 = (1 : Int32) then (
  bnd (f_X11_cleans g6 (p1 + (1 : Int32))) (fun u10 =>
  J_X11_executes_199 cf_X11_executes cf_X11_executesBlock p1 u10.2 v7 u8 u10.1))
  else (
  bnd (f_X11_restoresPhrase g6 (p1 + (1 : Int32))) (fun u9 =>
  J_X11_executes_199 cf_X11_executes cf_X11_executesBlock p1 u9.2 v7 u8 u9.1)))))))))))
def F_X11_executesBlock_15 (cf_X11_executes : Hp → Int32 → Option (Int32 × Hp)) (cf_X11_executesBlock : Hp → Int32 → Option (Hp)) (p1 : Int32) (x2 : Int32) (r15 : Int32 × Hp → Option (Hp)) : Int32 × Hp → Option (Hp) := fun ⟨x3, g⟩ =>
  if x3 < x2 then (
  if g 125 40 = 0 then (
  bnd (cf_X11_executes g x3) (fun u1 =>
  r15 (u1.1, u1.2)))
  else (
  some g))
  else (
  some g)
def B_X11_executesBlock (cf_X11_executes : Hp → Int32 → Option (Int32 × Hp)) (cf_X11_executesBlock : Hp → Int32 → Option (Hp)) (g : Hp) (p1 : Int32) : Option (Hp) :=
  ck (inb p1 700) (
  stp (((p1 + (1 : Int32)) + g 139 (ix p1))) (fun v2 =>
  stp ((p1 + (1 : Int32))) (fun v3 =>
  Lp (F_X11_executesBlock_15 cf_X11_executes cf_X11_executesBlock p1 v2) FU (v3, g))))
def REC_X11_executes : Nat → (Hp → Int32 → Option (Int32 × Hp)) × (Hp → Int32 → Option (Hp))
  | 0 => ((fun _ _ => none), (fun _ _ => none))
  | n + 1 => ((B_X11_executes (REC_X11_executes n).1 (REC_X11_executes n).2), (B_X11_executesBlock (REC_X11_executes n).1 (REC_X11_executes n).2))
def f_X11_executes : Hp → Int32 → Option (Int32 × Hp) := (REC_X11_executes 64).1
def f_X11_executesBlock : Hp → Int32 → Option (Hp) := (REC_X11_executes 64).2
def F_X11_runScript_26 (r26 : Int32 × Hp → Option (Int32 × Hp)) : Int32 × Hp → Option (Int32 × Hp) := fun ⟨x1, g⟩ =>
  if x1 < g 125 26 then (
  if g 125 40 = 0 then (
  bnd (f_X11_executes g x1) (fun u1 =>
  r26 (u1.1, u1.2)))
  else (
  some (g 125 38, g)))
  else (
  some (g 125 38, g))
def f_X11_runScript (g : Hp) : Option (Int32 × Hp) :=
  stp (up g 125 0 (0 : Int32)) (fun g2 =>
  bnd (f_X11_keeps g2) (fun u3 =>
  stp (up u3 125 38 (0 : Int32)) (fun g4 =>
  stp (up g4 125 39 (0 : Int32)) (fun g5 =>
  stp (up g5 125 40 (0 : Int32)) (fun g6 =>
  Lp (F_X11_runScript_26) FU ((0 : Int32), g6))))))
def f_X11_failed (g : Hp) : Option (Int32 × Hp) :=
  stp (up g 125 0 (0 : Int32)) (fun g1 =>
  some (g1 125 39, g1))
def f_X11_wasStopped (g : Hp) : Option (Int32 × Hp) :=
  stp (up g 125 0 (0 : Int32)) (fun g1 =>
  ck (zb (g1 125 40)) (some (g1 125 40, g1)))
def f_X11_says (g : Hp) (p1 : Int32) : Option (Hp) :=
  ck (inb (g 125 42) 900) (stp (up g 144 (ix (g 125 42)) (i2b (i2b p1))) (fun g1 =>
  stp (up g1 125 42 (g1 125 42 + (1 : Int32))) (fun g2 =>
  some g2)))
def J_X11_saysNumber_14 (cf_X11_saysNumber : Hp → Int32 → Option (Hp)) (p1 : Int32) (g : Hp) : Option (Hp) :=
  bnd (f_X11_says g ((48 : Int32) + (irem p1 (10 : Int32)))) (fun u1 =>
  some u1)
def B_X11_saysNumber (cf_X11_saysNumber : Hp → Int32 → Option (Hp)) (g : Hp) (p1 : Int32) : Option (Hp) :=
  if (9 : Int32) < p1 then (
  bnd (cf_X11_saysNumber g (p1 / (10 : Int32))) (fun u2 =>
  J_X11_saysNumber_14 cf_X11_saysNumber p1 u2))
  else (
  J_X11_saysNumber_14 cf_X11_saysNumber p1 g)
def REC_X11_saysNumber : Nat → (Hp → Int32 → Option (Hp))
  | 0 => (fun _ _ => none)
  | n + 1 => (B_X11_saysNumber (REC_X11_saysNumber n))
def f_X11_saysNumber : Hp → Int32 → Option (Hp) := (REC_X11_saysNumber 64)
def J_X11_saysName_14 (cf_X11_saysName : Hp → Int32 → Option (Hp)) (p1 : Int32) (g : Hp) : Option (Hp) :=
  bnd (f_X11_says g (((97 : Int32) + (irem p1 (27 : Int32))) - (1 : Int32))) (fun u1 =>
  some u1)
def B_X11_saysName (cf_X11_saysName : Hp → Int32 → Option (Hp)) (g : Hp) (p1 : Int32) : Option (Hp) :=
  if (26 : Int32) < p1 then (
  bnd (cf_X11_saysName g (p1 / (27 : Int32))) (fun u2 =>
  J_X11_saysName_14 cf_X11_saysName p1 u2))
  else (
  J_X11_saysName_14 cf_X11_saysName p1 g)
def REC_X11_saysName : Nat → (Hp → Int32 → Option (Hp))
  | 0 => (fun _ _ => none)
  | n + 1 => (B_X11_saysName (REC_X11_saysName n))
def f_X11_saysName : Hp → Int32 → Option (Hp) := (REC_X11_saysName 64)
def J_X11_formatTranscript_67 (g : Hp) (r16 : Int32 × Hp → Option (Int32 × Hp)) (x1 : Int32) : Option (Int32 × Hp) :=
  ck (inb x1 40) (
  bnd (f_X11_of g (g 141 (ix x1)) (1 : Int32)) (fun u1 =>
  bnd (f_X11_saysName g u1) (fun u2 =>
  stp (x1 + 1) (fun v3 =>
  r16 (v3, u2)))))
def J_X11_formatTranscript_34 (g : Hp) (r16 : Int32 × Hp → Option (Int32 × Hp)) (x1 : Int32) : Option (Int32 × Hp) :=
  if x1 ≤ 0 then (
  J_X11_formatTranscript_67 g r16 x1)
  else (
  ck (inb x1 40) (
  ck (inb (x1 - (1 : Int32)) 40) (
  if g 142 (ix x1) = g 142 (ix (x1 - (1 : Int32))) then (
  J_X11_formatTranscript_67 g r16 x1)
  else (
  bnd (f_X11_says g (47 : Int32)) (fun u4 =>
  bnd (f_X11_says u4 (32 : Int32)) (fun u5 =>
  J_X11_formatTranscript_67 u5 r16 x1))))))
def F_X11_formatTranscript_16 (r16 : Int32 × Hp → Option (Int32 × Hp)) : Int32 × Hp → Option (Int32 × Hp) := fun ⟨x1, g⟩ =>
  if x1 < g 125 36 then (
  if x1 ≤ 0 then (
  J_X11_formatTranscript_34 g r16 x1)
  else (
  bnd (f_X11_says g (32 : Int32)) (fun u6 =>
  J_X11_formatTranscript_34 u6 r16 x1)))
  else (
  some (g 125 42, g))
def f_X11_formatTranscript (g : Hp) : Option (Int32 × Hp) :=
  stp (up g 125 0 (0 : Int32)) (fun g7 =>
  bnd (f_X11_laysRow g7) (fun u8 =>
  stp (up u8 125 42 (0 : Int32)) (fun g9 =>
  Lp (F_X11_formatTranscript_16) FU ((0 : Int32), g9))))
def J_X11_formatShot_153 (p1 : Int32) (g : Hp) (r74 : Int32 × Hp → Option (Int32 × Hp)) (x2 : Int32) (x3 : Int32) : Option (Int32 × Hp) :=
  stp (x3 + 1) (fun v1 =>
  r74 (v1, g))
def J_X11_formatShot_129 (p1 : Int32) (g : Hp) (r74 : Int32 × Hp → Option (Int32 × Hp)) (x2 : Int32) (x3 : Int32) : Option (Int32 × Hp) :=
  bnd (f_X11_of g x3 (1 : Int32)) (fun u2 =>
  bnd (f_X11_saysName g u2) (fun u3 =>
  bnd (f_X11_isKept u3 x3) (fun u4 =>
  if u4 = 0 then (
  bnd (f_X11_says u3 (93 : Int32)) (fun u5 =>
  J_X11_formatShot_153 p1 u5 r74 x2 x3))
  else (
  J_X11_formatShot_153 p1 u3 r74 x2 x3))))
def F_X11_formatShot_74 (p1 : Int32) (x2 : Int32) (r74 : Int32 × Hp → Option (Int32 × Hp)) : Int32 × Hp → Option (Int32 × Hp) := fun ⟨x3, g⟩ =>
  ck (inb (x2 + (1 : Int32)) 41) (
  if x3 < g 131 (ix (x2 + (1 : Int32))) then (
  bnd (f_X11_says g (32 : Int32)) (fun u6 =>
  bnd (f_X11_of u6 x3 (0 : Int32)) (fun u7 =>
  ck (inb ((5 : Int32) + u7) 193) (
  bnd (f_X11_saysName u6 (u6 126 (ix ((5 : Int32) + u7)))) (fun u8 =>
  bnd (f_X11_says u8 (58 : Int32)) (fun u9 =>
  bnd (f_X11_isKept u9 x3) (fun u10 =>
  if u10 = 0 then (
  bnd (f_X11_says u9 (91 : Int32)) (fun u11 =>
  J_X11_formatShot_129 p1 u11 r74 x2 x3))
  else (
  J_X11_formatShot_129 p1 u9 r74 x2 x3))))))))
  else (
  some (g 125 42, g)))
def f_X11_formatShot (g : Hp) (p1 : Int32) : Option (Int32 × Hp) :=
  stp (up g 125 0 (0 : Int32)) (fun g12 =>
  bnd (f_X11_noShot g12 p1) (fun u13 =>
  if u13.1 = 0 then (
  stp (up u13.2 125 42 (0 : Int32)) (fun g14 =>
  bnd (f_X11_shotBlock g14 p1) (fun u15 =>
  bnd (f_X11_says g14 (115 : Int32)) (fun u16 =>
  bnd (f_X11_saysNumber u16 p1) (fun u17 =>
  bnd (f_X11_says u17 (32 : Int32)) (fun u18 =>
  bnd (f_X11_playsFrom u18 u15) (fun u19 =>
  bnd (f_X11_saysNumber u18 u19) (fun u20 =>
  bnd (f_X11_says u20 (45 : Int32)) (fun u21 =>
  bnd (f_X11_playsTo u21 u15) (fun u22 =>
  bnd (f_X11_saysNumber u21 u22) (fun u23 =>
  ck (inb u15 41) (
  stp (u23 131 (ix u15)) (fun v24 =>
  Lp (F_X11_formatShot_74 p1 u15) FU (v24, u23))))))))))))))
  else (
  some ((0 : Int32), u13.2))))
def f_X11_formattedByte (g : Hp) (p1 : Int32) : Option (Int32 × Hp) :=
  stp (up g 125 0 (0 : Int32)) (fun g1 =>
  bnd (f_X11_in g1 p1 (0 : Int32) (g1 125 42 - (1 : Int32))) (fun u2 =>
  if u2 = 0 then (
  some ((-1 : Int32), g1))
  else (
  ck (inb p1 900) (
  some (g1 144 (ix p1), g1)))))
def f_X10_load (h : Hp) : Option (Nat × (Int32 × Hp)) :=
  ckp (h 0 5) 4 (fun q1 =>
  bnd (f_X8_read h q1) (fun u2 =>
  stp (up u2.2 1 1 (0 : Int32)) (fun h3 =>
  if u2.1 = 0 then (
  some (2, ((0 : Int32), h3)))
  else (
  ckp (h3 0 5) 4 (fun q4 =>
  bnd (f_X1_exchangeRecording h3 q4) (fun u5 =>
  ck (decide (knd u5.1 = 4)) (
  stp (up u5.2 0 5 (nI u5.1)) (fun h6 =>
  stp (up h6 13 2 (0 : Int32)) (fun h7 =>
  ckp (h7 3 0) 4 (fun q8 =>
  some (0, (h7 q8 4, h7))))))))))))
def f_X10_loadScript (h : Hp) : Option (Nat × (Int32 × Hp)) :=
  ckp (h 0 6) 6 (fun q1 =>
  bnd (f_X7_read h q1) (fun u2 =>
  stp (up u2.2 1 1 (0 : Int32)) (fun h3 =>
  if u2.1 = 0 then (
  some (2, ((0 : Int32), h3)))
  else (
  ckp (h3 0 6) 6 (fun q4 =>
  bnd (f_X5_exchangeScript h3 q4) (fun u5 =>
  ck (decide (knd u5.1 = 6)) (
  stp (up u5.2 0 6 (nI u5.1)) (fun h6 =>
  ckp (h6 15 0) 6 (fun q7 =>
  some (0, (h6 q7 0, h6)))))))))))
def J_X10_requireWord_18 (h : Hp) (p1 : Int32) : Option (Nat × Int32) :=
  some (1, (0 : Int32))
def f_X10_requireWord (h : Hp) (p1 : Int32) : Option (Nat × Int32) :=
  if p1 < 0 then (
  J_X10_requireWord_18 h p1)
  else (
  ckp (h 3 0) 4 (fun q1 =>
  if p1 < h q1 4 then (
  some (0, (0 : Int32)))
  else (
  J_X10_requireWord_18 h p1)))
def f_X10_wordField (h : Hp) (p1 : Int32) (p2 : Int32) : Option (Nat × Int32) :=
  bnd (f_X10_requireWord h p1) (fun u1 => if u1.1 = 0 then (
  ckp (h 3 0) 4 (fun q2 =>
  if p2 = 0 then (
  ck (inb p1 40) (
  some (0, h (q2 + 3) (ix p1))))
  else (
  if p2 = 1 then (
  ck (inb p1 40) (
  some (0, h (q2 + 4) (ix p1))))
  else (
  if p2 = 2 then (
  ck (inb p1 40) (
  some (0, h (q2 + 5) (ix p1))))
  else (
  if p2 = 3 then (
  ck (inb p1 40) (
  some (0, h (q2 + 6) (ix p1))))
  else (
  if p2 = 4 then (
  bnd (f_X1_stateOf h p1) (fun u3 =>
  some (0, u3)))
  else (
  if p2 = 5 then (
  bnd (f_X4_countOverlapping h q2 p1) (fun u4 =>
  some (0, u4)))
  else (
  some (0, (-1 : Int32)))))))))) else some (u1.1, (0 : Int32)))
def f_X10_isSameText (h : Hp) (p1 : Int32) (p2 : Int32) : Option (Nat × Int32) :=
  bnd (f_X10_requireWord h p1) (fun u1 => if u1.1 = 0 then (
  bnd (f_X10_requireWord h p2) (fun u2 => if u2.1 = 0 then (
  ckp (h 3 0) 4 (fun q3 =>
  ck (inb p1 40) (
  ckp (h 3 0) 4 (fun q4 =>
  ck (inb p2 40) (
  if h (q3 + 2) (ix p1) = h (q4 + 2) (ix p2) then (
  some (0, (1 : Int32)))
  else (
  some (0, (0 : Int32)))))))) else some (u2.1, (0 : Int32)))) else some (u1.1, (0 : Int32)))
def f_X10_overlap (h : Hp) (p1 : Int32) (p2 : Int32) : Option (Nat × Int32) :=
  bnd (f_X10_requireWord h p1) (fun u1 => if u1.1 = 0 then (
  bnd (f_X10_requireWord h p2) (fun u2 => if u2.1 = 0 then (
  ckp (h 3 0) 4 (fun q3 =>
  bnd (f_X4_shareFrame h q3 p1 p2) (fun u4 =>
  ck (zb u4) (some (0, u4))))) else some (u2.1, (0 : Int32)))) else some (u1.1, (0 : Int32)))
def J_X10_requireBlock_18 (h : Hp) (p1 : Int32) : Option (Nat × Int32) :=
  some (1, (0 : Int32))
def f_X10_requireBlock (h : Hp) (p1 : Int32) : Option (Nat × Int32) :=
  if p1 < 0 then (
  J_X10_requireBlock_18 h p1)
  else (
  ckp (h 3 0) 4 (fun q1 =>
  if p1 < h q1 13 then (
  some (0, (0 : Int32)))
  else (
  J_X10_requireBlock_18 h p1)))
def f_X10_blockField (h : Hp) (p1 : Int32) (p2 : Int32) : Option (Nat × Int32) :=
  bnd (f_X10_requireBlock h p1) (fun u1 => if u1.1 = 0 then (
  ckp (h 3 0) 4 (fun q2 =>
  if p2 = 0 then (
  ck (inb p1 40) (
  some (0, h (q2 + 10) (ix p1))))
  else (
  if p2 = 1 then (
  ck (inb p1 40) (
  some (0, h (q2 + 11) (ix p1))))
  else (
  if p2 = 2 then (
  ck (inb (p1 + (1 : Int32)) 41) (
  ck (inb p1 41) (
  some (0, (h (q2 + 9) (ix (p1 + (1 : Int32))) - h (q2 + 9) (ix p1))))))
  else (
  if p2 = 3 then (
  bnd (f_X1_countKept h p1) (fun u3 =>
  some (0, u3)))
  else (
  if p2 = 4 then (
  bnd (f_X4_rangeStart h q2 p1) (fun u4 =>
  some (0, u4)))
  else (
  if p2 = 5 then (
  ck (inb p1 40) (
  some (0, h (q2 + 12) (ix p1))))
  else (
  if p2 = 6 then (
  ck (inb p1 40) (
  some (0, h (18 + 3) (ix p1))))
  else (
  if p2 = 7 then (
  ck (inb p1 40) (
  some (0, h (18 + 4) (ix p1))))
  else (
  if p2 = 8 then (
  ck (inb p1 40) (
  some (0, h 8 (ix p1))))
  else (
  some (0, (-1 : Int32))))))))))))) else some (u1.1, (0 : Int32)))
def f_X10_isSnapped (h : Hp) (p1 : Int32) : Option (Nat × Int32) :=
  bnd (f_X10_requireBlock h p1) (fun u1 => if u1.1 = 0 then (
  ckp (h 3 0) 4 (fun q2 =>
  ck (inb p1 40) (
  ck (zb (h (q2 + 13) (ix p1))) (some (0, h (q2 + 13) (ix p1)))))) else some (u1.1, (0 : Int32)))
def J_X10_requireShot_18 (h : Hp) (p1 : Int32) : Option (Nat × Int32) :=
  some (1, (0 : Int32))
def f_X10_requireShot (h : Hp) (p1 : Int32) : Option (Nat × Int32) :=
  if p1 < 0 then (
  J_X10_requireShot_18 h p1)
  else (
  if p1 < h 18 1 then (
  some (0, (0 : Int32)))
  else (
  J_X10_requireShot_18 h p1))
def f_X10_blockOf (h : Hp) (p1 : Int32) : Option (Nat × Int32) :=
  bnd (f_X10_requireShot h p1) (fun u1 => if u1.1 = 0 then (
  ck (inb p1 40) (
  some (0, h (18 + 2) (ix p1)))) else some (u1.1, (0 : Int32)))
def f_X10_shotField (h : Hp) (p1 : Int32) (p2 : Int32) : Option (Nat × Int32) :=
  bnd (f_X10_requireShot h p1) (fun u1 => if u1.1 = 0 then (
  if p2 = 0 then (
  ck (inb p1 40) (
  some (0, h 4 (ix p1))))
  else (
  if p2 = 1 then (
  ck (inb p1 40) (
  some (0, h 5 (ix p1))))
  else (
  if p2 = 2 then (
  ck (inb p1 40) (
  some (0, h 6 (ix p1))))
  else (
  some (0, (-1 : Int32)))))) else some (u1.1, (0 : Int32)))
def J_X10_requireSpeaker_18 (h : Hp) (p1 : Int32) : Option (Nat × Int32) :=
  some (1, (0 : Int32))
def f_X10_requireSpeaker (h : Hp) (p1 : Int32) : Option (Nat × Int32) :=
  if p1 < 0 then (
  J_X10_requireSpeaker_18 h p1)
  else (
  ckp (h 3 0) 4 (fun q1 =>
  if p1 < h q1 2 then (
  some (0, (0 : Int32)))
  else (
  J_X10_requireSpeaker_18 h p1)))
def f_X10_heard (h : Hp) (p1 : Int32) (p2 : Int32) : Option (Nat × Int32) :=
  bnd (f_X10_requireSpeaker h p2) (fun u1 => if u1.1 = 0 then (
  bnd (f_X1_wordHeard h p1 p2) (fun u2 =>
  some (0, u2))) else some (u1.1, (0 : Int32)))
def f_X10_speakingTime (h : Hp) (p1 : Int32) : Option (Nat × Int32) :=
  bnd (f_X10_requireSpeaker h p1) (fun u1 => if u1.1 = 0 then (
  bnd (f_X1_framesOfSpeaker h p1) (fun u2 =>
  some (0, u2))) else some (u1.1, (0 : Int32)))
def f_X10_placeOf (h : Hp) (p1 : Int32) : Option (Nat × Int32) :=
  bnd (f_X10_requireWord h p1) (fun u1 => if u1.1 = 0 then (
  ck (inb p1 40) (
  some (0, h 10 (ix p1)))) else some (u1.1, (0 : Int32)))
def f_X10_startInFilm (h : Hp) (p1 : Int32) : Option (Nat × Int32) :=
  bnd (f_X10_requireWord h p1) (fun u1 => if u1.1 = 0 then (
  bnd (f_X1_firstFrameHeard h p1) (fun u2 =>
  some (0, u2))) else some (u1.1, (0 : Int32)))
def f_X10_occurrences (h : Hp) (p1 : Int32) : Option (Nat × Int32) :=
  bnd (f_X10_requireWord h p1) (fun u1 => if u1.1 = 0 then (
  bnd (f_X1_countPlacesLike h p1) (fun u2 =>
  some (0, u2))) else some (u1.1, (0 : Int32)))
def J_X10_requirePlaces_20 (h : Hp) (p1 : Int32) (p2 : Int32) : Option (Nat × Int32) :=
  some (2, (0 : Int32))
def f_X10_requirePlaces (h : Hp) (p1 : Int32) (p2 : Int32) : Option (Nat × Int32) :=
  if p1 < 0 then (
  J_X10_requirePlaces_20 h p1 p2)
  else (
  if p2 < p1 then (
  J_X10_requirePlaces_20 h p1 p2)
  else (
  if p2 < h 3 8 then (
  some (0, (0 : Int32)))
  else (
  J_X10_requirePlaces_20 h p1 p2)))
def f_X10_lengthIfCut (h : Hp) (p1 : Int32) (p2 : Int32) : Option (Nat × Int32) :=
  bnd (f_X10_requirePlaces h p1 p2) (fun u1 => if u1.1 = 0 then (
  bnd (f_X1_lengthWithoutPlaces h p1 p2) (fun u2 =>
  some (0, u2))) else some (u1.1, (0 : Int32)))
def f_X10_lengthIfRestored (h : Hp) (p1 : Int32) : Option (Nat × Int32) :=
  bnd (f_X10_requireWord h p1) (fun u1 => if u1.1 = 0 then (
  bnd (f_X1_lengthWithWord h p1) (fun u2 =>
  some (0, u2))) else some (u1.1, (0 : Int32)))
def f_X10_cut (h : Hp) (p1 : Int32) (p2 : Int32) : Option (Nat × (Int32 × Hp)) :=
  bnd (f_X10_requirePlaces h p1 p2) (fun u1 => if u1.1 = 0 then (
  bnd (f_X3_record h 18) (fun u2 =>
  stp (u2 3 2) (fun v3 =>
  bnd (f_X1_cutPlaces u2 p1 p2) (fun u4 =>
  some (0, ((v3 - u4 3 2), u4)))))) else some (u1.1, ((0 : Int32), h)))
def f_X10_cutWord (h : Hp) (p1 : Int32) : Option (Nat × (Int32 × Hp)) :=
  bnd (f_X10_requireWord h p1) (fun u1 => if u1.1 = 0 then (
  ck (inb p1 40) (
  stp (h 10 (ix p1)) (fun v2 =>
  if v2 = (-1 : Int32) then (
  some (3, ((0 : Int32), h)))
  else (
  bnd (f_X3_record h 18) (fun u3 =>
  bnd (f_X1_cutPlaces u3 v2 v2) (fun u4 =>
  bnd (f_X1_stateOf u4 p1) (fun u5 =>
  some (0, (u5, u4))))))))) else some (u1.1, ((0 : Int32), h)))
def f_X10_restore (h : Hp) (p1 : Int32) (p2 : Int32) : Option (Nat × (Int32 × Hp)) :=
  bnd (f_X10_requireWord h p1) (fun u1 => if u1.1 = 0 then (
  bnd (f_X10_requireWord h p2) (fun u2 => if u2.1 = 0 then (
  if p2 < p1 then (
  some (2, ((0 : Int32), h)))
  else (
  bnd (f_X3_record h 18) (fun u3 =>
  bnd (f_X1_keepAgain u3 p1 p2) (fun u4 =>
  some (0, (u4.1, u4.2)))))) else some (u2.1, ((0 : Int32), h)))) else some (u1.1, ((0 : Int32), h)))
def J_X10_move_45 (p1 : Int32) (p2 : Int32) (p3 : Int32) (h : Hp) : Option (Nat × (Int32 × Hp)) :=
  some (2, ((0 : Int32), h))
def J_X10_move_77 (p1 : Int32) (p2 : Int32) (p3 : Int32) (h : Hp) : Option (Nat × (Int32 × Hp)) :=
  bnd (f_X3_record h 18) (fun u1 =>
  bnd (f_X1_carryShots u1 p1 p2 p3) (fun u2 =>
  some (0, (u2.1, u2.2))))
def f_X10_move (h : Hp) (p1 : Int32) (p2 : Int32) (p3 : Int32) : Option (Nat × (Int32 × Hp)) :=
  bnd (f_X10_requireShot h p1) (fun u3 => if u3.1 = 0 then (
  bnd (f_X10_requireShot h p2) (fun u4 => if u4.1 = 0 then (
  if p2 < p1 then (
  some (2, ((0 : Int32), h)))
  else (
  if p3 < (-1 : Int32) then (
  J_X10_move_45 p1 p2 p3 h)
  else (
  if p3 < h 18 1 then (
  if p3 < p1 then (
  J_X10_move_77 p1 p2 p3 h)
  else (
  if p2 < p3 then (
  J_X10_move_77 p1 p2 p3 h)
  else (
  some (2, ((0 : Int32), h)))))
  else (
  J_X10_move_45 p1 p2 p3 h)))) else some (u4.1, ((0 : Int32), h)))) else some (u3.1, ((0 : Int32), h)))
def J_X10_setHandles_27 (p1 : Int32) (p2 : Int32) (p3 : Int32) (h : Hp) : Option (Nat × (Int32 × Hp)) :=
  some (2, ((0 : Int32), h))
def f_X10_setHandles (h : Hp) (p1 : Int32) (p2 : Int32) (p3 : Int32) : Option (Nat × (Int32 × Hp)) :=
  bnd (f_X10_requireBlock h p1) (fun u1 => if u1.1 = 0 then (
  if p2 < 0 then (
  J_X10_setHandles_27 p1 p2 p3 h)
  else (
  if (999 : Int32) < p2 then (
  J_X10_setHandles_27 p1 p2 p3 h)
  else (
  if p3 < 0 then (
  J_X10_setHandles_27 p1 p2 p3 h)
  else (
  if (999 : Int32) < p3 then (
  J_X10_setHandles_27 p1 p2 p3 h)
  else (
  bnd (f_X3_record h 18) (fun u2 =>
  ck (inb p1 40) (stp (up u2 (18 + 3) (ix p1) p2) (fun h3 =>
  ck (inb p1 40) (stp (up h3 (18 + 4) (ix p1) p3) (fun h4 =>
  bnd (f_X1_layOut h4) (fun u5 =>
  ck (inb p1 40) (
  stp (u5 8 (ix p1)) (fun v6 =>
  if v6 = (-1 : Int32) then (
  some (0, ((0 : Int32), u5)))
  else (
  bnd (f_X1_framesOfShot u5 v6) (fun u7 =>
  some (0, (u7, u5))))))))))))))))) else some (u1.1, ((0 : Int32), h)))
def f_X10_formatShot (h : Hp) (p1 : Int32) : Option (Nat × (Int32 × Hp)) :=
  bnd (f_X10_requireShot h p1) (fun u1 => if u1.1 = 0 then (
  bnd (f_X2_writeShot h p1) (fun u2 =>
  some (0, (u2 16 1, u2)))) else some (u1.1, ((0 : Int32), h)))
def f_X10_append (h : Hp) (p1 : Int32) (p2 : Int32) (p3 : Int32) (p4 : Int32) (p5 : Int32) : Option (Int32 × Hp) :=
  if (900 : Int32) < (h 1 1 + (20 : Int32)) then (
  some ((-1 : Int32), h))
  else (
  bnd (f_X9_putFour h p1) (fun u1 =>
  bnd (f_X9_putFour u1 p2) (fun u2 =>
  bnd (f_X9_putFour u2 p3) (fun u3 =>
  bnd (f_X9_putFour u3 p4) (fun u4 =>
  bnd (f_X9_putFour u4 p5) (fun u5 =>
  some (u5 1 1, u5)))))))
def f_X10_truncate (h : Hp) (p1 : Int32) : Option (Int32 × Hp) :=
  if p1 < 0 then (
  some ((0 : Int32), h))
  else (
  if h 1 1 < p1 then (
  some ((0 : Int32), h))
  else (
  stp (up h 1 1 p1) (fun h1 =>
  some ((1 : Int32), h1))))
def f_X10_errorOffset (h : Hp) : Option (Int32) :=
  some (h 1 2)
def f_X10_errorKind (h : Hp) : Option (Int32) :=
  some (h 1 3)
def f_X10_count (h : Hp) (p1 : Int32) : Option (Int32) :=
  ckp (h 3 0) 4 (fun q1 =>
  if p1 = 0 then (
  some (h q1 0))
  else (
  if p1 = 1 then (
  some (h q1 2))
  else (
  if p1 = 2 then (
  some (h q1 4))
  else (
  if p1 = 3 then (
  some (h q1 13))
  else (
  if p1 = 4 then (
  some (h q1 10))
  else (
  if p1 = 5 then (
  some (h q1 1))
  else (
  some (-1 : Int32))))))))
def f_X10_differentTexts (h : Hp) : Option (Int32) :=
  ckp (h 3 0) 4 (fun q1 =>
  bnd (f_X4_countTexts h q1) (fun u2 =>
  some u2))
def f_X10_blockAt (h : Hp) (p1 : Int32) : Option (Int32) :=
  ckp (h 3 0) 4 (fun q1 =>
  bnd (f_X4_blockWithFrame h q1 p1) (fun u2 =>
  some u2))
def f_X10_speakersAt (h : Hp) (p1 : Int32) : Option (Int32) :=
  ckp (h 3 0) 4 (fun q1 =>
  bnd (f_X4_speakerSet h q1 p1) (fun u2 =>
  some u2))
def f_X10_shots (h : Hp) : Option (Int32) :=
  some (h 18 1)
def f_X10_filmLength (h : Hp) : Option (Int32) :=
  some (h 3 2)
def f_X10_clips (h : Hp) : Option (Int32) :=
  some (h 3 11)
def f_X10_clipField (h : Hp) (p1 : Int32) (p2 : Int32) : Option (Int32) :=
  if p1 < 0 then (
  some (-1 : Int32))
  else (
  if p1 < h 3 11 then (
  ck (inb p1 41) (
  stp (h 11 (ix p1)) (fun v1 =>
  ck (inb (p1 + (1 : Int32)) 41) (
  stp (h 11 (ix (p1 + (1 : Int32)))) (fun v2 =>
  if p2 = 0 then (
  ck (inb v1 40) (
  some (h 4 (ix v1))))
  else (
  if p2 = 1 then (
  ck (inb (v2 - (1 : Int32)) 40) (
  some (h 5 (ix (v2 - (1 : Int32))))))
  else (
  if p2 = 2 then (
  ck (inb v1 40) (
  some (h 6 (ix v1))))
  else (
  if p2 = 3 then (
  some (v2 - v1))
  else (
  some (-1 : Int32))))))))))
  else (
  some (-1 : Int32)))
def f_X10_sourceOf (h : Hp) (p1 : Int32) : Option (Int32) :=
  bnd (f_X1_shotWithFrame h p1) (fun u1 =>
  if u1 = (-1 : Int32) then (
  some (-1 : Int32))
  else (
  bnd (f_X1_sourceIn h u1 p1) (fun u2 =>
  some u2)))
def f_X10_silence (h : Hp) : Option (Int32) :=
  some (h 3 13)
def f_X10_longestSilence (h : Hp) : Option (Int32) :=
  some (h 3 14)
def f_X10_transcriptSize (h : Hp) : Option (Int32) :=
  some (h 3 8)
def f_X10_transcriptWord (h : Hp) (p1 : Int32) : Option (Int32) :=
  if p1 < 0 then (
  some (-1 : Int32))
  else (
  if p1 < h 3 8 then (
  ck (inb p1 40) (
  some (h 9 (ix p1))))
  else (
  some (-1 : Int32)))
def f_X10_stutters (h : Hp) : Option (Int32) :=
  bnd (f_X1_countStutters h) (fun u1 =>
  some u1)
def f_X10_shotsToCut (h : Hp) (p1 : Int32) : Option (Int32 × Hp) :=
  if 0 ≤ p1 then (
  bnd (f_X1_countShotsBeyond h p1) (fun u1 =>
  some (u1.1, u1.2)))
  else (
  some ((-1 : Int32), h))
def f_X10_runScript (h : Hp) : Option (Int32 × Hp) :=
  bnd (f_X3_record h 18) (fun u1 =>
  bnd (f_X5_runAll u1) (fun u2 =>
  some (u2 15 1, u2)))
def f_X10_failed (h : Hp) : Option (Int32) :=
  some (h 15 2)
def f_X10_wasStopped (h : Hp) : Option (Int32) :=
  ck (zb (h 15 3)) (some (h 15 3))
def f_X10_undo (h : Hp) : Option (Int32 × Hp) :=
  if h 13 2 = 0 then (
  some ((-1 : Int32), h))
  else (
  bnd (f_X3_giveBack h 18) (fun u1 =>
  bnd (f_X1_layOut u1) (fun u2 =>
  some (u2 13 2, u2))))
def f_X10_undoDepth (h : Hp) : Option (Int32) :=
  some (h 13 2)
def f_X10_formatTranscript (h : Hp) : Option (Int32 × Hp) :=
  bnd (f_X2_writeTranscript h) (fun u1 =>
  some (u1 16 1, u1))
def f_X10_formattedByte (h : Hp) (p1 : Int32) : Option (Int32) :=
  if p1 < 0 then (
  some (-1 : Int32))
  else (
  if p1 < h 16 1 then (
  ck (inb p1 1000) (
  some (h 17 (ix p1))))
  else (
  some (-1 : Int32)))
def f_L_load (h g : Hp) : Option (Int32 × (Hp × Hp)) := bnd (f_X10_load h ) (fun u => if u.1 = 0 then (some (0, (u.2.2, up g 145 0 u.2.1))) else (if u.1 = 2 then some (1, (u.2.2, g)) else none))
def f_L_loadScript (h g : Hp) : Option (Int32 × (Hp × Hp)) := bnd (f_X10_loadScript h ) (fun u => if u.1 = 0 then (some (0, (u.2.2, up g 145 0 u.2.1))) else (if u.1 = 2 then some (1, (u.2.2, g)) else none))
def f_L_wordField (h g : Hp) (p1 : Int32) (p2 : Int32) : Option (Int32 × (Hp × Hp)) := bnd (f_X10_wordField h p1 p2) (fun u => if u.1 = 0 then (some (0, (h, up g 145 0 u.2))) else (if u.1 = 1 then some (1, (h, g)) else none))
def f_L_isSameText (h g : Hp) (p1 : Int32) (p2 : Int32) : Option (Int32 × (Hp × Hp)) := bnd (f_X10_isSameText h p1 p2) (fun u => if u.1 = 0 then (if u.2 = 0 then some (0, (h, up g 145 0 0)) else some (0, (h, up g 145 0 1))) else (if u.1 = 1 then some (1, (h, g)) else none))
def f_L_overlap (h g : Hp) (p1 : Int32) (p2 : Int32) : Option (Int32 × (Hp × Hp)) := bnd (f_X10_overlap h p1 p2) (fun u => if u.1 = 0 then (if u.2 = 0 then some (0, (h, up g 145 0 0)) else some (0, (h, up g 145 0 1))) else (if u.1 = 1 then some (1, (h, g)) else none))
def f_L_blockField (h g : Hp) (p1 : Int32) (p2 : Int32) : Option (Int32 × (Hp × Hp)) := bnd (f_X10_blockField h p1 p2) (fun u => if u.1 = 0 then (some (0, (h, up g 145 0 u.2))) else (if u.1 = 1 then some (1, (h, g)) else none))
def f_L_isSnapped (h g : Hp) (p1 : Int32) : Option (Int32 × (Hp × Hp)) := bnd (f_X10_isSnapped h p1) (fun u => if u.1 = 0 then (if u.2 = 0 then some (0, (h, up g 145 0 0)) else some (0, (h, up g 145 0 1))) else (if u.1 = 1 then some (1, (h, g)) else none))
def f_L_blockOf (h g : Hp) (p1 : Int32) : Option (Int32 × (Hp × Hp)) := bnd (f_X10_blockOf h p1) (fun u => if u.1 = 0 then (some (0, (h, up g 145 0 u.2))) else (if u.1 = 1 then some (1, (h, g)) else none))
def f_L_shotField (h g : Hp) (p1 : Int32) (p2 : Int32) : Option (Int32 × (Hp × Hp)) := bnd (f_X10_shotField h p1 p2) (fun u => if u.1 = 0 then (some (0, (h, up g 145 0 u.2))) else (if u.1 = 1 then some (1, (h, g)) else none))
def f_L_heard (h g : Hp) (p1 : Int32) (p2 : Int32) : Option (Int32 × (Hp × Hp)) := bnd (f_X10_heard h p1 p2) (fun u => if u.1 = 0 then (some (0, (h, up g 145 0 u.2))) else (if u.1 = 1 then some (1, (h, g)) else none))
def f_L_speakingTime (h g : Hp) (p1 : Int32) : Option (Int32 × (Hp × Hp)) := bnd (f_X10_speakingTime h p1) (fun u => if u.1 = 0 then (some (0, (h, up g 145 0 u.2))) else (if u.1 = 1 then some (1, (h, g)) else none))
def f_L_placeOf (h g : Hp) (p1 : Int32) : Option (Int32 × (Hp × Hp)) := bnd (f_X10_placeOf h p1) (fun u => if u.1 = 0 then (some (0, (h, up g 145 0 u.2))) else (if u.1 = 1 then some (1, (h, g)) else none))
def f_L_startInFilm (h g : Hp) (p1 : Int32) : Option (Int32 × (Hp × Hp)) := bnd (f_X10_startInFilm h p1) (fun u => if u.1 = 0 then (some (0, (h, up g 145 0 u.2))) else (if u.1 = 1 then some (1, (h, g)) else none))
def f_L_occurrences (h g : Hp) (p1 : Int32) : Option (Int32 × (Hp × Hp)) := bnd (f_X10_occurrences h p1) (fun u => if u.1 = 0 then (some (0, (h, up g 145 0 u.2))) else (if u.1 = 1 then some (1, (h, g)) else none))
def f_L_lengthIfCut (h g : Hp) (p1 : Int32) (p2 : Int32) : Option (Int32 × (Hp × Hp)) := bnd (f_X10_lengthIfCut h p1 p2) (fun u => if u.1 = 0 then (some (0, (h, up g 145 0 u.2))) else (if u.1 = 2 then some (1, (h, g)) else none))
def f_L_lengthIfRestored (h g : Hp) (p1 : Int32) : Option (Int32 × (Hp × Hp)) := bnd (f_X10_lengthIfRestored h p1) (fun u => if u.1 = 0 then (some (0, (h, up g 145 0 u.2))) else (if u.1 = 1 then some (1, (h, g)) else none))
def f_L_cut (h g : Hp) (p1 : Int32) (p2 : Int32) : Option (Int32 × (Hp × Hp)) := bnd (f_X10_cut h p1 p2) (fun u => if u.1 = 0 then (some (0, (u.2.2, up g 145 0 u.2.1))) else (if u.1 = 2 then some (1, (u.2.2, g)) else none))
def f_L_cutWord (h g : Hp) (p1 : Int32) : Option (Int32 × (Hp × Hp)) := bnd (f_X10_cutWord h p1) (fun u => if u.1 = 0 then (some (0, (u.2.2, up g 145 0 u.2.1))) else (if u.1 = 1 then some (1, (u.2.2, g)) else if u.1 = 3 then some (2, (u.2.2, g)) else none))
def f_L_restore (h g : Hp) (p1 : Int32) (p2 : Int32) : Option (Int32 × (Hp × Hp)) := bnd (f_X10_restore h p1 p2) (fun u => if u.1 = 0 then (some (0, (u.2.2, up g 145 0 u.2.1))) else (if u.1 = 1 then some (1, (u.2.2, g)) else if u.1 = 2 then some (2, (u.2.2, g)) else none))
def f_L_move (h g : Hp) (p1 : Int32) (p2 : Int32) (p3 : Int32) : Option (Int32 × (Hp × Hp)) := bnd (f_X10_move h p1 p2 p3) (fun u => if u.1 = 0 then (some (0, (u.2.2, up g 145 0 u.2.1))) else (if u.1 = 1 then some (1, (u.2.2, g)) else if u.1 = 2 then some (2, (u.2.2, g)) else none))
def f_L_setHandles (h g : Hp) (p1 : Int32) (p2 : Int32) (p3 : Int32) : Option (Int32 × (Hp × Hp)) := bnd (f_X10_setHandles h p1 p2 p3) (fun u => if u.1 = 0 then (some (0, (u.2.2, up g 145 0 u.2.1))) else (if u.1 = 1 then some (1, (u.2.2, g)) else if u.1 = 2 then some (2, (u.2.2, g)) else none))
def f_L_formatShot (h g : Hp) (p1 : Int32) : Option (Int32 × (Hp × Hp)) := bnd (f_X10_formatShot h p1) (fun u => if u.1 = 0 then (some (0, (u.2.2, up g 145 0 u.2.1))) else (if u.1 = 1 then some (1, (u.2.2, g)) else none))
def A_0 (h g : Hp) (a1 : Int32) (a2 : Int32) (a3 : Int32) (a4 : Int32) (a5 : Int32) : Option (Hp × Hp) :=
  bnd (f_X10_append h a1 a2 a3 a4 a5) (fun u0 => bnd (f_X11_append g a1 a2 a3 a4 a5) (fun u1 => if u0.1 = u1.1 then (some (u0.2, u1.2)) else none))
def A_1 (h g : Hp) (a1 : Int32) : Option (Hp × Hp) :=
  bnd (f_X10_truncate h a1) (fun u0 => bnd (f_X11_truncate g a1) (fun u1 => if u0.1 = u1.1 then (some (u0.2, u1.2)) else none))
def A_2 (h g : Hp) : Option (Hp × Hp) :=
  bnd (f_L_load h g ) (fun u0 => bnd (f_X11_load u0.2.2 ) (fun u1 => bnd (f_X11_thrown u1.2 ) (fun u2 => if u2 = u0.1 then (if u0.1 = 0 then (if u1.2 145 0 = u1.1 then (some (u0.2.1, u1.2)) else none) else some (u0.2.1, u1.2)) else none)))
def A_3 (h g : Hp) : Option (Hp × Hp) :=
  bnd (f_L_loadScript h g ) (fun u0 => bnd (f_X11_loadScript u0.2.2 ) (fun u1 => bnd (f_X11_thrown u1.2 ) (fun u2 => if u2 = u0.1 then (if u0.1 = 0 then (if u1.2 145 0 = u1.1 then (some (u0.2.1, u1.2)) else none) else some (u0.2.1, u1.2)) else none)))
def A_4 (h g : Hp) : Option (Hp × Hp) :=
  bnd (f_X10_errorOffset h ) (fun u0 => bnd (f_X11_errorOffset g ) (fun u1 => if u0 = u1.1 then (some (h, u1.2)) else none))
def A_5 (h g : Hp) : Option (Hp × Hp) :=
  bnd (f_X10_errorKind h ) (fun u0 => bnd (f_X11_errorKind g ) (fun u1 => if u0 = u1.1 then (some (h, u1.2)) else none))
def A_6 (h g : Hp) (a1 : Int32) : Option (Hp × Hp) :=
  bnd (f_X10_count h a1) (fun u0 => bnd (f_X11_count g a1) (fun u1 => if u0 = u1.1 then (some (h, u1.2)) else none))
def A_7 (h g : Hp) (a1 : Int32) (a2 : Int32) : Option (Hp × Hp) :=
  bnd (f_L_wordField h g a1 a2) (fun u0 => bnd (f_X11_wordField u0.2.2 a1 a2) (fun u1 => bnd (f_X11_thrown u1.2 ) (fun u2 => if u2 = u0.1 then (if u0.1 = 0 then (if u1.2 145 0 = u1.1 then (some (u0.2.1, u1.2)) else none) else some (u0.2.1, u1.2)) else none)))
def A_8 (h g : Hp) (a1 : Int32) (a2 : Int32) : Option (Hp × Hp) :=
  bnd (f_L_isSameText h g a1 a2) (fun u0 => bnd (f_X11_isSameText u0.2.2 a1 a2) (fun u1 => bnd (f_X11_thrown u1.2 ) (fun u2 => if u2 = u0.1 then (if u0.1 = 0 then (if u1.1 = 0 then (if u1.2 145 0 = 0 then some (u0.2.1, u1.2) else none) else (if u1.2 145 0 = 1 then some (u0.2.1, u1.2) else none)) else some (u0.2.1, u1.2)) else none)))
def A_9 (h g : Hp) (a1 : Int32) (a2 : Int32) : Option (Hp × Hp) :=
  bnd (f_L_overlap h g a1 a2) (fun u0 => bnd (f_X11_overlap u0.2.2 a1 a2) (fun u1 => bnd (f_X11_thrown u1.2 ) (fun u2 => if u2 = u0.1 then (if u0.1 = 0 then (if u1.1 = 0 then (if u1.2 145 0 = 0 then some (u0.2.1, u1.2) else none) else (if u1.2 145 0 = 1 then some (u0.2.1, u1.2) else none)) else some (u0.2.1, u1.2)) else none)))
def A_10 (h g : Hp) : Option (Hp × Hp) :=
  bnd (f_X10_differentTexts h ) (fun u0 => bnd (f_X11_differentTexts g ) (fun u1 => if u0 = u1.1 then (some (h, u1.2)) else none))
def A_11 (h g : Hp) (a1 : Int32) (a2 : Int32) : Option (Hp × Hp) :=
  bnd (f_L_blockField h g a1 a2) (fun u0 => bnd (f_X11_blockField u0.2.2 a1 a2) (fun u1 => bnd (f_X11_thrown u1.2 ) (fun u2 => if u2 = u0.1 then (if u0.1 = 0 then (if u1.2 145 0 = u1.1 then (some (u0.2.1, u1.2)) else none) else some (u0.2.1, u1.2)) else none)))
def A_12 (h g : Hp) (a1 : Int32) : Option (Hp × Hp) :=
  bnd (f_X10_blockAt h a1) (fun u0 => bnd (f_X11_blockAt g a1) (fun u1 => if u0 = u1.1 then (some (h, u1.2)) else none))
def A_13 (h g : Hp) (a1 : Int32) : Option (Hp × Hp) :=
  bnd (f_L_isSnapped h g a1) (fun u0 => bnd (f_X11_isSnapped u0.2.2 a1) (fun u1 => bnd (f_X11_thrown u1.2 ) (fun u2 => if u2 = u0.1 then (if u0.1 = 0 then (if u1.1 = 0 then (if u1.2 145 0 = 0 then some (u0.2.1, u1.2) else none) else (if u1.2 145 0 = 1 then some (u0.2.1, u1.2) else none)) else some (u0.2.1, u1.2)) else none)))
def A_14 (h g : Hp) (a1 : Int32) : Option (Hp × Hp) :=
  bnd (f_X10_speakersAt h a1) (fun u0 => bnd (f_X11_speakersAt g a1) (fun u1 => if u0 = u1.1 then (some (h, u1.2)) else none))
def A_15 (h g : Hp) : Option (Hp × Hp) :=
  bnd (f_X10_shots h ) (fun u0 => bnd (f_X11_shots g ) (fun u1 => if u0 = u1.1 then (some (h, u1.2)) else none))
def A_16 (h g : Hp) (a1 : Int32) : Option (Hp × Hp) :=
  bnd (f_L_blockOf h g a1) (fun u0 => bnd (f_X11_blockOf u0.2.2 a1) (fun u1 => bnd (f_X11_thrown u1.2 ) (fun u2 => if u2 = u0.1 then (if u0.1 = 0 then (if u1.2 145 0 = u1.1 then (some (u0.2.1, u1.2)) else none) else some (u0.2.1, u1.2)) else none)))
def A_17 (h g : Hp) (a1 : Int32) (a2 : Int32) : Option (Hp × Hp) :=
  bnd (f_L_shotField h g a1 a2) (fun u0 => bnd (f_X11_shotField u0.2.2 a1 a2) (fun u1 => bnd (f_X11_thrown u1.2 ) (fun u2 => if u2 = u0.1 then (if u0.1 = 0 then (if u1.2 145 0 = u1.1 then (some (u0.2.1, u1.2)) else none) else some (u0.2.1, u1.2)) else none)))
def A_18 (h g : Hp) : Option (Hp × Hp) :=
  bnd (f_X10_filmLength h ) (fun u0 => bnd (f_X11_filmLength g ) (fun u1 => if u0 = u1.1 then (some (h, u1.2)) else none))
def A_19 (h g : Hp) : Option (Hp × Hp) :=
  bnd (f_X10_clips h ) (fun u0 => bnd (f_X11_clips g ) (fun u1 => if u0 = u1.1 then (some (h, u1.2)) else none))
def A_20 (h g : Hp) (a1 : Int32) (a2 : Int32) : Option (Hp × Hp) :=
  bnd (f_X10_clipField h a1 a2) (fun u0 => bnd (f_X11_clipField g a1 a2) (fun u1 => if u0 = u1.1 then (some (h, u1.2)) else none))
def A_21 (h g : Hp) (a1 : Int32) : Option (Hp × Hp) :=
  bnd (f_X10_sourceOf h a1) (fun u0 => bnd (f_X11_sourceOf g a1) (fun u1 => if u0 = u1.1 then (some (h, u1.2)) else none))
def A_22 (h g : Hp) (a1 : Int32) (a2 : Int32) : Option (Hp × Hp) :=
  bnd (f_L_heard h g a1 a2) (fun u0 => bnd (f_X11_heard u0.2.2 a1 a2) (fun u1 => bnd (f_X11_thrown u1.2 ) (fun u2 => if u2 = u0.1 then (if u0.1 = 0 then (if u1.2 145 0 = u1.1 then (some (u0.2.1, u1.2)) else none) else some (u0.2.1, u1.2)) else none)))
def A_23 (h g : Hp) : Option (Hp × Hp) :=
  bnd (f_X10_silence h ) (fun u0 => bnd (f_X11_silence g ) (fun u1 => if u0 = u1.1 then (some (h, u1.2)) else none))
def A_24 (h g : Hp) : Option (Hp × Hp) :=
  bnd (f_X10_longestSilence h ) (fun u0 => bnd (f_X11_longestSilence g ) (fun u1 => if u0 = u1.1 then (some (h, u1.2)) else none))
def A_25 (h g : Hp) (a1 : Int32) : Option (Hp × Hp) :=
  bnd (f_L_speakingTime h g a1) (fun u0 => bnd (f_X11_speakingTime u0.2.2 a1) (fun u1 => bnd (f_X11_thrown u1.2 ) (fun u2 => if u2 = u0.1 then (if u0.1 = 0 then (if u1.2 145 0 = u1.1 then (some (u0.2.1, u1.2)) else none) else some (u0.2.1, u1.2)) else none)))
def A_26 (h g : Hp) : Option (Hp × Hp) :=
  bnd (f_X10_transcriptSize h ) (fun u0 => bnd (f_X11_transcriptSize g ) (fun u1 => if u0 = u1.1 then (some (h, u1.2)) else none))
def A_27 (h g : Hp) (a1 : Int32) : Option (Hp × Hp) :=
  bnd (f_X10_transcriptWord h a1) (fun u0 => bnd (f_X11_transcriptWord g a1) (fun u1 => if u0 = u1.1 then (some (h, u1.2)) else none))
def A_28 (h g : Hp) (a1 : Int32) : Option (Hp × Hp) :=
  bnd (f_L_placeOf h g a1) (fun u0 => bnd (f_X11_placeOf u0.2.2 a1) (fun u1 => bnd (f_X11_thrown u1.2 ) (fun u2 => if u2 = u0.1 then (if u0.1 = 0 then (if u1.2 145 0 = u1.1 then (some (u0.2.1, u1.2)) else none) else some (u0.2.1, u1.2)) else none)))
def A_29 (h g : Hp) (a1 : Int32) : Option (Hp × Hp) :=
  bnd (f_L_startInFilm h g a1) (fun u0 => bnd (f_X11_startInFilm u0.2.2 a1) (fun u1 => bnd (f_X11_thrown u1.2 ) (fun u2 => if u2 = u0.1 then (if u0.1 = 0 then (if u1.2 145 0 = u1.1 then (some (u0.2.1, u1.2)) else none) else some (u0.2.1, u1.2)) else none)))
def A_30 (h g : Hp) (a1 : Int32) : Option (Hp × Hp) :=
  bnd (f_L_occurrences h g a1) (fun u0 => bnd (f_X11_occurrences u0.2.2 a1) (fun u1 => bnd (f_X11_thrown u1.2 ) (fun u2 => if u2 = u0.1 then (if u0.1 = 0 then (if u1.2 145 0 = u1.1 then (some (u0.2.1, u1.2)) else none) else some (u0.2.1, u1.2)) else none)))
def A_31 (h g : Hp) : Option (Hp × Hp) :=
  bnd (f_X10_stutters h ) (fun u0 => bnd (f_X11_stutters g ) (fun u1 => if u0 = u1.1 then (some (h, u1.2)) else none))
def A_32 (h g : Hp) (a1 : Int32) (a2 : Int32) : Option (Hp × Hp) :=
  bnd (f_L_lengthIfCut h g a1 a2) (fun u0 => bnd (f_X11_lengthIfCut u0.2.2 a1 a2) (fun u1 => bnd (f_X11_thrown u1.2 ) (fun u2 => if u2 = u0.1 then (if u0.1 = 0 then (if u1.2 145 0 = u1.1 then (some (u0.2.1, u1.2)) else none) else some (u0.2.1, u1.2)) else none)))
def A_33 (h g : Hp) (a1 : Int32) : Option (Hp × Hp) :=
  bnd (f_L_lengthIfRestored h g a1) (fun u0 => bnd (f_X11_lengthIfRestored u0.2.2 a1) (fun u1 => bnd (f_X11_thrown u1.2 ) (fun u2 => if u2 = u0.1 then (if u0.1 = 0 then (if u1.2 145 0 = u1.1 then (some (u0.2.1, u1.2)) else none) else some (u0.2.1, u1.2)) else none)))
def A_34 (h g : Hp) (a1 : Int32) : Option (Hp × Hp) :=
  bnd (f_X10_shotsToCut h a1) (fun u0 => bnd (f_X11_shotsToCut g a1) (fun u1 => if u0.1 = u1.1 then (some (u0.2, u1.2)) else none))
def A_35 (h g : Hp) (a1 : Int32) (a2 : Int32) : Option (Hp × Hp) :=
  bnd (f_L_cut h g a1 a2) (fun u0 => bnd (f_X11_cut u0.2.2 a1 a2) (fun u1 => bnd (f_X11_thrown u1.2 ) (fun u2 => if u2 = u0.1 then (if u0.1 = 0 then (if u1.2 145 0 = u1.1 then (some (u0.2.1, u1.2)) else none) else some (u0.2.1, u1.2)) else none)))
def A_36 (h g : Hp) (a1 : Int32) : Option (Hp × Hp) :=
  bnd (f_L_cutWord h g a1) (fun u0 => bnd (f_X11_cutWord u0.2.2 a1) (fun u1 => bnd (f_X11_thrown u1.2 ) (fun u2 => if u2 = u0.1 then (if u0.1 = 0 then (if u1.2 145 0 = u1.1 then (some (u0.2.1, u1.2)) else none) else some (u0.2.1, u1.2)) else none)))
def A_37 (h g : Hp) (a1 : Int32) (a2 : Int32) : Option (Hp × Hp) :=
  bnd (f_L_restore h g a1 a2) (fun u0 => bnd (f_X11_restore u0.2.2 a1 a2) (fun u1 => bnd (f_X11_thrown u1.2 ) (fun u2 => if u2 = u0.1 then (if u0.1 = 0 then (if u1.2 145 0 = u1.1 then (some (u0.2.1, u1.2)) else none) else some (u0.2.1, u1.2)) else none)))
def A_38 (h g : Hp) (a1 : Int32) (a2 : Int32) (a3 : Int32) : Option (Hp × Hp) :=
  bnd (f_L_move h g a1 a2 a3) (fun u0 => bnd (f_X11_move u0.2.2 a1 a2 a3) (fun u1 => bnd (f_X11_thrown u1.2 ) (fun u2 => if u2 = u0.1 then (if u0.1 = 0 then (if u1.2 145 0 = u1.1 then (some (u0.2.1, u1.2)) else none) else some (u0.2.1, u1.2)) else none)))
def A_39 (h g : Hp) (a1 : Int32) (a2 : Int32) (a3 : Int32) : Option (Hp × Hp) :=
  bnd (f_L_setHandles h g a1 a2 a3) (fun u0 => bnd (f_X11_setHandles u0.2.2 a1 a2 a3) (fun u1 => bnd (f_X11_thrown u1.2 ) (fun u2 => if u2 = u0.1 then (if u0.1 = 0 then (if u1.2 145 0 = u1.1 then (some (u0.2.1, u1.2)) else none) else some (u0.2.1, u1.2)) else none)))
def A_40 (h g : Hp) : Option (Hp × Hp) :=
  bnd (f_X10_runScript h ) (fun u0 => bnd (f_X11_runScript g ) (fun u1 => if u0.1 = u1.1 then (some (u0.2, u1.2)) else none))
def A_41 (h g : Hp) : Option (Hp × Hp) :=
  bnd (f_X10_failed h ) (fun u0 => bnd (f_X11_failed g ) (fun u1 => if u0 = u1.1 then (some (h, u1.2)) else none))
def A_42 (h g : Hp) : Option (Hp × Hp) :=
  bnd (f_X10_wasStopped h ) (fun u0 => bnd (f_X11_wasStopped g ) (fun u1 => if u0 = u1.1 then (some (h, u1.2)) else none))
def A_43 (h g : Hp) : Option (Hp × Hp) :=
  bnd (f_X10_undo h ) (fun u0 => bnd (f_X11_undo g ) (fun u1 => if u0.1 = u1.1 then (some (u0.2, u1.2)) else none))
def A_44 (h g : Hp) : Option (Hp × Hp) :=
  bnd (f_X10_undoDepth h ) (fun u0 => bnd (f_X11_undoDepth g ) (fun u1 => if u0 = u1.1 then (some (h, u1.2)) else none))
def A_45 (h g : Hp) : Option (Hp × Hp) :=
  bnd (f_X10_formatTranscript h ) (fun u0 => bnd (f_X11_formatTranscript g ) (fun u1 => if u0.1 = u1.1 then (some (u0.2, u1.2)) else none))
def A_46 (h g : Hp) (a1 : Int32) : Option (Hp × Hp) :=
  bnd (f_L_formatShot h g a1) (fun u0 => bnd (f_X11_formatShot u0.2.2 a1) (fun u1 => bnd (f_X11_thrown u1.2 ) (fun u2 => if u2 = u0.1 then (if u0.1 = 0 then (if u1.2 145 0 = u1.1 then (some (u0.2.1, u1.2)) else none) else some (u0.2.1, u1.2)) else none)))
def A_47 (h g : Hp) (a1 : Int32) : Option (Hp × Hp) :=
  bnd (f_X10_formattedByte h a1) (fun u0 => bnd (f_X11_formattedByte g a1) (fun u1 => if u0 = u1.1 then (some (h, u1.2)) else none))
def stepz (xs : Nat → Int32) (i z : Int32) (h g : Hp) : Option (Hp × Hp) :=
  if z = 0 then A_0 h g (xs (ix (i + 1))) (xs (ix (i + 2))) (xs (ix (i + 3))) (xs (ix (i + 4))) (xs (ix (i + 5))) else
  if z = 1 then A_1 h g (xs (ix (i + 1))) else
  if z = 2 then A_2 h g else
  if z = 3 then A_3 h g else
  if z = 4 then A_4 h g else
  if z = 5 then A_5 h g else
  if z = 6 then A_6 h g (xs (ix (i + 1))) else
  if z = 7 then A_7 h g (xs (ix (i + 1))) (xs (ix (i + 2))) else
  if z = 8 then A_8 h g (xs (ix (i + 1))) (xs (ix (i + 2))) else
  if z = 9 then A_9 h g (xs (ix (i + 1))) (xs (ix (i + 2))) else
  if z = 10 then A_10 h g else
  if z = 11 then A_11 h g (xs (ix (i + 1))) (xs (ix (i + 2))) else
  if z = 12 then A_12 h g (xs (ix (i + 1))) else
  if z = 13 then A_13 h g (xs (ix (i + 1))) else
  if z = 14 then A_14 h g (xs (ix (i + 1))) else
  if z = 15 then A_15 h g else
  if z = 16 then A_16 h g (xs (ix (i + 1))) else
  if z = 17 then A_17 h g (xs (ix (i + 1))) (xs (ix (i + 2))) else
  if z = 18 then A_18 h g else
  if z = 19 then A_19 h g else
  if z = 20 then A_20 h g (xs (ix (i + 1))) (xs (ix (i + 2))) else
  if z = 21 then A_21 h g (xs (ix (i + 1))) else
  if z = 22 then A_22 h g (xs (ix (i + 1))) (xs (ix (i + 2))) else
  if z = 23 then A_23 h g else
  if z = 24 then A_24 h g else
  if z = 25 then A_25 h g (xs (ix (i + 1))) else
  if z = 26 then A_26 h g else
  if z = 27 then A_27 h g (xs (ix (i + 1))) else
  if z = 28 then A_28 h g (xs (ix (i + 1))) else
  if z = 29 then A_29 h g (xs (ix (i + 1))) else
  if z = 30 then A_30 h g (xs (ix (i + 1))) else
  if z = 31 then A_31 h g else
  if z = 32 then A_32 h g (xs (ix (i + 1))) (xs (ix (i + 2))) else
  if z = 33 then A_33 h g (xs (ix (i + 1))) else
  if z = 34 then A_34 h g (xs (ix (i + 1))) else
  if z = 35 then A_35 h g (xs (ix (i + 1))) (xs (ix (i + 2))) else
  if z = 36 then A_36 h g (xs (ix (i + 1))) else
  if z = 37 then A_37 h g (xs (ix (i + 1))) (xs (ix (i + 2))) else
  if z = 38 then A_38 h g (xs (ix (i + 1))) (xs (ix (i + 2))) (xs (ix (i + 3))) else
  if z = 39 then A_39 h g (xs (ix (i + 1))) (xs (ix (i + 2))) (xs (ix (i + 3))) else
  if z = 40 then A_40 h g else
  if z = 41 then A_41 h g else
  if z = 42 then A_42 h g else
  if z = 43 then A_43 h g else
  if z = 44 then A_44 h g else
  if z = 45 then A_45 h g else
  if z = 46 then A_46 h g (xs (ix (i + 1))) else
  if z = 47 then A_47 h g (xs (ix (i + 1))) else
  some (h, g)
def step (xs : Nat → Int32) (i : Int32) (h g : Hp) : Option (Hp × Hp) := stepz xs i (xs (ix i) &&& 63) h g
/-! the law's run in the pure heap -/
def run (xs : Nat → Int32) (L : Nat) : Nat → Nat → Hp → Hp → Option Unit
  | 0, _, _, _ => none
  | n + 1, a, h, g => if L < a + 6 then some () else bnd (step xs (nI a) h g) (fun q => run xs L n (a + 6) q.1 q.2)
