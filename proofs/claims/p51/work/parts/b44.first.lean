/-! the class's objects as the constructor leaves them, and the object that draws -/
def rcI : Nat → Int32 := fun j => if j = 0 then 1000 else if j = 1 then 12 else 0
def h0C : Hp := fun k => if k = 0 then (fun j => if j = 5 then 97 else if j = 6 then 118 else 0) else if k = 1 then (fun j => if j = 2 then -1 else 0) else if k = 3 then (fun j => if j = 0 then 83 else 0) else if k = 15 then (fun j => if j = 0 then 111 else 0) else if k = 83 then rcI else if k = 97 then rcI else fun _ => 0
theorem h0_z {k j : Nat} (h0 : ¬ k = 0) (h1 : ¬ k = 1) (h3 : ¬ k = 3) (h15 : ¬ k = 15) (h83 : ¬ k = 83) (h97 : ¬ k = 97) : h0C k j = nI 0 := by
  unfold h0C
  rw [if_neg h0, if_neg h1, if_neg h3, if_neg h15, if_neg h83, if_neg h97]
  rfl
/-- the pool with the object that draws alone -/
def gD (v : Int32) : PL := (1, ((fun _ => (1, 0)), (fun _ _ => v)))
theorem gD_PW {v : Int32} : PW (gD v) := ⟨by show 1 ≤ 900000; decide, fun k _ j hj => (by cases hj), fun k _ h6 => (by cases h6)⟩
def aD (d : Nat) : Nat → Nat := fun _ => d
theorem ix97 : ix (97 : Int32) = 97 := by decide +kernel
theorem ix118 : ix (118 : Int32) = 118 := by decide +kernel
theorem ix83 : ix (83 : Int32) = 83 := by decide +kernel
theorem ix111 : ix (111 : Int32) = 111 := by decide +kernel
def adS (u : SX10) : List Nat := [u.1 0, u.2.1 0, u.2.1 1, u.2.2.1.1 0, u.2.2.1.1 1, u.2.2.1.1 2, u.2.2.1.1 3, u.2.2.1.1 4, u.2.2.1.1 5, u.2.2.1.1 6, u.2.2.1.1 7, u.2.2.1.1 8, u.2.2.1.1 9, u.2.2.2.1.1 0, u.2.2.2.1.1 1, u.2.2.2.2.1.1 0, u.2.2.2.2.2.1 0, u.2.2.2.2.2.1 1, u.2.2.1.2.2 0, u.2.2.1.2.2 1, u.2.2.1.2.2 2, u.2.2.1.2.2 3, u.2.2.1.2.2 4, u.2.2.2.1.2 0 0, u.2.2.2.1.2 0 1, u.2.2.2.1.2 0 2, u.2.2.2.1.2 0 3, u.2.2.2.1.2 0 4, u.2.2.2.1.2 1 0, u.2.2.2.1.2 1 1, u.2.2.2.1.2 1 2, u.2.2.2.1.2 1 3, u.2.2.2.1.2 1 4, u.2.2.2.1.2 2 0, u.2.2.2.1.2 2 1, u.2.2.2.1.2 2 2, u.2.2.2.1.2 2 3, u.2.2.2.1.2 2 4, u.2.2.2.1.2 3 0, u.2.2.2.1.2 3 1, u.2.2.2.1.2 3 2, u.2.2.2.1.2 3 3, u.2.2.2.1.2 3 4, u.2.2.2.1.2 4 0, u.2.2.2.1.2 4 1, u.2.2.2.1.2 4 2, u.2.2.2.1.2 4 3, u.2.2.2.1.2 4 4, u.2.2.2.1.2 5 0, u.2.2.2.1.2 5 1, u.2.2.2.1.2 5 2, u.2.2.2.1.2 5 3, u.2.2.2.1.2 5 4, u.2.2.2.1.2 6 0, u.2.2.2.1.2 6 1, u.2.2.2.1.2 6 2, u.2.2.2.1.2 6 3, u.2.2.2.1.2 6 4, u.2.2.2.1.2 7 0, u.2.2.2.1.2 7 1, u.2.2.2.1.2 7 2, u.2.2.2.1.2 7 3, u.2.2.2.1.2 7 4, u.2.2.2.1.2 8 0, u.2.2.2.1.2 8 1, u.2.2.2.1.2 8 2, u.2.2.2.1.2 8 3, u.2.2.2.1.2 8 4, u.2.2.2.1.2 9 0, u.2.2.2.1.2 9 1, u.2.2.2.1.2 9 2, u.2.2.2.1.2 9 3, u.2.2.2.1.2 9 4, u.2.2.2.1.2 10 0, u.2.2.2.1.2 10 1, u.2.2.2.1.2 10 2, u.2.2.2.1.2 10 3, u.2.2.2.1.2 10 4, u.2.2.2.1.2 11 0, u.2.2.2.1.2 11 1, u.2.2.2.1.2 11 2, u.2.2.2.1.2 11 3, u.2.2.2.1.2 11 4, u.2.2.1.2.1 0, u.2.2.1.2.1 1, u.2.2.1.2.1 2, u.2.2.1.2.1 3, u.2.2.1.2.1 4, u.2.2.1.2.1 5, u.2.2.1.2.1 6, u.2.2.1.2.1 7, u.2.2.1.2.1 8, u.2.2.1.2.1 9, u.2.2.1.2.1 10, u.2.2.1.2.1 11, u.2.2.1.2.1 12, u.2.2.1.2.1 13, u.2.2.2.2.2.2.1 0, u.2.2.2.2.2.2.1 1, u.2.2.2.2.2.2.1 2, u.2.2.2.2.2.2.1 3, u.2.2.2.2.2.2.1 4, u.2.2.2.2.2.2.1 5, u.2.2.2.2.2.2.1 6, u.2.2.2.2.2.2.1 7, u.2.2.2.2.2.2.1 8, u.2.2.2.2.2.2.1 9, u.2.2.2.2.2.2.1 10, u.2.2.2.2.2.2.1 11, u.2.2.2.2.2.2.1 12, u.2.2.2.2.2.2.1 13, u.2.2.2.2.1.2 0, u.2.2.2.2.1.2 1, u.2.2.2.2.1.2 2, u.2.2.2.2.1.2 3, u.2.2.2.2.1.2 4, u.2.2.2.2.1.2 5, u.2.2.2.2.1.2 6, u.2.2.2.2.2.2.2 0, u.2.2.2.2.2.2.2 1, u.2.2.2.2.2.2.2 2, u.2.2.2.2.2.2.2 3, u.2.2.2.2.2.2.2 4, u.2.2.2.2.2.2.2 5, u.2.2.2.2.2.2.2 6]
def posS : List Nat := [1, 2, 3, 4, 24, 25, 26, 27, 28, 29, 30, 31, 32, 33, 34, 95, 103, 104, 19, 20, 21, 22, 23, 35, 36, 37, 38, 39, 40, 41, 42, 43, 44, 45, 46, 47, 48, 49, 50, 51, 52, 53, 54, 55, 56, 57, 58, 59, 60, 61, 62, 63, 64, 65, 66, 67, 68, 69, 70, 71, 72, 73, 74, 75, 76, 77, 78, 79, 80, 81, 82, 83, 84, 85, 86, 87, 88, 89, 90, 91, 92, 93, 94, 5, 6, 7, 8, 9, 10, 11, 12, 13, 14, 15, 16, 17, 18, 105, 106, 107, 108, 109, 110, 111, 112, 113, 114, 115, 116, 117, 118, 96, 97, 98, 99, 100, 101, 102, 119, 120, 121, 122, 123, 124, 125, 0]
def WS0 (dA : Nat → ClassId) (u : SX10) (d : Nat) (v : Int32) : va_W := [(d, .inr (10, [.int v]))] ++ wX10 dA u
def ZS (D : va_G) (dA : Nat → ClassId) (u : SX10) (sz0 : Nat) (sa : Nat → Nat) : ZT := ((fun k => (adS u).getD k 0), D, dA, sz0, sa)
theorem ball_s {Q : Nat → Prop} {n : Nat} (h : ∀ k, k < n → Q k) (h1 : Q n) : ∀ k, k < n + 1 → Q k := fun k hk => by
  by_cases e : k = n
  · subst e; exact h1
  · exact h k (by omega)
def WSx (dA : Nat → ClassId) (u : SX10) (d : Nat) (v : Int32) : va_W := [(d, .inr (10, [.int v])), (u.1 0, .inr (8, [.ref (u.2.1 0), .ref (u.2.2.1.1 0), .ref (u.2.2.2.1.1 0), .ref (u.2.2.2.2.1.1 0), .ref (u.2.2.2.2.2.1 0), .ref (u.2.2.2.2.2.2.1 0), .ref (u.2.2.2.2.2.2.2 0)])), (u.2.1 0, .inr (7, [.ref (u.2.1 1), .int 0, .int (-1), .int 0, .int 0, .int 0, .int 0])), (u.2.1 1, .inl (dA 0, 900, .inl (fun _ => 0))), (u.2.2.1.1 0, .inr (1, [.ref (u.2.2.1.2.1 0), .ref (u.2.2.1.2.2 0), .int 0, .ref (u.2.2.1.1 1), .ref (u.2.2.1.1 2), .ref (u.2.2.1.1 3), .ref (u.2.2.1.1 4), .ref (u.2.2.1.1 5), .int 0, .ref (u.2.2.1.1 6), .ref (u.2.2.1.1 7), .int 0, .ref (u.2.2.1.1 8), .int 0, .int 0, .ref (u.2.2.1.1 9)])), (u.2.2.1.2.1 0, .inr (4, [.int 1000, .int 12, .int 0, .ref (u.2.2.1.2.1 1), .int 0, .ref (u.2.2.1.2.1 2), .ref (u.2.2.1.2.1 3), .ref (u.2.2.1.2.1 4), .ref (u.2.2.1.2.1 5), .ref (u.2.2.1.2.1 6), .int 0, .ref (u.2.2.1.2.1 7), .ref (u.2.2.1.2.1 8), .int 0, .ref (u.2.2.1.2.1 9), .ref (u.2.2.1.2.1 10), .ref (u.2.2.1.2.1 11), .ref (u.2.2.1.2.1 12), .ref (u.2.2.1.2.1 13)])), (u.2.2.1.2.1 1, .inl (dA 1, 4, .inl (fun _ => 0))), (u.2.2.1.2.1 2, .inl (dA 1, 40, .inl (fun _ => 0))), (u.2.2.1.2.1 3, .inl (dA 1, 40, .inl (fun _ => 0))), (u.2.2.1.2.1 4, .inl (dA 1, 40, .inl (fun _ => 0))), (u.2.2.1.2.1 5, .inl (dA 1, 40, .inl (fun _ => 0))), (u.2.2.1.2.1 6, .inl (dA 1, 40, .inl (fun _ => 0))), (u.2.2.1.2.1 7, .inl (dA 1, 12, .inl (fun _ => 0))), (u.2.2.1.2.1 8, .inl (dA 1, 12, .inl (fun _ => 0))), (u.2.2.1.2.1 9, .inl (dA 1, 41, .inl (fun _ => 0))), (u.2.2.1.2.1 10, .inl (dA 1, 40, .inl (fun _ => 0))), (u.2.2.1.2.1 11, .inl (dA 1, 40, .inl (fun _ => 0))), (u.2.2.1.2.1 12, .inl (dA 1, 40, .inl (fun _ => 0))), (u.2.2.1.2.1 13, .inl (dA 2, 40, .inl (fun _ => 0))), (u.2.2.1.2.2 0, .inr (0, [.ref (u.2.2.1.2.2 1), .int 0, .ref (u.2.2.1.2.2 2), .ref (u.2.2.1.2.2 3), .ref (u.2.2.1.2.2 4)])), (u.2.2.1.2.2 1, .inl (dA 2, 40, .inl (fun _ => 0))), (u.2.2.1.2.2 2, .inl (dA 1, 40, .inl (fun _ => 0))), (u.2.2.1.2.2 3, .inl (dA 1, 40, .inl (fun _ => 0))), (u.2.2.1.2.2 4, .inl (dA 1, 40, .inl (fun _ => 0))), (u.2.2.1.1 1, .inl (dA 1, 40, .inl (fun _ => 0))), (u.2.2.1.1 2, .inl (dA 1, 40, .inl (fun _ => 0))), (u.2.2.1.1 3, .inl (dA 1, 40, .inl (fun _ => 0))), (u.2.2.1.1 4, .inl (dA 1, 41, .inl (fun _ => 0))), (u.2.2.1.1 5, .inl (dA 1, 40, .inl (fun _ => 0))), (u.2.2.1.1 6, .inl (dA 1, 40, .inl (fun _ => 0))), (u.2.2.1.1 7, .inl (dA 1, 40, .inl (fun _ => 0))), (u.2.2.1.1 8, .inl (dA 1, 41, .inl (fun _ => 0))), (u.2.2.1.1 9, .inl (dA 1, 40, .inl (fun _ => 0))), (u.2.2.2.1.1 0, .inr (3, [.ref (u.2.2.2.1.1 1), .int 0, .int 0])), (u.2.2.2.1.1 1, .inl (dA 3, 12, .inr (.inr (.inr (.inr (fun j => some ((adS u).getD (23 + 5 * j) 0))))))), (u.2.2.2.1.2 0 0, .inr (0, [.ref (u.2.2.2.1.2 0 1), .int 0, .ref (u.2.2.2.1.2 0 2), .ref (u.2.2.2.1.2 0 3), .ref (u.2.2.2.1.2 0 4)])), (u.2.2.2.1.2 0 1, .inl (dA 2, 40, .inl (fun _ => 0))), (u.2.2.2.1.2 0 2, .inl (dA 1, 40, .inl (fun _ => 0))), (u.2.2.2.1.2 0 3, .inl (dA 1, 40, .inl (fun _ => 0))), (u.2.2.2.1.2 0 4, .inl (dA 1, 40, .inl (fun _ => 0))), (u.2.2.2.1.2 1 0, .inr (0, [.ref (u.2.2.2.1.2 1 1), .int 0, .ref (u.2.2.2.1.2 1 2), .ref (u.2.2.2.1.2 1 3), .ref (u.2.2.2.1.2 1 4)])), (u.2.2.2.1.2 1 1, .inl (dA 2, 40, .inl (fun _ => 0))), (u.2.2.2.1.2 1 2, .inl (dA 1, 40, .inl (fun _ => 0))), (u.2.2.2.1.2 1 3, .inl (dA 1, 40, .inl (fun _ => 0))), (u.2.2.2.1.2 1 4, .inl (dA 1, 40, .inl (fun _ => 0))), (u.2.2.2.1.2 2 0, .inr (0, [.ref (u.2.2.2.1.2 2 1), .int 0, .ref (u.2.2.2.1.2 2 2), .ref (u.2.2.2.1.2 2 3), .ref (u.2.2.2.1.2 2 4)])), (u.2.2.2.1.2 2 1, .inl (dA 2, 40, .inl (fun _ => 0))), (u.2.2.2.1.2 2 2, .inl (dA 1, 40, .inl (fun _ => 0))), (u.2.2.2.1.2 2 3, .inl (dA 1, 40, .inl (fun _ => 0))), (u.2.2.2.1.2 2 4, .inl (dA 1, 40, .inl (fun _ => 0))), (u.2.2.2.1.2 3 0, .inr (0, [.ref (u.2.2.2.1.2 3 1), .int 0, .ref (u.2.2.2.1.2 3 2), .ref (u.2.2.2.1.2 3 3), .ref (u.2.2.2.1.2 3 4)])), (u.2.2.2.1.2 3 1, .inl (dA 2, 40, .inl (fun _ => 0))), (u.2.2.2.1.2 3 2, .inl (dA 1, 40, .inl (fun _ => 0))), (u.2.2.2.1.2 3 3, .inl (dA 1, 40, .inl (fun _ => 0))), (u.2.2.2.1.2 3 4, .inl (dA 1, 40, .inl (fun _ => 0))), (u.2.2.2.1.2 4 0, .inr (0, [.ref (u.2.2.2.1.2 4 1), .int 0, .ref (u.2.2.2.1.2 4 2), .ref (u.2.2.2.1.2 4 3), .ref (u.2.2.2.1.2 4 4)])), (u.2.2.2.1.2 4 1, .inl (dA 2, 40, .inl (fun _ => 0))), (u.2.2.2.1.2 4 2, .inl (dA 1, 40, .inl (fun _ => 0))), (u.2.2.2.1.2 4 3, .inl (dA 1, 40, .inl (fun _ => 0))), (u.2.2.2.1.2 4 4, .inl (dA 1, 40, .inl (fun _ => 0))), (u.2.2.2.1.2 5 0, .inr (0, [.ref (u.2.2.2.1.2 5 1), .int 0, .ref (u.2.2.2.1.2 5 2), .ref (u.2.2.2.1.2 5 3), .ref (u.2.2.2.1.2 5 4)])), (u.2.2.2.1.2 5 1, .inl (dA 2, 40, .inl (fun _ => 0))), (u.2.2.2.1.2 5 2, .inl (dA 1, 40, .inl (fun _ => 0))), (u.2.2.2.1.2 5 3, .inl (dA 1, 40, .inl (fun _ => 0))), (u.2.2.2.1.2 5 4, .inl (dA 1, 40, .inl (fun _ => 0))), (u.2.2.2.1.2 6 0, .inr (0, [.ref (u.2.2.2.1.2 6 1), .int 0, .ref (u.2.2.2.1.2 6 2), .ref (u.2.2.2.1.2 6 3), .ref (u.2.2.2.1.2 6 4)])), (u.2.2.2.1.2 6 1, .inl (dA 2, 40, .inl (fun _ => 0))), (u.2.2.2.1.2 6 2, .inl (dA 1, 40, .inl (fun _ => 0))), (u.2.2.2.1.2 6 3, .inl (dA 1, 40, .inl (fun _ => 0))), (u.2.2.2.1.2 6 4, .inl (dA 1, 40, .inl (fun _ => 0))), (u.2.2.2.1.2 7 0, .inr (0, [.ref (u.2.2.2.1.2 7 1), .int 0, .ref (u.2.2.2.1.2 7 2), .ref (u.2.2.2.1.2 7 3), .ref (u.2.2.2.1.2 7 4)])), (u.2.2.2.1.2 7 1, .inl (dA 2, 40, .inl (fun _ => 0))), (u.2.2.2.1.2 7 2, .inl (dA 1, 40, .inl (fun _ => 0))), (u.2.2.2.1.2 7 3, .inl (dA 1, 40, .inl (fun _ => 0))), (u.2.2.2.1.2 7 4, .inl (dA 1, 40, .inl (fun _ => 0))), (u.2.2.2.1.2 8 0, .inr (0, [.ref (u.2.2.2.1.2 8 1), .int 0, .ref (u.2.2.2.1.2 8 2), .ref (u.2.2.2.1.2 8 3), .ref (u.2.2.2.1.2 8 4)])), (u.2.2.2.1.2 8 1, .inl (dA 2, 40, .inl (fun _ => 0))), (u.2.2.2.1.2 8 2, .inl (dA 1, 40, .inl (fun _ => 0))), (u.2.2.2.1.2 8 3, .inl (dA 1, 40, .inl (fun _ => 0))), (u.2.2.2.1.2 8 4, .inl (dA 1, 40, .inl (fun _ => 0))), (u.2.2.2.1.2 9 0, .inr (0, [.ref (u.2.2.2.1.2 9 1), .int 0, .ref (u.2.2.2.1.2 9 2), .ref (u.2.2.2.1.2 9 3), .ref (u.2.2.2.1.2 9 4)])), (u.2.2.2.1.2 9 1, .inl (dA 2, 40, .inl (fun _ => 0))), (u.2.2.2.1.2 9 2, .inl (dA 1, 40, .inl (fun _ => 0))), (u.2.2.2.1.2 9 3, .inl (dA 1, 40, .inl (fun _ => 0))), (u.2.2.2.1.2 9 4, .inl (dA 1, 40, .inl (fun _ => 0))), (u.2.2.2.1.2 10 0, .inr (0, [.ref (u.2.2.2.1.2 10 1), .int 0, .ref (u.2.2.2.1.2 10 2), .ref (u.2.2.2.1.2 10 3), .ref (u.2.2.2.1.2 10 4)])), (u.2.2.2.1.2 10 1, .inl (dA 2, 40, .inl (fun _ => 0))), (u.2.2.2.1.2 10 2, .inl (dA 1, 40, .inl (fun _ => 0))), (u.2.2.2.1.2 10 3, .inl (dA 1, 40, .inl (fun _ => 0))), (u.2.2.2.1.2 10 4, .inl (dA 1, 40, .inl (fun _ => 0))), (u.2.2.2.1.2 11 0, .inr (0, [.ref (u.2.2.2.1.2 11 1), .int 0, .ref (u.2.2.2.1.2 11 2), .ref (u.2.2.2.1.2 11 3), .ref (u.2.2.2.1.2 11 4)])), (u.2.2.2.1.2 11 1, .inl (dA 2, 40, .inl (fun _ => 0))), (u.2.2.2.1.2 11 2, .inl (dA 1, 40, .inl (fun _ => 0))), (u.2.2.2.1.2 11 3, .inl (dA 1, 40, .inl (fun _ => 0))), (u.2.2.2.1.2 11 4, .inl (dA 1, 40, .inl (fun _ => 0))), (u.2.2.2.2.1.1 0, .inr (5, [.ref (u.2.2.2.2.1.2 0), .int 0, .int 0, .int 0])), (u.2.2.2.2.1.2 0, .inr (6, [.int 0, .ref (u.2.2.2.2.1.2 1), .ref (u.2.2.2.2.1.2 2), .ref (u.2.2.2.2.1.2 3), .ref (u.2.2.2.2.1.2 4), .ref (u.2.2.2.2.1.2 5), .ref (u.2.2.2.2.1.2 6)])), (u.2.2.2.2.1.2 1, .inl (dA 1, 30, .inl (fun _ => 0))), (u.2.2.2.2.1.2 2, .inl (dA 1, 30, .inl (fun _ => 0))), (u.2.2.2.2.1.2 3, .inl (dA 1, 30, .inl (fun _ => 0))), (u.2.2.2.2.1.2 4, .inl (dA 1, 30, .inl (fun _ => 0))), (u.2.2.2.2.1.2 5, .inl (dA 1, 60, .inl (fun _ => 0))), (u.2.2.2.2.1.2 6, .inl (dA 1, 360, .inl (fun _ => 0))), (u.2.2.2.2.2.1 0, .inr (2, [.ref (u.2.2.2.2.2.1 1), .int 0])), (u.2.2.2.2.2.1 1, .inl (dA 0, 1000, .inl (fun _ => 0))), (u.2.2.2.2.2.2.1 0, .inr (4, [.int 1000, .int 12, .int 0, .ref (u.2.2.2.2.2.2.1 1), .int 0, .ref (u.2.2.2.2.2.2.1 2), .ref (u.2.2.2.2.2.2.1 3), .ref (u.2.2.2.2.2.2.1 4), .ref (u.2.2.2.2.2.2.1 5), .ref (u.2.2.2.2.2.2.1 6), .int 0, .ref (u.2.2.2.2.2.2.1 7), .ref (u.2.2.2.2.2.2.1 8), .int 0, .ref (u.2.2.2.2.2.2.1 9), .ref (u.2.2.2.2.2.2.1 10), .ref (u.2.2.2.2.2.2.1 11), .ref (u.2.2.2.2.2.2.1 12), .ref (u.2.2.2.2.2.2.1 13)])), (u.2.2.2.2.2.2.1 1, .inl (dA 1, 4, .inl (fun _ => 0))), (u.2.2.2.2.2.2.1 2, .inl (dA 1, 40, .inl (fun _ => 0))), (u.2.2.2.2.2.2.1 3, .inl (dA 1, 40, .inl (fun _ => 0))), (u.2.2.2.2.2.2.1 4, .inl (dA 1, 40, .inl (fun _ => 0))), (u.2.2.2.2.2.2.1 5, .inl (dA 1, 40, .inl (fun _ => 0))), (u.2.2.2.2.2.2.1 6, .inl (dA 1, 40, .inl (fun _ => 0))), (u.2.2.2.2.2.2.1 7, .inl (dA 1, 12, .inl (fun _ => 0))), (u.2.2.2.2.2.2.1 8, .inl (dA 1, 12, .inl (fun _ => 0))), (u.2.2.2.2.2.2.1 9, .inl (dA 1, 41, .inl (fun _ => 0))), (u.2.2.2.2.2.2.1 10, .inl (dA 1, 40, .inl (fun _ => 0))), (u.2.2.2.2.2.2.1 11, .inl (dA 1, 40, .inl (fun _ => 0))), (u.2.2.2.2.2.2.1 12, .inl (dA 1, 40, .inl (fun _ => 0))), (u.2.2.2.2.2.2.1 13, .inl (dA 2, 40, .inl (fun _ => 0))), (u.2.2.2.2.2.2.2 0, .inr (6, [.int 0, .ref (u.2.2.2.2.2.2.2 1), .ref (u.2.2.2.2.2.2.2 2), .ref (u.2.2.2.2.2.2.2 3), .ref (u.2.2.2.2.2.2.2 4), .ref (u.2.2.2.2.2.2.2 5), .ref (u.2.2.2.2.2.2.2 6)])), (u.2.2.2.2.2.2.2 1, .inl (dA 1, 30, .inl (fun _ => 0))), (u.2.2.2.2.2.2.2 2, .inl (dA 1, 30, .inl (fun _ => 0))), (u.2.2.2.2.2.2.2 3, .inl (dA 1, 30, .inl (fun _ => 0))), (u.2.2.2.2.2.2.2 4, .inl (dA 1, 30, .inl (fun _ => 0))), (u.2.2.2.2.2.2.2 5, .inl (dA 1, 60, .inl (fun _ => 0))), (u.2.2.2.2.2.2.2 6, .inl (dA 1, 360, .inl (fun _ => 0)))]
def WS0x (dA : Nat → ClassId) (u : SX10) (d : Nat) (v : Int32) : va_W := [(d, .inr (10, [.int v])), (u.1 0, .inr (8, [.ref (u.2.1 0), .ref (u.2.2.1.1 0), .ref (u.2.2.2.1.1 0), .ref (u.2.2.2.2.1.1 0), .ref (u.2.2.2.2.2.1 0), .ref (u.2.2.2.2.2.2.1 0), .ref (u.2.2.2.2.2.2.2 0)])), (u.2.1 0, .inr (7, [.ref (u.2.1 1), .int 0, .int (-1), .int 0, .int 0, .int 0, .int 0])), (u.2.1 1, .inl (dA 0, 900, .inl (fun _ => 0))), (u.2.2.1.1 0, .inr (1, [.ref (u.2.2.1.2.1 0), .ref (u.2.2.1.2.2 0), .int 0, .ref (u.2.2.1.1 1), .ref (u.2.2.1.1 2), .ref (u.2.2.1.1 3), .ref (u.2.2.1.1 4), .ref (u.2.2.1.1 5), .int 0, .ref (u.2.2.1.1 6), .ref (u.2.2.1.1 7), .int 0, .ref (u.2.2.1.1 8), .int 0, .int 0, .ref (u.2.2.1.1 9)])), (u.2.2.1.2.1 0, .inr (4, [.int 1000, .int 12, .int 0, .ref (u.2.2.1.2.1 1), .int 0, .ref (u.2.2.1.2.1 2), .ref (u.2.2.1.2.1 3), .ref (u.2.2.1.2.1 4), .ref (u.2.2.1.2.1 5), .ref (u.2.2.1.2.1 6), .int 0, .ref (u.2.2.1.2.1 7), .ref (u.2.2.1.2.1 8), .int 0, .ref (u.2.2.1.2.1 9), .ref (u.2.2.1.2.1 10), .ref (u.2.2.1.2.1 11), .ref (u.2.2.1.2.1 12), .ref (u.2.2.1.2.1 13)])), (u.2.2.1.2.1 1, .inl (dA 1, 4, .inl (fun _ => 0))), (u.2.2.1.2.1 2, .inl (dA 1, 40, .inl (fun _ => 0))), (u.2.2.1.2.1 3, .inl (dA 1, 40, .inl (fun _ => 0))), (u.2.2.1.2.1 4, .inl (dA 1, 40, .inl (fun _ => 0))), (u.2.2.1.2.1 5, .inl (dA 1, 40, .inl (fun _ => 0))), (u.2.2.1.2.1 6, .inl (dA 1, 40, .inl (fun _ => 0))), (u.2.2.1.2.1 7, .inl (dA 1, 12, .inl (fun _ => 0))), (u.2.2.1.2.1 8, .inl (dA 1, 12, .inl (fun _ => 0))), (u.2.2.1.2.1 9, .inl (dA 1, 41, .inl (fun _ => 0))), (u.2.2.1.2.1 10, .inl (dA 1, 40, .inl (fun _ => 0))), (u.2.2.1.2.1 11, .inl (dA 1, 40, .inl (fun _ => 0))), (u.2.2.1.2.1 12, .inl (dA 1, 40, .inl (fun _ => 0))), (u.2.2.1.2.1 13, .inl (dA 2, 40, .inl (fun _ => 0))), (u.2.2.1.2.2 0, .inr (0, [.ref (u.2.2.1.2.2 1), .int 0, .ref (u.2.2.1.2.2 2), .ref (u.2.2.1.2.2 3), .ref (u.2.2.1.2.2 4)])), (u.2.2.1.2.2 1, .inl (dA 2, 40, .inl (fun _ => 0))), (u.2.2.1.2.2 2, .inl (dA 1, 40, .inl (fun _ => 0))), (u.2.2.1.2.2 3, .inl (dA 1, 40, .inl (fun _ => 0))), (u.2.2.1.2.2 4, .inl (dA 1, 40, .inl (fun _ => 0))), (u.2.2.1.1 1, .inl (dA 1, 40, .inl (fun _ => 0))), (u.2.2.1.1 2, .inl (dA 1, 40, .inl (fun _ => 0))), (u.2.2.1.1 3, .inl (dA 1, 40, .inl (fun _ => 0))), (u.2.2.1.1 4, .inl (dA 1, 41, .inl (fun _ => 0))), (u.2.2.1.1 5, .inl (dA 1, 40, .inl (fun _ => 0))), (u.2.2.1.1 6, .inl (dA 1, 40, .inl (fun _ => 0))), (u.2.2.1.1 7, .inl (dA 1, 40, .inl (fun _ => 0))), (u.2.2.1.1 8, .inl (dA 1, 41, .inl (fun _ => 0))), (u.2.2.1.1 9, .inl (dA 1, 40, .inl (fun _ => 0))), (u.2.2.2.1.1 0, .inr (3, [.ref (u.2.2.2.1.1 1), .int 0, .int 0])), (u.2.2.2.1.1 1, .inl (dA 3, 12, .inr (.inr (.inr (.inr (fun j => some (zX0 (u.2.2.2.1.2 j)))))))), (u.2.2.2.1.2 0 0, .inr (0, [.ref (u.2.2.2.1.2 0 1), .int 0, .ref (u.2.2.2.1.2 0 2), .ref (u.2.2.2.1.2 0 3), .ref (u.2.2.2.1.2 0 4)])), (u.2.2.2.1.2 0 1, .inl (dA 2, 40, .inl (fun _ => 0))), (u.2.2.2.1.2 0 2, .inl (dA 1, 40, .inl (fun _ => 0))), (u.2.2.2.1.2 0 3, .inl (dA 1, 40, .inl (fun _ => 0))), (u.2.2.2.1.2 0 4, .inl (dA 1, 40, .inl (fun _ => 0))), (u.2.2.2.1.2 1 0, .inr (0, [.ref (u.2.2.2.1.2 1 1), .int 0, .ref (u.2.2.2.1.2 1 2), .ref (u.2.2.2.1.2 1 3), .ref (u.2.2.2.1.2 1 4)])), (u.2.2.2.1.2 1 1, .inl (dA 2, 40, .inl (fun _ => 0))), (u.2.2.2.1.2 1 2, .inl (dA 1, 40, .inl (fun _ => 0))), (u.2.2.2.1.2 1 3, .inl (dA 1, 40, .inl (fun _ => 0))), (u.2.2.2.1.2 1 4, .inl (dA 1, 40, .inl (fun _ => 0))), (u.2.2.2.1.2 2 0, .inr (0, [.ref (u.2.2.2.1.2 2 1), .int 0, .ref (u.2.2.2.1.2 2 2), .ref (u.2.2.2.1.2 2 3), .ref (u.2.2.2.1.2 2 4)])), (u.2.2.2.1.2 2 1, .inl (dA 2, 40, .inl (fun _ => 0))), (u.2.2.2.1.2 2 2, .inl (dA 1, 40, .inl (fun _ => 0))), (u.2.2.2.1.2 2 3, .inl (dA 1, 40, .inl (fun _ => 0))), (u.2.2.2.1.2 2 4, .inl (dA 1, 40, .inl (fun _ => 0))), (u.2.2.2.1.2 3 0, .inr (0, [.ref (u.2.2.2.1.2 3 1), .int 0, .ref (u.2.2.2.1.2 3 2), .ref (u.2.2.2.1.2 3 3), .ref (u.2.2.2.1.2 3 4)])), (u.2.2.2.1.2 3 1, .inl (dA 2, 40, .inl (fun _ => 0))), (u.2.2.2.1.2 3 2, .inl (dA 1, 40, .inl (fun _ => 0))), (u.2.2.2.1.2 3 3, .inl (dA 1, 40, .inl (fun _ => 0))), (u.2.2.2.1.2 3 4, .inl (dA 1, 40, .inl (fun _ => 0))), (u.2.2.2.1.2 4 0, .inr (0, [.ref (u.2.2.2.1.2 4 1), .int 0, .ref (u.2.2.2.1.2 4 2), .ref (u.2.2.2.1.2 4 3), .ref (u.2.2.2.1.2 4 4)])), (u.2.2.2.1.2 4 1, .inl (dA 2, 40, .inl (fun _ => 0))), (u.2.2.2.1.2 4 2, .inl (dA 1, 40, .inl (fun _ => 0))), (u.2.2.2.1.2 4 3, .inl (dA 1, 40, .inl (fun _ => 0))), (u.2.2.2.1.2 4 4, .inl (dA 1, 40, .inl (fun _ => 0))), (u.2.2.2.1.2 5 0, .inr (0, [.ref (u.2.2.2.1.2 5 1), .int 0, .ref (u.2.2.2.1.2 5 2), .ref (u.2.2.2.1.2 5 3), .ref (u.2.2.2.1.2 5 4)])), (u.2.2.2.1.2 5 1, .inl (dA 2, 40, .inl (fun _ => 0))), (u.2.2.2.1.2 5 2, .inl (dA 1, 40, .inl (fun _ => 0))), (u.2.2.2.1.2 5 3, .inl (dA 1, 40, .inl (fun _ => 0))), (u.2.2.2.1.2 5 4, .inl (dA 1, 40, .inl (fun _ => 0))), (u.2.2.2.1.2 6 0, .inr (0, [.ref (u.2.2.2.1.2 6 1), .int 0, .ref (u.2.2.2.1.2 6 2), .ref (u.2.2.2.1.2 6 3), .ref (u.2.2.2.1.2 6 4)])), (u.2.2.2.1.2 6 1, .inl (dA 2, 40, .inl (fun _ => 0))), (u.2.2.2.1.2 6 2, .inl (dA 1, 40, .inl (fun _ => 0))), (u.2.2.2.1.2 6 3, .inl (dA 1, 40, .inl (fun _ => 0))), (u.2.2.2.1.2 6 4, .inl (dA 1, 40, .inl (fun _ => 0))), (u.2.2.2.1.2 7 0, .inr (0, [.ref (u.2.2.2.1.2 7 1), .int 0, .ref (u.2.2.2.1.2 7 2), .ref (u.2.2.2.1.2 7 3), .ref (u.2.2.2.1.2 7 4)])), (u.2.2.2.1.2 7 1, .inl (dA 2, 40, .inl (fun _ => 0))), (u.2.2.2.1.2 7 2, .inl (dA 1, 40, .inl (fun _ => 0))), (u.2.2.2.1.2 7 3, .inl (dA 1, 40, .inl (fun _ => 0))), (u.2.2.2.1.2 7 4, .inl (dA 1, 40, .inl (fun _ => 0))), (u.2.2.2.1.2 8 0, .inr (0, [.ref (u.2.2.2.1.2 8 1), .int 0, .ref (u.2.2.2.1.2 8 2), .ref (u.2.2.2.1.2 8 3), .ref (u.2.2.2.1.2 8 4)])), (u.2.2.2.1.2 8 1, .inl (dA 2, 40, .inl (fun _ => 0))), (u.2.2.2.1.2 8 2, .inl (dA 1, 40, .inl (fun _ => 0))), (u.2.2.2.1.2 8 3, .inl (dA 1, 40, .inl (fun _ => 0))), (u.2.2.2.1.2 8 4, .inl (dA 1, 40, .inl (fun _ => 0))), (u.2.2.2.1.2 9 0, .inr (0, [.ref (u.2.2.2.1.2 9 1), .int 0, .ref (u.2.2.2.1.2 9 2), .ref (u.2.2.2.1.2 9 3), .ref (u.2.2.2.1.2 9 4)])), (u.2.2.2.1.2 9 1, .inl (dA 2, 40, .inl (fun _ => 0))), (u.2.2.2.1.2 9 2, .inl (dA 1, 40, .inl (fun _ => 0))), (u.2.2.2.1.2 9 3, .inl (dA 1, 40, .inl (fun _ => 0))), (u.2.2.2.1.2 9 4, .inl (dA 1, 40, .inl (fun _ => 0))), (u.2.2.2.1.2 10 0, .inr (0, [.ref (u.2.2.2.1.2 10 1), .int 0, .ref (u.2.2.2.1.2 10 2), .ref (u.2.2.2.1.2 10 3), .ref (u.2.2.2.1.2 10 4)])), (u.2.2.2.1.2 10 1, .inl (dA 2, 40, .inl (fun _ => 0))), (u.2.2.2.1.2 10 2, .inl (dA 1, 40, .inl (fun _ => 0))), (u.2.2.2.1.2 10 3, .inl (dA 1, 40, .inl (fun _ => 0))), (u.2.2.2.1.2 10 4, .inl (dA 1, 40, .inl (fun _ => 0))), (u.2.2.2.1.2 11 0, .inr (0, [.ref (u.2.2.2.1.2 11 1), .int 0, .ref (u.2.2.2.1.2 11 2), .ref (u.2.2.2.1.2 11 3), .ref (u.2.2.2.1.2 11 4)])), (u.2.2.2.1.2 11 1, .inl (dA 2, 40, .inl (fun _ => 0))), (u.2.2.2.1.2 11 2, .inl (dA 1, 40, .inl (fun _ => 0))), (u.2.2.2.1.2 11 3, .inl (dA 1, 40, .inl (fun _ => 0))), (u.2.2.2.1.2 11 4, .inl (dA 1, 40, .inl (fun _ => 0))), (u.2.2.2.2.1.1 0, .inr (5, [.ref (u.2.2.2.2.1.2 0), .int 0, .int 0, .int 0])), (u.2.2.2.2.1.2 0, .inr (6, [.int 0, .ref (u.2.2.2.2.1.2 1), .ref (u.2.2.2.2.1.2 2), .ref (u.2.2.2.2.1.2 3), .ref (u.2.2.2.2.1.2 4), .ref (u.2.2.2.2.1.2 5), .ref (u.2.2.2.2.1.2 6)])), (u.2.2.2.2.1.2 1, .inl (dA 1, 30, .inl (fun _ => 0))), (u.2.2.2.2.1.2 2, .inl (dA 1, 30, .inl (fun _ => 0))), (u.2.2.2.2.1.2 3, .inl (dA 1, 30, .inl (fun _ => 0))), (u.2.2.2.2.1.2 4, .inl (dA 1, 30, .inl (fun _ => 0))), (u.2.2.2.2.1.2 5, .inl (dA 1, 60, .inl (fun _ => 0))), (u.2.2.2.2.1.2 6, .inl (dA 1, 360, .inl (fun _ => 0))), (u.2.2.2.2.2.1 0, .inr (2, [.ref (u.2.2.2.2.2.1 1), .int 0])), (u.2.2.2.2.2.1 1, .inl (dA 0, 1000, .inl (fun _ => 0))), (u.2.2.2.2.2.2.1 0, .inr (4, [.int 1000, .int 12, .int 0, .ref (u.2.2.2.2.2.2.1 1), .int 0, .ref (u.2.2.2.2.2.2.1 2), .ref (u.2.2.2.2.2.2.1 3), .ref (u.2.2.2.2.2.2.1 4), .ref (u.2.2.2.2.2.2.1 5), .ref (u.2.2.2.2.2.2.1 6), .int 0, .ref (u.2.2.2.2.2.2.1 7), .ref (u.2.2.2.2.2.2.1 8), .int 0, .ref (u.2.2.2.2.2.2.1 9), .ref (u.2.2.2.2.2.2.1 10), .ref (u.2.2.2.2.2.2.1 11), .ref (u.2.2.2.2.2.2.1 12), .ref (u.2.2.2.2.2.2.1 13)])), (u.2.2.2.2.2.2.1 1, .inl (dA 1, 4, .inl (fun _ => 0))), (u.2.2.2.2.2.2.1 2, .inl (dA 1, 40, .inl (fun _ => 0))), (u.2.2.2.2.2.2.1 3, .inl (dA 1, 40, .inl (fun _ => 0))), (u.2.2.2.2.2.2.1 4, .inl (dA 1, 40, .inl (fun _ => 0))), (u.2.2.2.2.2.2.1 5, .inl (dA 1, 40, .inl (fun _ => 0))), (u.2.2.2.2.2.2.1 6, .inl (dA 1, 40, .inl (fun _ => 0))), (u.2.2.2.2.2.2.1 7, .inl (dA 1, 12, .inl (fun _ => 0))), (u.2.2.2.2.2.2.1 8, .inl (dA 1, 12, .inl (fun _ => 0))), (u.2.2.2.2.2.2.1 9, .inl (dA 1, 41, .inl (fun _ => 0))), (u.2.2.2.2.2.2.1 10, .inl (dA 1, 40, .inl (fun _ => 0))), (u.2.2.2.2.2.2.1 11, .inl (dA 1, 40, .inl (fun _ => 0))), (u.2.2.2.2.2.2.1 12, .inl (dA 1, 40, .inl (fun _ => 0))), (u.2.2.2.2.2.2.1 13, .inl (dA 2, 40, .inl (fun _ => 0))), (u.2.2.2.2.2.2.2 0, .inr (6, [.int 0, .ref (u.2.2.2.2.2.2.2 1), .ref (u.2.2.2.2.2.2.2 2), .ref (u.2.2.2.2.2.2.2 3), .ref (u.2.2.2.2.2.2.2 4), .ref (u.2.2.2.2.2.2.2 5), .ref (u.2.2.2.2.2.2.2 6)])), (u.2.2.2.2.2.2.2 1, .inl (dA 1, 30, .inl (fun _ => 0))), (u.2.2.2.2.2.2.2 2, .inl (dA 1, 30, .inl (fun _ => 0))), (u.2.2.2.2.2.2.2 3, .inl (dA 1, 30, .inl (fun _ => 0))), (u.2.2.2.2.2.2.2 4, .inl (dA 1, 30, .inl (fun _ => 0))), (u.2.2.2.2.2.2.2 5, .inl (dA 1, 60, .inl (fun _ => 0))), (u.2.2.2.2.2.2.2 6, .inl (dA 1, 360, .inl (fun _ => 0)))]
set_option maxHeartbeats 4000000 in
theorem WS0_eq (dA : Nat → ClassId) (u : SX10) (d : Nat) (v : Int32) : WS0 dA u d v = WS0x dA u d v := by
  unfold WS0 wX10 wX9 wX1 wX3 wX5 wX2 wX4 wX6 wX0
  simp only [List.cons_append, List.nil_append, List.append_assoc]
  rfl
theorem WSx_eq (dA : Nat → ClassId) (u : SX10) (d : Nat) (v : Int32) : (WS0x dA u d v).set 34 (u.2.2.2.1.1 1, .inl (dA 3, 12, .inr (.inr (.inr (.inr (fun j => some ((adS u).getD (23 + 5 * j) 0))))))) = WSx dA u d v := rfl
theorem WS0x_34 (dA : Nat → ClassId) (u : SX10) (d : Nat) (v : Int32) : (WS0x dA u d v)[34]? = some (u.2.2.2.1.1 1, .inl (dA 3, 12, .inr (.inr (.inr (.inr (fun j => some (zX0 (u.2.2.2.1.2 j)))))))) := rfl
theorem zj_0 (u : SX10) : zX0 (u.2.2.2.1.2 0) = (adS u).getD 23 0 := rfl
theorem zj_1 (u : SX10) : zX0 (u.2.2.2.1.2 1) = (adS u).getD 28 0 := rfl
theorem zj_2 (u : SX10) : zX0 (u.2.2.2.1.2 2) = (adS u).getD 33 0 := rfl
theorem zj_3 (u : SX10) : zX0 (u.2.2.2.1.2 3) = (adS u).getD 38 0 := rfl
theorem zj_4 (u : SX10) : zX0 (u.2.2.2.1.2 4) = (adS u).getD 43 0 := rfl
theorem zj_5 (u : SX10) : zX0 (u.2.2.2.1.2 5) = (adS u).getD 48 0 := rfl
theorem zj_6 (u : SX10) : zX0 (u.2.2.2.1.2 6) = (adS u).getD 53 0 := rfl
theorem zj_7 (u : SX10) : zX0 (u.2.2.2.1.2 7) = (adS u).getD 58 0 := rfl
theorem zj_8 (u : SX10) : zX0 (u.2.2.2.1.2 8) = (adS u).getD 63 0 := rfl
theorem zj_9 (u : SX10) : zX0 (u.2.2.2.1.2 9) = (adS u).getD 68 0 := rfl
theorem zj_10 (u : SX10) : zX0 (u.2.2.2.1.2 10) = (adS u).getD 73 0 := rfl
theorem zj_11 (u : SX10) : zX0 (u.2.2.2.1.2 11) = (adS u).getD 78 0 := rfl
def okW (D : va_G) (dA : Nat → ClassId) (u : SX10) (d : Nat) (v : Int32) (sz0 : Nat) (sa : Nat → Nat) (k : Nat) : Prop := (WSx dA u d v)[posS.getD k 0]? = some ((ZS D dA u sz0 sa).1 k, cel (ZS D dA u sz0 sa) (h0C k) k)
theorem h0_zf {k : Nat} (h : (k == 0 || k == 1 || k == 3 || k == 15 || k == 83 || k == 97) = false) : h0C k = fun _ => 0 := by
  simp only [Bool.or_eq_false_iff, beq_eq_false_iff_ne] at h
  obtain ⟨⟨⟨⟨⟨h0, h1⟩, h3⟩, h15⟩, h83⟩, h97⟩ := h
  funext j
  exact h0_z h0 h1 h3 h15 h83 h97
section OK
variable {D : va_G} {dA : Nat → ClassId} {u : SX10} {d : Nat} {v : Int32} {sz0 : Nat} {sa : Nat → Nat}
theorem ok_0 : okW D dA u d v sz0 sa 0 := by
  unfold okW
  rw [cel_k (show knd 0 = _ from rfl)]
  rfl
theorem ok_1 : okW D dA u d v sz0 sa 1 := by
  unfold okW
  rw [cel_k (show knd 1 = _ from rfl)]
  rfl
theorem ok_2 : okW D dA u d v sz0 sa 2 := by
  unfold okW
  rw [cel_k (show knd 2 = _ from rfl), h0_zf (by decide)]
  rfl
theorem ok_3 : okW D dA u d v sz0 sa 3 := by
  unfold okW
  rw [cel_k (show knd 3 = _ from rfl)]
  rfl
theorem ok_4 : okW D dA u d v sz0 sa 4 := by
  unfold okW
  rw [cel_k (show knd 4 = _ from rfl), h0_zf (by decide)]
  rfl
theorem ok_5 : okW D dA u d v sz0 sa 5 := by
  unfold okW
  rw [cel_k (show knd 5 = _ from rfl), h0_zf (by decide)]
  rfl
theorem ok_6 : okW D dA u d v sz0 sa 6 := by
  unfold okW
  rw [cel_k (show knd 6 = _ from rfl), h0_zf (by decide)]
  rfl
theorem ok_7 : okW D dA u d v sz0 sa 7 := by
  unfold okW
  rw [cel_k (show knd 7 = _ from rfl), h0_zf (by decide)]
  rfl
theorem ok_8 : okW D dA u d v sz0 sa 8 := by
  unfold okW
  rw [cel_k (show knd 8 = _ from rfl), h0_zf (by decide)]
  rfl
theorem ok_9 : okW D dA u d v sz0 sa 9 := by
  unfold okW
  rw [cel_k (show knd 9 = _ from rfl), h0_zf (by decide)]
  rfl
theorem ok_10 : okW D dA u d v sz0 sa 10 := by
  unfold okW
  rw [cel_k (show knd 10 = _ from rfl), h0_zf (by decide)]
  rfl
theorem ok_11 : okW D dA u d v sz0 sa 11 := by
  unfold okW
  rw [cel_k (show knd 11 = _ from rfl), h0_zf (by decide)]
  rfl
theorem ok_12 : okW D dA u d v sz0 sa 12 := by
  unfold okW
  rw [cel_k (show knd 12 = _ from rfl), h0_zf (by decide)]
  rfl
theorem ok_13 : okW D dA u d v sz0 sa 13 := by
  unfold okW
  rw [cel_k (show knd 13 = _ from rfl), h0_zf (by decide)]
  rfl
theorem ok_14 : okW D dA u d v sz0 sa 14 := by
  unfold okW
  rw [cel_k (show knd 14 = _ from rfl), h0_zf (by decide)]
  rfl
theorem ok_15 : okW D dA u d v sz0 sa 15 := by
  unfold okW
  rw [cel_k (show knd 15 = _ from rfl)]
  rfl
theorem ok_16 : okW D dA u d v sz0 sa 16 := by
  unfold okW
  rw [cel_k (show knd 16 = _ from rfl), h0_zf (by decide)]
  rfl
theorem ok_17 : okW D dA u d v sz0 sa 17 := by
  unfold okW
  rw [cel_k (show knd 17 = _ from rfl), h0_zf (by decide)]
  rfl
theorem ok_18 : okW D dA u d v sz0 sa 18 := by
  unfold okW
  rw [cel_k (show knd 18 = _ from rfl), h0_zf (by decide)]
  rfl
theorem ok_19 : okW D dA u d v sz0 sa 19 := by
  unfold okW
  rw [cel_k (show knd 19 = _ from rfl), h0_zf (by decide)]
  rfl
theorem ok_20 : okW D dA u d v sz0 sa 20 := by
  unfold okW
  rw [cel_k (show knd 20 = _ from rfl), h0_zf (by decide)]
  rfl
theorem ok_21 : okW D dA u d v sz0 sa 21 := by
  unfold okW
  rw [cel_k (show knd 21 = _ from rfl), h0_zf (by decide)]
  rfl
theorem ok_22 : okW D dA u d v sz0 sa 22 := by
  unfold okW
  rw [cel_k (show knd 22 = _ from rfl), h0_zf (by decide)]
  rfl
theorem ok_23 : okW D dA u d v sz0 sa 23 := by
  unfold okW
  rw [cel_k (show knd 23 = _ from rfl), h0_zf (by decide)]
  rfl
theorem ok_24 : okW D dA u d v sz0 sa 24 := by
  unfold okW
  rw [cel_k (show knd 24 = _ from rfl), h0_zf (by decide)]
  rfl
theorem ok_25 : okW D dA u d v sz0 sa 25 := by
  unfold okW
  rw [cel_k (show knd 25 = _ from rfl), h0_zf (by decide)]
  rfl
theorem ok_26 : okW D dA u d v sz0 sa 26 := by
  unfold okW
  rw [cel_k (show knd 26 = _ from rfl), h0_zf (by decide)]
  rfl
theorem ok_27 : okW D dA u d v sz0 sa 27 := by
  unfold okW
  rw [cel_k (show knd 27 = _ from rfl), h0_zf (by decide)]
  rfl
theorem ok_28 : okW D dA u d v sz0 sa 28 := by
  unfold okW
  rw [cel_k (show knd 28 = _ from rfl), h0_zf (by decide)]
  rfl
theorem ok_29 : okW D dA u d v sz0 sa 29 := by
  unfold okW
  rw [cel_k (show knd 29 = _ from rfl), h0_zf (by decide)]
  rfl
theorem ok_30 : okW D dA u d v sz0 sa 30 := by
  unfold okW
  rw [cel_k (show knd 30 = _ from rfl), h0_zf (by decide)]
  rfl
theorem ok_31 : okW D dA u d v sz0 sa 31 := by
  unfold okW
  rw [cel_k (show knd 31 = _ from rfl), h0_zf (by decide)]
  rfl
theorem ok_32 : okW D dA u d v sz0 sa 32 := by
  unfold okW
  rw [cel_k (show knd 32 = _ from rfl), h0_zf (by decide)]
  rfl
theorem ok_33 : okW D dA u d v sz0 sa 33 := by
  unfold okW
  rw [cel_k (show knd 33 = _ from rfl), h0_zf (by decide)]
  rfl
theorem ok_34 : okW D dA u d v sz0 sa 34 := by
  unfold okW
  rw [cel_k (show knd 34 = _ from rfl), h0_zf (by decide)]
  rfl
theorem ok_35 : okW D dA u d v sz0 sa 35 := by
  unfold okW
  rw [cel_k (show knd 35 = _ from rfl), h0_zf (by decide)]
  rfl
theorem ok_36 : okW D dA u d v sz0 sa 36 := by
  unfold okW
  rw [cel_k (show knd 36 = _ from rfl), h0_zf (by decide)]
  rfl
theorem ok_37 : okW D dA u d v sz0 sa 37 := by
  unfold okW
  rw [cel_k (show knd 37 = _ from rfl), h0_zf (by decide)]
  rfl
theorem ok_38 : okW D dA u d v sz0 sa 38 := by
  unfold okW
  rw [cel_k (show knd 38 = _ from rfl), h0_zf (by decide)]
  rfl
theorem ok_39 : okW D dA u d v sz0 sa 39 := by
  unfold okW
  rw [cel_k (show knd 39 = _ from rfl), h0_zf (by decide)]
  rfl
theorem ok_40 : okW D dA u d v sz0 sa 40 := by
  unfold okW
  rw [cel_k (show knd 40 = _ from rfl), h0_zf (by decide)]
  rfl
theorem ok_41 : okW D dA u d v sz0 sa 41 := by
  unfold okW
  rw [cel_k (show knd 41 = _ from rfl), h0_zf (by decide)]
  rfl
theorem ok_42 : okW D dA u d v sz0 sa 42 := by
  unfold okW
  rw [cel_k (show knd 42 = _ from rfl), h0_zf (by decide)]
  rfl
theorem ok_43 : okW D dA u d v sz0 sa 43 := by
  unfold okW
  rw [cel_k (show knd 43 = _ from rfl), h0_zf (by decide)]
  rfl
theorem ok_44 : okW D dA u d v sz0 sa 44 := by
  unfold okW
  rw [cel_k (show knd 44 = _ from rfl), h0_zf (by decide)]
  rfl
theorem ok_45 : okW D dA u d v sz0 sa 45 := by
  unfold okW
  rw [cel_k (show knd 45 = _ from rfl), h0_zf (by decide)]
  rfl
theorem ok_46 : okW D dA u d v sz0 sa 46 := by
  unfold okW
  rw [cel_k (show knd 46 = _ from rfl), h0_zf (by decide)]
  rfl
theorem ok_47 : okW D dA u d v sz0 sa 47 := by
  unfold okW
  rw [cel_k (show knd 47 = _ from rfl), h0_zf (by decide)]
  rfl
theorem ok_48 : okW D dA u d v sz0 sa 48 := by
  unfold okW
  rw [cel_k (show knd 48 = _ from rfl), h0_zf (by decide)]
  rfl
theorem ok_49 : okW D dA u d v sz0 sa 49 := by
  unfold okW
  rw [cel_k (show knd 49 = _ from rfl), h0_zf (by decide)]
  rfl
theorem ok_50 : okW D dA u d v sz0 sa 50 := by
  unfold okW
  rw [cel_k (show knd 50 = _ from rfl), h0_zf (by decide)]
  rfl
theorem ok_51 : okW D dA u d v sz0 sa 51 := by
  unfold okW
  rw [cel_k (show knd 51 = _ from rfl), h0_zf (by decide)]
  rfl
theorem ok_52 : okW D dA u d v sz0 sa 52 := by
  unfold okW
  rw [cel_k (show knd 52 = _ from rfl), h0_zf (by decide)]
  rfl
theorem ok_53 : okW D dA u d v sz0 sa 53 := by
  unfold okW
  rw [cel_k (show knd 53 = _ from rfl), h0_zf (by decide)]
  rfl
theorem ok_54 : okW D dA u d v sz0 sa 54 := by
  unfold okW
  rw [cel_k (show knd 54 = _ from rfl), h0_zf (by decide)]
  rfl
theorem ok_55 : okW D dA u d v sz0 sa 55 := by
  unfold okW
  rw [cel_k (show knd 55 = _ from rfl), h0_zf (by decide)]
  rfl
theorem ok_56 : okW D dA u d v sz0 sa 56 := by
  unfold okW
  rw [cel_k (show knd 56 = _ from rfl), h0_zf (by decide)]
  rfl
theorem ok_57 : okW D dA u d v sz0 sa 57 := by
  unfold okW
  rw [cel_k (show knd 57 = _ from rfl), h0_zf (by decide)]
  rfl
theorem ok_58 : okW D dA u d v sz0 sa 58 := by
  unfold okW
  rw [cel_k (show knd 58 = _ from rfl), h0_zf (by decide)]
  rfl
theorem ok_59 : okW D dA u d v sz0 sa 59 := by
  unfold okW
  rw [cel_k (show knd 59 = _ from rfl), h0_zf (by decide)]
  rfl
theorem ok_60 : okW D dA u d v sz0 sa 60 := by
  unfold okW
  rw [cel_k (show knd 60 = _ from rfl), h0_zf (by decide)]
  rfl
theorem ok_61 : okW D dA u d v sz0 sa 61 := by
  unfold okW
  rw [cel_k (show knd 61 = _ from rfl), h0_zf (by decide)]
  rfl
theorem ok_62 : okW D dA u d v sz0 sa 62 := by
  unfold okW
  rw [cel_k (show knd 62 = _ from rfl), h0_zf (by decide)]
  rfl
theorem ok_63 : okW D dA u d v sz0 sa 63 := by
  unfold okW
  rw [cel_k (show knd 63 = _ from rfl), h0_zf (by decide)]
  rfl
theorem ok_64 : okW D dA u d v sz0 sa 64 := by
  unfold okW
  rw [cel_k (show knd 64 = _ from rfl), h0_zf (by decide)]
  rfl
theorem ok_65 : okW D dA u d v sz0 sa 65 := by
  unfold okW
  rw [cel_k (show knd 65 = _ from rfl), h0_zf (by decide)]
  rfl
theorem ok_66 : okW D dA u d v sz0 sa 66 := by
  unfold okW
  rw [cel_k (show knd 66 = _ from rfl), h0_zf (by decide)]
  rfl
theorem ok_67 : okW D dA u d v sz0 sa 67 := by
  unfold okW
  rw [cel_k (show knd 67 = _ from rfl), h0_zf (by decide)]
  rfl
theorem ok_68 : okW D dA u d v sz0 sa 68 := by
  unfold okW
  rw [cel_k (show knd 68 = _ from rfl), h0_zf (by decide)]
  rfl
theorem ok_69 : okW D dA u d v sz0 sa 69 := by
  unfold okW
  rw [cel_k (show knd 69 = _ from rfl), h0_zf (by decide)]
  rfl
theorem ok_70 : okW D dA u d v sz0 sa 70 := by
  unfold okW
  rw [cel_k (show knd 70 = _ from rfl), h0_zf (by decide)]
  rfl
theorem ok_71 : okW D dA u d v sz0 sa 71 := by
  unfold okW
  rw [cel_k (show knd 71 = _ from rfl), h0_zf (by decide)]
  rfl
theorem ok_72 : okW D dA u d v sz0 sa 72 := by
  unfold okW
  rw [cel_k (show knd 72 = _ from rfl), h0_zf (by decide)]
  rfl
theorem ok_73 : okW D dA u d v sz0 sa 73 := by
  unfold okW
  rw [cel_k (show knd 73 = _ from rfl), h0_zf (by decide)]
  rfl
theorem ok_74 : okW D dA u d v sz0 sa 74 := by
  unfold okW
  rw [cel_k (show knd 74 = _ from rfl), h0_zf (by decide)]
  rfl
theorem ok_75 : okW D dA u d v sz0 sa 75 := by
  unfold okW
  rw [cel_k (show knd 75 = _ from rfl), h0_zf (by decide)]
  rfl
theorem ok_76 : okW D dA u d v sz0 sa 76 := by
  unfold okW
  rw [cel_k (show knd 76 = _ from rfl), h0_zf (by decide)]
  rfl
theorem ok_77 : okW D dA u d v sz0 sa 77 := by
  unfold okW
  rw [cel_k (show knd 77 = _ from rfl), h0_zf (by decide)]
  rfl
theorem ok_78 : okW D dA u d v sz0 sa 78 := by
  unfold okW
  rw [cel_k (show knd 78 = _ from rfl), h0_zf (by decide)]
  rfl
theorem ok_79 : okW D dA u d v sz0 sa 79 := by
  unfold okW
  rw [cel_k (show knd 79 = _ from rfl), h0_zf (by decide)]
  rfl
theorem ok_80 : okW D dA u d v sz0 sa 80 := by
  unfold okW
  rw [cel_k (show knd 80 = _ from rfl), h0_zf (by decide)]
  rfl
theorem ok_81 : okW D dA u d v sz0 sa 81 := by
  unfold okW
  rw [cel_k (show knd 81 = _ from rfl), h0_zf (by decide)]
  rfl
theorem ok_82 : okW D dA u d v sz0 sa 82 := by
  unfold okW
  rw [cel_k (show knd 82 = _ from rfl), h0_zf (by decide)]
  rfl
theorem ok_83 : okW D dA u d v sz0 sa 83 := by
  unfold okW
  rw [cel_k (show knd 83 = _ from rfl)]
  rfl
theorem ok_84 : okW D dA u d v sz0 sa 84 := by
  unfold okW
  rw [cel_k (show knd 84 = _ from rfl), h0_zf (by decide)]
  rfl
theorem ok_85 : okW D dA u d v sz0 sa 85 := by
  unfold okW
  rw [cel_k (show knd 85 = _ from rfl), h0_zf (by decide)]
  rfl
theorem ok_86 : okW D dA u d v sz0 sa 86 := by
  unfold okW
  rw [cel_k (show knd 86 = _ from rfl), h0_zf (by decide)]
  rfl
theorem ok_87 : okW D dA u d v sz0 sa 87 := by
  unfold okW
  rw [cel_k (show knd 87 = _ from rfl), h0_zf (by decide)]
  rfl
theorem ok_88 : okW D dA u d v sz0 sa 88 := by
  unfold okW
  rw [cel_k (show knd 88 = _ from rfl), h0_zf (by decide)]
  rfl
theorem ok_89 : okW D dA u d v sz0 sa 89 := by
  unfold okW
  rw [cel_k (show knd 89 = _ from rfl), h0_zf (by decide)]
  rfl
theorem ok_90 : okW D dA u d v sz0 sa 90 := by
  unfold okW
  rw [cel_k (show knd 90 = _ from rfl), h0_zf (by decide)]
  rfl
theorem ok_91 : okW D dA u d v sz0 sa 91 := by
  unfold okW
  rw [cel_k (show knd 91 = _ from rfl), h0_zf (by decide)]
  rfl
theorem ok_92 : okW D dA u d v sz0 sa 92 := by
  unfold okW
  rw [cel_k (show knd 92 = _ from rfl), h0_zf (by decide)]
  rfl
theorem ok_93 : okW D dA u d v sz0 sa 93 := by
  unfold okW
  rw [cel_k (show knd 93 = _ from rfl), h0_zf (by decide)]
  rfl
theorem ok_94 : okW D dA u d v sz0 sa 94 := by
  unfold okW
  rw [cel_k (show knd 94 = _ from rfl), h0_zf (by decide)]
  rfl
theorem ok_95 : okW D dA u d v sz0 sa 95 := by
  unfold okW
  rw [cel_k (show knd 95 = _ from rfl), h0_zf (by decide)]
  rfl
theorem ok_96 : okW D dA u d v sz0 sa 96 := by
  unfold okW
  rw [cel_k (show knd 96 = _ from rfl), h0_zf (by decide)]
  rfl
theorem ok_97 : okW D dA u d v sz0 sa 97 := by
  unfold okW
  rw [cel_k (show knd 97 = _ from rfl)]
  rfl
theorem ok_98 : okW D dA u d v sz0 sa 98 := by
  unfold okW
  rw [cel_k (show knd 98 = _ from rfl), h0_zf (by decide)]
  rfl
theorem ok_99 : okW D dA u d v sz0 sa 99 := by
  unfold okW
  rw [cel_k (show knd 99 = _ from rfl), h0_zf (by decide)]
  rfl
theorem ok_100 : okW D dA u d v sz0 sa 100 := by
  unfold okW
  rw [cel_k (show knd 100 = _ from rfl), h0_zf (by decide)]
  rfl
theorem ok_101 : okW D dA u d v sz0 sa 101 := by
  unfold okW
  rw [cel_k (show knd 101 = _ from rfl), h0_zf (by decide)]
  rfl
theorem ok_102 : okW D dA u d v sz0 sa 102 := by
  unfold okW
  rw [cel_k (show knd 102 = _ from rfl), h0_zf (by decide)]
  rfl
theorem ok_103 : okW D dA u d v sz0 sa 103 := by
  unfold okW
  rw [cel_k (show knd 103 = _ from rfl), h0_zf (by decide)]
  rfl
theorem ok_104 : okW D dA u d v sz0 sa 104 := by
  unfold okW
  rw [cel_k (show knd 104 = _ from rfl), h0_zf (by decide)]
  rfl
theorem ok_105 : okW D dA u d v sz0 sa 105 := by
  unfold okW
  rw [cel_k (show knd 105 = _ from rfl), h0_zf (by decide)]
  rfl
theorem ok_106 : okW D dA u d v sz0 sa 106 := by
  unfold okW
  rw [cel_k (show knd 106 = _ from rfl), h0_zf (by decide)]
  rfl
theorem ok_107 : okW D dA u d v sz0 sa 107 := by
  unfold okW
  rw [cel_k (show knd 107 = _ from rfl), h0_zf (by decide)]
  rfl
theorem ok_108 : okW D dA u d v sz0 sa 108 := by
  unfold okW
  rw [cel_k (show knd 108 = _ from rfl), h0_zf (by decide)]
  rfl
theorem ok_109 : okW D dA u d v sz0 sa 109 := by
  unfold okW
  rw [cel_k (show knd 109 = _ from rfl), h0_zf (by decide)]
  rfl
theorem ok_110 : okW D dA u d v sz0 sa 110 := by
  unfold okW
  rw [cel_k (show knd 110 = _ from rfl), h0_zf (by decide)]
  rfl
theorem ok_111 : okW D dA u d v sz0 sa 111 := by
  unfold okW
  rw [cel_k (show knd 111 = _ from rfl), h0_zf (by decide)]
  rfl
theorem ok_112 : okW D dA u d v sz0 sa 112 := by
  unfold okW
  rw [cel_k (show knd 112 = _ from rfl), h0_zf (by decide)]
  rfl
theorem ok_113 : okW D dA u d v sz0 sa 113 := by
  unfold okW
  rw [cel_k (show knd 113 = _ from rfl), h0_zf (by decide)]
  rfl
theorem ok_114 : okW D dA u d v sz0 sa 114 := by
  unfold okW
  rw [cel_k (show knd 114 = _ from rfl), h0_zf (by decide)]
  rfl
theorem ok_115 : okW D dA u d v sz0 sa 115 := by
  unfold okW
  rw [cel_k (show knd 115 = _ from rfl), h0_zf (by decide)]
  rfl
theorem ok_116 : okW D dA u d v sz0 sa 116 := by
  unfold okW
  rw [cel_k (show knd 116 = _ from rfl), h0_zf (by decide)]
  rfl
theorem ok_117 : okW D dA u d v sz0 sa 117 := by
  unfold okW
  rw [cel_k (show knd 117 = _ from rfl), h0_zf (by decide)]
  rfl
theorem ok_118 : okW D dA u d v sz0 sa 118 := by
  unfold okW
  rw [cel_k (show knd 118 = _ from rfl), h0_zf (by decide)]
  rfl
theorem ok_119 : okW D dA u d v sz0 sa 119 := by
  unfold okW
  rw [cel_k (show knd 119 = _ from rfl), h0_zf (by decide)]
  rfl
theorem ok_120 : okW D dA u d v sz0 sa 120 := by
  unfold okW
  rw [cel_k (show knd 120 = _ from rfl), h0_zf (by decide)]
  rfl
theorem ok_121 : okW D dA u d v sz0 sa 121 := by
  unfold okW
  rw [cel_k (show knd 121 = _ from rfl), h0_zf (by decide)]
  rfl
theorem ok_122 : okW D dA u d v sz0 sa 122 := by
  unfold okW
  rw [cel_k (show knd 122 = _ from rfl), h0_zf (by decide)]
  rfl
theorem ok_123 : okW D dA u d v sz0 sa 123 := by
  unfold okW
  rw [cel_k (show knd 123 = _ from rfl), h0_zf (by decide)]
  rfl
theorem ok_124 : okW D dA u d v sz0 sa 124 := by
  unfold okW
  rw [cel_k (show knd 124 = _ from rfl), h0_zf (by decide)]
  rfl
theorem ok_c0 : ∀ k, k < 0 → okW D dA u d v sz0 sa k := fun k hk => absurd hk (Nat.not_lt_zero k)
theorem ok_c25 : ∀ k, k < 25 → okW D dA u d v sz0 sa k := (ball_s (ball_s (ball_s (ball_s (ball_s (ball_s (ball_s (ball_s (ball_s (ball_s (ball_s (ball_s (ball_s (ball_s (ball_s (ball_s (ball_s (ball_s (ball_s (ball_s (ball_s (ball_s (ball_s (ball_s (ball_s ok_c0 ok_0) ok_1) ok_2) ok_3) ok_4) ok_5) ok_6) ok_7) ok_8) ok_9) ok_10) ok_11) ok_12) ok_13) ok_14) ok_15) ok_16) ok_17) ok_18) ok_19) ok_20) ok_21) ok_22) ok_23) ok_24)
theorem ok_c50 : ∀ k, k < 50 → okW D dA u d v sz0 sa k := (ball_s (ball_s (ball_s (ball_s (ball_s (ball_s (ball_s (ball_s (ball_s (ball_s (ball_s (ball_s (ball_s (ball_s (ball_s (ball_s (ball_s (ball_s (ball_s (ball_s (ball_s (ball_s (ball_s (ball_s (ball_s ok_c25 ok_25) ok_26) ok_27) ok_28) ok_29) ok_30) ok_31) ok_32) ok_33) ok_34) ok_35) ok_36) ok_37) ok_38) ok_39) ok_40) ok_41) ok_42) ok_43) ok_44) ok_45) ok_46) ok_47) ok_48) ok_49)
theorem ok_c75 : ∀ k, k < 75 → okW D dA u d v sz0 sa k := (ball_s (ball_s (ball_s (ball_s (ball_s (ball_s (ball_s (ball_s (ball_s (ball_s (ball_s (ball_s (ball_s (ball_s (ball_s (ball_s (ball_s (ball_s (ball_s (ball_s (ball_s (ball_s (ball_s (ball_s (ball_s ok_c50 ok_50) ok_51) ok_52) ok_53) ok_54) ok_55) ok_56) ok_57) ok_58) ok_59) ok_60) ok_61) ok_62) ok_63) ok_64) ok_65) ok_66) ok_67) ok_68) ok_69) ok_70) ok_71) ok_72) ok_73) ok_74)
theorem ok_c100 : ∀ k, k < 100 → okW D dA u d v sz0 sa k := (ball_s (ball_s (ball_s (ball_s (ball_s (ball_s (ball_s (ball_s (ball_s (ball_s (ball_s (ball_s (ball_s (ball_s (ball_s (ball_s (ball_s (ball_s (ball_s (ball_s (ball_s (ball_s (ball_s (ball_s (ball_s ok_c75 ok_75) ok_76) ok_77) ok_78) ok_79) ok_80) ok_81) ok_82) ok_83) ok_84) ok_85) ok_86) ok_87) ok_88) ok_89) ok_90) ok_91) ok_92) ok_93) ok_94) ok_95) ok_96) ok_97) ok_98) ok_99)
theorem ok_c125 : ∀ k, k < 125 → okW D dA u d v sz0 sa k := (ball_s (ball_s (ball_s (ball_s (ball_s (ball_s (ball_s (ball_s (ball_s (ball_s (ball_s (ball_s (ball_s (ball_s (ball_s (ball_s (ball_s (ball_s (ball_s (ball_s (ball_s (ball_s (ball_s (ball_s (ball_s ok_c100 ok_100) ok_101) ok_102) ok_103) ok_104) ok_105) ok_106) ok_107) ok_108) ok_109) ok_110) ok_111) ok_112) ok_113) ok_114) ok_115) ok_116) ok_117) ok_118) ok_119) ok_120) ok_121) ok_122) ok_123) ok_124)
end OK
theorem posS_inj : ∀ i, i < 126 → ∀ j, j < 126 → posS.getD i 0 = posS.getD j 0 → i = j := by decide +kernel
set_option maxHeartbeats 1000000 in
theorem first_world {D : va_G} {dA : Nat → ClassId} {u : SX10} {d : Nat} {v : Int32} {sz0 : Nat} {sa : Nat → Nat} {A : Nat → Prop} {H : Heap} (hP : va_P D vwCl (WS0 dA u d v) H) (hD : va_D A (WS0 dA u d v)) : va_P D vwCl (wl (ZS D dA u sz0 sa) h0C (pl (ZS D dA u sz0 sa) (aD d) (gD v))) H ∧ va_D A (wl (ZS D dA u sz0 sa) h0C (pl (ZS D dA u sz0 sa) (aD d) (gD v))) := by
  rw [WS0_eq] at hP hD
  have hP2 := w_conv (i := 34) (g := fun j => some ((adS u).getD (23 + 5 * j) 0)) hP (WS0x_34 dA u d v) (fun j hj => by
    rcases (show j = 0 ∨ j = 1 ∨ j = 2 ∨ j = 3 ∨ j = 4 ∨ j = 5 ∨ j = 6 ∨ j = 7 ∨ j = 8 ∨ j = 9 ∨ j = 10 ∨ j = 11 by omega) with rfl | rfl | rfl | rfl | rfl | rfl | rfl | rfl | rfl | rfl | rfl | rfl
    · exact congrArg some (zj_0 u)
    · exact congrArg some (zj_1 u)
    · exact congrArg some (zj_2 u)
    · exact congrArg some (zj_3 u)
    · exact congrArg some (zj_4 u)
    · exact congrArg some (zj_5 u)
    · exact congrArg some (zj_6 u)
    · exact congrArg some (zj_7 u)
    · exact congrArg some (zj_8 u)
    · exact congrArg some (zj_9 u)
    · exact congrArg some (zj_10 u)
    · exact congrArg some (zj_11 u))
  have hD2 := hD.set (p := 34) (e := .inl (dA 3, 12, .inr (.inr (.inr (.inr (fun j => some ((adS u).getD (23 + 5 * j) 0))))))) (WS0x_34 dA u d v)
  rw [WSx_eq] at hP2 hD2
  have hl : (wl (ZS D dA u sz0 sa) h0C (pl (ZS D dA u sz0 sa) (aD d) (gD v))).length = 126 := by rw [wl_len, pl_len]; rfl
  have hq : ∀ k (z : Nat × va_E), (wl (ZS D dA u sz0 sa) h0C (pl (ZS D dA u sz0 sa) (aD d) (gD v)))[k]? = some z → (WSx dA u d v)[posS.getD k 0]? = some z := by
    intro k z h
    have hk : k < 126 := by have := (List.getElem?_eq_some_iff.mp h).1; rwa [hl] at this
    by_cases hk2 : k < 125
    · rw [wl_at hk2] at h
      rw [← Option.some.inj h]
      exact ok_c125 (D := D) (dA := dA) (u := u) (d := d) (v := v) (sz0 := sz0) (sa := sa) k hk2
    · have e : k = 125 := by omega
      subst e
      rw [show (125 : Nat) = 125 + 0 from rfl, wp_at (show 0 < (gD v).1 from Nat.one_pos)] at h
      rw [← Option.some.inj h]
      rfl
  exact ⟨hP2.by _ hq, hD2.by _ hq (fun i j hi hj h => by
    rw [hl] at hi hj
    exact posS_inj i hi j hj h)⟩
