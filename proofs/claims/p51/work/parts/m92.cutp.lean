/-! cut points -/
def cpS (R : Nat → Nat → Nat) (b i : Nat) : Nat × Nat × Nat := Nat.rec (motive := fun _ => Nat × Nat × Nat) (0, (R 11 b + R 10 (b + 1)) / 2, 0) (fun i r => if max (R 11 b) (R 7 i) + r.1 < min (R 10 (b + 1)) (R 8 i) then (min (R 10 (b + 1)) (R 8 i) - max (R 11 b) (R 7 i), (max (R 11 b) (R 7 i) + min (R 10 (b + 1)) (R 8 i)) / 2, 1) else r) i
theorem cpS_s (R : Nat → Nat → Nat) (b i : Nat) : cpS R b (i + 1) = if max (R 11 b) (R 7 i) + (cpS R b i).1 < min (R 10 (b + 1)) (R 8 i) then (min (R 10 (b + 1)) (R 8 i) - max (R 11 b) (R 7 i), (max (R 11 b) (R 7 i) + min (R 10 (b + 1)) (R 8 i)) / 2, 1) else cpS R b i := rfl
def cutA (R : Nat → Nat → Nat) (b c s : Nat) : Nat → Nat → Nat := setE (setE R 13 b s) 12 b c
def cutR (R : Nat → Nat → Nat) (b : Nat) : Nat → Nat → Nat := if b + 1 < R 0 13 then cutA R b (cpS R b (R 0 10)).2.1 (cpS R b (R 0 10)).2.2 else cutA R b (R 0 0) 0
theorem cutA_2 (R : Nat → Nat → Nat) (b c s c' s' : Nat) : setE (setE (cutA R b c s) 12 b c') 13 b s' = cutA R b c' s' := by
  funext o j
  unfold cutA
  by_cases e : o = 13
  · subst e
    by_cases ej : j = b
    · subst ej; rw [setE_s, setE_o (by decide), setE_s]
    · rw [setE_n ej, setE_n ej, setE_n ej, setE_n ej, setE_n ej, setE_n ej]
  · rw [setE_o e]
    by_cases e2 : o = 12
    · subst e2
      by_cases ej : j = b
      · subst ej; rw [setE_s, setE_s]
      · rw [setE_n ej, setE_n ej, setE_n ej, setE_n ej, setE_n ej]
    · rw [setE_o e2, setE_o e2, setE_o e2, setE_o e, setE_o e]
theorem cutA_o {R : Nat → Nat → Nat} {b c s o j : Nat} (h : ¬ (j = b ∧ (o = 12 ∨ o = 13))) : cutA R b c s o j = R o j := by
  unfold cutA
  by_cases ej : j = b
  · rw [setE_o (by omega), setE_o (by omega)]
  · rw [setE_n ej, setE_n ej]
theorem cutA_12 {R : Nat → Nat → Nat} {b c s : Nat} : cutA R b c s 12 b = c := setE_s _ _ _ _
theorem cutA_13 {R : Nat → Nat → Nat} {b c s : Nat} : cutA R b c s 13 b = s := by
  unfold cutA
  rw [setE_o (by decide), setE_s]
theorem cpS_b (R : Nat → Nat → Nat) (b : Nat) (h : R 11 b ≤ R 10 (b + 1)) : ∀ i, R 11 b ≤ (cpS R b i).2.1 ∧ (cpS R b i).2.1 ≤ R 10 (b + 1) ∧ (cpS R b i).2.2 ≤ 1 ∧ (cpS R b i).1 ≤ R 10 (b + 1) := by
  intro i
  induction i with
  | zero =>
    show R 11 b ≤ (R 11 b + R 10 (b + 1)) / 2 ∧ (R 11 b + R 10 (b + 1)) / 2 ≤ R 10 (b + 1) ∧ 0 ≤ 1 ∧ 0 ≤ R 10 (b + 1)
    omega
  | succ i ih =>
    rw [cpS_s]
    split
    · show R 11 b ≤ (max (R 11 b) (R 7 i) + min (R 10 (b + 1)) (R 8 i)) / 2 ∧ (max (R 11 b) (R 7 i) + min (R 10 (b + 1)) (R 8 i)) / 2 ≤ R 10 (b + 1) ∧ 1 ≤ 1 ∧ min (R 10 (b + 1)) (R 8 i) - max (R 11 b) (R 7 i) ≤ R 10 (b + 1)
      omega
    · exact ih
theorem lt_sub {x a b : Nat} (hx : x < 1000000) (ha : a < 1000000) (hb : b < 1000000) : nI x < nI a - nI b ↔ b + x < a := by
  rw [Int32.lt_iff_toInt_lt, tsub (by omega) (by omega), nI_toInt (by omega)]
  omega
section
variable {h g : Hp} {c : Nat} {P R : Nat → Nat → Nat} {b : Nat}
theorem c_cutp (hC : CR h c R) (hb : b < R 0 13) (hb2 : R 0 13 ≤ 40) (hbr : R 0 10 ≤ 12) (ho : b + 1 < R 0 13 → R 11 b ≤ R 10 (b + 1)) (h11 : R 11 b < 1000000) (h10 : R 10 (b + 1) < 1000000 ∨ b + 1 = R 0 13) (hbb : ∀ i, i < R 0 10 → R 7 i < 1000000 ∧ R 8 i < 1000000) : Wp (f_X4_placeCutPoint h c (nI b)) (fun u => CR u c (cutR R b) ∧ ∀ k, ¬ (c ≤ k ∧ k ≤ c + 13) → u k = h k) := by
  have C1 := hC.put (o := 13) (j := b) (v := 0) (by omega)
  have s1 : ∀ {o j}, ¬ o = 13 → setE R 13 b 0 o j = R o j := fun h => setE_o h
  unfold f_X4_placeCutPoint
  rw [inb_t (show b < 40 by omega) (by omega), ck_true, ix_n (show b < 2147483648 by omega), stp_eq, show (0 : Int32) = nI 0 from rfl, show nI b + 1 = nI (b + 1) from nI_add b 1, C1.z 13, s1 (by decide)]
  by_cases x : b + 1 < R 0 13
  · have h10 : R 10 (b + 1) < 1000000 := by
      rcases h10 with y | y
      · exact y
      · omega
    have ho := ho x
    have e11 := C1.o 11 b (by omega)
    rw [s1 (by decide)] at e11
    have e10 := C1.o 10 (b + 1) (by omega)
    rw [s1 (by decide)] at e10
    rw [if_pos ((nI_ltI (by omega) (by omega)).mpr x), ck_true, e11, stp_eq, inb_t (show b + 1 < 40 by omega) (by omega), ck_true, ix_n (show b + 1 < 2147483648 by omega), e10, stp_eq, ck_true, nI_add, show nI (R 11 b + R 10 (b + 1)) / 2 = nI ((R 11 b + R 10 (b + 1)) / 2) from pk_div (d := 2) (by omega) (by omega) (by omega), stp_eq]
    have C2 := C1.put (o := 12) (j := b) (v := (R 11 b + R 10 (b + 1)) / 2) (by omega)
    refine wp_for (i := 0) (R 0 10) (fun i st => ∃ h1, st = (nI (cpS R b i).1, nI i, h1) ∧ CR h1 c (cutA R b (cpS R b i).2.1 (cpS R b i).2.2) ∧ ∀ k, ¬ (c ≤ k ∧ k ≤ c + 13) → h1 k = h k) (by omega) (by omega) ⟨_, rfl, C2, fun k hk => by rw [up_o (by omega), up_o (by omega)]⟩ ?_
    rintro i st r hi ⟨h1, rfl, C3, f3⟩ k
    obtain ⟨q1, q2, q3, q4⟩ := cpS_b R b ho i
    have o1 : ∀ {o j}, ¬ o = 12 → ¬ o = 13 → cutA R b (cpS R b i).2.1 (cpS R b i).2.2 o j = R o j := fun a d => cutA_o (by omega)
    unfold F_X4_placeCutPoint_61
    have en := C3.z 10
    rw [o1 (by decide) (by decide)] at en
    show Wp (if nI i < h1 c 10 then ck (inb (nI i) 12) (stp (imax (nI (R 11 b)) (h1 (c + 7) (ix (nI i)))) (fun v2 => ck (inb (nI i) 12) (stp (imin (nI (R 10 (b + 1))) (h1 (c + 8) (ix (nI i)))) (fun v3 => if nI (cpS R b i).1 < v3 - v2 then stp (v3 - v2) (fun v4 => ck (inb (nI b) 40) (stp (up h1 (c + 12) (ix (nI b)) ((v2 + v3) / nI 2)) (fun h5 => ck (inb (nI b) 40) (stp (up h5 (c + 13) (ix (nI b)) (nI 1)) (fun h6 => J_X4_placeCutPoint_133 c (nI b) h6 r (nI (R 11 b)) (nI (R 10 (b + 1))) v4 (nI i)))))) else J_X4_placeCutPoint_133 c (nI b) h1 r (nI (R 11 b)) (nI (R 10 (b + 1))) (nI (cpS R b i).1) (nI i))))) else some h1) _
    rw [en]
    by_cases y : i < R 0 10
    · obtain ⟨b7, b8⟩ := hbb i y
      have e7 := C3.o 7 i (by omega)
      rw [o1 (by decide) (by decide)] at e7
      have e8 := C3.o 8 i (by omega)
      rw [o1 (by decide) (by decide)] at e8
      rw [if_pos ((nI_ltI (by omega) (by omega)).mpr y), inb_t (show i < 12 by omega) (by omega), ck_true, ix_n (show i < 2147483648 by omega), e7, imax_n (by omega) (by omega), stp_eq, ck_true, e8, imin_n (by omega) (by omega), stp_eq]
      unfold J_X4_placeCutPoint_133
      by_cases z : max (R 11 b) (R 7 i) + (cpS R b i).1 < min (R 10 (b + 1)) (R 8 i)
      · rw [if_pos ((lt_sub (by omega) (by omega) (by omega)).mpr z), sub_n (by omega), stp_eq, inb_t (show b < 40 by omega) (by omega), ck_true, ix_n (show b < 2147483648 by omega), nI_add, pk_div (by omega) (by omega) (by omega), stp_eq, ck_true, stp_eq, show nI i + 1 = nI (i + 1) from nI_add i 1, stp_eq]
        have C5 := (C3.put (o := 12) (j := b) (v := (max (R 11 b) (R 7 i) + min (R 10 (b + 1)) (R 8 i)) / 2) (by omega)).put (o := 13) (j := b) (v := 1) (by omega)
        rw [cutA_2] at C5
        refine k _ y ⟨up (up h1 (c + 12) b (nI ((max (R 11 b) (R 7 i) + min (R 10 (b + 1)) (R 8 i)) / 2))) (c + 13) b (nI 1), ?_, ?_, fun k hk => ?_⟩
        · rw [cpS_s, if_pos z]
        · rw [cpS_s, if_pos z]; exact C5
        · rw [up_o (by omega), up_o (by omega)]; exact f3 k hk
      · rw [if_neg (fun v => z ((lt_sub (by omega) (by omega) (by omega)).mp v)), show nI i + 1 = nI (i + 1) from nI_add i 1, stp_eq]
        refine k _ y ⟨h1, ?_, ?_, f3⟩
        · rw [cpS_s, if_neg z]
        · rw [cpS_s, if_neg z]; exact C3
    · have e : i = R 0 10 := by omega
      rw [if_neg (fun v => y ((nI_ltI (by omega) (by omega)).mp v))]
      subst e
      refine wp_some.mpr ⟨?_, f3⟩
      unfold cutR
      rw [if_pos x]
      exact C3
  · have e0 := C1.z 0
    rw [s1 (by decide)] at e0
    rw [if_neg (fun v => x ((nI_ltI (by omega) (by omega)).mp v)), ck_true, e0, stp_eq]
    refine wp_some.mpr ⟨?_, fun k hk => by rw [up_o (by omega), up_o (by omega)]⟩
    unfold cutR
    rw [if_neg x]
    exact C1.put (o := 12) (by omega)
end
