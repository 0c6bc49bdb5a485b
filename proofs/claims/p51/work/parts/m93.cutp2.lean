/-! cut points, the model's side; all of them, both sides -/
noncomputable def cS (R : Nat → Nat → Nat) (n : Nat) : Nat → Nat → Nat := Nat.rec (motive := fun _ => Nat → Nat → Nat) R (fun b r => cutR r b) n
theorem cS_s (R : Nat → Nat → Nat) (n : Nat) : cS R (n + 1) = cutR (cS R n) n := rfl
section
variable {h g : Hp} {c : Nat} {P R : Nat → Nat → Nat} {b : Nat}
theorem cutR_o {o j : Nat} (h : ¬ (j = b ∧ (o = 12 ∨ o = 13))) : cutR R b o j = R o j := by
  unfold cutR
  split
  · exact cutA_o h
  · exact cutA_o h
theorem cS_o {o j : Nat} (h : ¬ (o = 12 ∨ o = 13)) : ∀ n, cS R n o j = R o j := by
  intro n
  induction n with
  | zero => rfl
  | succ n ih => rw [cS_s, cutR_o (fun y => h y.2)]; exact ih
theorem cpS_c {R' : Nat → Nat → Nat} (h11 : R' 11 b = R 11 b) (h10 : R' 10 (b + 1) = R 10 (b + 1)) (h7 : ∀ i, R' 7 i = R 7 i) (h8 : ∀ i, R' 8 i = R 8 i) : ∀ i, cpS R' b i = cpS R b i := by
  intro i
  induction i with
  | zero =>
    show (0, (R' 11 b + R' 10 (b + 1)) / 2, 0) = (0, (R 11 b + R 10 (b + 1)) / 2, 0)
    rw [h11, h10]
  | succ i ih => rw [cpS_s, cpS_s, ih, h11, h10, h7, h8]
/-- what cS holds at a block's cut point -/
theorem cS_v {j : Nat} : ∀ n, j < n → (j + 1 < R 0 13 → cS R n 12 j = (cpS R j (R 0 10)).2.1 ∧ cS R n 13 j = (cpS R j (R 0 10)).2.2) ∧ (¬ j + 1 < R 0 13 → cS R n 12 j = R 0 0 ∧ cS R n 13 j = 0) := by
  intro n
  induction n with
  | zero => intro h; exact absurd h (Nat.not_lt_zero _)
  | succ n ih =>
    intro hj
    rw [cS_s]
    by_cases e : j = n
    · subst e
      have e1 : cS R j 0 13 = R 0 13 := cS_o (by omega) j
      have e2 : cS R j 0 10 = R 0 10 := cS_o (by omega) j
      have e3 : cS R j 0 0 = R 0 0 := cS_o (by omega) j
      have e4 : cpS (cS R j) j (R 0 10) = cpS R j (R 0 10) := cpS_c (cS_o (by omega) j) (cS_o (by omega) j) (fun i => cS_o (by omega) j) (fun i => cS_o (by omega) j) _
      unfold cutR
      rw [e1, e2, e3, e4]
      constructor
      · intro y
        rw [if_pos y]
        exact ⟨cutA_12, cutA_13⟩
      · intro y
        rw [if_neg y]
        exact ⟨cutA_12, cutA_13⟩
    · rw [cutR_o (by omega), cutR_o (by omega)]
      exact ih (by omega)
theorem m_laysCut (hb : b + 1 < 40) (ho : R 11 b ≤ R 10 (b + 1)) (h11 : R 11 b < 1000000) (h10 : R 10 (b + 1) < 1000000) (hbr : R 0 10 ≤ 12) (hbb : ∀ i, i < R 0 10 → R 7 i < 1000000 ∧ R 8 i < 1000000) (e11 : g 130 b = nI (R 11 b)) (e10 : g 129 (b + 1) = nI (R 10 (b + 1))) (en : g 126 4 = nI (R 0 10)) (e7 : ∀ i, i < R 0 10 → g 126 (169 + 2 * i) = nI (R 7 i)) (e8 : ∀ i, i < R 0 10 → g 126 (169 + 2 * i + 1) = nI (R 8 i)) : Wp (f_X11_laysCut g (nI b)) (fun u => u 132 b = nI (cpS R b (R 0 10)).2.1 ∧ u 133 b = nI (cpS R b (R 0 10)).2.2 ∧ (∀ k, ¬ k = 132 → ¬ k = 133 → u k = g k) ∧ ∀ j, ¬ j = b → u 132 j = g 132 j ∧ u 133 j = g 133 j) := by
  unfold f_X11_laysCut
  rw [inb_t (show b < 40 by omega) (by omega), ck_true, ix_n (show b < 2147483648 by omega), e11, stp_eq, show nI b + 1 = nI (b + 1) from nI_add b 1, inb_t (show b + 1 < 40 by omega) (by omega), ck_true, ix_n (show b + 1 < 2147483648 by omega), e10, stp_eq, ck_true, nI_add, show nI (R 11 b + R 10 (b + 1)) / 2 = nI ((R 11 b + R 10 (b + 1)) / 2) from pk_div (d := 2) (by omega) (by omega) (by omega), stp_eq, ck_true, show (0 : Int32) = nI 0 from rfl, stp_eq]
  refine wp_for (i := 0) (R 0 10) (fun i st => ∃ g1, st = (nI (cpS R b i).1, nI i, g1) ∧ g1 132 b = nI (cpS R b i).2.1 ∧ g1 133 b = nI (cpS R b i).2.2 ∧ (∀ k, ¬ k = 132 → ¬ k = 133 → g1 k = g k) ∧ ∀ j, ¬ j = b → g1 132 j = g 132 j ∧ g1 133 j = g 133 j) (by omega) (by omega) ⟨_, rfl, ?_, ?_, fun k a d => by rw [up_o d, up_o a], fun j hj => ?_⟩ ?_
  · rw [up_o (by decide), up_ss]; rfl
  · rw [up_ss]; rfl
  · rw [up_o (by decide), up_sn hj, up_sn hj, up_o (by decide)]; exact ⟨rfl, rfl⟩
  · rintro i st r hi ⟨g1, rfl, a1, a2, a3, a4⟩ k
    obtain ⟨q1, q2, q3, q4⟩ := cpS_b R b ho i
    have e126 := a3 126 (by decide) (by decide)
    unfold F_X11_laysCut_40
    show Wp (ck (inb (nI 4) 193) (if nI i < g1 126 (ix (nI 4)) then ck (inb (nI 169 + nI 2 * nI i) 193) (stp (imax (nI (R 11 b)) (g1 126 (ix (nI 169 + nI 2 * nI i)))) (fun v2 => ck (inb (nI 169 + nI 2 * nI i + nI 1) 193) (stp (imin (nI (R 10 (b + 1))) (g1 126 (ix (nI 169 + nI 2 * nI i + nI 1)))) (fun v3 => if nI (cpS R b i).1 < v3 - v2 then stp (v3 - v2) (fun v4 => ck (inb (nI b) 40) (stp (up g1 132 (ix (nI b)) ((v2 + v3) / nI 2)) (fun g5 => ck (inb (nI b) 40) (stp (up g5 133 (ix (nI b)) (nI 1)) (fun g6 => J_X11_laysCut_131 (nI b) g6 r (nI (R 11 b)) (nI (R 10 (b + 1))) v4 (nI i)))))) else J_X11_laysCut_131 (nI b) g1 r (nI (R 11 b)) (nI (R 10 (b + 1))) (nI (cpS R b i).1) (nI i))))) else some g1)) _
    rw [inb_t (show 4 < 193 by omega) (by omega), ck_true, ix_n (show 4 < 2147483648 by omega), e126, en]
    by_cases y : i < R 0 10
    · obtain ⟨b7, b8⟩ := hbb i y
      rw [if_pos ((nI_ltI (by omega) (by omega)).mpr y), pk_mul, nI_add, nI_add, inb_t (show 169 + 2 * i < 193 by omega) (by omega), ck_true, ix_n (show 169 + 2 * i < 2147483648 by omega), e7 i y, imax_n (by omega) (by omega), stp_eq, inb_t (show 169 + 2 * i + 1 < 193 by omega) (by omega), ck_true, ix_n (show 169 + 2 * i + 1 < 2147483648 by omega), e8 i y, imin_n (by omega) (by omega), stp_eq]
      unfold J_X11_laysCut_131
      by_cases z : max (R 11 b) (R 7 i) + (cpS R b i).1 < min (R 10 (b + 1)) (R 8 i)
      · rw [if_pos ((lt_sub (by omega) (by omega) (by omega)).mpr z), sub_n (by omega), stp_eq, inb_t (show b < 40 by omega) (by omega), ck_true, ix_n (show b < 2147483648 by omega), nI_add, pk_div (by omega) (by omega) (by omega), stp_eq, ck_true, stp_eq, show nI i + 1 = nI (i + 1) from nI_add i 1, stp_eq]
        have e3 : cpS R b (i + 1) = (min (R 10 (b + 1)) (R 8 i) - max (R 11 b) (R 7 i), (max (R 11 b) (R 7 i) + min (R 10 (b + 1)) (R 8 i)) / 2, 1) := by rw [cpS_s, if_pos z]
        refine k _ y ⟨up (up g1 132 b (nI ((max (R 11 b) (R 7 i) + min (R 10 (b + 1)) (R 8 i)) / 2))) 133 b (nI 1), by rw [e3], ?_, ?_, fun k a d => by rw [up_o d, up_o a]; exact a3 k a d, fun j hj => ?_⟩
        · rw [e3, up_o (by decide), up_ss]
        · rw [e3, up_ss]
        · rw [up_o (by decide), up_sn hj, up_sn hj, up_o (by decide)]; exact a4 j hj
      · rw [if_neg (fun v => z ((lt_sub (by omega) (by omega) (by omega)).mp v)), show nI i + 1 = nI (i + 1) from nI_add i 1, stp_eq]
        have e3 : cpS R b (i + 1) = cpS R b i := by rw [cpS_s, if_neg z]
        exact k _ y ⟨g1, by rw [e3], by rw [e3]; exact a1, by rw [e3]; exact a2, a3, a4⟩
    · have e : i = R 0 10 := by omega
      rw [if_neg (fun v => y ((nI_ltI (by omega) (by omega)).mp v))]
      subst e
      exact wp_some.mpr ⟨a1, a2, a3, a4⟩
end
