/-! the text goes into the class's buffer -/
theorem and255 : ∀ b, b < 128 → nI b &&& (255 : Int32) = nI b := by decide +kernel
theorem FU_5 : FU = 4294967291 + 1 + 1 + 1 + 1 + 1 := rfl
section
variable {n0 : Nat} {g : PL} {x : Nat} {ts : List Nat}
theorem four_step (ht : ST n0 g x ts) (hp : g.1 ≤ 800000) (hx : ¬ 1000000 ≤ x) (h128 : ∀ i, ts.getD i 0 < 128) (hl : ts.length ≤ 300) {k i acc : Nat} (hi : i < 4) (hk : k < 1000) (hacc : acc * 256 + ts.getD (k + i) 0 < 2147483648) (r : Int32 × Int32 → Option Int32) : Fp_L_four_4 g x (nI k) r (nI acc, nI (k + i)) = r (nI (acc * 256 + ts.getD (k + i) 0), nI (k + i + 1)) := by
  obtain ⟨t1, t2, t3, -⟩ := ht.ok hp
  have hb := h128 (k + i)
  unfold Fp_L_four_4
  dsimp only
  rw [if_pos (show nI (k + i) < nI k + (4 : Int32) from by rw [show nI k + (4 : Int32) = nI (k + 4) from nI_add k 4]; exact lty (by omega) (by omega)), t2, ck_of (by rw [t1, len_n (by omega)]; rfl)]
  have fin : ∀ w : Int32, w = nI (ts.getD (k + i) 0) → Jp_L_four_32 g x (nI k) r (nI (k + i)) (nI acc <<< ((8 : Int32) &&& 31)) w = r (nI (acc * 256 + ts.getD (k + i) 0), nI (k + i + 1)) := by
    intro w hw
    unfold Jp_L_four_32
    rw [hw, shl8, or8 (by omega) (by omega), stp_eq, show nI (k + i) + (1 : Int32) = nI (k + i + 1) from nI_add (k + i) 1, stp_eq]
  by_cases q : k + i < ts.length
  · rw [if_pos (lty q (by omega)), ck_of (by rw [t1, decide_eq_true hx, inb_t q (by omega), len_n (by omega)]; rfl)]
    refine fin _ ?_
    rw [ix_n (by omega), t3 _ q, and255 _ hb]
  · rw [if_neg (ltn (by omega) (by omega))]
    refine fin _ ?_
    rw [List.getD_eq_getElem?_getD, List.getElem?_eq_none (by omega)]
    rfl
theorem four_n (ht : ST n0 g x ts) (hp : g.1 ≤ 800000) (hx : ¬ 1000000 ≤ x) (h128 : ∀ i, ts.getD i 0 < 128) (hl : ts.length ≤ 300) {k : Nat} (hk : k < 1000) : fp_L_four g x (nI k) = some (nI (wd (ts.getD k 0) (ts.getD (k + 1) 0) (ts.getD (k + 2) 0) (ts.getD (k + 3) 0))) := by
  have h0 : ts.getD (k + 0) 0 < 128 := h128 (k + 0)
  have h1 := h128 (k + 1)
  have h2 := h128 (k + 2)
  have h3 := h128 (k + 3)
  unfold fp_L_four
  have s := fun i acc (a : i < 4) b r => four_step ht hp hx h128 hl (k := k) (i := i) (acc := acc) a hk b r
  rw [FU_5, Lp_s]
  rw [show ((0 : Int32), nI k) = (nI 0, nI (k + 0)) from rfl, s 0 0 (by omega) (by omega), Lp_s]
  rw [show k + 0 + 1 = k + 1 from rfl, s 1 _ (by omega) (by omega), Lp_s]
  rw [show k + 1 + 1 = k + 2 from rfl, s 2 _ (by omega) (by omega), Lp_s]
  rw [show k + 2 + 1 = k + 3 from rfl, s 3 _ (by omega) (by omega), Lp_s]
  unfold Fp_L_four_4
  dsimp only
  rw [if_neg (show ¬ nI (k + 3 + 1) < nI k + (4 : Int32) from by rw [show nI k + (4 : Int32) = nI (k + 4) from nI_add k 4]; exact ltn (by omega) (by omega))]
  exact congrArg (fun q => some (nI q)) (by unfold wd; rw [Nat.zero_mul, Nat.zero_add]; rfl)
/-- the buffer holds the first n bytes of ts -/
def BH (h h' : Hp) (ts : List Nat) (n : Nat) : Prop := h' 1 1 = nI n ∧ (∀ j, j < n → h' 2 j = nI (ts.getD j 0)) ∧ (∀ k, ¬ k = 1 → ¬ k = 2 → h' k = h k) ∧ ∀ j, ¬ j = 1 → h' 1 j = h 1 j
theorem BH.four {h h1 : Hp} {n : Nat} (b : BH h h1 ts n) (hn : n + 4 ≤ 900) (h128 : ∀ i, ts.getD i 0 < 128) : ∃ h2, f_X9_putFour h1 (nI (wd (ts.getD n 0) (ts.getD (n + 1) 0) (ts.getD (n + 2) 0) (ts.getD (n + 3) 0))) = some h2 ∧ BH h h2 ts (n + 4) := by
  obtain ⟨h2, e, a1, a2, a3, a4, a5⟩ := c_putFour (nI (wd (ts.getD n 0) (ts.getD (n + 1) 0) (ts.getD (n + 2) 0) (ts.getD (n + 3) 0))) b.1 hn
  obtain ⟨w0, w1, w2, w3⟩ := bB_wd (h128 n) (h128 (n + 1)) (h128 (n + 2)) (h128 (n + 3))
  refine ⟨h2, e, a1, fun j hj => ?_, fun k p q => (a4 k p q).trans (b.2.2.1 k p q), fun j p => (a5 j p).trans (b.2.2.2 j p)⟩
  by_cases q : j < n
  · rw [a3 j q]
    exact b.2.1 j q
  · have c := a2 (j - n) (by omega)
    rw [show n + (j - n) = j by omega] at c
    rw [c]
    rcases (show j = n ∨ j = n + 1 ∨ j = n + 2 ∨ j = n + 3 by omega) with rfl | rfl | rfl | rfl
    · rw [Nat.sub_self]; exact w0
    · rw [show n + 1 - n = 1 by omega]; exact w1
    · rw [show n + 2 - n = 2 by omega]; exact w2
    · rw [show n + 3 - n = 3 by omega]; exact w3
theorem l_text {h : Hp} (ht : ST n0 g x ts) (hp : g.1 ≤ 800000) (hx : ¬ 1000000 ≤ x) (h128 : ∀ i, ts.getD i 0 < 128) (hl : ts.length ≤ 300) (h0 : h 1 1 = nI 0) : Wp (fp_L_text h g x) (fun u => u.1 = nI 1 ∧ BH h u.2 ts ts.length) := by
  obtain ⟨t1, t2, t3, -⟩ := ht.ok hp
  unfold fp_L_text
  refine wp_for (i := 0) ((ts.length + 19) / 20) (fun i s => s.1 = nI (20 * i) ∧ BH h s.2 ts (20 * i)) (by omega) (Nat.zero_le _) ⟨rfl, h0, fun j hj => absurd hj (Nat.not_lt_zero _), fun _ _ _ => rfl, fun _ _ => rfl⟩ ?_
  rintro i ⟨x2, h1⟩ r hi ⟨rfl, b⟩ k
  have h1n : h1 1 1 = nI (20 * i) := b.1
  unfold Fp_L_text_2
  dsimp only
  rw [t2, ck_of (by rw [t1, len_n (by omega)]; rfl)]
  by_cases q : 20 * i < ts.length
  · obtain ⟨h2, e2, b2⟩ := b.four (by omega) h128
    obtain ⟨h3, e3, b3⟩ := b2.four (by omega) h128
    obtain ⟨h4, e4, b4⟩ := b3.four (by omega) h128
    obtain ⟨h5, e5, b5⟩ := b4.four (by omega) h128
    obtain ⟨h6, e6, b6⟩ := b5.four (by omega) h128
    have f := fun j (hj : j < 1000) => four_n ht hp hx h128 hl (k := j) hj
    rw [if_pos (lty q (by omega)), f _ (by omega), bnd_some, show nI (20 * i) + (4 : Int32) = nI (20 * i + 4) from nI_add _ 4, f _ (by omega), bnd_some, show nI (20 * i) + (8 : Int32) = nI (20 * i + 4 + 4) from nI_add _ 8, f _ (by omega), bnd_some, show nI (20 * i) + (12 : Int32) = nI (20 * i + 4 + 4 + 4) from nI_add _ 12, f _ (by omega), bnd_some, show nI (20 * i) + (16 : Int32) = nI (20 * i + 4 + 4 + 4 + 4) from nI_add _ 16, f _ (by omega), bnd_some]
    unfold f_X10_append
    rw [h1n, show nI (20 * i) + (20 : Int32) = nI (20 * i + 20) from nI_add _ 20, if_neg (show ¬ (900 : Int32) < nI (20 * i + 20) from ltn (a := 900) (by omega) (by omega)), e2, bnd_some, e3, bnd_some, e4, bnd_some, e5, bnd_some, e6, bnd_some, bnd_some]
    have e7 : h6 1 1 = nI (20 * i + 20) := b6.1
    rw [if_pos (show h6 1 1 = nI (20 * i + 20) from e7), stp_eq]
    exact k _ (by omega) ⟨by rw [show 20 * (i + 1) = 20 * i + 20 by omega], by rw [show 20 * (i + 1) = 20 * i + 4 + 4 + 4 + 4 + 4 by omega]; exact b6⟩
  · rw [if_neg (ltn (by omega) (by omega))]
    unfold Jp_L_text_65
    rw [t2, ck_of (by rw [t1, len_n (by omega)]; rfl)]
    unfold f_X10_truncate
    rw [if_neg (nI_pos (by omega)), h1n, if_neg (ltn (by omega) (by omega)), stp_eq, bnd_some, ck_of (show zb (1 : Int32) = true from by decide)]
    have z : BH h (up h1 1 1 (nI ts.length)) ts ts.length := by
      refine ⟨up_ss, fun j hj => ?_, fun k p q => (up_o p).trans (b.2.2.1 k p q), fun j p => (up_sn p).trans (b.2.2.2 j p)⟩
      rw [up_o (by decide)]
      exact b.2.1 j (by omega)
    exact wp_some.mpr ⟨rfl, z⟩
end
