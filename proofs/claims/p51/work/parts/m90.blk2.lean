/-! blocks are found, both sides -/
def GB (g : Hp) (R : Nat → Nat → Nat) (w : Nat) : Prop :=
  (g 125 3 = nI (R 0 13)) ∧
  (∀ v, v < w → g 128 v = nI (R 6 v)) ∧
  (∀ b, b < R 0 13 → g 131 b = nI (R 9 b)) ∧
  (∀ b, b < R 0 13 → g 129 b = nI (R 10 b)) ∧
  (∀ b, b < R 0 13 → g 130 b = nI (R 11 b))
theorem GB.n {g : Hp} {R : Nat → Nat → Nat} {w : Nat} (q : GB g R w) : g 125 3 = nI (R 0 13) := q.1
theorem GB.w {g : Hp} {R : Nat → Nat → Nat} {w : Nat} (q : GB g R w) : ∀ v, v < w → g 128 v = nI (R 6 v) := q.2.1
theorem GB.f {g : Hp} {R : Nat → Nat → Nat} {w : Nat} (q : GB g R w) : ∀ b, b < R 0 13 → g 131 b = nI (R 9 b) := q.2.2.1
theorem GB.s {g : Hp} {R : Nat → Nat → Nat} {w : Nat} (q : GB g R w) : ∀ b, b < R 0 13 → g 129 b = nI (R 10 b) := q.2.2.2.1
theorem GB.e {g : Hp} {R : Nat → Nat → Nat} {w : Nat} (q : GB g R w) : ∀ b, b < R 0 13 → g 130 b = nI (R 11 b) := q.2.2.2.2
def BF (g g' : Hp) : Prop := (∀ k, ¬ k = 125 → ¬ (128 ≤ k ∧ k ≤ 133) → g' k = g k) ∧ ∀ j, ¬ j = 3 → g' 125 j = g 125 j
theorem BF.tr {a b c : Hp} (h1 : BF a b) (h2 : BF b c) : BF a c := ⟨fun k p q => (h2.1 k p q).trans (h1.1 k p q), fun j p => (h2.2 j p).trans (h1.2 j p)⟩
section
variable {h g : Hp} {c : Nat} {P R : Nat → Nat → Nat} {w : Nat}
theorem c_j87 (hC : CR h c R) (hb : 0 < R 0 13) (hb2 : R 0 13 ≤ 40) (hw : w < 40) (h5 : R 5 w < 1000000) (h11 : R 11 (R 0 13 - 1) < 1000000) (r : Int32 × Hp → Option Hp) : ∃ h', J_X4_findBlocks_87 c h r (nI w) = r (nI (w + 1), h') ∧ CR h' c (exB R w) ∧ ∀ k, ¬ (c ≤ k ∧ k ≤ c + 13) → h' k = h k := by
  have C1 := hC.put (o := 6) (j := w) (v := R 0 13 - 1) (by omega)
  have e11 : setE R 6 w (R 0 13 - 1) 11 (R 0 13 - 1) = R 11 (R 0 13 - 1) := setE_o (by decide)
  have e5 : setE R 6 w (R 0 13 - 1) 5 w = R 5 w := setE_o (by decide)
  have a11 := C1.o 11 (R 0 13 - 1) (by omega)
  have a5 := C1.o 5 w (by omega)
  rw [e11] at a11
  rw [e5] at a5
  refine ⟨_, ?_, C1.put (o := 11) (j := R 0 13 - 1) (v := max (R 11 (R 0 13 - 1)) (R 5 w)) (by omega), fun k hk => by rw [up_o (by omega), up_o (by omega)]⟩
  unfold J_X4_findBlocks_87
  rw [hC.z, show nI (R 0 13) - 1 = nI (R 0 13 - 1) from sub_n hb, stp_eq, inb_t hw (by omega), ck_true, ix_n (show w < 2147483648 by omega), stp_eq, inb_t (show R 0 13 - 1 < 40 by omega) (by omega), ck_true, ck_true, ck_true, ix_n (show R 0 13 - 1 < 2147483648 by omega), a11, a5, imax_n (by omega) (by omega), stp_eq, show nI w + 1 = nI (w + 1) from nI_add w 1, stp_eq]
theorem c_j37 (hC : CR h c R) (hb2 : R 0 13 < 40) (hw : w < 40) (h5 : R 5 w < 1000000) (r : Int32 × Hp → Option Hp) : ∃ h', J_X4_findBlocks_37 c h r (nI w) = r (nI (w + 1), h') ∧ CR h' c (exB (nwB R w) w) ∧ ∀ k, ¬ (c ≤ k ∧ k ≤ c + 13) → h' k = h k := by
  have C1 := hC.put (o := 9) (j := R 0 13) (v := w) (by omega)
  have C2 := C1.put (o := 10) (j := R 0 13) (v := R 4 w) (by omega)
  have C3 := C2.put (o := 11) (j := R 0 13) (v := R 5 w) (by omega)
  have C4 := C3.put (o := 0) (j := 13) (v := R 0 13 + 1) (by omega)
  have n1 := C1.z 13
  rw [setE_o (by decide)] at n1
  have n2 := C2.z 13
  rw [setE_o (by decide), setE_o (by decide)] at n2
  have n3 := C3.z 13
  rw [setE_o (by decide), setE_o (by decide), setE_o (by decide)] at n3
  have a4 := C1.o 4 w (by omega)
  rw [setE_o (by decide)] at a4
  have a5 := C2.o 5 w (by omega)
  rw [setE_o (by decide), setE_o (by decide)] at a5
  have e11 : nwB R w 11 (nwB R w 0 13 - 1) = R 5 w := by
    rw [nw_13, Nat.add_sub_cancel]
    unfold nwB
    rw [setE_o (by decide), setE_s]
  have e5 : nwB R w 5 w = R 5 w := by
    unfold nwB
    rw [setE_o (by decide), setE_o (by decide), setE_o (by decide), setE_o (by decide)]
  obtain ⟨h', x1, x2, x3⟩ := c_j87 (R := nwB R w) C4 (by rw [nw_13]; omega) (by rw [nw_13]; omega) hw (by rw [e5]; exact h5) (by rw [e11]; exact h5) r
  refine ⟨h', ?_, x2, fun k hk => by rw [x3 k hk, up_o (by omega), up_o (by omega), up_o (by omega), up_o (by omega)]⟩
  unfold J_X4_findBlocks_37
  rw [hC.z, inb_t (show R 0 13 < 41 by omega) (by omega), ck_true, ix_n (show R 0 13 < 2147483648 by omega), stp_eq, inb_t hw (by omega), ck_true, ix_n (show w < 2147483648 by omega), n1, inb_t (show R 0 13 < 40 by omega) (by omega), ck_true, ix_n (show R 0 13 < 2147483648 by omega), a4, stp_eq, ck_true, n2, inb_t (show R 0 13 < 40 by omega) (by omega), ck_true, ix_n (show R 0 13 < 2147483648 by omega), a5, stp_eq, n3, show nI (R 0 13) + 1 = nI (R 0 13 + 1) from nI_add _ 1, stp_eq]
  exact x1
theorem c_bloop (hC : CR h c P) (hD : WD P) (hh : holds P (P 0 4)) {Q : Hp → Prop} (fin : ∀ h', CR h' c (bS P (P 0 4)) → (∀ k, ¬ (c ≤ k ∧ k ≤ c + 13) → h' k = h k) → Wp (J_X4_findBlocks_128 c h') Q) : Wp (f_X4_findBlocks h c) Q := by
  have h40 := hD.w40
  have hl := hD.len
  unfold f_X4_findBlocks
  refine wp_for (i := 0) (P 0 4) (fun w st => ∃ h1, st = (nI w, h1) ∧ CR h1 c (bS P w) ∧ ∀ k, ¬ (c ≤ k ∧ k ≤ c + 13) → h1 k = h k) (by omega) (by omega) ⟨h, rfl, hC, fun _ _ => rfl⟩ ?_
  rintro w st r hi ⟨h1, rfl, C1, f1⟩ k
  have q := IB.all hD hh w hi
  have hbw := q.bw
  have e04 := q.s 0 4 (by decide) (by decide) (by decide) (by decide) (by decide)
  unfold F_X4_findBlocks_2
  by_cases x : w < P 0 4
  · have wd := hD.wd w x
    have e4 := q.s 4 w (by decide) (by decide) (by decide) (by decide) (by omega)
    have e5 := q.s 5 w (by decide) (by decide) (by decide) (by decide) (by omega)
    have h5 : bS P w 5 w < 1000000 := by rw [e5]; omega
    show Wp (if nI w < h1 c 4 then (if h1 c 13 = 0 then J_X4_findBlocks_37 c h1 r (nI w) else ck (inb (nI w) 40) (ck (inb (h1 c 13 - nI 1) 40) (if h1 (c + 4) (ix (nI w)) < h1 (c + 11) (ix (h1 c 13 - nI 1)) then J_X4_findBlocks_87 c h1 r (nI w) else J_X4_findBlocks_37 c h1 r (nI w)))) else _) Q
    rw [C1.z, C1.z, e04, if_pos ((nI_ltI (by omega) (by omega)).mpr x)]
    have new : newB (bS P w) w → Wp (J_X4_findBlocks_37 c h1 r (nI w)) Q := by
      intro hn
      obtain ⟨h2, x1, x2, x3⟩ := c_j37 C1 (w := w) (by omega) (by omega) h5 r
      rw [x1]
      refine k _ x ⟨h2, rfl, ?_, fun k hk => (x3 k hk).trans (f1 k hk)⟩
      rw [bS_s, stB, if_pos hn]
      exact x2
    by_cases b0 : bS P w 0 13 = 0
    · rw [b0, if_pos (show (nI 0 : Int32) = 0 from rfl)]
      exact new (Or.inl b0)
    · have hbs := q.bse (bS P w 0 13 - 1) (by omega)
      rw [if_neg (show ¬ nI (bS P w 0 13) = 0 from fun y => b0 ((nI_eq (b := 0) (by omega) (by omega)).mp y)), inb_t (by omega) (by omega), ck_true, sub_n (by omega), inb_t (by omega) (by omega), ck_true, ix_n (by omega), ix_n (by omega), C1.o 4 w (by omega), C1.o 11 _ (by omega), e4]
      by_cases y : P 4 w < bS P w 11 (bS P w 0 13 - 1)
      · have hn : ¬ newB (bS P w) w := by
          rintro (z | z)
          · exact b0 z
          · rw [e4] at z; exact z y
        obtain ⟨h2, x1, x2, x3⟩ := c_j87 C1 (w := w) (by omega) (by omega) (by omega) h5 (by omega) r
        rw [if_pos ((nI_ltI (by omega) (by omega)).mpr y), x1]
        refine k _ x ⟨h2, rfl, ?_, fun k hk => (x3 k hk).trans (f1 k hk)⟩
        rw [bS_s, stB, if_neg hn]
        exact x2
      · rw [if_neg (fun v => y ((nI_ltI (by omega) (by omega)).mp v))]
        exact new (Or.inr (by rw [e4]; exact y))
  · have e : w = P 0 4 := by omega
    show Wp (if nI w < h1 c 4 then _ else J_X4_findBlocks_128 c h1) Q
    rw [C1.z, e04, if_neg (fun v => by have := (nI_ltI (by omega) (by omega)).mp v; omega)]
    subst e
    exact fin h1 C1 f1
end
