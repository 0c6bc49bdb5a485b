/-! blocks are laid, the model's side -/
section
variable {h g : Hp} {c : Nat} {P R : Nat → Nat → Nat} {w : Nat}
theorem BF.g6 {g' : Hp} (b : BF g g') (q : GD (fun _ => g 126) P) : GD (fun _ => g' 126) P := by
  rw [b.1 126 (by decide) (by decide)]
  exact q
theorem of6_2 (q : GD (fun _ => g 126) P) (hw : w < P 0 4) (h40 : P 0 4 ≤ 40) : f_X11_of g (nI w) 2 = some (nI (P 4 w)) := by
  have e : g 126 (9 + 4 * w + 2) = nI (P 4 w) := q.st w hw
  unfold f_X11_of
  simp (disch := omega) only [li, nI_add, pk_mul, ix_n, lt_n, le_n, eq_n, sub_n, dec_n, inb_t, neg_n, neg_n', ck_true, stp_eq, bnd_some, wp_some, wp_stp, Nat.add_zero, Nat.lt_irrefl, Nat.reduceEqDiff, Nat.reduceAdd, Nat.reduceSub, Nat.reduceMul, Nat.reduceLT, Nat.reduceLeDiff, up_o, up_ss, up_sn, zb_n1, true_and, and_true, ↓reduceIte, e]
theorem of6_3 (q : GD (fun _ => g 126) P) (hw : w < P 0 4) (h40 : P 0 4 ≤ 40) : f_X11_of g (nI w) 3 = some (nI (P 5 w)) := by
  have e : g 126 (9 + 4 * w + 3) = nI (P 5 w) := q.en w hw
  unfold f_X11_of
  simp (disch := omega) only [li, nI_add, pk_mul, ix_n, lt_n, le_n, eq_n, sub_n, dec_n, inb_t, neg_n, neg_n', ck_true, stp_eq, bnd_some, wp_some, wp_stp, Nat.add_zero, Nat.lt_irrefl, Nat.reduceEqDiff, Nat.reduceAdd, Nat.reduceSub, Nat.reduceMul, Nat.reduceLT, Nat.reduceLeDiff, up_o, up_ss, up_sn, zb_n1, true_and, and_true, ↓reduceIte, e]
theorem wd6 (q : GD (fun _ => g 126) P) : f_X11_words g = some (nI (P 0 4)) := by
  have e : g 126 3 = nI (P 0 4) := q.wc
  unfold f_X11_words
  simp (disch := omega) only [li, nI_add, pk_mul, ix_n, lt_n, le_n, eq_n, sub_n, dec_n, inb_t, neg_n, neg_n', ck_true, stp_eq, bnd_some, wp_some, wp_stp, Nat.add_zero, Nat.lt_irrefl, Nat.reduceEqDiff, Nat.reduceAdd, Nat.reduceSub, Nat.reduceMul, Nat.reduceLT, Nat.reduceLeDiff, up_o, up_ss, up_sn, zb_n1, true_and, and_true, ↓reduceIte, e]
theorem m_j92 (q : GD (fun _ => g 126) P) (hw : w < P 0 4) (h40 : P 0 4 ≤ 40) (hG : GB g R w) (e5 : R 5 w = P 5 w) (hb : 0 < R 0 13) (hb2 : R 0 13 ≤ 40) (h5 : P 5 w < 1000000) (h11 : R 11 (R 0 13 - 1) < 1000000) (r : Int32 × Hp → Option Hp) : ∃ g', J_X11_laysBlocks_92 g r (nI w) = r (nI (w + 1), g') ∧ GB g' (exB R w) (w + 1) ∧ BF g g' := by
  have b1 : BF g (up g 128 w (nI (R 0 13 - 1))) := ⟨fun k _ b => up_o (by omega), fun j _ => by rw [up_o (by decide)]⟩
  have q1 := b1.g6 q
  have n1 : up g 128 w (nI (R 0 13 - 1)) 125 3 = nI (R 0 13) := by rw [up_o (by decide)]; exact hG.n
  have a11 : up g 128 w (nI (R 0 13 - 1)) 130 (R 0 13 - 1) = nI (R 11 (R 0 13 - 1)) := by rw [up_o (by decide)]; exact hG.e _ (by omega)
  have nn : exB R w 0 13 = R 0 13 := ex_0 (by decide) (by decide)
  refine ⟨up (up g 128 w (nI (R 0 13 - 1))) 130 (R 0 13 - 1) (nI (max (R 11 (R 0 13 - 1)) (P 5 w))), ?_, ⟨?_, fun v hv => ?_, fun b hb => ?_, fun b hb => ?_, fun b hb => ?_⟩, b1.tr ⟨fun k _ b => up_o (by omega), fun j _ => by rw [up_o (by decide)]⟩⟩
  · unfold J_X11_laysBlocks_92
    rw [hG.n, show nI (R 0 13) - 1 = nI (R 0 13 - 1) from sub_n hb, inb_t (show w < 40 by omega) (by omega), ck_true, ix_n (show w < 2147483648 by omega), stp_eq, n1, show nI (R 0 13) - 1 = nI (R 0 13 - 1) from sub_n hb, inb_t (show R 0 13 - 1 < 40 by omega) (by omega), ck_true, of6_3 q1 hw h40, bnd_some, ck_true, ix_n (show R 0 13 - 1 < 2147483648 by omega), a11, imax_n (by omega) (by omega), stp_eq, show nI w + 1 = nI (w + 1) from nI_add w 1, stp_eq]
  · rw [nn, up_o (by decide)]; exact n1
  · rw [ex_6, up_o (by decide)]
    by_cases e : v = w
    · rw [if_pos e, e, up_ss]
    · rw [if_neg e, up_sn e]; exact hG.w v (by omega)
  · rw [nn] at hb
    rw [ex_0 (by decide) (by decide), up_o (by decide), up_o (by decide)]; exact hG.f b hb
  · rw [nn] at hb
    rw [ex_0 (by decide) (by decide), up_o (by decide), up_o (by decide)]; exact hG.s b hb
  · rw [nn] at hb
    rw [ex_11, e5]
    by_cases e : b = R 0 13 - 1
    · rw [if_pos e, e, up_ss]
    · rw [if_neg e, up_sn e, up_o (by decide)]; exact hG.e b hb
theorem m_j42 (q : GD (fun _ => g 126) P) (hw : w < P 0 4) (h40 : P 0 4 ≤ 40) (hG : GB g R w) (e4 : R 4 w = P 4 w) (e5 : R 5 w = P 5 w) (hb2 : R 0 13 < 40) (h5 : P 5 w < 1000000) (r : Int32 × Hp → Option Hp) : ∃ g', J_X11_laysBlocks_42 g r (nI w) = r (nI (w + 1), g') ∧ GB g' (exB (nwB R w) w) (w + 1) ∧ BF g g' := by
  have b1 : BF g (up g 131 (R 0 13) (nI w)) := ⟨fun k _ b => up_o (by omega), fun j _ => by rw [up_o (by decide)]⟩
  have b2 : BF g (up (up g 131 (R 0 13) (nI w)) 129 (R 0 13) (nI (P 4 w))) := b1.tr ⟨fun k _ b => up_o (by omega), fun j _ => by rw [up_o (by decide)]⟩
  have b3 : BF g (up (up (up g 131 (R 0 13) (nI w)) 129 (R 0 13) (nI (P 4 w))) 130 (R 0 13) (nI (P 5 w))) := b2.tr ⟨fun k _ b => up_o (by omega), fun j _ => by rw [up_o (by decide)]⟩
  have b4 : BF g (up (up (up (up g 131 (R 0 13) (nI w)) 129 (R 0 13) (nI (P 4 w))) 130 (R 0 13) (nI (P 5 w))) 125 3 (nI (R 0 13 + 1))) := b3.tr ⟨fun k a b => up_o a, fun j a => up_sn a⟩
  have n1 : up g 131 (R 0 13) (nI w) 125 3 = nI (R 0 13) := by rw [up_o (by decide)]; exact hG.n
  have n2 : up (up g 131 (R 0 13) (nI w)) 129 (R 0 13) (nI (P 4 w)) 125 3 = nI (R 0 13) := by rw [up_o (by decide)]; exact n1
  have n3 : up (up (up g 131 (R 0 13) (nI w)) 129 (R 0 13) (nI (P 4 w))) 130 (R 0 13) (nI (P 5 w)) 125 3 = nI (R 0 13) := by rw [up_o (by decide)]; exact n2
  have w9 : ∀ j, nwB R w 9 j = if j = R 0 13 then w else R 9 j := fun j => by
    have := nw_9 R w j
    rw [ex_0 (by decide) (by decide)] at this
    exact this
  have w10 : ∀ j, nwB R w 10 j = if j = R 0 13 then R 4 w else R 10 j := fun j => by
    have := nw_10 R w j
    rw [ex_0 (by decide) (by decide)] at this
    exact this
  have w11 : ∀ j, nwB R w 11 j = if j = R 0 13 then R 5 w else R 11 j := fun j => by
    unfold nwB
    rw [setE_o (by decide)]
    by_cases e : j = R 0 13
    · rw [if_pos e, e, setE_s]
    · rw [if_neg e, setE_n e, setE_o (by decide), setE_o (by decide)]
  have w6 : ∀ j, nwB R w 6 j = R 6 j := fun j => by
    unfold nwB
    rw [setE_o (by decide), setE_o (by decide), setE_o (by decide), setE_o (by decide)]
  have w5 : nwB R w 5 w = P 5 w := by
    unfold nwB
    rw [setE_o (by decide), setE_o (by decide), setE_o (by decide), setE_o (by decide)]
    exact e5
  have G4 : GB (up (up (up (up g 131 (R 0 13) (nI w)) 129 (R 0 13) (nI (P 4 w))) 130 (R 0 13) (nI (P 5 w))) 125 3 (nI (R 0 13 + 1))) (nwB R w) w := by
    refine ⟨by rw [nw_13, up_ss], fun v hv => ?_, fun b hb => ?_, fun b hb => ?_, fun b hb => ?_⟩
    · rw [w6, up_o (by decide), up_o (by decide), up_o (by decide), up_o (by decide)]; exact hG.w v hv
    · rw [nw_13] at hb
      rw [w9, up_o (by decide), up_o (by decide), up_o (by decide)]
      by_cases e : b = R 0 13
      · rw [if_pos e, e, up_ss]
      · rw [if_neg e, up_sn e]; exact hG.f b (by omega)
    · rw [nw_13] at hb
      rw [w10, up_o (by decide), up_o (by decide)]
      by_cases e : b = R 0 13
      · rw [if_pos e, e, up_ss, e4]
      · rw [if_neg e, up_sn e, up_o (by decide)]; exact hG.s b (by omega)
    · rw [nw_13] at hb
      rw [w11, up_o (by decide)]
      by_cases e : b = R 0 13
      · rw [if_pos e, e, up_ss, e5]
      · rw [if_neg e, up_sn e, up_o (by decide), up_o (by decide)]; exact hG.e b (by omega)
  obtain ⟨g', x1, x2, x3⟩ := m_j92 (b4.g6 q) hw h40 G4 w5 (by rw [nw_13]; omega) (by rw [nw_13]; omega) h5 (by rw [nw_13, Nat.add_sub_cancel, w11, if_pos rfl, e5]; exact h5) r
  refine ⟨g', ?_, x2, b4.tr x3⟩
  unfold J_X11_laysBlocks_42
  rw [hG.n, inb_t (show R 0 13 < 41 by omega) (by omega), ck_true, ix_n (show R 0 13 < 2147483648 by omega), stp_eq, of6_2 (b1.g6 q) hw h40, bnd_some, n1, inb_t (show R 0 13 < 40 by omega) (by omega), ck_true, ix_n (show R 0 13 < 2147483648 by omega), stp_eq, of6_3 (b2.g6 q) hw h40, bnd_some, n2, inb_t (show R 0 13 < 40 by omega) (by omega), ck_true, ix_n (show R 0 13 < 2147483648 by omega), stp_eq, n3, show nI (R 0 13) + 1 = nI (R 0 13 + 1) from nI_add _ 1, stp_eq]
  exact x1
theorem m_bloop (q0 : GD (fun _ => g 126) P) (hD : WD P) (hh : holds P (P 0 4)) {Q : Hp → Prop} (fin : ∀ g', GB g' (bS P (P 0 4)) (P 0 4) → BF g g' → Wp (J_X11_laysBlocks_141 g') Q) : Wp (f_X11_laysBlocks g) Q := by
  have h40 := hD.w40
  have hl := hD.len
  have b0 := hD.b0
  unfold f_X11_laysBlocks
  rw [stp_eq]
  have bf0 : BF g (up g 125 3 0) := ⟨fun k a _ => up_o a, fun j a => up_sn a⟩
  refine wp_for (i := 0) (P 0 4) (fun w st => ∃ g1, st = (nI w, g1) ∧ GB g1 (bS P w) w ∧ BF g g1) (by omega) (by omega) ⟨_, rfl, ?_, bf0⟩ ?_
  · have e : bS P 0 = P := rfl
    rw [e]
    refine ⟨by rw [b0, up_ss]; rfl, fun v hv => absurd hv (by omega), fun b hb => by omega, fun b hb => by omega, fun b hb => by omega⟩
  · rintro w st r hi ⟨g1, rfl, G1, f1⟩ k
    have q := IB.all hD hh w hi
    have q6 := f1.g6 q0
    have hbw := q.bw
    unfold F_X11_laysBlocks_7
    show Wp (bnd (f_X11_words g1) (fun u16 => if nI w < u16 then (if g1 125 3 = 0 then J_X11_laysBlocks_42 g1 r (nI w) else bnd (f_X11_of g1 (nI w) 2) (fun u17 => ck (inb (g1 125 3 - nI 1) 40) (if u17 < g1 130 (ix (g1 125 3 - nI 1)) then J_X11_laysBlocks_92 g1 r (nI w) else J_X11_laysBlocks_42 g1 r (nI w)))) else J_X11_laysBlocks_141 g1)) Q
    rw [wd6 q6, bnd_some]
    by_cases x : w < P 0 4
    · have wd := hD.wd w x
      have e4 := q.s 4 w (by decide) (by decide) (by decide) (by decide) (by omega)
      have e5 := q.s 5 w (by decide) (by decide) (by decide) (by decide) (by omega)
      rw [if_pos ((nI_ltI (by omega) (by omega)).mpr x), G1.n]
      have new : newB (bS P w) w → Wp (J_X11_laysBlocks_42 g1 r (nI w)) Q := by
        intro hn
        obtain ⟨g2, x1, x2, x3⟩ := m_j42 q6 x h40 G1 e4 e5 (by omega) (by omega) r
        rw [x1]
        refine k _ x ⟨g2, rfl, ?_, f1.tr x3⟩
        rw [bS_s, stB, if_pos hn]
        exact x2
      by_cases b0 : bS P w 0 13 = 0
      · rw [b0, if_pos (show (nI 0 : Int32) = 0 from rfl)]
        exact new (Or.inl b0)
      · have hbs := q.bse (bS P w 0 13 - 1) (by omega)
        rw [if_neg (show ¬ nI (bS P w 0 13) = 0 from fun y => b0 ((nI_eq (b := 0) (by omega) (by omega)).mp y)), of6_2 q6 x h40, bnd_some, sub_n (by omega), inb_t (by omega) (by omega), ck_true, ix_n (by omega), G1.e _ (by omega)]
        by_cases y : P 4 w < bS P w 11 (bS P w 0 13 - 1)
        · have hn : ¬ newB (bS P w) w := by
            rintro (z | z)
            · exact b0 z
            · rw [e4] at z; exact z y
          obtain ⟨g2, x1, x2, x3⟩ := m_j92 q6 x h40 G1 e5 (by omega) (by omega) (by omega) (by omega) r
          rw [if_pos ((nI_ltI (by omega) (by omega)).mpr y), x1]
          refine k _ x ⟨g2, rfl, ?_, f1.tr x3⟩
          rw [bS_s, stB, if_neg hn]
          exact x2
        · rw [if_neg (fun v => y ((nI_ltI (by omega) (by omega)).mp v))]
          exact new (Or.inr (by rw [e4]; exact y))
    · have e : w = P 0 4 := by omega
      rw [if_neg (fun v => by have := (nI_ltI (by omega) (by omega)).mp v; omega)]
      subst e
      exact fin g1 G1 f1
end
