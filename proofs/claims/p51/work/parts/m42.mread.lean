/-! the model's readings -/
section
variable {g : Hp} {R E : Nat → Nat → Nat}
theorem m_words (hG : GR g R) : f_X11_words g = some (nI (R 0 4)) := by
  unfold f_X11_words
  simp (disch := omega) only [li, nI_add, pk_mul, ix_n, lt_n, le_n, eq_n, sub_n, dec_n, inb_t, neg_n, neg_n', ck_true, stp_eq, bnd_some, wp_some, wp_stp, Nat.add_zero, Nat.lt_irrefl, Nat.reduceEqDiff, Nat.reduceAdd, Nat.reduceSub, Nat.reduceMul, Nat.reduceLT, Nat.reduceLeDiff, up_o, up_ss, up_sn, zb_n1, true_and, and_true, ↓reduceIte, hG.wc]
theorem m_of0 (hW : WR R) (hG : GR g R) {w : Nat} (hw : w < R 0 4) : f_X11_of g (nI w) (nI 0) = some (nI (R 3 w)) := by
  have h1 := hW.w40
  unfold f_X11_of
  simp (disch := omega) only [li, nI_add, pk_mul, ix_n, lt_n, le_n, eq_n, sub_n, dec_n, inb_t, neg_n, neg_n', ck_true, stp_eq, bnd_some, wp_some, wp_stp, Nat.add_zero, Nat.lt_irrefl, Nat.reduceEqDiff, Nat.reduceAdd, Nat.reduceSub, Nat.reduceMul, Nat.reduceLT, Nat.reduceLeDiff, up_o, up_ss, up_sn, zb_n1, true_and, and_true, ↓reduceIte, hG.who]
theorem m_of1 (hW : WR R) (hG : GR g R) {w : Nat} (hw : w < R 0 4) : f_X11_of g (nI w) (nI 1) = some (nI (n27 (R 2 w))) := by
  have h1 := hW.w40
  unfold f_X11_of
  simp (disch := omega) only [li, nI_add, pk_mul, ix_n, lt_n, le_n, eq_n, sub_n, dec_n, inb_t, neg_n, neg_n', ck_true, stp_eq, bnd_some, wp_some, wp_stp, Nat.add_zero, Nat.lt_irrefl, Nat.reduceEqDiff, Nat.reduceAdd, Nat.reduceSub, Nat.reduceMul, Nat.reduceLT, Nat.reduceLeDiff, up_o, up_ss, up_sn, zb_n1, true_and, and_true, ↓reduceIte, hG.txt]
theorem m_of2 (hW : WR R) (hG : GR g R) {w : Nat} (hw : w < R 0 4) : f_X11_of g (nI w) (nI 2) = some (nI (R 4 w)) := by
  have h1 := hW.w40
  unfold f_X11_of
  simp (disch := omega) only [li, nI_add, pk_mul, ix_n, lt_n, le_n, eq_n, sub_n, dec_n, inb_t, neg_n, neg_n', ck_true, stp_eq, bnd_some, wp_some, wp_stp, Nat.add_zero, Nat.lt_irrefl, Nat.reduceEqDiff, Nat.reduceAdd, Nat.reduceSub, Nat.reduceMul, Nat.reduceLT, Nat.reduceLeDiff, up_o, up_ss, up_sn, zb_n1, true_and, and_true, ↓reduceIte, hG.st]
theorem m_of3 (hW : WR R) (hG : GR g R) {w : Nat} (hw : w < R 0 4) : f_X11_of g (nI w) (nI 3) = some (nI (R 5 w)) := by
  have h1 := hW.w40
  unfold f_X11_of
  simp (disch := omega) only [li, nI_add, pk_mul, ix_n, lt_n, le_n, eq_n, sub_n, dec_n, inb_t, neg_n, neg_n', ck_true, stp_eq, bnd_some, wp_some, wp_stp, Nat.add_zero, Nat.lt_irrefl, Nat.reduceEqDiff, Nat.reduceAdd, Nat.reduceSub, Nat.reduceMul, Nat.reduceLT, Nat.reduceLeDiff, up_o, up_ss, up_sn, zb_n1, true_and, and_true, ↓reduceIte, hG.en]
theorem m_in {x : Int32} {a b : Nat} (hb : b < 2147483648) : f_X11_in g x (nI a) (nI b - nI 1) = some (if x < nI a then nI 0 else if x < nI b then nI 1 else nI 0) := by
  refine wp_eq.mp ?_
  unfold f_X11_in
  repeat' (first | simp (disch := omega) only [li, nI_add, pk_mul, ix_n, lt_n, le_n, eq_n, sub_n, dec_n, inb_t, neg_n, neg_n', ck_true, stp_eq, bnd_some, wp_some, wp_stp, Nat.add_zero, Nat.lt_irrefl, Nat.reduceEqDiff, Nat.reduceAdd, Nat.reduceSub, Nat.reduceMul, Nat.reduceLT, Nat.reduceLeDiff, up_o, up_ss, up_sn, zb_n1, true_and, and_true, ↓reduceIte, lt_pred] | refine wp_if (fun _ => ?_) (fun _ => ?_))
  all_goals grind
theorem m_in' {x : Int32} {a b : Nat} (hb : b < 2147483648) (h1 : 1 ≤ b) : f_X11_in g x (nI a) (nI (b - 1)) = some (if x < nI a then nI 0 else if x < nI b then nI 1 else nI 0) := by
  rw [← sub_n h1]
  exact m_in hb
theorem m_throws0 {c : Int32} : f_X11_throwsIf g (nI 0) c = some (nI 0, g) := by
  unfold f_X11_throwsIf
  simp (disch := omega) only [li, nI_add, pk_mul, ix_n, lt_n, le_n, eq_n, sub_n, dec_n, inb_t, neg_n, neg_n', ck_true, stp_eq, bnd_some, wp_some, wp_stp, Nat.add_zero, Nat.lt_irrefl, Nat.reduceEqDiff, Nat.reduceAdd, Nat.reduceSub, Nat.reduceMul, Nat.reduceLT, Nat.reduceLeDiff, up_o, up_ss, up_sn, zb_n1, true_and, and_true, ↓reduceIte]
theorem m_throws1 {c : Int32} : f_X11_throwsIf g (nI 1) c = some (nI 1, up g 125 0 c) := by
  unfold f_X11_throwsIf
  simp (disch := omega) only [li, nI_add, pk_mul, ix_n, lt_n, le_n, eq_n, sub_n, dec_n, inb_t, neg_n, neg_n', ck_true, stp_eq, bnd_some, wp_some, wp_stp, Nat.add_zero, Nat.lt_irrefl, Nat.reduceEqDiff, Nat.reduceAdd, Nat.reduceSub, Nat.reduceMul, Nat.reduceLT, Nat.reduceLeDiff, up_o, up_ss, up_sn, zb_n1, true_and, and_true, ↓reduceIte]
theorem m_noWord (hW : WR R) (hG : GR g R) {w : Nat} (hw : w < R 0 4) : f_X11_noWord g (nI w) = some (nI 0, g) := by
  have h1 := hW.w40
  unfold f_X11_noWord J_X11_noWord_20
  simp (disch := omega) only [li, nI_add, pk_mul, ix_n, lt_n, le_n, eq_n, sub_n, dec_n, inb_t, neg_n, neg_n', ck_true, stp_eq, bnd_some, wp_some, wp_stp, Nat.add_zero, Nat.lt_irrefl, Nat.reduceEqDiff, Nat.reduceAdd, Nat.reduceSub, Nat.reduceMul, Nat.reduceLT, Nat.reduceLeDiff, up_o, up_ss, up_sn, zb_n1, true_and, and_true, ↓reduceIte, m_words hG, m_in, m_in', m_throws0, m_throws1, Nat.not_lt_zero, hw]
theorem m_noWord' (hW : WR R) (hG : GR g R) {x : Int32} (hx : x < nI 0 ∨ (¬ x < nI 0 ∧ ¬ x < nI (R 0 4))) : f_X11_noWord g x = some (nI 1, up g 125 0 (nI 1)) := by
  have h1 := hW.w40
  unfold f_X11_noWord J_X11_noWord_20
  rcases hx with hx | ⟨hx, hy⟩
  · by_cases z : R 0 4 = 0
    · simp (disch := omega) only [li, nI_add, pk_mul, ix_n, lt_n, le_n, eq_n, sub_n, dec_n, inb_t, neg_n, neg_n', ck_true, stp_eq, bnd_some, wp_some, wp_stp, Nat.add_zero, Nat.lt_irrefl, Nat.reduceEqDiff, Nat.reduceAdd, Nat.reduceSub, Nat.reduceMul, Nat.reduceLT, Nat.reduceLeDiff, up_o, up_ss, up_sn, zb_n1, true_and, and_true, ↓reduceIte, m_words hG, z, m_in, m_throws1, hx]
    · simp (disch := omega) only [li, nI_add, pk_mul, ix_n, lt_n, le_n, eq_n, sub_n, dec_n, inb_t, neg_n, neg_n', ck_true, stp_eq, bnd_some, wp_some, wp_stp, Nat.add_zero, Nat.lt_irrefl, Nat.reduceEqDiff, Nat.reduceAdd, Nat.reduceSub, Nat.reduceMul, Nat.reduceLT, Nat.reduceLeDiff, up_o, up_ss, up_sn, zb_n1, true_and, and_true, ↓reduceIte, m_words hG, m_in', m_throws1, hx]
  · by_cases z : R 0 4 = 0
    · rw [z] at hy
      simp (disch := omega) only [li, nI_add, pk_mul, ix_n, lt_n, le_n, eq_n, sub_n, dec_n, inb_t, neg_n, neg_n', ck_true, stp_eq, bnd_some, wp_some, wp_stp, Nat.add_zero, Nat.lt_irrefl, Nat.reduceEqDiff, Nat.reduceAdd, Nat.reduceSub, Nat.reduceMul, Nat.reduceLT, Nat.reduceLeDiff, up_o, up_ss, up_sn, zb_n1, true_and, and_true, ↓reduceIte, m_words hG, z, m_in, m_throws1, hx, hy]
    · simp (disch := omega) only [li, nI_add, pk_mul, ix_n, lt_n, le_n, eq_n, sub_n, dec_n, inb_t, neg_n, neg_n', ck_true, stp_eq, bnd_some, wp_some, wp_stp, Nat.add_zero, Nat.lt_irrefl, Nat.reduceEqDiff, Nat.reduceAdd, Nat.reduceSub, Nat.reduceMul, Nat.reduceLT, Nat.reduceLeDiff, up_o, up_ss, up_sn, zb_n1, true_and, and_true, ↓reduceIte, m_words hG, m_in', m_throws1, hx, hy]
theorem m_isKept (hE : GE g E) (hz : E 5 0 = 0) {w : Nat} (hw : w < 40) (h1 : E 1 w ≤ 1) : f_X11_isKept g (nI w) = some (nI (E 1 w)) := by
  refine wp_eq.mp ?_
  unfold f_X11_isKept
  repeat' (first | simp (disch := omega) only [li, nI_add, pk_mul, ix_n, lt_n, le_n, eq_n, sub_n, dec_n, inb_t, neg_n, neg_n', ck_true, stp_eq, bnd_some, wp_some, wp_stp, Nat.add_zero, Nat.lt_irrefl, Nat.reduceEqDiff, Nat.reduceAdd, Nat.reduceSub, Nat.reduceMul, Nat.reduceLT, Nat.reduceLeDiff, up_o, up_ss, up_sn, zb_n1, true_and, and_true, ↓reduceIte, hE.k, Nat.zero_add] | refine wp_if (fun _ => ?_) (fun _ => ?_))
  · have e : E 1 w = 1 := by omega
    rw [e]
  · have e : E 1 w = 0 := by omega
    rw [e]
theorem m_rangeStart (hW : WR R) (hG : GR g R) {b : Nat} (hb : b < R 0 13) : f_X11_rangeStart g (nI b) = some (nI (rs R b)) := by
  have h1 := hW.w40
  have h2 := hW.bw
  refine wp_eq.mp ?_
  unfold f_X11_rangeStart rs
  repeat' (first | simp (disch := omega) only [li, nI_add, pk_mul, ix_n, lt_n, le_n, eq_n, sub_n, dec_n, inb_t, neg_n, neg_n', ck_true, stp_eq, bnd_some, wp_some, wp_stp, Nat.add_zero, Nat.lt_irrefl, Nat.reduceEqDiff, Nat.reduceAdd, Nat.reduceSub, Nat.reduceMul, Nat.reduceLT, Nat.reduceLeDiff, up_o, up_ss, up_sn, zb_n1, true_and, and_true, ↓reduceIte, hG.cut] | refine wp_if (fun _ => ?_) (fun _ => ?_))
  all_goals grind
theorem m_rangeEnd (hW : WR R) (hG : GR g R) {b : Nat} (hb : b < R 0 13) : f_X11_rangeEnd g (nI b) = some (nI (R 12 b)) := by
  have h1 := hW.w40
  have h2 := hW.bw
  have h3 := hW.last b
  refine wp_eq.mp ?_
  unfold f_X11_rangeEnd
  repeat' (first | simp (disch := omega) only [li, nI_add, pk_mul, ix_n, lt_n, le_n, eq_n, sub_n, dec_n, inb_t, neg_n, neg_n', ck_true, stp_eq, bnd_some, wp_some, wp_stp, Nat.add_zero, Nat.lt_irrefl, Nat.reduceEqDiff, Nat.reduceAdd, Nat.reduceSub, Nat.reduceMul, Nat.reduceLT, Nat.reduceLeDiff, up_o, up_ss, up_sn, zb_n1, true_and, and_true, ↓reduceIte, hG.cut, hG.bc, hG.len] | refine wp_if (fun _ => ?_) (fun _ => ?_))
  all_goals grind
theorem p_facts (hW : WR R) (hE : WE R E) {b : Nat} (hb : b < R 0 13) : b < 40 ∧ R 12 b ≤ 99999 ∧ R 11 b ≤ 99999 ∧ R 10 b ≤ 99999 ∧ E 3 b ≤ 999 ∧ E 4 b ≤ 999 ∧ pf R E b ≤ R 10 b ∧ R 10 b < R 11 b ∧ R 11 b ≤ pt R E b ∧ pt R E b ≤ 99999 := by
  have h1 := hW.w40
  have h2 := hW.bw
  have h3 := hW.last b
  have h4 := hW.bse b hb
  have h5 := hW.len
  have h6 := hE.hd b (by omega)
  have h7 := hE.tl b (by omega)
  refine ⟨by omega, by omega, by omega, by omega, by omega, by omega, ?_, h4.1, ?_, ?_⟩
  · unfold pf
    split
    · omega
    · have h8 := hW.cut (b - 1) (by omega)
      rw [show b - 1 + 1 = b by omega] at h8
      omega
  · unfold pt
    split
    · omega
    · have h8 := hW.cut b (by omega)
      omega
  · unfold pt
    split
    · omega
    · have h8 := hW.bse (b + 1) (by omega)
      omega
theorem m_playsFrom (hW : WR R) (hE : WE R E) (hG : GR g R) (hM : GE g E) {b : Nat} (hb : b < R 0 13) : f_X11_playsFrom g (nI b) = some (nI (pf R E b)) := by
  obtain ⟨h0, h1, h2, h3, h4, h5, h6, h7, h8, h9⟩ := p_facts hW hE hb
  refine wp_eq.mp ?_
  unfold f_X11_playsFrom J_X11_playsFrom_31
  simp (disch := omega) only [li, nI_add, pk_mul, ix_n, lt_n, le_n, eq_n, sub_n, dec_n, inb_t, neg_n, neg_n', ck_true, stp_eq, bnd_some, wp_some, wp_stp, Nat.add_zero, Nat.lt_irrefl, Nat.reduceEqDiff, Nat.reduceAdd, Nat.reduceSub, Nat.reduceMul, Nat.reduceLT, Nat.reduceLeDiff, up_o, up_ss, up_sn, zb_n1, true_and, and_true, ↓reduceIte, m_rangeStart hW hG hb, hM.hd]
  by_cases hz : b = 0
  · unfold rs pf
    simp (disch := omega) only [li, nI_add, pk_mul, ix_n, lt_n, le_n, eq_n, sub_n, dec_n, inb_t, neg_n, neg_n', ck_true, stp_eq, bnd_some, wp_some, wp_stp, Nat.add_zero, Nat.lt_irrefl, Nat.reduceEqDiff, Nat.reduceAdd, Nat.reduceSub, Nat.reduceMul, Nat.reduceLT, Nat.reduceLeDiff, up_o, up_ss, up_sn, zb_n1, true_and, and_true, ↓reduceIte, hz]
    rw [imax_s (by omega) (by have := hE.hd 0 (by omega); omega) (by omega)]
    simp
  · obtain ⟨q0, q1, q2, q3, -⟩ := p_facts hW hE (b := b - 1) (by omega)
    unfold rs pf
    simp (disch := omega) only [li, nI_add, pk_mul, ix_n, lt_n, le_n, eq_n, sub_n, dec_n, inb_t, neg_n, neg_n', ck_true, stp_eq, bnd_some, wp_some, wp_stp, Nat.add_zero, Nat.lt_irrefl, Nat.reduceEqDiff, Nat.reduceAdd, Nat.reduceSub, Nat.reduceMul, Nat.reduceLT, Nat.reduceLeDiff, up_o, up_ss, up_sn, zb_n1, true_and, and_true, ↓reduceIte, hz, hG.be]
    rw [imax_s (by omega) (by omega) (by omega)]
theorem m_playsTo (hW : WR R) (hE : WE R E) (hG : GR g R) (hM : GE g E) {b : Nat} (hb : b < R 0 13) : f_X11_playsTo g (nI b) = some (nI (pt R E b)) := by
  obtain ⟨h0, h1, h2, h3, h4, h5, h6, h7, h8, h9⟩ := p_facts hW hE hb
  have h10 := hW.last b
  have h11 := hW.len
  have h12 := hW.w40
  have h13 := hW.bw
  refine wp_eq.mp ?_
  unfold f_X11_playsTo J_X11_playsTo_42
  simp (disch := omega) only [li, nI_add, pk_mul, ix_n, lt_n, le_n, eq_n, sub_n, dec_n, inb_t, neg_n, neg_n', ck_true, stp_eq, bnd_some, wp_some, wp_stp, Nat.add_zero, Nat.lt_irrefl, Nat.reduceEqDiff, Nat.reduceAdd, Nat.reduceSub, Nat.reduceMul, Nat.reduceLT, Nat.reduceLeDiff, up_o, up_ss, up_sn, zb_n1, true_and, and_true, ↓reduceIte, m_rangeEnd hW hG hb, hM.tl, hG.bc, hG.len]
  by_cases hz : b + 1 = R 0 13
  · have e : b = R 0 13 - 1 := by omega
    unfold pt
    simp (disch := omega) only [li, nI_add, pk_mul, ix_n, lt_n, le_n, eq_n, sub_n, dec_n, inb_t, neg_n, neg_n', ck_true, stp_eq, bnd_some, wp_some, wp_stp, Nat.add_zero, Nat.lt_irrefl, Nat.reduceEqDiff, Nat.reduceAdd, Nat.reduceSub, Nat.reduceMul, Nat.reduceLT, Nat.reduceLeDiff, up_o, up_ss, up_sn, zb_n1, true_and, and_true, ↓reduceIte, hz, if_pos e]
    rw [imin_n (by omega) (by omega), Nat.min_eq_right (by omega)]
  · obtain ⟨q0, q1, q2, q3, -⟩ := p_facts hW hE (b := b + 1) (by omega)
    have e : ¬ b = R 0 13 - 1 := by omega
    unfold pt
    simp (disch := omega) only [li, nI_add, pk_mul, ix_n, lt_n, le_n, eq_n, sub_n, dec_n, inb_t, neg_n, neg_n', ck_true, stp_eq, bnd_some, wp_some, wp_stp, Nat.add_zero, Nat.lt_irrefl, Nat.reduceEqDiff, Nat.reduceAdd, Nat.reduceSub, Nat.reduceMul, Nat.reduceLT, Nat.reduceLeDiff, up_o, up_ss, up_sn, zb_n1, true_and, and_true, ↓reduceIte, hz, if_neg e, hG.bs]
    rw [imin_n (by omega) (by omega)]
theorem m_plays (hW : WR R) (hE : WE R E) (hG : GR g R) (hM : GE g E) {b : Nat} (hb : b < R 0 13) : f_X11_plays g (nI b) = some (nI (plE R E b)) := by
  obtain ⟨h0, h1, h2, h3, h4, h5, h6, h7, h8, h9⟩ := p_facts hW hE hb
  unfold f_X11_plays plE
  simp (disch := omega) only [li, nI_add, pk_mul, ix_n, lt_n, le_n, eq_n, sub_n, dec_n, inb_t, neg_n, neg_n', ck_true, stp_eq, bnd_some, wp_some, wp_stp, Nat.add_zero, Nat.lt_irrefl, Nat.reduceEqDiff, Nat.reduceAdd, Nat.reduceSub, Nat.reduceMul, Nat.reduceLT, Nat.reduceLeDiff, up_o, up_ss, up_sn, zb_n1, true_and, and_true, ↓reduceIte, m_playsFrom hW hE hG hM hb, m_playsTo hW hE hG hM hb]
theorem m_shotBlock (hW : WR R) (hE : WE R E) (hM : GE g E) {s : Nat} (hs : s < E 0 1) : f_X11_shotBlock g (nI s) = some (nI (E 2 s)) := by
  have h1 := hE.n
  have h2 := hW.bw
  have h3 := hW.w40
  unfold f_X11_shotBlock
  simp (disch := omega) only [li, nI_add, pk_mul, ix_n, lt_n, le_n, eq_n, sub_n, dec_n, inb_t, neg_n, neg_n', ck_true, stp_eq, bnd_some, wp_some, wp_stp, Nat.add_zero, Nat.lt_irrefl, Nat.reduceEqDiff, Nat.reduceAdd, Nat.reduceSub, Nat.reduceMul, Nat.reduceLT, Nat.reduceLeDiff, up_o, up_ss, up_sn, zb_n1, true_and, and_true, ↓reduceIte, hM.o]
theorem fs_le (hW : WR R) (hE : WE R E) {s : Nat} (hs : s ≤ E 0 1) : fs R E s ≤ 4000000 := by
  have h1 := hE.n
  have h2 := hW.bw
  have h3 := hW.w40
  refine Nat.le_trans (sm_leN (c := 99999) s (fun j hj => ?_)) (by omega)
  obtain ⟨q0, q1, q2, q3, -, -, -, -, -, q4⟩ := p_facts hW hE (hE.lt j (by omega))
  unfold plE
  omega
theorem m_filmStart (hW : WR R) (hE : WE R E) (hG : GR g R) (hM : GE g E) {s : Nat} (hs : s ≤ E 0 1) : f_X11_filmStart g (nI s) = some (nI (fs R E s)) := by
  have h1 := hE.n
  have h2 := hW.bw
  have h3 := hW.w40
  refine wp_eq.mp ?_
  unfold f_X11_filmStart
  refine wp_for (i := 0) s (fun i x => x = (nI (fs R E i), nI i)) (by omega) (by omega) rfl ?_
  rintro i x r hi rfl k
  have h4 := fs_le hW hE (s := i) (by omega)
  unfold F_X11_filmStart_4
  by_cases hl : i < s
  · simp (disch := omega) only [li, nI_add, pk_mul, ix_n, lt_n, le_n, eq_n, sub_n, dec_n, inb_t, neg_n, neg_n', ck_true, stp_eq, bnd_some, wp_some, wp_stp, Nat.add_zero, Nat.lt_irrefl, Nat.reduceEqDiff, Nat.reduceAdd, Nat.reduceSub, Nat.reduceMul, Nat.reduceLT, Nat.reduceLeDiff, up_o, up_ss, up_sn, zb_n1, true_and, and_true, ↓reduceIte, hl, m_shotBlock hW hE hM (s := i) (by omega), m_plays hW hE hG hM (hE.lt i (by omega))]
    exact k _ hl rfl
  · have e : i = s := by omega
    simp (disch := omega) only [li, nI_add, pk_mul, ix_n, lt_n, le_n, eq_n, sub_n, dec_n, inb_t, neg_n, neg_n', ck_true, stp_eq, bnd_some, wp_some, wp_stp, Nat.add_zero, Nat.lt_irrefl, Nat.reduceEqDiff, Nat.reduceAdd, Nat.reduceSub, Nat.reduceMul, Nat.reduceLT, Nat.reduceLeDiff, up_o, up_ss, up_sn, zb_n1, true_and, and_true, ↓reduceIte, hl, e]
theorem m_film (hW : WR R) (hE : WE R E) (hG : GR g R) (hM : GE g E) : f_X11_film g = some (nI (fs R E (E 0 1))) := by
  unfold f_X11_film
  simp (disch := omega) only [li, nI_add, pk_mul, ix_n, lt_n, le_n, eq_n, sub_n, dec_n, inb_t, neg_n, neg_n', ck_true, stp_eq, bnd_some, wp_some, wp_stp, Nat.add_zero, Nat.lt_irrefl, Nat.reduceEqDiff, Nat.reduceAdd, Nat.reduceSub, Nat.reduceMul, Nat.reduceLT, Nat.reduceLeDiff, up_o, up_ss, up_sn, zb_n1, true_and, and_true, ↓reduceIte, hM.n, m_filmStart hW hE hG hM (Nat.le_refl _)]
theorem m_shotOf (hW : WR R) (hE : WE R E) (hM : GE g E) {b : Nat} (hb : b < 2147483648) : f_X11_shotOf g (nI b) = some (oI (E 0 1) (sch (fun s => E 2 s = b) (E 0 1))) := by
  have h1 := hE.n
  have h2 := hW.bw
  have h3 := hW.w40
  refine wp_eq.mp ?_
  unfold f_X11_shotOf
  refine wp_for (i := 0) (E 0 1) (fun i x => x = nI i ∧ ∀ s, s < i → ¬ E 2 s = b) (by omega) (by omega) ⟨rfl, fun s hs => absurd hs (Nat.not_lt_zero _)⟩ ?_
  rintro i x r hi ⟨rfl, hp⟩ k
  unfold F_X11_shotOf_2
  by_cases hl : i < E 0 1
  · have h4 := hE.lt i hl
    repeat' (first | simp (disch := omega) only [li, nI_add, pk_mul, ix_n, lt_n, le_n, eq_n, sub_n, dec_n, inb_t, neg_n, neg_n', ck_true, stp_eq, bnd_some, wp_some, wp_stp, Nat.add_zero, Nat.lt_irrefl, Nat.reduceEqDiff, Nat.reduceAdd, Nat.reduceSub, Nat.reduceMul, Nat.reduceLT, Nat.reduceLeDiff, up_o, up_ss, up_sn, zb_n1, true_and, and_true, ↓reduceIte, hM.n, hM.o, hl] | refine wp_if (fun _ => ?_) (fun _ => ?_))
    · rename_i q
      rw [sch_u (i := i) hi hp (fun _ => q), oI, if_pos hl]
    · rename_i q
      refine k _ hl ⟨rfl, fun s hs => ?_⟩
      by_cases z : s = i
      · rw [z]; exact q
      · exact hp s (by omega)
  · simp (disch := omega) only [li, nI_add, pk_mul, ix_n, lt_n, le_n, eq_n, sub_n, dec_n, inb_t, neg_n, neg_n', ck_true, stp_eq, bnd_some, wp_some, wp_stp, Nat.add_zero, Nat.lt_irrefl, Nat.reduceEqDiff, Nat.reduceAdd, Nat.reduceSub, Nat.reduceMul, Nat.reduceLT, Nat.reduceLeDiff, up_o, up_ss, up_sn, zb_n1, true_and, and_true, ↓reduceIte, hM.n, hl]
    rw [sch_u (i := i) hi hp (fun z => absurd z hl), oI, if_neg hl]
theorem bw_mono (hW : WR R) : ∀ d b, b + d ≤ R 0 13 → R 9 b + d ≤ R 9 (b + d) := by
  intro d
  induction d with
  | zero => intro b _; exact Nat.le_refl _
  | succ d ih =>
    intro b hb
    have h1 := ih b (by omega)
    have h2 := hW.wlt (b + d) (by omega)
    rw [show b + (d + 1) = b + d + 1 by omega]
    omega
theorem bw_le (hW : WR R) {b : Nat} (hb : b ≤ R 0 13) : R 9 b ≤ R 0 4 := by
  have h1 := bw_mono hW (R 0 13 - b) b (by omega)
  rw [show b + (R 0 13 - b) = R 0 13 by omega, hW.wN] at h1
  omega
theorem m_keptIn (hW : WR R) (hE : WE R E) (hG : GR g R) (hM : GE g E) {b : Nat} (hb : b < R 0 13) : f_X11_keptIn g (nI b) = some (nI (kw R E b (R 9 (b + 1))).length) := by
  have h2 := hW.bw
  have h3 := hW.w40
  have h4 := hW.wlt b hb
  have h5 := bw_le hW (b := b + 1) (by omega)
  refine wp_eq.mp ?_
  unfold f_X11_keptIn
  simp (disch := omega) only [li, nI_add, pk_mul, ix_n, lt_n, le_n, eq_n, sub_n, dec_n, inb_t, neg_n, neg_n', ck_true, stp_eq, bnd_some, wp_some, wp_stp, Nat.add_zero, Nat.lt_irrefl, Nat.reduceEqDiff, Nat.reduceAdd, Nat.reduceSub, Nat.reduceMul, Nat.reduceLT, Nat.reduceLeDiff, up_o, up_ss, up_sn, zb_n1, true_and, and_true, ↓reduceIte, hG.bw]
  refine wp_for (i := R 9 b) (R 9 (b + 1)) (fun i x => x = (nI (kw R E b i).length, nI i) ∧ R 9 b ≤ i) (by omega) (by omega) ⟨by rw [kw_0]; rfl, Nat.le_refl _⟩ ?_
  rintro i x r hi ⟨rfl, hp⟩ k
  unfold F_X11_keptIn_9 J_X11_keptIn_35
  by_cases hl : i < R 9 (b + 1)
  · have h6 := hE.k1 i (by omega)
    repeat' (first | simp (disch := omega) only [li, nI_add, pk_mul, ix_n, lt_n, le_n, eq_n, sub_n, dec_n, inb_t, neg_n, neg_n', ck_true, stp_eq, bnd_some, wp_some, wp_stp, Nat.add_zero, Nat.lt_irrefl, Nat.reduceEqDiff, Nat.reduceAdd, Nat.reduceSub, Nat.reduceMul, Nat.reduceLT, Nat.reduceLeDiff, up_o, up_ss, up_sn, zb_n1, true_and, and_true, ↓reduceIte, hG.bw, hl, m_isKept hM (hE.zz (by omega)) (w := i) (by omega) h6] | refine wp_if (fun _ => ?_) (fun _ => ?_))
    · refine k _ hl ⟨?_, by omega⟩
      rw [kw_n hp (by omega)]
    · refine k _ hl ⟨?_, by omega⟩
      rw [kw_y hp (by omega), List.length_append]
      rfl
  · have e : i = R 9 (b + 1) := by omega
    simp (disch := omega) only [li, nI_add, pk_mul, ix_n, lt_n, le_n, eq_n, sub_n, dec_n, inb_t, neg_n, neg_n', ck_true, stp_eq, bnd_some, wp_some, wp_stp, Nat.add_zero, Nat.lt_irrefl, Nat.reduceEqDiff, Nat.reduceAdd, Nat.reduceSub, Nat.reduceMul, Nat.reduceLT, Nat.reduceLeDiff, up_o, up_ss, up_sn, zb_n1, true_and, and_true, ↓reduceIte, hG.bw, hl, e]
end
