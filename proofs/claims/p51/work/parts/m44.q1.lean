/-! the recording's questions, on both sides -/
section
variable {h g : Hp} {c : Nat} {R E : Nat → Nat → Nat}
theorem w_facts (hW : WR R) {w : Nat} (hw : w < R 0 4) : w < 40 ∧ R 4 w < R 5 w ∧ R 5 w ≤ 99999 ∧ R 3 w < 4 ∧ R 6 w < 40 ∧ R 6 w < R 0 13 := by
  have h1 := hW.w40
  have h2 := hW.wd w hw
  have h3 := hW.len
  have h4 := hW.s4
  have h5 := hW.wb w hw
  have h6 := hW.bw
  omega
theorem c_rangeStart (hW : WR R) (hC : CR h c R) {b : Nat} (hb : b < R 0 13) : f_X4_rangeStart h c (nI b) = some (nI (rs R b)) := by
  have h1 := hW.w40
  have h2 := hW.bw
  refine wp_eq.mp ?_
  unfold f_X4_rangeStart rs
  repeat' (first | simp (disch := omega) only [li, nI_add, pk_mul, ix_n, lt_n, le_n, eq_n, sub_n, dec_n, inb_t, neg_n, neg_n', ck_true, stp_eq, bnd_some, wp_some, wp_stp, Nat.add_zero, Nat.lt_irrefl, Nat.reduceEqDiff, Nat.reduceAdd, Nat.reduceSub, Nat.reduceMul, Nat.reduceLT, Nat.reduceLeDiff, up_o, up_ss, up_sn, zb_n1, true_and, and_true, ↓reduceIte, hC.o] | refine wp_if (fun _ => ?_) (fun _ => ?_))
  all_goals grind
theorem c_isSpoken (hW : WR R) (hC : CR h c R) {w : Nat} {x : Int32} (hw : w < R 0 4) : f_X4_isSpoken h c (nI w) x = some (if x < nI (R 4 w) then nI 0 else if x < nI (R 5 w) then nI 1 else nI 0) := by
  obtain ⟨h1, h2, h3, h4, h5, h6⟩ := w_facts hW hw
  refine wp_eq.mp ?_
  unfold f_X4_isSpoken
  repeat' (first | simp (disch := omega) only [li, nI_add, pk_mul, ix_n, lt_n, le_n, eq_n, sub_n, dec_n, inb_t, neg_n, neg_n', ck_true, stp_eq, bnd_some, wp_some, wp_stp, Nat.add_zero, Nat.lt_irrefl, Nat.reduceEqDiff, Nat.reduceAdd, Nat.reduceSub, Nat.reduceMul, Nat.reduceLT, Nat.reduceLeDiff, up_o, up_ss, up_sn, zb_n1, true_and, and_true, ↓reduceIte, hC.o] | refine wp_if (fun _ => ?_) (fun _ => ?_))
  all_goals grind
def shr (R : Nat → Nat → Nat) (w v : Nat) : Prop := R 4 w < R 5 v ∧ R 4 v < R 5 w
theorem c_shareFrame (hW : WR R) (hC : CR h c R) {w v : Nat} (hw : w < R 0 4) (hv : v < R 0 4) : f_X4_shareFrame h c (nI w) (nI v) = some (nI (@ite _ (shr R w v) (Classical.propDecidable _) 1 0)) := by
  obtain ⟨h1, h2, h3, h4, h5, h6⟩ := w_facts hW hw
  obtain ⟨g1, g2, g3, g4, g5, g6⟩ := w_facts hW hv
  refine wp_eq.mp ?_
  unfold f_X4_shareFrame shr
  repeat' (first | simp (disch := omega) only [li, nI_add, pk_mul, ix_n, lt_n, le_n, eq_n, sub_n, dec_n, inb_t, neg_n, neg_n', ck_true, stp_eq, bnd_some, wp_some, wp_stp, Nat.add_zero, Nat.lt_irrefl, Nat.reduceEqDiff, Nat.reduceAdd, Nat.reduceSub, Nat.reduceMul, Nat.reduceLT, Nat.reduceLeDiff, up_o, up_ss, up_sn, zb_n1, true_and, and_true, ↓reduceIte, hC.o] | refine wp_if (fun _ => ?_) (fun _ => ?_))
  all_goals grind
theorem m_share (hW : WR R) (hG : GR g R) {w v : Nat} (hw : w < R 0 4) (hv : v < R 0 4) : f_X11_share g (nI w) (nI v) = some (nI (@ite _ (shr R w v) (Classical.propDecidable _) 1 0)) := by
  obtain ⟨h1, h2, h3, h4, h5, h6⟩ := w_facts hW hw
  obtain ⟨g1, g2, g3, g4, g5, g6⟩ := w_facts hW hv
  refine wp_eq.mp ?_
  unfold f_X11_share shr
  repeat' (first | simp (disch := omega) only [li, nI_add, pk_mul, ix_n, lt_n, le_n, eq_n, sub_n, dec_n, inb_t, neg_n, neg_n', ck_true, stp_eq, bnd_some, wp_some, wp_stp, Nat.add_zero, Nat.lt_irrefl, Nat.reduceEqDiff, Nat.reduceAdd, Nat.reduceSub, Nat.reduceMul, Nat.reduceLT, Nat.reduceLeDiff, up_o, up_ss, up_sn, zb_n1, true_and, and_true, ↓reduceIte, m_of2 hW hG hw, m_of2 hW hG hv, m_of3 hW hG hw, m_of3 hW hG hv] | refine wp_if (fun _ => ?_) (fun _ => ?_))
  all_goals grind
theorem shr_c {w v : Nat} : shr R w v ↔ shr R v w := by
  unfold shr
  exact And.comm
theorem ite_n {p : Prop} {a b : Nat} : (nI (@ite _ p (Classical.propDecidable _) 1 0) = nI 0) = ¬ p := by
  by_cases q : p
  · rw [if_pos q]; exact propext ⟨fun z => absurd z (by decide), fun z => absurd q z⟩
  · rw [if_neg q]; exact propext ⟨fun _ => q, fun _ => rfl⟩
theorem c_countOverlapping (hW : WR R) (hC : CR h c R) {w : Nat} (hw : w < R 0 4) : f_X4_countOverlapping h c (nI w) = some (nI (cnt (fun v => v ≠ w ∧ shr R v w) (R 0 4))) := by
  have h40 := hW.w40
  refine wp_eq.mp ?_
  unfold f_X4_countOverlapping
  refine wp_for (i := 0) (R 0 4) (fun i x => x = (nI (cnt (fun v => v ≠ w ∧ shr R v w) i), nI i)) (by omega) (by omega) rfl ?_
  rintro i x r hi rfl k
  unfold F_X4_countOverlapping_4 J_X4_countOverlapping_29
  by_cases hl : i < R 0 4
  · simp (disch := omega) only [li, nI_add, pk_mul, ix_n, lt_n, le_n, eq_n, sub_n, dec_n, inb_t, neg_n, neg_n', ck_true, stp_eq, bnd_some, wp_some, wp_stp, Nat.add_zero, Nat.lt_irrefl, Nat.reduceEqDiff, Nat.reduceAdd, Nat.reduceSub, Nat.reduceMul, Nat.reduceLT, Nat.reduceLeDiff, up_o, up_ss, up_sn, zb_n1, true_and, and_true, ↓reduceIte, hC.z, hl]
    by_cases z : i = w
    · subst z
      simp (disch := omega) only [li, nI_add, pk_mul, ix_n, lt_n, le_n, eq_n, sub_n, dec_n, inb_t, neg_n, neg_n', ck_true, stp_eq, bnd_some, wp_some, wp_stp, Nat.add_zero, Nat.lt_irrefl, Nat.reduceEqDiff, Nat.reduceAdd, Nat.reduceSub, Nat.reduceMul, Nat.reduceLT, Nat.reduceLeDiff, up_o, up_ss, up_sn, zb_n1, true_and, and_true, ↓reduceIte]
      refine k _ hl ?_
      rw [cnt_n (by simp)]
    · simp (disch := omega) only [li, nI_add, pk_mul, ix_n, lt_n, le_n, eq_n, sub_n, dec_n, inb_t, neg_n, neg_n', ck_true, stp_eq, bnd_some, wp_some, wp_stp, Nat.add_zero, Nat.lt_irrefl, Nat.reduceEqDiff, Nat.reduceAdd, Nat.reduceSub, Nat.reduceMul, Nat.reduceLT, Nat.reduceLeDiff, up_o, up_ss, up_sn, zb_n1, true_and, and_true, ↓reduceIte, z, c_shareFrame hW hC hl hw]
      by_cases y : shr R i w
      · rw [if_pos y]
        simp (disch := omega) only [li, nI_add, pk_mul, ix_n, lt_n, le_n, eq_n, sub_n, dec_n, inb_t, neg_n, neg_n', ck_true, stp_eq, bnd_some, wp_some, wp_stp, Nat.add_zero, Nat.lt_irrefl, Nat.reduceEqDiff, Nat.reduceAdd, Nat.reduceSub, Nat.reduceMul, Nat.reduceLT, Nat.reduceLeDiff, up_o, up_ss, up_sn, zb_n1, true_and, and_true, ↓reduceIte]
        refine k _ hl ?_
        rw [cnt_y ⟨z, y⟩]
      · rw [if_neg y]
        simp (disch := omega) only [li, nI_add, pk_mul, ix_n, lt_n, le_n, eq_n, sub_n, dec_n, inb_t, neg_n, neg_n', ck_true, stp_eq, bnd_some, wp_some, wp_stp, Nat.add_zero, Nat.lt_irrefl, Nat.reduceEqDiff, Nat.reduceAdd, Nat.reduceSub, Nat.reduceMul, Nat.reduceLT, Nat.reduceLeDiff, up_o, up_ss, up_sn, zb_n1, true_and, and_true, ↓reduceIte]
        refine k _ hl ?_
        rw [cnt_n (fun q => y q.2)]
  · have e : i = R 0 4 := by omega
    simp (disch := omega) only [li, nI_add, pk_mul, ix_n, lt_n, le_n, eq_n, sub_n, dec_n, inb_t, neg_n, neg_n', ck_true, stp_eq, bnd_some, wp_some, wp_stp, Nat.add_zero, Nat.lt_irrefl, Nat.reduceEqDiff, Nat.reduceAdd, Nat.reduceSub, Nat.reduceMul, Nat.reduceLT, Nat.reduceLeDiff, up_o, up_ss, up_sn, zb_n1, true_and, and_true, ↓reduceIte, hC.z, hl, e]
theorem m_overlaps (hW : WR R) (hG : GR g R) {w : Nat} (hw : w < R 0 4) : f_X11_overlaps g (nI w) = some (nI (cnt (fun v => v ≠ w ∧ shr R v w) (R 0 4))) := by
  have h40 := hW.w40
  refine wp_eq.mp ?_
  unfold f_X11_overlaps
  refine wp_for (i := 0) (R 0 4) (fun i x => x = (nI (cnt (fun v => v ≠ w ∧ shr R v w) i), nI i)) (by omega) (by omega) rfl ?_
  rintro i x r hi rfl k
  unfold F_X11_overlaps_4 J_X11_overlaps_31 J_X11_overlaps_32
  by_cases hl : i < R 0 4
  · simp (disch := omega) only [li, nI_add, pk_mul, ix_n, lt_n, le_n, eq_n, sub_n, dec_n, inb_t, neg_n, neg_n', ck_true, stp_eq, bnd_some, wp_some, wp_stp, Nat.add_zero, Nat.lt_irrefl, Nat.reduceEqDiff, Nat.reduceAdd, Nat.reduceSub, Nat.reduceMul, Nat.reduceLT, Nat.reduceLeDiff, up_o, up_ss, up_sn, zb_n1, true_and, and_true, ↓reduceIte, m_words hG, hl]
    by_cases z : i = w
    · subst z
      simp (disch := omega) only [li, nI_add, pk_mul, ix_n, lt_n, le_n, eq_n, sub_n, dec_n, inb_t, neg_n, neg_n', ck_true, stp_eq, bnd_some, wp_some, wp_stp, Nat.add_zero, Nat.lt_irrefl, Nat.reduceEqDiff, Nat.reduceAdd, Nat.reduceSub, Nat.reduceMul, Nat.reduceLT, Nat.reduceLeDiff, up_o, up_ss, up_sn, zb_n1, true_and, and_true, ↓reduceIte]
      refine k _ hl ?_
      rw [cnt_n (by simp)]
    · simp (disch := omega) only [li, nI_add, pk_mul, ix_n, lt_n, le_n, eq_n, sub_n, dec_n, inb_t, neg_n, neg_n', ck_true, stp_eq, bnd_some, wp_some, wp_stp, Nat.add_zero, Nat.lt_irrefl, Nat.reduceEqDiff, Nat.reduceAdd, Nat.reduceSub, Nat.reduceMul, Nat.reduceLT, Nat.reduceLeDiff, up_o, up_ss, up_sn, zb_n1, true_and, and_true, ↓reduceIte, z, m_share hW hG hw hl]
      by_cases y : shr R i w
      · rw [if_pos (shr_c.mp y)]
        simp (disch := omega) only [li, nI_add, pk_mul, ix_n, lt_n, le_n, eq_n, sub_n, dec_n, inb_t, neg_n, neg_n', ck_true, stp_eq, bnd_some, wp_some, wp_stp, Nat.add_zero, Nat.lt_irrefl, Nat.reduceEqDiff, Nat.reduceAdd, Nat.reduceSub, Nat.reduceMul, Nat.reduceLT, Nat.reduceLeDiff, up_o, up_ss, up_sn, zb_n1, true_and, and_true, ↓reduceIte]
        refine k _ hl ?_
        rw [cnt_y ⟨z, y⟩]
      · rw [if_neg (fun q => y (shr_c.mp q))]
        simp (disch := omega) only [li, nI_add, pk_mul, ix_n, lt_n, le_n, eq_n, sub_n, dec_n, inb_t, neg_n, neg_n', ck_true, stp_eq, bnd_some, wp_some, wp_stp, Nat.add_zero, Nat.lt_irrefl, Nat.reduceEqDiff, Nat.reduceAdd, Nat.reduceSub, Nat.reduceMul, Nat.reduceLT, Nat.reduceLeDiff, up_o, up_ss, up_sn, zb_n1, true_and, and_true, ↓reduceIte]
        refine k _ hl ?_
        rw [cnt_n (fun q => y q.2)]
  · have e : i = R 0 4 := by omega
    simp (disch := omega) only [li, nI_add, pk_mul, ix_n, lt_n, le_n, eq_n, sub_n, dec_n, inb_t, neg_n, neg_n', ck_true, stp_eq, bnd_some, wp_some, wp_stp, Nat.add_zero, Nat.lt_irrefl, Nat.reduceEqDiff, Nat.reduceAdd, Nat.reduceSub, Nat.reduceMul, Nat.reduceLT, Nat.reduceLeDiff, up_o, up_ss, up_sn, zb_n1, true_and, and_true, ↓reduceIte, m_words hG, hl, e]
/-- a word whose text no earlier one has -/
def newT (R : Nat → Nat → Nat) (w : Nat) : Prop := ∀ v, v < w → R 2 v ≠ R 2 w
theorem c_firstWithText (hW : WR R) (hC : CR h c R) {w : Nat} (hw : w < R 0 4) : f_X4_firstWithText h c (nI (R 2 w)) = some (nI (sch (fun v => R 2 v = R 2 w) (R 0 4))) := by
  have h40 := hW.w40
  have hn := nm_lt (hW.tx w hw)
  refine wp_eq.mp ?_
  unfold f_X4_firstWithText
  refine wp_for (i := 0) (R 0 4) (fun i x => x = nI i ∧ ∀ s, s < i → ¬ R 2 s = R 2 w) (by omega) (by omega) ⟨rfl, fun s hs => absurd hs (Nat.not_lt_zero _)⟩ ?_
  rintro i x r hi ⟨rfl, hp⟩ k
  unfold F_X4_firstWithText_2
  by_cases hl : i < R 0 4
  · have hn2 := nm_lt (hW.tx i hl)
    repeat' (first | simp (disch := omega) only [li, nI_add, pk_mul, ix_n, lt_n, le_n, eq_n, sub_n, dec_n, inb_t, neg_n, neg_n', ck_true, stp_eq, bnd_some, wp_some, wp_stp, Nat.add_zero, Nat.lt_irrefl, Nat.reduceEqDiff, Nat.reduceAdd, Nat.reduceSub, Nat.reduceMul, Nat.reduceLT, Nat.reduceLeDiff, up_o, up_ss, up_sn, zb_n1, true_and, and_true, ↓reduceIte, hC.z, hC.o, hl] | refine wp_if (fun _ => ?_) (fun _ => ?_))
    · rename_i q
      rw [sch_u (i := i) hi hp (fun _ => q)]
    · rename_i q
      refine k _ hl ⟨rfl, fun s hs => ?_⟩
      by_cases z : s = i
      · rw [z]; exact q
      · exact hp s (by omega)
  · exact absurd rfl (hp w (by omega))
theorem c_countTexts (hW : WR R) (hC : CR h c R) : f_X4_countTexts h c = some (nI (cnt (newT R) (R 0 4))) := by
  have h40 := hW.w40
  refine wp_eq.mp ?_
  unfold f_X4_countTexts
  refine wp_for (i := 0) (R 0 4) (fun i x => x = (nI (cnt (newT R) i), nI i)) (by omega) (by omega) rfl ?_
  rintro i x r hi rfl k
  unfold F_X4_countTexts_4 J_X4_countTexts_29
  by_cases hl : i < R 0 4
  · obtain ⟨s1, s2, s3⟩ := sch_spec (fun v => R 2 v = R 2 i) (R 0 4)
    repeat' (first | simp (disch := omega) only [li, nI_add, pk_mul, ix_n, lt_n, le_n, eq_n, sub_n, dec_n, inb_t, neg_n, neg_n', ck_true, stp_eq, bnd_some, wp_some, wp_stp, Nat.add_zero, Nat.lt_irrefl, Nat.reduceEqDiff, Nat.reduceAdd, Nat.reduceSub, Nat.reduceMul, Nat.reduceLT, Nat.reduceLeDiff, up_o, up_ss, up_sn, zb_n1, true_and, and_true, ↓reduceIte, hC.z, hC.o, hl, c_firstWithText hW hC hl] | refine wp_if (fun _ => ?_) (fun _ => ?_))
    · rename_i q
      refine k _ hl ?_
      rw [cnt_y (fun v hv z => s2 v (by omega) z)]
    · rename_i q
      refine k _ hl ?_
      rw [cnt_n (fun z => ?_)]
      by_cases y : sch (fun v => R 2 v = R 2 i) (R 0 4) < i
      · exact z _ y (s3 (by omega))
      · exact s2 i (by omega) rfl
  · have e : i = R 0 4 := by omega
    simp (disch := omega) only [li, nI_add, pk_mul, ix_n, lt_n, le_n, eq_n, sub_n, dec_n, inb_t, neg_n, neg_n', ck_true, stp_eq, bnd_some, wp_some, wp_stp, Nat.add_zero, Nat.lt_irrefl, Nat.reduceEqDiff, Nat.reduceAdd, Nat.reduceSub, Nat.reduceMul, Nat.reduceLT, Nat.reduceLeDiff, up_o, up_ss, up_sn, zb_n1, true_and, and_true, ↓reduceIte, hC.z, hl, e]
theorem m_differentTexts (hW : WR R) (hG : GR g R) : Wp (f_X11_differentTexts g) (fun u => u.1 = nI (cnt (newT R) (R 0 4)) ∧ GW g u.2) := by
  have h40 := hW.w40
  unfold f_X11_differentTexts
  have w0 := GW.upF g (j := 0) (v := nI 0) (by decide)
  have hG1 := hG.fr w0
  simp (disch := omega) only [li, nI_add, pk_mul, ix_n, lt_n, le_n, eq_n, sub_n, dec_n, inb_t, neg_n, neg_n', ck_true, stp_eq, bnd_some, wp_some, wp_stp, Nat.add_zero, Nat.lt_irrefl, Nat.reduceEqDiff, Nat.reduceAdd, Nat.reduceSub, Nat.reduceMul, Nat.reduceLT, Nat.reduceLeDiff, up_o, up_ss, up_sn, zb_n1, true_and, and_true, ↓reduceIte]
  generalize up g 125 0 (nI 0) = g1 at *
  refine wp_for (i := 0) (R 0 4) (fun i x => x = (nI (cnt (newT R) i), nI i)) (by omega) (by omega) rfl ?_
  rintro i x r hi rfl k
  unfold F_X11_differentTexts_9
  by_cases hl : i < R 0 4
  · have hn := n27_lt (hW.tx i hl)
    simp (disch := omega) only [li, nI_add, pk_mul, ix_n, lt_n, le_n, eq_n, sub_n, dec_n, inb_t, neg_n, neg_n', ck_true, stp_eq, bnd_some, wp_some, wp_stp, Nat.add_zero, Nat.lt_irrefl, Nat.reduceEqDiff, Nat.reduceAdd, Nat.reduceSub, Nat.reduceMul, Nat.reduceLT, Nat.reduceLeDiff, up_o, up_ss, up_sn, zb_n1, true_and, and_true, ↓reduceIte, m_words hG1, hl]
    refine wp_for (i := 0) i (fun j x => (x = (nI 1, nI j) ∧ ∀ v, v < j → R 2 v ≠ R 2 i) ∨ (x = (nI 0, nI j) ∧ ¬ newT R i)) (by omega) (by omega) (Or.inl ⟨rfl, fun v hv => absurd hv (Nat.not_lt_zero _)⟩) ?_
    intro j x r2 hj hx k2
    unfold F_X11_differentTexts_22 J_X11_differentTexts_52 J_X11_differentTexts_53 J_X11_differentTexts_60 J_X11_differentTexts_70
    by_cases hjl : j < i
    · have hn2 := n27_lt (hW.tx j (by omega))
      rcases hx with ⟨rfl, hx⟩ | ⟨rfl, hx⟩
      · simp (disch := omega) only [li, nI_add, pk_mul, ix_n, lt_n, le_n, eq_n, sub_n, dec_n, inb_t, neg_n, neg_n', ck_true, stp_eq, bnd_some, wp_some, wp_stp, Nat.add_zero, Nat.lt_irrefl, Nat.reduceEqDiff, Nat.reduceAdd, Nat.reduceSub, Nat.reduceMul, Nat.reduceLT, Nat.reduceLeDiff, up_o, up_ss, up_sn, zb_n1, true_and, and_true, ↓reduceIte, hjl, m_of1 hW hG1 hl, m_of1 hW hG1 (w := j) (by omega), n27_inj (hW.tx j (by omega)) (hW.tx i hl)]
        refine wp_if (fun q => ?_) (fun q => ?_)
        · exact k2 _ hjl (Or.inr ⟨rfl, fun z => z j hjl q⟩)
        · refine k2 _ hjl (Or.inl ⟨rfl, fun v hv => ?_⟩)
          by_cases z : v = j
          · rw [z]; exact q
          · exact hx v (by omega)
      · simp (disch := omega) only [li, nI_add, pk_mul, ix_n, lt_n, le_n, eq_n, sub_n, dec_n, inb_t, neg_n, neg_n', ck_true, stp_eq, bnd_some, wp_some, wp_stp, Nat.add_zero, Nat.lt_irrefl, Nat.reduceEqDiff, Nat.reduceAdd, Nat.reduceSub, Nat.reduceMul, Nat.reduceLT, Nat.reduceLeDiff, up_o, up_ss, up_sn, zb_n1, true_and, and_true, ↓reduceIte, hjl]
        exact k2 _ hjl (Or.inr ⟨rfl, hx⟩)
    · rcases hx with ⟨rfl, hx⟩ | ⟨rfl, hx⟩
      · simp (disch := omega) only [li, nI_add, pk_mul, ix_n, lt_n, le_n, eq_n, sub_n, dec_n, inb_t, neg_n, neg_n', ck_true, stp_eq, bnd_some, wp_some, wp_stp, Nat.add_zero, Nat.lt_irrefl, Nat.reduceEqDiff, Nat.reduceAdd, Nat.reduceSub, Nat.reduceMul, Nat.reduceLT, Nat.reduceLeDiff, up_o, up_ss, up_sn, zb_n1, true_and, and_true, ↓reduceIte, hjl]
        refine k _ hl ?_
        rw [cnt_y (fun v hv => hx v (by omega))]
      · simp (disch := omega) only [li, nI_add, pk_mul, ix_n, lt_n, le_n, eq_n, sub_n, dec_n, inb_t, neg_n, neg_n', ck_true, stp_eq, bnd_some, wp_some, wp_stp, Nat.add_zero, Nat.lt_irrefl, Nat.reduceEqDiff, Nat.reduceAdd, Nat.reduceSub, Nat.reduceMul, Nat.reduceLT, Nat.reduceLeDiff, up_o, up_ss, up_sn, zb_n1, true_and, and_true, ↓reduceIte, hjl]
        refine k _ hl ?_
        rw [cnt_n hx]
  · have e : i = R 0 4 := by omega
    simp (disch := omega) only [li, nI_add, pk_mul, ix_n, lt_n, le_n, eq_n, sub_n, dec_n, inb_t, neg_n, neg_n', ck_true, stp_eq, bnd_some, wp_some, wp_stp, Nat.add_zero, Nat.lt_irrefl, Nat.reduceEqDiff, Nat.reduceAdd, Nat.reduceSub, Nat.reduceMul, Nat.reduceLT, Nat.reduceLeDiff, up_o, up_ss, up_sn, zb_n1, true_and, and_true, ↓reduceIte, m_words hG1, hl]
    exact ⟨by rw [e], w0⟩
theorem qa10 (q : QQ h g c R E) : QA (A_10 h g) h g := by
  refine QA.of ?_ (m_differentTexts q.W q.G)
  unfold f_X10_differentTexts
  rw [ckp_of q.p q.k.1 (by have := q.k.2; omega), c_countTexts q.W q.C, bnd_some]
theorem c_blockWithFrame (hW : WR R) (hC : CR h c R) (x : Int32) : f_X4_blockWithFrame h c x = some (oI (R 0 13) (sch (fun b => ¬ x < nI (rs R b) ∧ x < nI (R 12 b)) (R 0 13))) := by
  have h1 := hW.w40
  have h2 := hW.bw
  refine wp_eq.mp ?_
  unfold f_X4_blockWithFrame
  refine wp_for (i := 0) (R 0 13) (fun i y => y = nI i ∧ ∀ b, b < i → ¬ (¬ x < nI (rs R b) ∧ x < nI (R 12 b))) (by omega) (by omega) ⟨rfl, fun s hs => absurd hs (Nat.not_lt_zero _)⟩ ?_
  rintro i y r hi ⟨rfl, hp⟩ k
  unfold F_X4_blockWithFrame_2 J_X4_blockWithFrame_31
  by_cases hl : i < R 0 13
  · have key : ¬ (¬ x < nI (rs R i) ∧ x < nI (R 12 i)) → ∀ b, b < i + 1 → ¬ (¬ x < nI (rs R b) ∧ x < nI (R 12 b)) := by
      intro z b hb
      by_cases y : b = i
      · rw [y]; exact z
      · exact hp b (by omega)
    repeat' (first | simp (disch := omega) only [li, nI_add, pk_mul, ix_n, lt_n, le_n, eq_n, sub_n, dec_n, inb_t, neg_n, neg_n', ck_true, stp_eq, bnd_some, wp_some, wp_stp, Nat.add_zero, Nat.lt_irrefl, Nat.reduceEqDiff, Nat.reduceAdd, Nat.reduceSub, Nat.reduceMul, Nat.reduceLT, Nat.reduceLeDiff, up_o, up_ss, up_sn, zb_n1, true_and, and_true, ↓reduceIte, hC.z, hC.o, hl, c_rangeStart hW hC hl] | refine wp_if (fun _ => ?_) (fun _ => ?_))
    · rename_i q
      exact k _ hl ⟨rfl, key (fun z => z.1 q)⟩
    · rename_i q q2
      rw [sch_u (i := i) hi hp (fun _ => ⟨q, q2⟩), oI, if_pos hl]
    · rename_i q q2
      exact k _ hl ⟨rfl, key (fun z => q2 z.2)⟩
  · simp (disch := omega) only [li, nI_add, pk_mul, ix_n, lt_n, le_n, eq_n, sub_n, dec_n, inb_t, neg_n, neg_n', ck_true, stp_eq, bnd_some, wp_some, wp_stp, Nat.add_zero, Nat.lt_irrefl, Nat.reduceEqDiff, Nat.reduceAdd, Nat.reduceSub, Nat.reduceMul, Nat.reduceLT, Nat.reduceLeDiff, up_o, up_ss, up_sn, zb_n1, true_and, and_true, ↓reduceIte, hC.z, hl]
    rw [sch_u (i := i) hi hp (fun z => absurd z hl), oI, if_neg hl]
theorem m_blockAt (hW : WR R) (hG : GR g R) (x : Int32) : Wp (f_X11_blockAt g x) (fun u => u.1 = (oI (R 0 13) (sch (fun b => ¬ x < nI (rs R b) ∧ x < nI (R 12 b)) (R 0 13))) ∧ GW g u.2) := by
  have h1 := hW.w40
  have h2 := hW.bw
  have w0 := GW.upF g (j := 0) (v := nI 0) (by decide)
  have hG1 := hG.fr w0
  unfold f_X11_blockAt
  simp (disch := omega) only [li, nI_add, pk_mul, ix_n, lt_n, le_n, eq_n, sub_n, dec_n, inb_t, neg_n, neg_n', ck_true, stp_eq, bnd_some, wp_some, wp_stp, Nat.add_zero, Nat.lt_irrefl, Nat.reduceEqDiff, Nat.reduceAdd, Nat.reduceSub, Nat.reduceMul, Nat.reduceLT, Nat.reduceLeDiff, up_o, up_ss, up_sn, zb_n1, true_and, and_true, ↓reduceIte]
  generalize up g 125 0 (nI 0) = g1 at *
  refine wp_for (i := 0) (R 0 13) (fun i y => y = nI i ∧ ∀ b, b < i → ¬ (¬ x < nI (rs R b) ∧ x < nI (R 12 b))) (by omega) (by omega) ⟨rfl, fun s hs => absurd hs (Nat.not_lt_zero _)⟩ ?_
  rintro i y r hi ⟨rfl, hp⟩ k
  unfold F_X11_blockAt_7
  by_cases hl : i < R 0 13
  · have key : ¬ (¬ x < nI (rs R i) ∧ x < nI (R 12 i)) → ∀ b, b < i + 1 → ¬ (¬ x < nI (rs R b) ∧ x < nI (R 12 b)) := by
      intro z b hb
      by_cases y : b = i
      · rw [y]; exact z
      · exact hp b (by omega)
    have h3 := hW.bse i hl
    have h4 := hW.len
    simp (disch := omega) only [li, nI_add, pk_mul, ix_n, lt_n, le_n, eq_n, sub_n, dec_n, inb_t, neg_n, neg_n', ck_true, stp_eq, bnd_some, wp_some, wp_stp, Nat.add_zero, Nat.lt_irrefl, Nat.reduceEqDiff, Nat.reduceAdd, Nat.reduceSub, Nat.reduceMul, Nat.reduceLT, Nat.reduceLeDiff, up_o, up_ss, up_sn, zb_n1, true_and, and_true, ↓reduceIte, hG1.bc, hl, m_rangeStart hW hG1 hl, m_rangeEnd hW hG1 hl, m_in]
    by_cases q : x < nI (rs R i)
    · simp (disch := omega) only [li, nI_add, pk_mul, ix_n, lt_n, le_n, eq_n, sub_n, dec_n, inb_t, neg_n, neg_n', ck_true, stp_eq, bnd_some, wp_some, wp_stp, Nat.add_zero, Nat.lt_irrefl, Nat.reduceEqDiff, Nat.reduceAdd, Nat.reduceSub, Nat.reduceMul, Nat.reduceLT, Nat.reduceLeDiff, up_o, up_ss, up_sn, zb_n1, true_and, and_true, ↓reduceIte, q]
      exact k _ hl ⟨rfl, key (fun z => z.1 q)⟩
    · by_cases q2 : x < nI (R 12 i)
      · simp (disch := omega) only [li, nI_add, pk_mul, ix_n, lt_n, le_n, eq_n, sub_n, dec_n, inb_t, neg_n, neg_n', ck_true, stp_eq, bnd_some, wp_some, wp_stp, Nat.add_zero, Nat.lt_irrefl, Nat.reduceEqDiff, Nat.reduceAdd, Nat.reduceSub, Nat.reduceMul, Nat.reduceLT, Nat.reduceLeDiff, up_o, up_ss, up_sn, zb_n1, true_and, and_true, ↓reduceIte, q, q2]
        refine ⟨?_, w0⟩
        rw [sch_u (i := i) hi hp (fun _ => ⟨q, q2⟩), oI, if_pos hl]
      · simp (disch := omega) only [li, nI_add, pk_mul, ix_n, lt_n, le_n, eq_n, sub_n, dec_n, inb_t, neg_n, neg_n', ck_true, stp_eq, bnd_some, wp_some, wp_stp, Nat.add_zero, Nat.lt_irrefl, Nat.reduceEqDiff, Nat.reduceAdd, Nat.reduceSub, Nat.reduceMul, Nat.reduceLT, Nat.reduceLeDiff, up_o, up_ss, up_sn, zb_n1, true_and, and_true, ↓reduceIte, q, q2]
        exact k _ hl ⟨rfl, key (fun z => q2 z.2)⟩
  · simp (disch := omega) only [li, nI_add, pk_mul, ix_n, lt_n, le_n, eq_n, sub_n, dec_n, inb_t, neg_n, neg_n', ck_true, stp_eq, bnd_some, wp_some, wp_stp, Nat.add_zero, Nat.lt_irrefl, Nat.reduceEqDiff, Nat.reduceAdd, Nat.reduceSub, Nat.reduceMul, Nat.reduceLT, Nat.reduceLeDiff, up_o, up_ss, up_sn, zb_n1, true_and, and_true, ↓reduceIte, hG1.bc, hl]
    refine ⟨?_, w0⟩
    rw [sch_u (i := i) hi hp (fun z => absurd z hl), oI, if_neg hl]
theorem qa12 (q : QQ h g c R E) (x : Int32) : QA (A_12 h g x) h g := by
  refine QA.of ?_ (m_blockAt q.W q.G x)
  unfold f_X10_blockAt
  rw [ckp_of q.p q.k.1 (by have := q.k.2; omega), c_blockWithFrame q.W q.C, bnd_some]
/-- the speakers at a frame, as bits -/
noncomputable def spk (R : Nat → Nat → Nat) (x : Int32) (n : Nat) : Int32 := Nat.rec (motive := fun _ => Int32) (nI 0) (fun w r => @ite _ (¬ x < nI (R 4 w) ∧ x < nI (R 5 w)) (Classical.propDecidable _) (r ||| (nI 1 <<< (nI (R 3 w) &&& nI 31))) r) n
theorem spk_y {x : Int32} {w : Nat} (q : ¬ x < nI (R 4 w) ∧ x < nI (R 5 w)) : spk R x (w + 1) = (spk R x w ||| (nI 1 <<< (nI (R 3 w) &&& nI 31))) := if_pos q
theorem spk_n {x : Int32} {w : Nat} (q : ¬ (¬ x < nI (R 4 w) ∧ x < nI (R 5 w))) : spk R x (w + 1) = spk R x w := if_neg q
theorem c_speakerSet (hW : WR R) (hC : CR h c R) (x : Int32) : f_X4_speakerSet h c x = some (spk R x (R 0 4)) := by
  have h1 := hW.w40
  refine wp_eq.mp ?_
  unfold f_X4_speakerSet
  refine wp_for (i := 0) (R 0 4) (fun i y => y = (spk R x i, nI i)) (by omega) (by omega) rfl ?_
  rintro i y r hi rfl k
  unfold F_X4_speakerSet_4 J_X4_speakerSet_32
  by_cases hl : i < R 0 4
  · simp (disch := omega) only [li, nI_add, pk_mul, ix_n, lt_n, le_n, eq_n, sub_n, dec_n, inb_t, neg_n, neg_n', ck_true, stp_eq, bnd_some, wp_some, wp_stp, Nat.add_zero, Nat.lt_irrefl, Nat.reduceEqDiff, Nat.reduceAdd, Nat.reduceSub, Nat.reduceMul, Nat.reduceLT, Nat.reduceLeDiff, up_o, up_ss, up_sn, zb_n1, true_and, and_true, ↓reduceIte, hC.z, hC.o, hl, c_isSpoken hW hC hl]
    by_cases q : x < nI (R 4 i)
    · simp (disch := omega) only [li, nI_add, pk_mul, ix_n, lt_n, le_n, eq_n, sub_n, dec_n, inb_t, neg_n, neg_n', ck_true, stp_eq, bnd_some, wp_some, wp_stp, Nat.add_zero, Nat.lt_irrefl, Nat.reduceEqDiff, Nat.reduceAdd, Nat.reduceSub, Nat.reduceMul, Nat.reduceLT, Nat.reduceLeDiff, up_o, up_ss, up_sn, zb_n1, true_and, and_true, ↓reduceIte, q]
      exact k _ hl (by rw [spk_n (fun z => z.1 q)])
    · by_cases q2 : x < nI (R 5 i)
      · simp (disch := omega) only [li, nI_add, pk_mul, ix_n, lt_n, le_n, eq_n, sub_n, dec_n, inb_t, neg_n, neg_n', ck_true, stp_eq, bnd_some, wp_some, wp_stp, Nat.add_zero, Nat.lt_irrefl, Nat.reduceEqDiff, Nat.reduceAdd, Nat.reduceSub, Nat.reduceMul, Nat.reduceLT, Nat.reduceLeDiff, up_o, up_ss, up_sn, zb_n1, true_and, and_true, ↓reduceIte, q, q2]
        exact k _ hl (by rw [spk_y ⟨q, q2⟩])
      · simp (disch := omega) only [li, nI_add, pk_mul, ix_n, lt_n, le_n, eq_n, sub_n, dec_n, inb_t, neg_n, neg_n', ck_true, stp_eq, bnd_some, wp_some, wp_stp, Nat.add_zero, Nat.lt_irrefl, Nat.reduceEqDiff, Nat.reduceAdd, Nat.reduceSub, Nat.reduceMul, Nat.reduceLT, Nat.reduceLeDiff, up_o, up_ss, up_sn, zb_n1, true_and, and_true, ↓reduceIte, q, q2]
        exact k _ hl (by rw [spk_n (fun z => q2 z.2)])
  · have e : i = R 0 4 := by omega
    simp (disch := omega) only [li, nI_add, pk_mul, ix_n, lt_n, le_n, eq_n, sub_n, dec_n, inb_t, neg_n, neg_n', ck_true, stp_eq, bnd_some, wp_some, wp_stp, Nat.add_zero, Nat.lt_irrefl, Nat.reduceEqDiff, Nat.reduceAdd, Nat.reduceSub, Nat.reduceMul, Nat.reduceLT, Nat.reduceLeDiff, up_o, up_ss, up_sn, zb_n1, true_and, and_true, ↓reduceIte, hC.z, hl]
    rw [e]
theorem or_0 (x : Int32) : (x ||| nI 0) = x := by
  show (x ||| (0 : Int32)) = x
  simp
theorem m_speakersAt (hW : WR R) (hG : GR g R) (x : Int32) : Wp (f_X11_speakersAt g x) (fun u => u.1 = spk R x (R 0 4) ∧ GW g u.2) := by
  have h1 := hW.w40
  have w0 := GW.upF g (j := 0) (v := nI 0) (by decide)
  have hG1 := hG.fr w0
  unfold f_X11_speakersAt
  simp (disch := omega) only [li, nI_add, pk_mul, ix_n, lt_n, le_n, eq_n, sub_n, dec_n, inb_t, neg_n, neg_n', ck_true, stp_eq, bnd_some, wp_some, wp_stp, Nat.add_zero, Nat.lt_irrefl, Nat.reduceEqDiff, Nat.reduceAdd, Nat.reduceSub, Nat.reduceMul, Nat.reduceLT, Nat.reduceLeDiff, up_o, up_ss, up_sn, zb_n1, true_and, and_true, ↓reduceIte]
  generalize up g 125 0 (nI 0) = g1 at *
  refine wp_for (i := 0) (R 0 4) (fun i y => y = (spk R x i, nI i)) (by omega) (by omega) rfl ?_
  rintro i y r hi rfl k
  unfold F_X11_speakersAt_9 J_X11_speakersAt_51
  by_cases hl : i < R 0 4
  · obtain ⟨f1, f2, f3, f4, f5, f6⟩ := w_facts hW hl
    simp (disch := omega) only [li, nI_add, pk_mul, ix_n, lt_n, le_n, eq_n, sub_n, dec_n, inb_t, neg_n, neg_n', ck_true, stp_eq, bnd_some, wp_some, wp_stp, Nat.add_zero, Nat.lt_irrefl, Nat.reduceEqDiff, Nat.reduceAdd, Nat.reduceSub, Nat.reduceMul, Nat.reduceLT, Nat.reduceLeDiff, up_o, up_ss, up_sn, zb_n1, true_and, and_true, ↓reduceIte, m_words hG1, hl, m_of2 hW hG1 hl, m_of3 hW hG1 hl, m_of0 hW hG1 hl, m_in, m_in']
    by_cases q : x < nI (R 4 i)
    · simp (disch := omega) only [li, nI_add, pk_mul, ix_n, lt_n, le_n, eq_n, sub_n, dec_n, inb_t, neg_n, neg_n', ck_true, stp_eq, bnd_some, wp_some, wp_stp, Nat.add_zero, Nat.lt_irrefl, Nat.reduceEqDiff, Nat.reduceAdd, Nat.reduceSub, Nat.reduceMul, Nat.reduceLT, Nat.reduceLeDiff, up_o, up_ss, up_sn, zb_n1, true_and, and_true, ↓reduceIte, q, or_0]
      exact k _ hl (by rw [spk_n (fun z => z.1 q)])
    · by_cases q2 : x < nI (R 5 i)
      · simp (disch := omega) only [li, nI_add, pk_mul, ix_n, lt_n, le_n, eq_n, sub_n, dec_n, inb_t, neg_n, neg_n', ck_true, stp_eq, bnd_some, wp_some, wp_stp, Nat.add_zero, Nat.lt_irrefl, Nat.reduceEqDiff, Nat.reduceAdd, Nat.reduceSub, Nat.reduceMul, Nat.reduceLT, Nat.reduceLeDiff, up_o, up_ss, up_sn, zb_n1, true_and, and_true, ↓reduceIte, q, q2]
        exact k _ hl (by rw [spk_y ⟨q, q2⟩])
      · simp (disch := omega) only [li, nI_add, pk_mul, ix_n, lt_n, le_n, eq_n, sub_n, dec_n, inb_t, neg_n, neg_n', ck_true, stp_eq, bnd_some, wp_some, wp_stp, Nat.add_zero, Nat.lt_irrefl, Nat.reduceEqDiff, Nat.reduceAdd, Nat.reduceSub, Nat.reduceMul, Nat.reduceLT, Nat.reduceLeDiff, up_o, up_ss, up_sn, zb_n1, true_and, and_true, ↓reduceIte, q, q2, or_0]
        exact k _ hl (by rw [spk_n (fun z => q2 z.2)])
  · have e : i = R 0 4 := by omega
    simp (disch := omega) only [li, nI_add, pk_mul, ix_n, lt_n, le_n, eq_n, sub_n, dec_n, inb_t, neg_n, neg_n', ck_true, stp_eq, bnd_some, wp_some, wp_stp, Nat.add_zero, Nat.lt_irrefl, Nat.reduceEqDiff, Nat.reduceAdd, Nat.reduceSub, Nat.reduceMul, Nat.reduceLT, Nat.reduceLeDiff, up_o, up_ss, up_sn, zb_n1, true_and, and_true, ↓reduceIte, m_words hG1, hl]
    exact ⟨by rw [e], w0⟩
theorem qa14 (q : QQ h g c R E) (x : Int32) : QA (A_14 h g x) h g := by
  refine QA.of ?_ (m_speakersAt q.W q.G x)
  unfold f_X10_speakersAt
  rw [ckp_of q.p q.k.1 (by have := q.k.2; omega), c_speakerSet q.W q.C, bnd_some]
end
