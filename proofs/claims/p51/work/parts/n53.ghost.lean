/-! the class asked: its answers by number; a model beside it, made up -/
def ghG (R E : Nat → Nat → Nat) : Hp := fun k j => if k = 126 then (if j = 0 then nI (R 0 0) else if j = 1 then nI (R 0 1) else if j = 2 then nI (R 0 2) else if j = 3 then nI (R 0 4) else if j = 4 then nI (R 0 10) else if j < 9 then nI (n27 (R 1 (j - 5))) else if (j - 9) % 4 = 0 then nI (R 3 ((j - 9) / 4)) else if (j - 9) % 4 = 1 then nI (n27 (R 2 ((j - 9) / 4))) else if (j - 9) % 4 = 2 then nI (R 4 ((j - 9) / 4)) else nI (R 5 ((j - 9) / 4))) else if k = 125 then nI (R 0 13) else if k = 128 then nI (R 6 j) else if k = 129 then nI (R 10 j) else if k = 130 then nI (R 11 j) else if k = 131 then nI (R 9 j) else if k = 132 then nI (R 12 j) else if k = 133 then nI (R 13 j) else if j < 40 then nI (1 - E 1 j) else if j = 40 then nI (E 0 1) else if j < 81 then nI (E 2 (j - 41)) else if j < 121 then nI (E 3 (j - 81)) else nI (E 4 (j - 121))
theorem gh_R {R E : Nat → Nat → Nat} (hW : WR R) : GR (ghG R E) R := by
  have h4 := hW.s4
  refine ⟨rfl, rfl, rfl, rfl, rfl, fun w hw => ?_, fun w hw => ?_, fun w hw => ?_, fun w hw => ?_, fun s hs => ?_, rfl, fun w hw => rfl, fun b hb => rfl, fun b hb => rfl, fun b hb => rfl, fun b hb => rfl, fun b hb => rfl⟩
  · unfold ghG
    rw [if_pos rfl, if_neg (by omega), if_neg (by omega), if_neg (by omega), if_neg (by omega), if_neg (by omega), if_neg (by omega), if_pos (by omega), show (9 + 4 * w - 9) / 4 = w by omega]
  · unfold ghG
    rw [if_pos rfl, if_neg (by omega), if_neg (by omega), if_neg (by omega), if_neg (by omega), if_neg (by omega), if_neg (by omega), if_neg (by omega), if_pos (by omega), show (9 + 4 * w + 1 - 9) / 4 = w by omega]
  · unfold ghG
    rw [if_pos rfl, if_neg (by omega), if_neg (by omega), if_neg (by omega), if_neg (by omega), if_neg (by omega), if_neg (by omega), if_neg (by omega), if_neg (by omega), if_pos (by omega), show (9 + 4 * w + 2 - 9) / 4 = w by omega]
  · unfold ghG
    rw [if_pos rfl, if_neg (by omega), if_neg (by omega), if_neg (by omega), if_neg (by omega), if_neg (by omega), if_neg (by omega), if_neg (by omega), if_neg (by omega), if_neg (by omega), show (9 + 4 * w + 3 - 9) / 4 = w by omega]
  · unfold ghG
    rw [if_pos rfl, if_neg (by omega), if_neg (by omega), if_neg (by omega), if_neg (by omega), if_neg (by omega), if_pos (by omega), show 5 + s - 5 = s by omega]
theorem gh_E {R E : Nat → Nat → Nat} (hW : WR R) (hE : WE R E) : GE (ghG R E) E := by
  have h1 := hE.n
  have h2 := hW.bw
  have h3 := hW.w40
  have z : ∀ j, ghG R E 134 j = if j < 40 then nI (1 - E 1 j) else if j = 40 then nI (E 0 1) else if j < 81 then nI (E 2 (j - 41)) else if j < 121 then nI (E 3 (j - 81)) else nI (E 4 (j - 121)) := fun j => rfl
  refine ⟨fun w hw _ => ?_, ?_, fun s hs => ?_, fun b hb => ?_, fun b hb => ?_⟩
  · rw [z, if_pos hw]
  · rw [z, if_neg (by decide), if_pos rfl]
  · rw [z, if_neg (by omega), if_neg (by omega), if_pos (by omega), show 41 + s - 41 = s by omega]
  · rw [z, if_neg (by omega), if_neg (by omega), if_neg (by omega), if_pos (by omega), show 81 + b - 81 = b by omega]
  · rw [z, if_neg (by omega), if_neg (by omega), if_neg (by omega), if_neg (by omega), show 121 + b - 121 = b by omega]
/-- the class's side of a recording and its film -/
def PQ (h : Hp) (c : Nat) (R : Nat → Nat → Nat) (E : Nat → Nat → Nat) : Prop :=
  (WR R) ∧
  (WE R E) ∧
  (WX R E) ∧
  (CR h c R) ∧
  (CE h E) ∧
  (CF h R E) ∧
  (h 3 0 = nI c) ∧
  (knd c = 4 ∧ (c = 83 ∨ c = 97))
theorem PQ.W {h : Hp} {c : Nat} {R : Nat → Nat → Nat} {E : Nat → Nat → Nat} (q : PQ h c R E) : WR R := q.1
theorem PQ.E {h : Hp} {c : Nat} {R : Nat → Nat → Nat} {E : Nat → Nat → Nat} (q : PQ h c R E) : WE R E := q.2.1
theorem PQ.X {h : Hp} {c : Nat} {R : Nat → Nat → Nat} {E : Nat → Nat → Nat} (q : PQ h c R E) : WX R E := q.2.2.1
theorem PQ.C {h : Hp} {c : Nat} {R : Nat → Nat → Nat} {E : Nat → Nat → Nat} (q : PQ h c R E) : CR h c R := q.2.2.2.1
theorem PQ.D {h : Hp} {c : Nat} {R : Nat → Nat → Nat} {E : Nat → Nat → Nat} (q : PQ h c R E) : CE h E := q.2.2.2.2.1
theorem PQ.F {h : Hp} {c : Nat} {R : Nat → Nat → Nat} {E : Nat → Nat → Nat} (q : PQ h c R E) : CF h R E := q.2.2.2.2.2.1
theorem PQ.p {h : Hp} {c : Nat} {R : Nat → Nat → Nat} {E : Nat → Nat → Nat} (q : PQ h c R E) : h 3 0 = nI c := q.2.2.2.2.2.2.1
theorem PQ.k {h : Hp} {c : Nat} {R : Nat → Nat → Nat} {E : Nat → Nat → Nat} (q : PQ h c R E) : knd c = 4 ∧ (c = 83 ∨ c = 97) := q.2.2.2.2.2.2.2
theorem PQ.q {h : Hp} {c : Nat} {R E : Nat → Nat → Nat} (q : PQ h c R E) : QQ h (ghG R E) c R E := ⟨q.W, q.E, q.X, gh_R q.W, gh_E q.W q.E, q.C, q.D, q.F, q.p, q.k⟩
section
variable {h : Hp} {c : Nat} {R E : Nat → Nat → Nat}
theorem PQ.n (q : PQ h c R E) : E 0 1 ≤ R 0 13 ∧ R 0 13 ≤ R 0 4 ∧ R 0 4 ≤ 40 := ⟨q.E.n, q.W.bw, q.W.w40⟩
theorem k_shots (q : PQ h c R E) : f_X10_shots h = some (nI (E 0 1)) := by
  unfold f_X10_shots
  rw [q.D.z]
theorem k_flen (q : PQ h c R E) : f_X10_filmLength h = some (nI (fs R E (E 0 1))) := by
  unfold f_X10_filmLength
  rw [q.F.fr]
theorem k_cnt (q : PQ h c R E) : f_X10_count h (3 : Int32) = some (nI (R 0 13)) := by
  unfold f_X10_count
  simp (disch := omega) only [li, nI_add, pk_mul, ix_n, lt_n, le_n, eq_n, sub_n, dec_n, inb_t, neg_n, neg_n', ck_true, stp_eq, bnd_some, wp_some, wp_stp, Nat.add_zero, Nat.lt_irrefl, Nat.reduceEqDiff, Nat.reduceAdd, Nat.reduceSub, Nat.reduceMul, Nat.reduceLT, Nat.reduceLeDiff, up_o, up_ss, up_sn, zb_n1, true_and, and_true, ↓reduceIte, q.q.ck, q.C.z]
theorem k_blk (q : PQ h c R E) {s : Nat} (hs : s < E 0 1) : ask3 h (nI s) 0 0 = some (0, (nI (E 2 s), h)) := by
  have h1 := q.n
  have e : f_X10_blockOf h (nI s) = some (0, nI (E 2 s)) := by
    unfold f_X10_blockOf
    simp (disch := omega) only [li, nI_add, pk_mul, ix_n, lt_n, le_n, eq_n, sub_n, dec_n, inb_t, neg_n, neg_n', ck_true, stp_eq, bnd_some, wp_some, wp_stp, Nat.add_zero, Nat.lt_irrefl, Nat.reduceEqDiff, Nat.reduceAdd, Nat.reduceSub, Nat.reduceMul, Nat.reduceLT, Nat.reduceLeDiff, up_o, up_ss, up_sn, zb_n1, true_and, and_true, ↓reduceIte, c_rS q.q hs, q.D.o]
  unfold ask3
  rw [e]
  rfl
theorem k_blkX (q : PQ h c R E) : ask3 h (nI (E 0 1)) 0 0 = some (1, ((-2000000050), h)) := by
  have h1 := q.n
  have e : f_X10_blockOf h (nI (E 0 1)) = some (1, nI 0) := by
    unfold f_X10_blockOf
    simp (disch := omega) only [li, nI_add, pk_mul, ix_n, lt_n, le_n, eq_n, sub_n, dec_n, inb_t, neg_n, neg_n', ck_true, stp_eq, bnd_some, wp_some, wp_stp, Nat.add_zero, Nat.lt_irrefl, Nat.reduceEqDiff, Nat.reduceAdd, Nat.reduceSub, Nat.reduceMul, Nat.reduceLT, Nat.reduceLeDiff, up_o, up_ss, up_sn, zb_n1, true_and, and_true, ↓reduceIte, c_rS' q.q (x := nI (E 0 1)) (Or.inr ⟨nI_pos (by omega), ltn (Nat.le_refl _) (by omega)⟩)]
  unfold ask3
  rw [e]
  rfl
theorem k_shot (q : PQ h c R E) {s : Nat} (hs : s < E 0 1) : ask4 h (nI s) 0 0 = some (0, (nI (pf R E (E 2 s)), h)) ∧ ask4 h (nI s) 1 0 = some (0, (nI (pt R E (E 2 s)), h)) ∧ ask4 h (nI s) 2 0 = some (0, (nI (fs R E s), h)) := by
  have h1 := q.n
  have e0 : f_X10_shotField h (nI s) 0 = some (0, nI (pf R E (E 2 s))) := by
    unfold f_X10_shotField
    simp (disch := omega) only [li, nI_add, pk_mul, ix_n, lt_n, le_n, eq_n, sub_n, dec_n, inb_t, neg_n, neg_n', ck_true, stp_eq, bnd_some, wp_some, wp_stp, Nat.add_zero, Nat.lt_irrefl, Nat.reduceEqDiff, Nat.reduceAdd, Nat.reduceSub, Nat.reduceMul, Nat.reduceLT, Nat.reduceLeDiff, up_o, up_ss, up_sn, zb_n1, true_and, and_true, ↓reduceIte, c_rS q.q hs, q.F.first]
  have e1 : f_X10_shotField h (nI s) 1 = some (0, nI (pt R E (E 2 s))) := by
    unfold f_X10_shotField
    simp (disch := omega) only [li, nI_add, pk_mul, ix_n, lt_n, le_n, eq_n, sub_n, dec_n, inb_t, neg_n, neg_n', ck_true, stp_eq, bnd_some, wp_some, wp_stp, Nat.add_zero, Nat.lt_irrefl, Nat.reduceEqDiff, Nat.reduceAdd, Nat.reduceSub, Nat.reduceMul, Nat.reduceLT, Nat.reduceLeDiff, up_o, up_ss, up_sn, zb_n1, true_and, and_true, ↓reduceIte, c_rS q.q hs, q.F.behind]
  have e2 : f_X10_shotField h (nI s) 2 = some (0, nI (fs R E s)) := by
    unfold f_X10_shotField
    simp (disch := omega) only [li, nI_add, pk_mul, ix_n, lt_n, le_n, eq_n, sub_n, dec_n, inb_t, neg_n, neg_n', ck_true, stp_eq, bnd_some, wp_some, wp_stp, Nat.add_zero, Nat.lt_irrefl, Nat.reduceEqDiff, Nat.reduceAdd, Nat.reduceSub, Nat.reduceMul, Nat.reduceLT, Nat.reduceLeDiff, up_o, up_ss, up_sn, zb_n1, true_and, and_true, ↓reduceIte, c_rS q.q hs, q.F.start]
  unfold ask4
  rw [e0, e1, e2]
  exact ⟨rfl, rfl, rfl⟩
theorem k_block (q : PQ h c R E) {b : Nat} (hb : b < R 0 13) : ask2 h (nI b) 0 0 = some (0, (nI (R 10 b), h)) ∧ ask2 h (nI b) 1 0 = some (0, (nI (R 11 b), h)) ∧ ask2 h (nI b) 5 0 = some (0, (nI (R 12 b), h)) ∧ ask2 h (nI b) 6 0 = some (0, (nI (E 3 b), h)) ∧ ask2 h (nI b) 7 0 = some (0, (nI (E 4 b), h)) ∧ ask2 h (nI b) 8 0 = some (0, (oI (E 0 1) (sch (fun s => E 2 s = b) (E 0 1)), h)) := by
  have h1 := q.n
  have e0 : f_X10_blockField h (nI b) 0 = some (0, nI (R 10 b)) := by
    unfold f_X10_blockField
    simp (disch := omega) only [li, nI_add, pk_mul, ix_n, lt_n, le_n, eq_n, sub_n, dec_n, inb_t, neg_n, neg_n', ck_true, stp_eq, bnd_some, wp_some, wp_stp, Nat.add_zero, Nat.lt_irrefl, Nat.reduceEqDiff, Nat.reduceAdd, Nat.reduceSub, Nat.reduceMul, Nat.reduceLT, Nat.reduceLeDiff, up_o, up_ss, up_sn, zb_n1, true_and, and_true, ↓reduceIte, c_rB q.q hb, q.q.ck, q.C.o]
  have e1 : f_X10_blockField h (nI b) 1 = some (0, nI (R 11 b)) := by
    unfold f_X10_blockField
    simp (disch := omega) only [li, nI_add, pk_mul, ix_n, lt_n, le_n, eq_n, sub_n, dec_n, inb_t, neg_n, neg_n', ck_true, stp_eq, bnd_some, wp_some, wp_stp, Nat.add_zero, Nat.lt_irrefl, Nat.reduceEqDiff, Nat.reduceAdd, Nat.reduceSub, Nat.reduceMul, Nat.reduceLT, Nat.reduceLeDiff, up_o, up_ss, up_sn, zb_n1, true_and, and_true, ↓reduceIte, c_rB q.q hb, q.q.ck, q.C.o]
  have e5 : f_X10_blockField h (nI b) 5 = some (0, nI (R 12 b)) := by
    unfold f_X10_blockField
    simp (disch := omega) only [li, nI_add, pk_mul, ix_n, lt_n, le_n, eq_n, sub_n, dec_n, inb_t, neg_n, neg_n', ck_true, stp_eq, bnd_some, wp_some, wp_stp, Nat.add_zero, Nat.lt_irrefl, Nat.reduceEqDiff, Nat.reduceAdd, Nat.reduceSub, Nat.reduceMul, Nat.reduceLT, Nat.reduceLeDiff, up_o, up_ss, up_sn, zb_n1, true_and, and_true, ↓reduceIte, c_rB q.q hb, q.q.ck, q.C.o]
  have e6 : f_X10_blockField h (nI b) 6 = some (0, nI (E 3 b)) := by
    unfold f_X10_blockField
    simp (disch := omega) only [li, nI_add, pk_mul, ix_n, lt_n, le_n, eq_n, sub_n, dec_n, inb_t, neg_n, neg_n', ck_true, stp_eq, bnd_some, wp_some, wp_stp, Nat.add_zero, Nat.lt_irrefl, Nat.reduceEqDiff, Nat.reduceAdd, Nat.reduceSub, Nat.reduceMul, Nat.reduceLT, Nat.reduceLeDiff, up_o, up_ss, up_sn, zb_n1, true_and, and_true, ↓reduceIte, c_rB q.q hb, q.q.ck, q.D.hd]
  have e7 : f_X10_blockField h (nI b) 7 = some (0, nI (E 4 b)) := by
    unfold f_X10_blockField
    simp (disch := omega) only [li, nI_add, pk_mul, ix_n, lt_n, le_n, eq_n, sub_n, dec_n, inb_t, neg_n, neg_n', ck_true, stp_eq, bnd_some, wp_some, wp_stp, Nat.add_zero, Nat.lt_irrefl, Nat.reduceEqDiff, Nat.reduceAdd, Nat.reduceSub, Nat.reduceMul, Nat.reduceLT, Nat.reduceLeDiff, up_o, up_ss, up_sn, zb_n1, true_and, and_true, ↓reduceIte, c_rB q.q hb, q.q.ck, q.D.tl]
  have e8 : f_X10_blockField h (nI b) 8 = some (0, oI (E 0 1) (sch (fun s => E 2 s = b) (E 0 1))) := by
    unfold f_X10_blockField
    simp (disch := omega) only [li, nI_add, pk_mul, ix_n, lt_n, le_n, eq_n, sub_n, dec_n, inb_t, neg_n, neg_n', ck_true, stp_eq, bnd_some, wp_some, wp_stp, Nat.add_zero, Nat.lt_irrefl, Nat.reduceEqDiff, Nat.reduceAdd, Nat.reduceSub, Nat.reduceMul, Nat.reduceLT, Nat.reduceLeDiff, up_o, up_ss, up_sn, zb_n1, true_and, and_true, ↓reduceIte, c_rB q.q hb, q.q.ck, q.F.bs]
  unfold ask2
  rw [e0, e1, e5, e6, e7, e8]
  exact ⟨rfl, rfl, rfl, rfl, rfl, rfl⟩
theorem k_word (q : PQ h c R E) {w : Nat} (hw : w < R 0 4) : ask1 h (nI w) 0 0 = some (0, (nI (R 3 w), h)) ∧ ask1 h (nI w) 1 0 = some (0, (nI (R 4 w), h)) ∧ ask1 h (nI w) 2 0 = some (0, (nI (R 5 w), h)) ∧ ask1 h (nI w) 3 0 = some (0, (nI (R 6 w), h)) ∧ ask1 h (nI w) 4 0 = some (0, (stO R E w, h)) := by
  have h1 := q.n
  have e0 : f_X10_wordField h (nI w) 0 = some (0, nI (R 3 w)) := by
    unfold f_X10_wordField
    simp (disch := omega) only [li, nI_add, pk_mul, ix_n, lt_n, le_n, eq_n, sub_n, dec_n, inb_t, neg_n, neg_n', ck_true, stp_eq, bnd_some, wp_some, wp_stp, Nat.add_zero, Nat.lt_irrefl, Nat.reduceEqDiff, Nat.reduceAdd, Nat.reduceSub, Nat.reduceMul, Nat.reduceLT, Nat.reduceLeDiff, up_o, up_ss, up_sn, zb_n1, true_and, and_true, ↓reduceIte, c_rW q.q hw, q.q.ck, q.C.o]
  have e1 : f_X10_wordField h (nI w) 1 = some (0, nI (R 4 w)) := by
    unfold f_X10_wordField
    simp (disch := omega) only [li, nI_add, pk_mul, ix_n, lt_n, le_n, eq_n, sub_n, dec_n, inb_t, neg_n, neg_n', ck_true, stp_eq, bnd_some, wp_some, wp_stp, Nat.add_zero, Nat.lt_irrefl, Nat.reduceEqDiff, Nat.reduceAdd, Nat.reduceSub, Nat.reduceMul, Nat.reduceLT, Nat.reduceLeDiff, up_o, up_ss, up_sn, zb_n1, true_and, and_true, ↓reduceIte, c_rW q.q hw, q.q.ck, q.C.o]
  have e2 : f_X10_wordField h (nI w) 2 = some (0, nI (R 5 w)) := by
    unfold f_X10_wordField
    simp (disch := omega) only [li, nI_add, pk_mul, ix_n, lt_n, le_n, eq_n, sub_n, dec_n, inb_t, neg_n, neg_n', ck_true, stp_eq, bnd_some, wp_some, wp_stp, Nat.add_zero, Nat.lt_irrefl, Nat.reduceEqDiff, Nat.reduceAdd, Nat.reduceSub, Nat.reduceMul, Nat.reduceLT, Nat.reduceLeDiff, up_o, up_ss, up_sn, zb_n1, true_and, and_true, ↓reduceIte, c_rW q.q hw, q.q.ck, q.C.o]
  have e3 : f_X10_wordField h (nI w) 3 = some (0, nI (R 6 w)) := by
    unfold f_X10_wordField
    simp (disch := omega) only [li, nI_add, pk_mul, ix_n, lt_n, le_n, eq_n, sub_n, dec_n, inb_t, neg_n, neg_n', ck_true, stp_eq, bnd_some, wp_some, wp_stp, Nat.add_zero, Nat.lt_irrefl, Nat.reduceEqDiff, Nat.reduceAdd, Nat.reduceSub, Nat.reduceMul, Nat.reduceLT, Nat.reduceLeDiff, up_o, up_ss, up_sn, zb_n1, true_and, and_true, ↓reduceIte, c_rW q.q hw, q.q.ck, q.C.o]
  have e4 : f_X10_wordField h (nI w) 4 = some (0, stO R E w) := by
    unfold f_X10_wordField
    simp (disch := omega) only [li, nI_add, pk_mul, ix_n, lt_n, le_n, eq_n, sub_n, dec_n, inb_t, neg_n, neg_n', ck_true, stp_eq, bnd_some, wp_some, wp_stp, Nat.add_zero, Nat.lt_irrefl, Nat.reduceEqDiff, Nat.reduceAdd, Nat.reduceSub, Nat.reduceMul, Nat.reduceLT, Nat.reduceLeDiff, up_o, up_ss, up_sn, zb_n1, true_and, and_true, ↓reduceIte, c_rW q.q hw, q.q.ck, c_stateOf q.W q.E q.C q.D q.F q.p q.k hw]
  unfold ask1
  rw [e0, e1, e2, e3, e4]
  exact ⟨rfl, rfl, rfl, rfl, rfl⟩
theorem k_wordX (q : PQ h c R E) : ask1 h (nI (R 0 4)) 0 0 = some (1, ((-2000000050), h)) := by
  have h1 := q.n
  have e : f_X10_wordField h (nI (R 0 4)) 0 = some (1, nI 0) := by
    unfold f_X10_wordField
    simp (disch := omega) only [li, nI_add, pk_mul, ix_n, lt_n, le_n, eq_n, sub_n, dec_n, inb_t, neg_n, neg_n', ck_true, stp_eq, bnd_some, wp_some, wp_stp, Nat.add_zero, Nat.lt_irrefl, Nat.reduceEqDiff, Nat.reduceAdd, Nat.reduceSub, Nat.reduceMul, Nat.reduceLT, Nat.reduceLeDiff, up_o, up_ss, up_sn, zb_n1, true_and, and_true, ↓reduceIte, c_rW' q.q (x := nI (R 0 4)) (Or.inr ⟨nI_pos (by omega), ltn (Nat.le_refl _) (by omega)⟩)]
  unfold ask1
  rw [e]
  rfl
theorem k_size (q : PQ h c R E) : f_X10_transcriptSize h = some (nI (trA R E).length) := by
  unfold f_X10_transcriptSize
  rw [q.F.pls]
theorem k_tw (q : PQ h c R E) {p w : Nat} (hp : (trA R E)[p]? = some w) : f_X10_transcriptWord h (nI p) = some (nI w) := by
  have h1 := q.n
  have hl := (List.getElem?_eq_some_iff.mp hp).1
  have h2 := trA_le q.W q.E
  have e := q.F.tr p w hp
  unfold f_X10_transcriptWord
  rw [if_neg (nI_pos (show p < 2147483648 by omega)), q.F.pls, if_pos (lty hl (by omega)), inb_t (by omega) (by omega), ck_true, ix_n (by omega), e]
theorem k_twX (q : PQ h c R E) : f_X10_transcriptWord h (nI (trA R E).length) = some (-1) := by
  have h2 := trA_le q.W q.E
  unfold f_X10_transcriptWord
  rw [if_neg (nI_pos (show (trA R E).length < 2147483648 by omega)), q.F.pls, if_neg (ltn (Nat.le_refl _) (by omega))]
theorem k_place (q : PQ h c R E) {p w : Nat} (hp : (trA R E)[p]? = some w) : ask7 h (nI w) 0 0 = some (0, (nI p, h)) := by
  have h1 := q.n
  have hl := (List.getElem?_eq_some_iff.mp hp).1
  have h2 := trA_le q.W q.E
  have hw := (trA_get q.W q.E hp).1
  have nd := tr_nodup q.W q.E (E 0 1) (Nat.le_refl _)
  have es : sch (fun p => (trA R E)[p]? = some w) (trA R E).length = p := sch_u (by omega) (fun j hj hjw => by
    have := nodup_get nd hjw hp
    omega) (fun _ => hp)
  have e : f_X10_placeOf h (nI w) = some (0, nI p) := by
    unfold f_X10_placeOf
    rw [c_rW q.q hw, bnd_some, if_pos rfl, inb_t (by omega) (by omega), ck_true, ix_n (by omega), q.F.wp w hw, es, oI, if_pos hl]
  unfold ask7
  rw [e]
  rfl
end
