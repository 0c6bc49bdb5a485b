/-! calls that ask by a number: which are refused, and the fields -/
section
variable {h g : Hp} {c : Nat} {R E : Nat → Nat → Nat}
theorem MA.fail {g : Hp} {v w c : Int32} (hc : c ≠ 0) : MA (some (v, up (up g 125 0 (nI 0)) 125 0 c)) g c w :=
  wp_some.mpr ⟨(GW.upF g (by decide)).tr (GW.upF _ (by decide)), by show up (up g 125 0 (nI 0)) 125 0 c 145 = g 145; rw [up_o (by decide), up_o (by decide)], show up (up g 125 0 (nI 0)) 125 0 c 125 0 = c from up_ss, fun z => absurd z hc⟩
theorem MA.ok0 {g : Hp} {v : Int32} : MA (some (v, up g 125 0 (nI 0))) g 0 v :=
  wp_some.mpr ⟨GW.upF g (by decide), by show up g 125 0 (nI 0) 145 = g 145; rw [up_o (by decide)], show up g 125 0 (nI 0) 125 0 = 0 from up_ss, fun _ => rfl⟩
theorem ckc {α : Type} {h : Hp} {c : Nat} {K : Nat → Option α} (hp : h 3 0 = nI c) (hk : knd c = 4 ∧ (c = 83 ∨ c = 97)) : ckp (h 3 0) 4 K = K c := ckp_of hp hk.1 (by omega)
theorem QQ.ck {α : Type} {K : Nat → Option α} (q : QQ h g c R E) : ckp (h 3 0) 4 K = K c := ckc q.p q.k
theorem QQ.z0 (q : QQ h g c R E) : QQ h (up g 125 0 (nI 0)) c R E := q.fr (GW.upF g (by decide))
theorem QQ.zo (q : QQ h g c R E) (v : Int32) : QQ h (up g 145 0 v) c R E := q.fr (GW.out g v)
/-- a number that isn't one below n -/
def bad (x : Int32) (n : Nat) : Prop := x < nI 0 ∨ (¬ x < nI 0 ∧ ¬ x < nI n)
theorem idb (x : Int32) {n : Nat} (hn : n < 2147483648) : bad x n ∨ ∃ j, j < n ∧ x = nI j := by
  rcases idx (x := x) hn with q | q | q
  · exact Or.inl (Or.inl q)
  · exact Or.inl (Or.inr q)
  · exact Or.inr q
theorem c_rW (q : QQ h g c R E) {w : Nat} (hw : w < R 0 4) : f_X10_requireWord h (nI w) = some (0, nI 0) := by
  have h1 := q.W.w40
  unfold f_X10_requireWord
  simp (disch := omega) only [li, nI_add, pk_mul, ix_n, lt_n, le_n, eq_n, sub_n, dec_n, inb_t, neg_n, neg_n', ck_true, stp_eq, bnd_some, wp_some, wp_stp, Nat.add_zero, Nat.lt_irrefl, Nat.reduceEqDiff, Nat.reduceAdd, Nat.reduceSub, Nat.reduceMul, Nat.reduceLT, Nat.reduceLeDiff, up_o, up_ss, up_sn, zb_n1, true_and, and_true, ↓reduceIte, q.ck, q.C.z, Nat.not_lt_zero, hw]
theorem c_rW' (q : QQ h g c R E) {x : Int32} (hx : bad x (R 0 4)) : f_X10_requireWord h x = some (1, nI 0) := by
  unfold f_X10_requireWord J_X10_requireWord_18
  rcases hx with hx | ⟨hx, hy⟩
  · simp (disch := omega) only [li, nI_add, pk_mul, ix_n, lt_n, le_n, eq_n, sub_n, dec_n, inb_t, neg_n, neg_n', ck_true, stp_eq, bnd_some, wp_some, wp_stp, Nat.add_zero, Nat.lt_irrefl, Nat.reduceEqDiff, Nat.reduceAdd, Nat.reduceSub, Nat.reduceMul, Nat.reduceLT, Nat.reduceLeDiff, up_o, up_ss, up_sn, zb_n1, true_and, and_true, ↓reduceIte, hx]
  · simp (disch := omega) only [li, nI_add, pk_mul, ix_n, lt_n, le_n, eq_n, sub_n, dec_n, inb_t, neg_n, neg_n', ck_true, stp_eq, bnd_some, wp_some, wp_stp, Nat.add_zero, Nat.lt_irrefl, Nat.reduceEqDiff, Nat.reduceAdd, Nat.reduceSub, Nat.reduceMul, Nat.reduceLT, Nat.reduceLeDiff, up_o, up_ss, up_sn, zb_n1, true_and, and_true, ↓reduceIte, hx, q.ck, q.C.z, hy]
theorem c_rB (q : QQ h g c R E) {w : Nat} (hw : w < R 0 13) : f_X10_requireBlock h (nI w) = some (0, nI 0) := by
  have h1 := q.W.w40
  have h2 := q.W.bw
  unfold f_X10_requireBlock
  simp (disch := omega) only [li, nI_add, pk_mul, ix_n, lt_n, le_n, eq_n, sub_n, dec_n, inb_t, neg_n, neg_n', ck_true, stp_eq, bnd_some, wp_some, wp_stp, Nat.add_zero, Nat.lt_irrefl, Nat.reduceEqDiff, Nat.reduceAdd, Nat.reduceSub, Nat.reduceMul, Nat.reduceLT, Nat.reduceLeDiff, up_o, up_ss, up_sn, zb_n1, true_and, and_true, ↓reduceIte, q.ck, q.C.z, Nat.not_lt_zero, hw]
theorem c_rB' (q : QQ h g c R E) {x : Int32} (hx : bad x (R 0 13)) : f_X10_requireBlock h x = some (1, nI 0) := by
  unfold f_X10_requireBlock J_X10_requireBlock_18
  rcases hx with hx | ⟨hx, hy⟩
  · simp (disch := omega) only [li, nI_add, pk_mul, ix_n, lt_n, le_n, eq_n, sub_n, dec_n, inb_t, neg_n, neg_n', ck_true, stp_eq, bnd_some, wp_some, wp_stp, Nat.add_zero, Nat.lt_irrefl, Nat.reduceEqDiff, Nat.reduceAdd, Nat.reduceSub, Nat.reduceMul, Nat.reduceLT, Nat.reduceLeDiff, up_o, up_ss, up_sn, zb_n1, true_and, and_true, ↓reduceIte, hx]
  · simp (disch := omega) only [li, nI_add, pk_mul, ix_n, lt_n, le_n, eq_n, sub_n, dec_n, inb_t, neg_n, neg_n', ck_true, stp_eq, bnd_some, wp_some, wp_stp, Nat.add_zero, Nat.lt_irrefl, Nat.reduceEqDiff, Nat.reduceAdd, Nat.reduceSub, Nat.reduceMul, Nat.reduceLT, Nat.reduceLeDiff, up_o, up_ss, up_sn, zb_n1, true_and, and_true, ↓reduceIte, hx, q.ck, q.C.z, hy]
theorem c_rS (q : QQ h g c R E) {w : Nat} (hw : w < E 0 1) : f_X10_requireShot h (nI w) = some (0, nI 0) := by
  have h1 := q.W.w40
  have h2 := q.W.bw
  have h3 := q.E.n
  unfold f_X10_requireShot
  simp (disch := omega) only [li, nI_add, pk_mul, ix_n, lt_n, le_n, eq_n, sub_n, dec_n, inb_t, neg_n, neg_n', ck_true, stp_eq, bnd_some, wp_some, wp_stp, Nat.add_zero, Nat.lt_irrefl, Nat.reduceEqDiff, Nat.reduceAdd, Nat.reduceSub, Nat.reduceMul, Nat.reduceLT, Nat.reduceLeDiff, up_o, up_ss, up_sn, zb_n1, true_and, and_true, ↓reduceIte, q.D.z, Nat.not_lt_zero, hw]
theorem c_rS' (q : QQ h g c R E) {x : Int32} (hx : bad x (E 0 1)) : f_X10_requireShot h x = some (1, nI 0) := by
  unfold f_X10_requireShot J_X10_requireShot_18
  rcases hx with hx | ⟨hx, hy⟩
  · simp (disch := omega) only [li, nI_add, pk_mul, ix_n, lt_n, le_n, eq_n, sub_n, dec_n, inb_t, neg_n, neg_n', ck_true, stp_eq, bnd_some, wp_some, wp_stp, Nat.add_zero, Nat.lt_irrefl, Nat.reduceEqDiff, Nat.reduceAdd, Nat.reduceSub, Nat.reduceMul, Nat.reduceLT, Nat.reduceLeDiff, up_o, up_ss, up_sn, zb_n1, true_and, and_true, ↓reduceIte, hx]
  · simp (disch := omega) only [li, nI_add, pk_mul, ix_n, lt_n, le_n, eq_n, sub_n, dec_n, inb_t, neg_n, neg_n', ck_true, stp_eq, bnd_some, wp_some, wp_stp, Nat.add_zero, Nat.lt_irrefl, Nat.reduceEqDiff, Nat.reduceAdd, Nat.reduceSub, Nat.reduceMul, Nat.reduceLT, Nat.reduceLeDiff, up_o, up_ss, up_sn, zb_n1, true_and, and_true, ↓reduceIte, hx, q.D.z, hy]
theorem c_rP (q : QQ h g c R E) {w : Nat} (hw : w < R 0 2) : f_X10_requireSpeaker h (nI w) = some (0, nI 0) := by
  have h1 := q.W.s4
  unfold f_X10_requireSpeaker
  simp (disch := omega) only [li, nI_add, pk_mul, ix_n, lt_n, le_n, eq_n, sub_n, dec_n, inb_t, neg_n, neg_n', ck_true, stp_eq, bnd_some, wp_some, wp_stp, Nat.add_zero, Nat.lt_irrefl, Nat.reduceEqDiff, Nat.reduceAdd, Nat.reduceSub, Nat.reduceMul, Nat.reduceLT, Nat.reduceLeDiff, up_o, up_ss, up_sn, zb_n1, true_and, and_true, ↓reduceIte, q.ck, q.C.z, Nat.not_lt_zero, hw]
theorem c_rP' (q : QQ h g c R E) {x : Int32} (hx : bad x (R 0 2)) : f_X10_requireSpeaker h x = some (1, nI 0) := by
  unfold f_X10_requireSpeaker J_X10_requireSpeaker_18
  rcases hx with hx | ⟨hx, hy⟩
  · simp (disch := omega) only [li, nI_add, pk_mul, ix_n, lt_n, le_n, eq_n, sub_n, dec_n, inb_t, neg_n, neg_n', ck_true, stp_eq, bnd_some, wp_some, wp_stp, Nat.add_zero, Nat.lt_irrefl, Nat.reduceEqDiff, Nat.reduceAdd, Nat.reduceSub, Nat.reduceMul, Nat.reduceLT, Nat.reduceLeDiff, up_o, up_ss, up_sn, zb_n1, true_and, and_true, ↓reduceIte, hx]
  · simp (disch := omega) only [li, nI_add, pk_mul, ix_n, lt_n, le_n, eq_n, sub_n, dec_n, inb_t, neg_n, neg_n', ck_true, stp_eq, bnd_some, wp_some, wp_stp, Nat.add_zero, Nat.lt_irrefl, Nat.reduceEqDiff, Nat.reduceAdd, Nat.reduceSub, Nat.reduceMul, Nat.reduceLT, Nat.reduceLeDiff, up_o, up_ss, up_sn, zb_n1, true_and, and_true, ↓reduceIte, hx, q.ck, q.C.z, hy]
theorem m_noBlock (hW : WR R) (hG : GR g R) {w : Nat} (hw : w < R 0 13) : f_X11_noBlock g (nI w) = some (nI 0, g) := by
  have h1 := hW.w40
  have h2 := hW.bw
  unfold f_X11_noBlock J_X11_noBlock_20
  simp (disch := omega) only [li, nI_add, pk_mul, ix_n, lt_n, le_n, eq_n, sub_n, dec_n, inb_t, neg_n, neg_n', ck_true, stp_eq, bnd_some, wp_some, wp_stp, Nat.add_zero, Nat.lt_irrefl, Nat.reduceEqDiff, Nat.reduceAdd, Nat.reduceSub, Nat.reduceMul, Nat.reduceLT, Nat.reduceLeDiff, up_o, up_ss, up_sn, zb_n1, true_and, and_true, ↓reduceIte, hG.bc, m_in, m_in', m_throws0, m_throws1, Nat.not_lt_zero, hw]
theorem m_noSpeaker (hW : WR R) (hG : GR g R) {w : Nat} (hw : w < R 0 2) : f_X11_noSpeaker g (nI w) = some (nI 0, g) := by
  have h1 := hW.s4
  unfold f_X11_noSpeaker J_X11_noSpeaker_22
  simp (disch := omega) only [li, nI_add, pk_mul, ix_n, lt_n, le_n, eq_n, sub_n, dec_n, inb_t, neg_n, neg_n', ck_true, stp_eq, bnd_some, wp_some, wp_stp, Nat.add_zero, Nat.lt_irrefl, Nat.reduceEqDiff, Nat.reduceAdd, Nat.reduceSub, Nat.reduceMul, Nat.reduceLT, Nat.reduceLeDiff, up_o, up_ss, up_sn, zb_n1, true_and, and_true, ↓reduceIte, hG.sc, m_in, m_in', m_throws0, m_throws1, Nat.not_lt_zero, hw]
theorem m_noShot (hW : WR R) (hE : WE R E) (hG : GE g E) {w : Nat} (hw : w < E 0 1) : f_X11_noShot g (nI w) = some (nI 0, g) := by
  have h1 := hW.w40
  have h2 := hW.bw
  have h3 := hE.n
  unfold f_X11_noShot J_X11_noShot_23
  simp (disch := omega) only [li, nI_add, pk_mul, ix_n, lt_n, le_n, eq_n, sub_n, dec_n, inb_t, neg_n, neg_n', ck_true, stp_eq, bnd_some, wp_some, wp_stp, Nat.add_zero, Nat.lt_irrefl, Nat.reduceEqDiff, Nat.reduceAdd, Nat.reduceSub, Nat.reduceMul, Nat.reduceLT, Nat.reduceLeDiff, up_o, up_ss, up_sn, zb_n1, true_and, and_true, ↓reduceIte, hG.n, m_in, m_in', m_throws0, m_throws1, Nat.not_lt_zero, hw]
theorem m_noBlock' (hW : WR R) (hG : GR g R) {x : Int32} (hx : bad x (R 0 13)) : f_X11_noBlock g x = some (nI 1, up g 125 0 (nI 1)) := by
  have h1 := hW.w40
  have h2 := hW.bw
  unfold f_X11_noBlock J_X11_noBlock_20
  rcases hx with hx | ⟨hx, hy⟩
  · by_cases z : R 0 13 = 0
    · simp (disch := omega) only [li, nI_add, pk_mul, ix_n, lt_n, le_n, eq_n, sub_n, dec_n, inb_t, neg_n, neg_n', ck_true, stp_eq, bnd_some, wp_some, wp_stp, Nat.add_zero, Nat.lt_irrefl, Nat.reduceEqDiff, Nat.reduceAdd, Nat.reduceSub, Nat.reduceMul, Nat.reduceLT, Nat.reduceLeDiff, up_o, up_ss, up_sn, zb_n1, true_and, and_true, ↓reduceIte, hG.bc, z, m_in, m_throws1, hx]
    · simp (disch := omega) only [li, nI_add, pk_mul, ix_n, lt_n, le_n, eq_n, sub_n, dec_n, inb_t, neg_n, neg_n', ck_true, stp_eq, bnd_some, wp_some, wp_stp, Nat.add_zero, Nat.lt_irrefl, Nat.reduceEqDiff, Nat.reduceAdd, Nat.reduceSub, Nat.reduceMul, Nat.reduceLT, Nat.reduceLeDiff, up_o, up_ss, up_sn, zb_n1, true_and, and_true, ↓reduceIte, hG.bc, m_in', m_throws1, hx]
  · by_cases z : R 0 13 = 0
    · rw [z] at hy
      simp (disch := omega) only [li, nI_add, pk_mul, ix_n, lt_n, le_n, eq_n, sub_n, dec_n, inb_t, neg_n, neg_n', ck_true, stp_eq, bnd_some, wp_some, wp_stp, Nat.add_zero, Nat.lt_irrefl, Nat.reduceEqDiff, Nat.reduceAdd, Nat.reduceSub, Nat.reduceMul, Nat.reduceLT, Nat.reduceLeDiff, up_o, up_ss, up_sn, zb_n1, true_and, and_true, ↓reduceIte, hG.bc, z, m_in, m_throws1, hx, hy]
    · simp (disch := omega) only [li, nI_add, pk_mul, ix_n, lt_n, le_n, eq_n, sub_n, dec_n, inb_t, neg_n, neg_n', ck_true, stp_eq, bnd_some, wp_some, wp_stp, Nat.add_zero, Nat.lt_irrefl, Nat.reduceEqDiff, Nat.reduceAdd, Nat.reduceSub, Nat.reduceMul, Nat.reduceLT, Nat.reduceLeDiff, up_o, up_ss, up_sn, zb_n1, true_and, and_true, ↓reduceIte, hG.bc, m_in', m_throws1, hx, hy]
theorem m_noSpeaker' (hW : WR R) (hG : GR g R) {x : Int32} (hx : bad x (R 0 2)) : f_X11_noSpeaker g x = some (nI 1, up g 125 0 (nI 1)) := by
  have h1 := hW.s4
  unfold f_X11_noSpeaker J_X11_noSpeaker_22
  rcases hx with hx | ⟨hx, hy⟩
  · by_cases z : R 0 2 = 0
    · simp (disch := omega) only [li, nI_add, pk_mul, ix_n, lt_n, le_n, eq_n, sub_n, dec_n, inb_t, neg_n, neg_n', ck_true, stp_eq, bnd_some, wp_some, wp_stp, Nat.add_zero, Nat.lt_irrefl, Nat.reduceEqDiff, Nat.reduceAdd, Nat.reduceSub, Nat.reduceMul, Nat.reduceLT, Nat.reduceLeDiff, up_o, up_ss, up_sn, zb_n1, true_and, and_true, ↓reduceIte, hG.sc, z, m_in, m_throws1, hx]
    · simp (disch := omega) only [li, nI_add, pk_mul, ix_n, lt_n, le_n, eq_n, sub_n, dec_n, inb_t, neg_n, neg_n', ck_true, stp_eq, bnd_some, wp_some, wp_stp, Nat.add_zero, Nat.lt_irrefl, Nat.reduceEqDiff, Nat.reduceAdd, Nat.reduceSub, Nat.reduceMul, Nat.reduceLT, Nat.reduceLeDiff, up_o, up_ss, up_sn, zb_n1, true_and, and_true, ↓reduceIte, hG.sc, m_in', m_throws1, hx]
  · by_cases z : R 0 2 = 0
    · rw [z] at hy
      simp (disch := omega) only [li, nI_add, pk_mul, ix_n, lt_n, le_n, eq_n, sub_n, dec_n, inb_t, neg_n, neg_n', ck_true, stp_eq, bnd_some, wp_some, wp_stp, Nat.add_zero, Nat.lt_irrefl, Nat.reduceEqDiff, Nat.reduceAdd, Nat.reduceSub, Nat.reduceMul, Nat.reduceLT, Nat.reduceLeDiff, up_o, up_ss, up_sn, zb_n1, true_and, and_true, ↓reduceIte, hG.sc, z, m_in, m_throws1, hx, hy]
    · simp (disch := omega) only [li, nI_add, pk_mul, ix_n, lt_n, le_n, eq_n, sub_n, dec_n, inb_t, neg_n, neg_n', ck_true, stp_eq, bnd_some, wp_some, wp_stp, Nat.add_zero, Nat.lt_irrefl, Nat.reduceEqDiff, Nat.reduceAdd, Nat.reduceSub, Nat.reduceMul, Nat.reduceLT, Nat.reduceLeDiff, up_o, up_ss, up_sn, zb_n1, true_and, and_true, ↓reduceIte, hG.sc, m_in', m_throws1, hx, hy]
theorem m_noShot' (hW : WR R) (hE : WE R E) (hG : GE g E) {x : Int32} (hx : bad x (E 0 1)) : f_X11_noShot g x = some (nI 1, up g 125 0 (nI 1)) := by
  have h1 := hW.w40
  have h2 := hW.bw
  have h3 := hE.n
  unfold f_X11_noShot J_X11_noShot_23
  rcases hx with hx | ⟨hx, hy⟩
  · by_cases z : E 0 1 = 0
    · simp (disch := omega) only [li, nI_add, pk_mul, ix_n, lt_n, le_n, eq_n, sub_n, dec_n, inb_t, neg_n, neg_n', ck_true, stp_eq, bnd_some, wp_some, wp_stp, Nat.add_zero, Nat.lt_irrefl, Nat.reduceEqDiff, Nat.reduceAdd, Nat.reduceSub, Nat.reduceMul, Nat.reduceLT, Nat.reduceLeDiff, up_o, up_ss, up_sn, zb_n1, true_and, and_true, ↓reduceIte, hG.n, z, m_in, m_throws1, hx]
    · simp (disch := omega) only [li, nI_add, pk_mul, ix_n, lt_n, le_n, eq_n, sub_n, dec_n, inb_t, neg_n, neg_n', ck_true, stp_eq, bnd_some, wp_some, wp_stp, Nat.add_zero, Nat.lt_irrefl, Nat.reduceEqDiff, Nat.reduceAdd, Nat.reduceSub, Nat.reduceMul, Nat.reduceLT, Nat.reduceLeDiff, up_o, up_ss, up_sn, zb_n1, true_and, and_true, ↓reduceIte, hG.n, m_in', m_throws1, hx]
  · by_cases z : E 0 1 = 0
    · rw [z] at hy
      simp (disch := omega) only [li, nI_add, pk_mul, ix_n, lt_n, le_n, eq_n, sub_n, dec_n, inb_t, neg_n, neg_n', ck_true, stp_eq, bnd_some, wp_some, wp_stp, Nat.add_zero, Nat.lt_irrefl, Nat.reduceEqDiff, Nat.reduceAdd, Nat.reduceSub, Nat.reduceMul, Nat.reduceLT, Nat.reduceLeDiff, up_o, up_ss, up_sn, zb_n1, true_and, and_true, ↓reduceIte, hG.n, z, m_in, m_throws1, hx, hy]
    · simp (disch := omega) only [li, nI_add, pk_mul, ix_n, lt_n, le_n, eq_n, sub_n, dec_n, inb_t, neg_n, neg_n', ck_true, stp_eq, bnd_some, wp_some, wp_stp, Nat.add_zero, Nat.lt_irrefl, Nat.reduceEqDiff, Nat.reduceAdd, Nat.reduceSub, Nat.reduceMul, Nat.reduceLT, Nat.reduceLeDiff, up_o, up_ss, up_sn, zb_n1, true_and, and_true, ↓reduceIte, hG.n, m_in', m_throws1, hx, hy]
/-- states of words -/
noncomputable def stO (R E : Nat → Nat → Nat) (w : Nat) : Int32 := if E 1 w = 1 then nI 0 else @ite _ (∃ s, s < E 0 1 ∧ E 2 s = R 6 w) (Classical.propDecidable _) (nI 1) (nI 2)
theorem sch_lt {p : Nat → Prop} {n : Nat} : (sch p n < n) = ∃ s, s < n ∧ p s := by
  obtain ⟨a, b, c⟩ := sch_spec p n
  refine propext ⟨fun q => ⟨_, q, c q⟩, fun ⟨s, h1, h2⟩ => ?_⟩
  apply Classical.byContradiction
  intro z
  exact b s (by omega) h2
theorem oI_m {n i : Nat} (hn : n < 2147483648) : (oI n i = -nI 1) = ¬ i < n := by
  unfold oI
  by_cases q : i < n
  · rw [if_pos q]; exact propext ⟨fun z => absurd z (by rw [neg_n (by omega)]; exact id), fun z => absurd q z⟩
  · rw [if_neg q]; exact propext ⟨fun _ => q, fun _ => rfl⟩
theorem m_stateOf (hW : WR R) (hE : WE R E) (hG : GR g R) (hM : GE g E) {w : Nat} (hw : w < R 0 4) : f_X11_stateOf g (nI w) = some (stO R E w) := by
  obtain ⟨f1, f2, f3, f4, f5, f6⟩ := w_facts hW hw
  have h1 := hE.k1 w f1
  have h2 := hE.n
  have h3 := hW.bw
  have h4 := hW.w40
  refine wp_eq.mp ?_
  unfold f_X11_stateOf stO
  simp (disch := omega) only [li, nI_add, pk_mul, ix_n, lt_n, le_n, eq_n, sub_n, dec_n, inb_t, neg_n, neg_n', ck_true, stp_eq, bnd_some, wp_some, wp_stp, Nat.add_zero, Nat.lt_irrefl, Nat.reduceEqDiff, Nat.reduceAdd, Nat.reduceSub, Nat.reduceMul, Nat.reduceLT, Nat.reduceLeDiff, up_o, up_ss, up_sn, zb_n1, true_and, and_true, ↓reduceIte, m_isKept hM (hE.zz (by omega)) f1 h1, hG.blk, m_shotOf hW hE hM, oI_m, sch_lt]
  by_cases q : E 1 w = 1
  · simp (disch := omega) only [li, nI_add, pk_mul, ix_n, lt_n, le_n, eq_n, sub_n, dec_n, inb_t, neg_n, neg_n', ck_true, stp_eq, bnd_some, wp_some, wp_stp, Nat.add_zero, Nat.lt_irrefl, Nat.reduceEqDiff, Nat.reduceAdd, Nat.reduceSub, Nat.reduceMul, Nat.reduceLT, Nat.reduceLeDiff, up_o, up_ss, up_sn, zb_n1, true_and, and_true, ↓reduceIte, q]
  · have e : E 1 w = 0 := by omega
    simp (disch := omega) only [li, nI_add, pk_mul, ix_n, lt_n, le_n, eq_n, sub_n, dec_n, inb_t, neg_n, neg_n', ck_true, stp_eq, bnd_some, wp_some, wp_stp, Nat.add_zero, Nat.lt_irrefl, Nat.reduceEqDiff, Nat.reduceAdd, Nat.reduceSub, Nat.reduceMul, Nat.reduceLT, Nat.reduceLeDiff, up_o, up_ss, up_sn, zb_n1, true_and, and_true, ↓reduceIte, q, e]
    by_cases z : ∃ s, s < E 0 1 ∧ E 2 s = R 6 w
    · rw [if_neg (fun y => y z)]
      simp (disch := omega) only [li, nI_add, pk_mul, ix_n, lt_n, le_n, eq_n, sub_n, dec_n, inb_t, neg_n, neg_n', ck_true, stp_eq, bnd_some, wp_some, wp_stp, Nat.add_zero, Nat.lt_irrefl, Nat.reduceEqDiff, Nat.reduceAdd, Nat.reduceSub, Nat.reduceMul, Nat.reduceLT, Nat.reduceLeDiff, up_o, up_ss, up_sn, zb_n1, true_and, and_true, ↓reduceIte, if_pos z]
    · rw [if_pos z]
      simp (disch := omega) only [li, nI_add, pk_mul, ix_n, lt_n, le_n, eq_n, sub_n, dec_n, inb_t, neg_n, neg_n', ck_true, stp_eq, bnd_some, wp_some, wp_stp, Nat.add_zero, Nat.lt_irrefl, Nat.reduceEqDiff, Nat.reduceAdd, Nat.reduceSub, Nat.reduceMul, Nat.reduceLT, Nat.reduceLeDiff, up_o, up_ss, up_sn, zb_n1, true_and, and_true, ↓reduceIte, if_neg z]
theorem c_stateOf (hW : WR R) (hE : WE R E) (hC : CR h c R) (hD : CE h E) (hF : CF h R E) (hp : h 3 0 = nI c) (hk : knd c = 4 ∧ (c = 83 ∨ c = 97)) {w : Nat} (hw : w < R 0 4) : f_X1_stateOf h (nI w) = some (stO R E w) := by
  obtain ⟨f1, f2, f3, f4, f5, f6⟩ := w_facts hW hw
  have h1 := hE.k1 w f1
  have h2 := hE.n
  have h3 := hW.bw
  have h4 := hW.w40
  refine wp_eq.mp ?_
  unfold f_X1_stateOf stO
  simp (disch := omega) only [li, nI_add, pk_mul, ix_n, lt_n, le_n, eq_n, sub_n, dec_n, inb_t, neg_n, neg_n', ck_true, stp_eq, bnd_some, wp_some, wp_stp, Nat.add_zero, Nat.lt_irrefl, Nat.reduceEqDiff, Nat.reduceAdd, Nat.reduceSub, Nat.reduceMul, Nat.reduceLT, Nat.reduceLeDiff, up_o, up_ss, up_sn, zb_n1, true_and, and_true, ↓reduceIte, hD.k, ckc hp hk, hC.o, hF.bs, oI_m, sch_lt]
  by_cases q : E 1 w = 1
  · simp (disch := omega) only [li, nI_add, pk_mul, ix_n, lt_n, le_n, eq_n, sub_n, dec_n, inb_t, neg_n, neg_n', ck_true, stp_eq, bnd_some, wp_some, wp_stp, Nat.add_zero, Nat.lt_irrefl, Nat.reduceEqDiff, Nat.reduceAdd, Nat.reduceSub, Nat.reduceMul, Nat.reduceLT, Nat.reduceLeDiff, up_o, up_ss, up_sn, zb_n1, true_and, and_true, ↓reduceIte, q]
  · have e : E 1 w = 0 := by omega
    simp (disch := omega) only [li, nI_add, pk_mul, ix_n, lt_n, le_n, eq_n, sub_n, dec_n, inb_t, neg_n, neg_n', ck_true, stp_eq, bnd_some, wp_some, wp_stp, Nat.add_zero, Nat.lt_irrefl, Nat.reduceEqDiff, Nat.reduceAdd, Nat.reduceSub, Nat.reduceMul, Nat.reduceLT, Nat.reduceLeDiff, up_o, up_ss, up_sn, zb_n1, true_and, and_true, ↓reduceIte, q, e]
    by_cases z : ∃ s, s < E 0 1 ∧ E 2 s = R 6 w
    · rw [if_neg (fun y => y z)]
      simp (disch := omega) only [li, nI_add, pk_mul, ix_n, lt_n, le_n, eq_n, sub_n, dec_n, inb_t, neg_n, neg_n', ck_true, stp_eq, bnd_some, wp_some, wp_stp, Nat.add_zero, Nat.lt_irrefl, Nat.reduceEqDiff, Nat.reduceAdd, Nat.reduceSub, Nat.reduceMul, Nat.reduceLT, Nat.reduceLeDiff, up_o, up_ss, up_sn, zb_n1, true_and, and_true, ↓reduceIte, if_pos z]
    · rw [if_pos z]
      simp (disch := omega) only [li, nI_add, pk_mul, ix_n, lt_n, le_n, eq_n, sub_n, dec_n, inb_t, neg_n, neg_n', ck_true, stp_eq, bnd_some, wp_some, wp_stp, Nat.add_zero, Nat.lt_irrefl, Nat.reduceEqDiff, Nat.reduceAdd, Nat.reduceSub, Nat.reduceMul, Nat.reduceLT, Nat.reduceLeDiff, up_o, up_ss, up_sn, zb_n1, true_and, and_true, ↓reduceIte, if_neg z]
theorem c_countKept (hW : WR R) (hE : WE R E) (hC : CR h c R) (hD : CE h E) (hp : h 3 0 = nI c) (hk : knd c = 4 ∧ (c = 83 ∨ c = 97)) {b : Nat} (hb : b < R 0 13) : f_X1_countKept h (nI b) = some (nI (kw R E b (R 9 (b + 1))).length) := by
  have h2 := hW.bw
  have h3 := hW.w40
  have h4 := hW.wlt b hb
  have h5 := bw_le hW (b := b + 1) (by omega)
  refine wp_eq.mp ?_
  unfold f_X1_countKept
  simp (disch := omega) only [li, nI_add, pk_mul, ix_n, lt_n, le_n, eq_n, sub_n, dec_n, inb_t, neg_n, neg_n', ck_true, stp_eq, bnd_some, wp_some, wp_stp, Nat.add_zero, Nat.lt_irrefl, Nat.reduceEqDiff, Nat.reduceAdd, Nat.reduceSub, Nat.reduceMul, Nat.reduceLT, Nat.reduceLeDiff, up_o, up_ss, up_sn, zb_n1, true_and, and_true, ↓reduceIte, ckc hp hk, hC.o]
  refine wp_for (i := R 9 b) (R 9 (b + 1)) (fun i x => x = (nI (kw R E b i).length, nI i) ∧ R 9 b ≤ i) (by omega) (by omega) ⟨by rw [kw_0]; rfl, Nat.le_refl _⟩ ?_
  rintro i x r hi ⟨rfl, hp2⟩ k
  unfold F_X1_countKept_12 J_X1_countKept_42
  by_cases hl : i < R 9 (b + 1)
  · have h6 := hE.k1 i (by omega)
    repeat' (first | simp (disch := omega) only [li, nI_add, pk_mul, ix_n, lt_n, le_n, eq_n, sub_n, dec_n, inb_t, neg_n, neg_n', ck_true, stp_eq, bnd_some, wp_some, wp_stp, Nat.add_zero, Nat.lt_irrefl, Nat.reduceEqDiff, Nat.reduceAdd, Nat.reduceSub, Nat.reduceMul, Nat.reduceLT, Nat.reduceLeDiff, up_o, up_ss, up_sn, zb_n1, true_and, and_true, ↓reduceIte, ckc hp hk, hC.o, hl, hD.k] | refine wp_if (fun _ => ?_) (fun _ => ?_))
    · refine k _ hl ⟨?_, by omega⟩
      rw [kw_n hp2 (by omega)]
    · refine k _ hl ⟨?_, by omega⟩
      rw [kw_y hp2 (by omega), List.length_append]
      rfl
  · have e : i = R 9 (b + 1) := by omega
    simp (disch := omega) only [li, nI_add, pk_mul, ix_n, lt_n, le_n, eq_n, sub_n, dec_n, inb_t, neg_n, neg_n', ck_true, stp_eq, bnd_some, wp_some, wp_stp, Nat.add_zero, Nat.lt_irrefl, Nat.reduceEqDiff, Nat.reduceAdd, Nat.reduceSub, Nat.reduceMul, Nat.reduceLT, Nat.reduceLeDiff, up_o, up_ss, up_sn, zb_n1, true_and, and_true, ↓reduceIte, ckc hp hk, hC.o, hl, e]
theorem wf7 (q : QQ h g c R E) {w : Nat} (hw : w < R 0 4) (y : Int32) : ∃ v, f_X10_wordField h (nI w) y = some (0, v) ∧ ∀ g1, QQ h g1 c R E → f_X11_wordField g1 (nI w) y = some (v, up g1 125 0 (nI 0)) := by
  obtain ⟨f1, f2, f3, f4, f5, f6⟩ := w_facts q.W hw
  unfold f_X10_wordField f_X11_wordField
  by_cases y0 : y = nI 0
  · exact ⟨nI (R 3 w), by simp (disch := omega) only [li, nI_add, pk_mul, ix_n, lt_n, le_n, eq_n, sub_n, dec_n, inb_t, neg_n, neg_n', ck_true, stp_eq, bnd_some, wp_some, wp_stp, Nat.add_zero, Nat.lt_irrefl, Nat.reduceEqDiff, Nat.reduceAdd, Nat.reduceSub, Nat.reduceMul, Nat.reduceLT, Nat.reduceLeDiff, up_o, up_ss, up_sn, zb_n1, true_and, and_true, ↓reduceIte, c_rW q hw, q.ck, y0, q.C.o], fun g1 q1 => by have z := q1.z0; simp (disch := omega) only [li, nI_add, pk_mul, ix_n, lt_n, le_n, eq_n, sub_n, dec_n, inb_t, neg_n, neg_n', ck_true, stp_eq, bnd_some, wp_some, wp_stp, Nat.add_zero, Nat.lt_irrefl, Nat.reduceEqDiff, Nat.reduceAdd, Nat.reduceSub, Nat.reduceMul, Nat.reduceLT, Nat.reduceLeDiff, up_o, up_ss, up_sn, zb_n1, true_and, and_true, ↓reduceIte, m_noWord z.W z.G hw, y0, m_of0 z.W z.G hw]⟩
  by_cases y1 : y = nI 1
  · exact ⟨nI (R 4 w), by simp (disch := omega) only [li, nI_add, pk_mul, ix_n, lt_n, le_n, eq_n, sub_n, dec_n, inb_t, neg_n, neg_n', ck_true, stp_eq, bnd_some, wp_some, wp_stp, Nat.add_zero, Nat.lt_irrefl, Nat.reduceEqDiff, Nat.reduceAdd, Nat.reduceSub, Nat.reduceMul, Nat.reduceLT, Nat.reduceLeDiff, up_o, up_ss, up_sn, zb_n1, true_and, and_true, ↓reduceIte, c_rW q hw, q.ck, y1, q.C.o], fun g1 q1 => by have z := q1.z0; simp (disch := omega) only [li, nI_add, pk_mul, ix_n, lt_n, le_n, eq_n, sub_n, dec_n, inb_t, neg_n, neg_n', ck_true, stp_eq, bnd_some, wp_some, wp_stp, Nat.add_zero, Nat.lt_irrefl, Nat.reduceEqDiff, Nat.reduceAdd, Nat.reduceSub, Nat.reduceMul, Nat.reduceLT, Nat.reduceLeDiff, up_o, up_ss, up_sn, zb_n1, true_and, and_true, ↓reduceIte, m_noWord z.W z.G hw, y1, m_of2 z.W z.G hw]⟩
  by_cases y2 : y = nI 2
  · exact ⟨nI (R 5 w), by simp (disch := omega) only [li, nI_add, pk_mul, ix_n, lt_n, le_n, eq_n, sub_n, dec_n, inb_t, neg_n, neg_n', ck_true, stp_eq, bnd_some, wp_some, wp_stp, Nat.add_zero, Nat.lt_irrefl, Nat.reduceEqDiff, Nat.reduceAdd, Nat.reduceSub, Nat.reduceMul, Nat.reduceLT, Nat.reduceLeDiff, up_o, up_ss, up_sn, zb_n1, true_and, and_true, ↓reduceIte, c_rW q hw, q.ck, y2, q.C.o], fun g1 q1 => by have z := q1.z0; simp (disch := omega) only [li, nI_add, pk_mul, ix_n, lt_n, le_n, eq_n, sub_n, dec_n, inb_t, neg_n, neg_n', ck_true, stp_eq, bnd_some, wp_some, wp_stp, Nat.add_zero, Nat.lt_irrefl, Nat.reduceEqDiff, Nat.reduceAdd, Nat.reduceSub, Nat.reduceMul, Nat.reduceLT, Nat.reduceLeDiff, up_o, up_ss, up_sn, zb_n1, true_and, and_true, ↓reduceIte, m_noWord z.W z.G hw, y2, m_of3 z.W z.G hw]⟩
  by_cases y3 : y = nI 3
  · exact ⟨nI (R 6 w), by simp (disch := omega) only [li, nI_add, pk_mul, ix_n, lt_n, le_n, eq_n, sub_n, dec_n, inb_t, neg_n, neg_n', ck_true, stp_eq, bnd_some, wp_some, wp_stp, Nat.add_zero, Nat.lt_irrefl, Nat.reduceEqDiff, Nat.reduceAdd, Nat.reduceSub, Nat.reduceMul, Nat.reduceLT, Nat.reduceLeDiff, up_o, up_ss, up_sn, zb_n1, true_and, and_true, ↓reduceIte, c_rW q hw, q.ck, y3, q.C.o], fun g1 q1 => by have z := q1.z0; have zb := z.G.blk w hw; simp (disch := omega) only [li, nI_add, pk_mul, ix_n, lt_n, le_n, eq_n, sub_n, dec_n, inb_t, neg_n, neg_n', ck_true, stp_eq, bnd_some, wp_some, wp_stp, Nat.add_zero, Nat.lt_irrefl, Nat.reduceEqDiff, Nat.reduceAdd, Nat.reduceSub, Nat.reduceMul, Nat.reduceLT, Nat.reduceLeDiff, up_o, up_ss, up_sn, zb_n1, true_and, and_true, ↓reduceIte, m_noWord z.W z.G hw, y3, zb]⟩
  by_cases y4 : y = nI 4
  · exact ⟨stO R E w, by simp (disch := omega) only [li, nI_add, pk_mul, ix_n, lt_n, le_n, eq_n, sub_n, dec_n, inb_t, neg_n, neg_n', ck_true, stp_eq, bnd_some, wp_some, wp_stp, Nat.add_zero, Nat.lt_irrefl, Nat.reduceEqDiff, Nat.reduceAdd, Nat.reduceSub, Nat.reduceMul, Nat.reduceLT, Nat.reduceLeDiff, up_o, up_ss, up_sn, zb_n1, true_and, and_true, ↓reduceIte, c_rW q hw, q.ck, y4, c_stateOf q.W q.E q.C q.D q.F q.p q.k hw], fun g1 q1 => by have z := q1.z0; simp (disch := omega) only [li, nI_add, pk_mul, ix_n, lt_n, le_n, eq_n, sub_n, dec_n, inb_t, neg_n, neg_n', ck_true, stp_eq, bnd_some, wp_some, wp_stp, Nat.add_zero, Nat.lt_irrefl, Nat.reduceEqDiff, Nat.reduceAdd, Nat.reduceSub, Nat.reduceMul, Nat.reduceLT, Nat.reduceLeDiff, up_o, up_ss, up_sn, zb_n1, true_and, and_true, ↓reduceIte, m_noWord z.W z.G hw, y4, m_stateOf z.W z.E z.G z.M hw]⟩
  by_cases y5 : y = nI 5
  · exact ⟨nI (cnt (fun v => v ≠ w ∧ shr R v w) (R 0 4)), by simp (disch := omega) only [li, nI_add, pk_mul, ix_n, lt_n, le_n, eq_n, sub_n, dec_n, inb_t, neg_n, neg_n', ck_true, stp_eq, bnd_some, wp_some, wp_stp, Nat.add_zero, Nat.lt_irrefl, Nat.reduceEqDiff, Nat.reduceAdd, Nat.reduceSub, Nat.reduceMul, Nat.reduceLT, Nat.reduceLeDiff, up_o, up_ss, up_sn, zb_n1, true_and, and_true, ↓reduceIte, c_rW q hw, q.ck, y5, c_countOverlapping q.W q.C hw], fun g1 q1 => by have z := q1.z0; simp (disch := omega) only [li, nI_add, pk_mul, ix_n, lt_n, le_n, eq_n, sub_n, dec_n, inb_t, neg_n, neg_n', ck_true, stp_eq, bnd_some, wp_some, wp_stp, Nat.add_zero, Nat.lt_irrefl, Nat.reduceEqDiff, Nat.reduceAdd, Nat.reduceSub, Nat.reduceMul, Nat.reduceLT, Nat.reduceLeDiff, up_o, up_ss, up_sn, zb_n1, true_and, and_true, ↓reduceIte, m_noWord z.W z.G hw, y5, m_overlaps z.W z.G hw]⟩
  · exact ⟨-nI 1, by simp (disch := omega) only [li, nI_add, pk_mul, ix_n, lt_n, le_n, eq_n, sub_n, dec_n, inb_t, neg_n, neg_n', ck_true, stp_eq, bnd_some, wp_some, wp_stp, Nat.add_zero, Nat.lt_irrefl, Nat.reduceEqDiff, Nat.reduceAdd, Nat.reduceSub, Nat.reduceMul, Nat.reduceLT, Nat.reduceLeDiff, up_o, up_ss, up_sn, zb_n1, true_and, and_true, ↓reduceIte, c_rW q hw, q.ck, y0, y1, y2, y3, y4, y5], fun g1 q1 => by have z := q1.z0; simp (disch := omega) only [li, nI_add, pk_mul, ix_n, lt_n, le_n, eq_n, sub_n, dec_n, inb_t, neg_n, neg_n', ck_true, stp_eq, bnd_some, wp_some, wp_stp, Nat.add_zero, Nat.lt_irrefl, Nat.reduceEqDiff, Nat.reduceAdd, Nat.reduceSub, Nat.reduceMul, Nat.reduceLT, Nat.reduceLeDiff, up_o, up_ss, up_sn, zb_n1, true_and, and_true, ↓reduceIte, m_noWord z.W z.G hw, y0, y1, y2, y3, y4, y5]⟩
theorem qa7 (q : QQ h g c R E) (x y : Int32) : QA (A_7 h g x y) h g := by
  have h4 := q.W.w40
  unfold A_7 f_L_wordField
  rcases idb x (n := R 0 4) (by omega) with hx | ⟨w, hw, rfl⟩
  · refine QA.thr (Y := fun g => f_X11_wordField g x y) (t := 1) (v := nI 0) (w := 0) ?_ (by simp) (fun z => absurd z (by decide)) (fun _ => ?_) 1 rfl
    · unfold f_X10_wordField
      simp (disch := omega) only [li, nI_add, pk_mul, ix_n, lt_n, le_n, eq_n, sub_n, dec_n, inb_t, neg_n, neg_n', ck_true, stp_eq, bnd_some, wp_some, wp_stp, Nat.add_zero, Nat.lt_irrefl, Nat.reduceEqDiff, Nat.reduceAdd, Nat.reduceSub, Nat.reduceMul, Nat.reduceLT, Nat.reduceLeDiff, up_o, up_ss, up_sn, zb_n1, true_and, and_true, ↓reduceIte, c_rW' q hx]
    · have z := q.z0
      unfold f_X11_wordField
      simp (disch := omega) only [li, nI_add, pk_mul, ix_n, lt_n, le_n, eq_n, sub_n, dec_n, inb_t, neg_n, neg_n', ck_true, stp_eq, bnd_some, wp_some, wp_stp, Nat.add_zero, Nat.lt_irrefl, Nat.reduceEqDiff, Nat.reduceAdd, Nat.reduceSub, Nat.reduceMul, Nat.reduceLT, Nat.reduceLeDiff, up_o, up_ss, up_sn, zb_n1, true_and, and_true, ↓reduceIte, m_noWord' z.W z.G hx]
      exact MA.fail (by decide)
  · obtain ⟨v, e1, e2⟩ := wf7 q hw y
    exact QA.thr (Y := fun g => f_X11_wordField g (nI w) y) (t := 0) (w := 0) e1 (by simp) (fun _ => by rw [e2 _ (q.zo v)]; exact MA.ok0) (fun z => absurd rfl z) 1 rfl
theorem qa6 (q : QQ h g c R E) (x : Int32) : QA (A_6 h g x) h g := by
  have z := q.z0
  have key : ∃ v, f_X10_count h x = some v ∧ f_X11_count g x = some (v, up g 125 0 (nI 0)) := by
    unfold f_X10_count f_X11_count
    by_cases y0 : x = nI 0
    · exact ⟨nI (R 0 0), by simp (disch := omega) only [li, nI_add, pk_mul, ix_n, lt_n, le_n, eq_n, sub_n, dec_n, inb_t, neg_n, neg_n', ck_true, stp_eq, bnd_some, wp_some, wp_stp, Nat.add_zero, Nat.lt_irrefl, Nat.reduceEqDiff, Nat.reduceAdd, Nat.reduceSub, Nat.reduceMul, Nat.reduceLT, Nat.reduceLeDiff, up_o, up_ss, up_sn, zb_n1, true_and, and_true, ↓reduceIte, q.ck, y0, q.C.z], by simp (disch := omega) only [li, nI_add, pk_mul, ix_n, lt_n, le_n, eq_n, sub_n, dec_n, inb_t, neg_n, neg_n', ck_true, stp_eq, bnd_some, wp_some, wp_stp, Nat.add_zero, Nat.lt_irrefl, Nat.reduceEqDiff, Nat.reduceAdd, Nat.reduceSub, Nat.reduceMul, Nat.reduceLT, Nat.reduceLeDiff, up_o, up_ss, up_sn, zb_n1, true_and, and_true, ↓reduceIte, y0, z.G.len]⟩
    by_cases y1 : x = nI 1
    · exact ⟨nI (R 0 2), by simp (disch := omega) only [li, nI_add, pk_mul, ix_n, lt_n, le_n, eq_n, sub_n, dec_n, inb_t, neg_n, neg_n', ck_true, stp_eq, bnd_some, wp_some, wp_stp, Nat.add_zero, Nat.lt_irrefl, Nat.reduceEqDiff, Nat.reduceAdd, Nat.reduceSub, Nat.reduceMul, Nat.reduceLT, Nat.reduceLeDiff, up_o, up_ss, up_sn, zb_n1, true_and, and_true, ↓reduceIte, q.ck, y1, q.C.z], by simp (disch := omega) only [li, nI_add, pk_mul, ix_n, lt_n, le_n, eq_n, sub_n, dec_n, inb_t, neg_n, neg_n', ck_true, stp_eq, bnd_some, wp_some, wp_stp, Nat.add_zero, Nat.lt_irrefl, Nat.reduceEqDiff, Nat.reduceAdd, Nat.reduceSub, Nat.reduceMul, Nat.reduceLT, Nat.reduceLeDiff, up_o, up_ss, up_sn, zb_n1, true_and, and_true, ↓reduceIte, y1, z.G.sc]⟩
    by_cases y2 : x = nI 2
    · exact ⟨nI (R 0 4), by simp (disch := omega) only [li, nI_add, pk_mul, ix_n, lt_n, le_n, eq_n, sub_n, dec_n, inb_t, neg_n, neg_n', ck_true, stp_eq, bnd_some, wp_some, wp_stp, Nat.add_zero, Nat.lt_irrefl, Nat.reduceEqDiff, Nat.reduceAdd, Nat.reduceSub, Nat.reduceMul, Nat.reduceLT, Nat.reduceLeDiff, up_o, up_ss, up_sn, zb_n1, true_and, and_true, ↓reduceIte, q.ck, y2, q.C.z], by simp (disch := omega) only [li, nI_add, pk_mul, ix_n, lt_n, le_n, eq_n, sub_n, dec_n, inb_t, neg_n, neg_n', ck_true, stp_eq, bnd_some, wp_some, wp_stp, Nat.add_zero, Nat.lt_irrefl, Nat.reduceEqDiff, Nat.reduceAdd, Nat.reduceSub, Nat.reduceMul, Nat.reduceLT, Nat.reduceLeDiff, up_o, up_ss, up_sn, zb_n1, true_and, and_true, ↓reduceIte, y2, m_words z.G]⟩
    by_cases y3 : x = nI 3
    · exact ⟨nI (R 0 13), by simp (disch := omega) only [li, nI_add, pk_mul, ix_n, lt_n, le_n, eq_n, sub_n, dec_n, inb_t, neg_n, neg_n', ck_true, stp_eq, bnd_some, wp_some, wp_stp, Nat.add_zero, Nat.lt_irrefl, Nat.reduceEqDiff, Nat.reduceAdd, Nat.reduceSub, Nat.reduceMul, Nat.reduceLT, Nat.reduceLeDiff, up_o, up_ss, up_sn, zb_n1, true_and, and_true, ↓reduceIte, q.ck, y3, q.C.z], by have w := z.G.bc; simp (disch := omega) only [li, nI_add, pk_mul, ix_n, lt_n, le_n, eq_n, sub_n, dec_n, inb_t, neg_n, neg_n', ck_true, stp_eq, bnd_some, wp_some, wp_stp, Nat.add_zero, Nat.lt_irrefl, Nat.reduceEqDiff, Nat.reduceAdd, Nat.reduceSub, Nat.reduceMul, Nat.reduceLT, Nat.reduceLeDiff, up_o, up_ss, up_sn, zb_n1, true_and, and_true, ↓reduceIte, y3, q.G.bc]⟩
    by_cases y4 : x = nI 4
    · exact ⟨nI (R 0 10), by simp (disch := omega) only [li, nI_add, pk_mul, ix_n, lt_n, le_n, eq_n, sub_n, dec_n, inb_t, neg_n, neg_n', ck_true, stp_eq, bnd_some, wp_some, wp_stp, Nat.add_zero, Nat.lt_irrefl, Nat.reduceEqDiff, Nat.reduceAdd, Nat.reduceSub, Nat.reduceMul, Nat.reduceLT, Nat.reduceLeDiff, up_o, up_ss, up_sn, zb_n1, true_and, and_true, ↓reduceIte, q.ck, y4, q.C.z], by simp (disch := omega) only [li, nI_add, pk_mul, ix_n, lt_n, le_n, eq_n, sub_n, dec_n, inb_t, neg_n, neg_n', ck_true, stp_eq, bnd_some, wp_some, wp_stp, Nat.add_zero, Nat.lt_irrefl, Nat.reduceEqDiff, Nat.reduceAdd, Nat.reduceSub, Nat.reduceMul, Nat.reduceLT, Nat.reduceLeDiff, up_o, up_ss, up_sn, zb_n1, true_and, and_true, ↓reduceIte, y4, z.G.brc]⟩
    by_cases y5 : x = nI 5
    · exact ⟨nI (R 0 1), by simp (disch := omega) only [li, nI_add, pk_mul, ix_n, lt_n, le_n, eq_n, sub_n, dec_n, inb_t, neg_n, neg_n', ck_true, stp_eq, bnd_some, wp_some, wp_stp, Nat.add_zero, Nat.lt_irrefl, Nat.reduceEqDiff, Nat.reduceAdd, Nat.reduceSub, Nat.reduceMul, Nat.reduceLT, Nat.reduceLeDiff, up_o, up_ss, up_sn, zb_n1, true_and, and_true, ↓reduceIte, q.ck, y5, q.C.z], by simp (disch := omega) only [li, nI_add, pk_mul, ix_n, lt_n, le_n, eq_n, sub_n, dec_n, inb_t, neg_n, neg_n', ck_true, stp_eq, bnd_some, wp_some, wp_stp, Nat.add_zero, Nat.lt_irrefl, Nat.reduceEqDiff, Nat.reduceAdd, Nat.reduceSub, Nat.reduceMul, Nat.reduceLT, Nat.reduceLeDiff, up_o, up_ss, up_sn, zb_n1, true_and, and_true, ↓reduceIte, y5, z.G.han]⟩
    · exact ⟨-nI 1, by simp (disch := omega) only [li, nI_add, pk_mul, ix_n, lt_n, le_n, eq_n, sub_n, dec_n, inb_t, neg_n, neg_n', ck_true, stp_eq, bnd_some, wp_some, wp_stp, Nat.add_zero, Nat.lt_irrefl, Nat.reduceEqDiff, Nat.reduceAdd, Nat.reduceSub, Nat.reduceMul, Nat.reduceLT, Nat.reduceLeDiff, up_o, up_ss, up_sn, zb_n1, true_and, and_true, ↓reduceIte, q.ck, y0, y1, y2, y3, y4, y5], by simp (disch := omega) only [li, nI_add, pk_mul, ix_n, lt_n, le_n, eq_n, sub_n, dec_n, inb_t, neg_n, neg_n', ck_true, stp_eq, bnd_some, wp_some, wp_stp, Nat.add_zero, Nat.lt_irrefl, Nat.reduceEqDiff, Nat.reduceAdd, Nat.reduceSub, Nat.reduceMul, Nat.reduceLT, Nat.reduceLeDiff, up_o, up_ss, up_sn, zb_n1, true_and, and_true, ↓reduceIte, y0, y1, y2, y3, y4, y5]⟩
  obtain ⟨v, e1, e2⟩ := key
  exact QA.of e1 (by rw [e2]; exact wp_some.mpr ⟨rfl, GW.upF g (by decide)⟩)
theorem ite_c {p : Prop} {d : Decidable p} {α : Type} {a b : α} : @ite _ p d a b = @ite _ p (Classical.propDecidable _) a b := by
  by_cases q : p
  · rw [if_pos q, if_pos q]
  · rw [if_neg q, if_neg q]
theorem qa8 (q : QQ h g c R E) (x y : Int32) : QA (A_8 h g x y) h g := by
  have h4 := q.W.w40
  unfold A_8 f_L_isSameText
  rcases idb x (n := R 0 4) (by omega) with hx | ⟨w, hw, rfl⟩
  · refine QA.thz (Y := fun g => f_X11_isSameText g x y) (t := 1) (v := nI 0) ?_ (by simp) (fun z => absurd z (by decide)) (fun _ => ?_)
    · unfold f_X10_isSameText
      simp (disch := omega) only [li, nI_add, pk_mul, ix_n, lt_n, le_n, eq_n, sub_n, dec_n, inb_t, neg_n, neg_n', ck_true, stp_eq, bnd_some, wp_some, wp_stp, Nat.add_zero, Nat.lt_irrefl, Nat.reduceEqDiff, Nat.reduceAdd, Nat.reduceSub, Nat.reduceMul, Nat.reduceLT, Nat.reduceLeDiff, up_o, up_ss, up_sn, zb_n1, true_and, and_true, ↓reduceIte, c_rW' q hx]
    · have z := q.z0
      unfold f_X11_isSameText
      simp (disch := omega) only [li, nI_add, pk_mul, ix_n, lt_n, le_n, eq_n, sub_n, dec_n, inb_t, neg_n, neg_n', ck_true, stp_eq, bnd_some, wp_some, wp_stp, Nat.add_zero, Nat.lt_irrefl, Nat.reduceEqDiff, Nat.reduceAdd, Nat.reduceSub, Nat.reduceMul, Nat.reduceLT, Nat.reduceLeDiff, up_o, up_ss, up_sn, zb_n1, true_and, and_true, ↓reduceIte, m_noWord' z.W z.G hx]
      exact MA.fail (by decide)
  rcases idb y (n := R 0 4) (by omega) with hy | ⟨v, hv, rfl⟩
  · refine QA.thz (Y := fun g => f_X11_isSameText g (nI w) y) (t := 1) (v := nI 0) ?_ (by simp) (fun z => absurd z (by decide)) (fun _ => ?_)
    · unfold f_X10_isSameText
      simp (disch := omega) only [li, nI_add, pk_mul, ix_n, lt_n, le_n, eq_n, sub_n, dec_n, inb_t, neg_n, neg_n', ck_true, stp_eq, bnd_some, wp_some, wp_stp, Nat.add_zero, Nat.lt_irrefl, Nat.reduceEqDiff, Nat.reduceAdd, Nat.reduceSub, Nat.reduceMul, Nat.reduceLT, Nat.reduceLeDiff, up_o, up_ss, up_sn, zb_n1, true_and, and_true, ↓reduceIte, c_rW q hw, c_rW' q hy]
    · have z := q.z0
      unfold f_X11_isSameText
      simp (disch := omega) only [li, nI_add, pk_mul, ix_n, lt_n, le_n, eq_n, sub_n, dec_n, inb_t, neg_n, neg_n', ck_true, stp_eq, bnd_some, wp_some, wp_stp, Nat.add_zero, Nat.lt_irrefl, Nat.reduceEqDiff, Nat.reduceAdd, Nat.reduceSub, Nat.reduceMul, Nat.reduceLT, Nat.reduceLeDiff, up_o, up_ss, up_sn, zb_n1, true_and, and_true, ↓reduceIte, m_noWord z.W z.G hw, m_noWord' z.W z.G hy]
      exact MA.fail (by decide)
  · have n1 := nm_lt (q.W.tx w hw)
    have n2 := nm_lt (q.W.tx v hv)
    have n3 := n27_lt (q.W.tx w hw)
    have n4 := n27_lt (q.W.tx v hv)
    by_cases e : R 2 w = R 2 v
    · refine QA.thz (Y := fun g => f_X11_isSameText g (nI w) (nI v)) (t := 0) (v := nI 1) ?_ (Or.inl ⟨rfl, Or.inr rfl⟩) (fun _ => ?_) (fun z => absurd rfl z)
      · unfold f_X10_isSameText
        simp (disch := omega) only [li, nI_add, pk_mul, ix_n, lt_n, le_n, eq_n, sub_n, dec_n, inb_t, neg_n, neg_n', ck_true, stp_eq, bnd_some, wp_some, wp_stp, Nat.add_zero, Nat.lt_irrefl, Nat.reduceEqDiff, Nat.reduceAdd, Nat.reduceSub, Nat.reduceMul, Nat.reduceLT, Nat.reduceLeDiff, up_o, up_ss, up_sn, zb_n1, true_and, and_true, ↓reduceIte, c_rW q hw, c_rW q hv, q.ck, q.C.o, e]
      · have z := (q.zo (nI 1)).z0
        unfold f_X11_isSameText
        simp (disch := omega) only [li, nI_add, pk_mul, ix_n, lt_n, le_n, eq_n, sub_n, dec_n, inb_t, neg_n, neg_n', ck_true, stp_eq, bnd_some, wp_some, wp_stp, Nat.add_zero, Nat.lt_irrefl, Nat.reduceEqDiff, Nat.reduceAdd, Nat.reduceSub, Nat.reduceMul, Nat.reduceLT, Nat.reduceLeDiff, up_o, up_ss, up_sn, zb_n1, true_and, and_true, ↓reduceIte, m_noWord z.W z.G hw, m_noWord z.W z.G hv, m_of1 z.W z.G hw, m_of1 z.W z.G hv, e]
        exact MA.ok0
    · refine QA.thz (Y := fun g => f_X11_isSameText g (nI w) (nI v)) (t := 0) (v := nI 0) ?_ (Or.inl ⟨rfl, Or.inl rfl⟩) (fun _ => ?_) (fun z => absurd rfl z)
      · unfold f_X10_isSameText
        simp (disch := omega) only [li, nI_add, pk_mul, ix_n, lt_n, le_n, eq_n, sub_n, dec_n, inb_t, neg_n, neg_n', ck_true, stp_eq, bnd_some, wp_some, wp_stp, Nat.add_zero, Nat.lt_irrefl, Nat.reduceEqDiff, Nat.reduceAdd, Nat.reduceSub, Nat.reduceMul, Nat.reduceLT, Nat.reduceLeDiff, up_o, up_ss, up_sn, zb_n1, true_and, and_true, ↓reduceIte, c_rW q hw, c_rW q hv, q.ck, q.C.o, e]
      · have z := (q.zo (nI 0)).z0
        unfold f_X11_isSameText
        simp (disch := omega) only [li, nI_add, pk_mul, ix_n, lt_n, le_n, eq_n, sub_n, dec_n, inb_t, neg_n, neg_n', ck_true, stp_eq, bnd_some, wp_some, wp_stp, Nat.add_zero, Nat.lt_irrefl, Nat.reduceEqDiff, Nat.reduceAdd, Nat.reduceSub, Nat.reduceMul, Nat.reduceLT, Nat.reduceLeDiff, up_o, up_ss, up_sn, zb_n1, true_and, and_true, ↓reduceIte, m_noWord z.W z.G hw, m_noWord z.W z.G hv, m_of1 z.W z.G hw, m_of1 z.W z.G hv, n27_inj (q.W.tx w hw) (q.W.tx v hv), e]
        exact MA.ok0
theorem qa9 (q : QQ h g c R E) (x y : Int32) : QA (A_9 h g x y) h g := by
  have h4 := q.W.w40
  unfold A_9 f_L_overlap
  rcases idb x (n := R 0 4) (by omega) with hx | ⟨w, hw, rfl⟩
  · refine QA.thz (Y := fun g => f_X11_overlap g x y) (t := 1) (v := nI 0) ?_ (by simp) (fun z => absurd z (by decide)) (fun _ => ?_)
    · unfold f_X10_overlap
      simp (disch := omega) only [li, nI_add, pk_mul, ix_n, lt_n, le_n, eq_n, sub_n, dec_n, inb_t, neg_n, neg_n', ck_true, stp_eq, bnd_some, wp_some, wp_stp, Nat.add_zero, Nat.lt_irrefl, Nat.reduceEqDiff, Nat.reduceAdd, Nat.reduceSub, Nat.reduceMul, Nat.reduceLT, Nat.reduceLeDiff, up_o, up_ss, up_sn, zb_n1, true_and, and_true, ↓reduceIte, c_rW' q hx]
    · have z := q.z0
      unfold f_X11_overlap
      simp (disch := omega) only [li, nI_add, pk_mul, ix_n, lt_n, le_n, eq_n, sub_n, dec_n, inb_t, neg_n, neg_n', ck_true, stp_eq, bnd_some, wp_some, wp_stp, Nat.add_zero, Nat.lt_irrefl, Nat.reduceEqDiff, Nat.reduceAdd, Nat.reduceSub, Nat.reduceMul, Nat.reduceLT, Nat.reduceLeDiff, up_o, up_ss, up_sn, zb_n1, true_and, and_true, ↓reduceIte, m_noWord' z.W z.G hx]
      exact MA.fail (by decide)
  rcases idb y (n := R 0 4) (by omega) with hy | ⟨v, hv, rfl⟩
  · refine QA.thz (Y := fun g => f_X11_overlap g (nI w) y) (t := 1) (v := nI 0) ?_ (by simp) (fun z => absurd z (by decide)) (fun _ => ?_)
    · unfold f_X10_overlap
      simp (disch := omega) only [li, nI_add, pk_mul, ix_n, lt_n, le_n, eq_n, sub_n, dec_n, inb_t, neg_n, neg_n', ck_true, stp_eq, bnd_some, wp_some, wp_stp, Nat.add_zero, Nat.lt_irrefl, Nat.reduceEqDiff, Nat.reduceAdd, Nat.reduceSub, Nat.reduceMul, Nat.reduceLT, Nat.reduceLeDiff, up_o, up_ss, up_sn, zb_n1, true_and, and_true, ↓reduceIte, c_rW q hw, c_rW' q hy]
    · have z := q.z0
      unfold f_X11_overlap
      simp (disch := omega) only [li, nI_add, pk_mul, ix_n, lt_n, le_n, eq_n, sub_n, dec_n, inb_t, neg_n, neg_n', ck_true, stp_eq, bnd_some, wp_some, wp_stp, Nat.add_zero, Nat.lt_irrefl, Nat.reduceEqDiff, Nat.reduceAdd, Nat.reduceSub, Nat.reduceMul, Nat.reduceLT, Nat.reduceLeDiff, up_o, up_ss, up_sn, zb_n1, true_and, and_true, ↓reduceIte, m_noWord z.W z.G hw, m_noWord' z.W z.G hy]
      exact MA.fail (by decide)
  · by_cases e : shr R w v
    · refine QA.thz (Y := fun g => f_X11_overlap g (nI w) (nI v)) (t := 0) (v := nI 1) ?_ (Or.inl ⟨rfl, Or.inr rfl⟩) (fun _ => ?_) (fun z => absurd rfl z)
      · unfold f_X10_overlap
        have e1 := c_shareFrame q.W q.C hw hv
        rw [if_pos e] at e1
        simp (disch := omega) only [li, nI_add, pk_mul, ix_n, lt_n, le_n, eq_n, sub_n, dec_n, inb_t, neg_n, neg_n', ck_true, stp_eq, bnd_some, wp_some, wp_stp, Nat.add_zero, Nat.lt_irrefl, Nat.reduceEqDiff, Nat.reduceAdd, Nat.reduceSub, Nat.reduceMul, Nat.reduceLT, Nat.reduceLeDiff, up_o, up_ss, up_sn, zb_n1, true_and, and_true, ↓reduceIte, c_rW q hw, c_rW q hv, q.ck, e1]
      · have z := (q.zo (nI 1)).z0
        unfold f_X11_overlap
        have e1 := m_share z.W z.G hw hv
        rw [if_pos e] at e1
        simp (disch := omega) only [li, nI_add, pk_mul, ix_n, lt_n, le_n, eq_n, sub_n, dec_n, inb_t, neg_n, neg_n', ck_true, stp_eq, bnd_some, wp_some, wp_stp, Nat.add_zero, Nat.lt_irrefl, Nat.reduceEqDiff, Nat.reduceAdd, Nat.reduceSub, Nat.reduceMul, Nat.reduceLT, Nat.reduceLeDiff, up_o, up_ss, up_sn, zb_n1, true_and, and_true, ↓reduceIte, m_noWord z.W z.G hw, m_noWord z.W z.G hv, e1]
        exact MA.ok0
    · refine QA.thz (Y := fun g => f_X11_overlap g (nI w) (nI v)) (t := 0) (v := nI 0) ?_ (Or.inl ⟨rfl, Or.inl rfl⟩) (fun _ => ?_) (fun z => absurd rfl z)
      · unfold f_X10_overlap
        have e1 := c_shareFrame q.W q.C hw hv
        rw [if_neg e] at e1
        simp (disch := omega) only [li, nI_add, pk_mul, ix_n, lt_n, le_n, eq_n, sub_n, dec_n, inb_t, neg_n, neg_n', ck_true, stp_eq, bnd_some, wp_some, wp_stp, Nat.add_zero, Nat.lt_irrefl, Nat.reduceEqDiff, Nat.reduceAdd, Nat.reduceSub, Nat.reduceMul, Nat.reduceLT, Nat.reduceLeDiff, up_o, up_ss, up_sn, zb_n1, true_and, and_true, ↓reduceIte, c_rW q hw, c_rW q hv, q.ck, e1]
      · have z := (q.zo (nI 0)).z0
        unfold f_X11_overlap
        have e1 := m_share z.W z.G hw hv
        rw [if_neg e] at e1
        simp (disch := omega) only [li, nI_add, pk_mul, ix_n, lt_n, le_n, eq_n, sub_n, dec_n, inb_t, neg_n, neg_n', ck_true, stp_eq, bnd_some, wp_some, wp_stp, Nat.add_zero, Nat.lt_irrefl, Nat.reduceEqDiff, Nat.reduceAdd, Nat.reduceSub, Nat.reduceMul, Nat.reduceLT, Nat.reduceLeDiff, up_o, up_ss, up_sn, zb_n1, true_and, and_true, ↓reduceIte, m_noWord z.W z.G hw, m_noWord z.W z.G hv, e1]
        exact MA.ok0
theorem wf11 (q : QQ h g c R E) {b : Nat} (hb : b < R 0 13) (y : Int32) : ∃ v, f_X10_blockField h (nI b) y = some (0, v) ∧ ∀ g1, QQ h g1 c R E → f_X11_blockField g1 (nI b) y = some (v, up g1 125 0 (nI 0)) := by
  have h1 := q.W.w40
  have h2 := q.W.bw
  have h3 := q.W.wlt b hb
  have h4 := bw_le q.W (b := b + 1) (by omega)
  unfold f_X10_blockField f_X11_blockField
  by_cases y0 : y = nI 0
  · exact ⟨nI (R 10 b), by simp (disch := omega) only [li, nI_add, pk_mul, ix_n, lt_n, le_n, eq_n, sub_n, dec_n, inb_t, neg_n, neg_n', ck_true, stp_eq, bnd_some, wp_some, wp_stp, Nat.add_zero, Nat.lt_irrefl, Nat.reduceEqDiff, Nat.reduceAdd, Nat.reduceSub, Nat.reduceMul, Nat.reduceLT, Nat.reduceLeDiff, up_o, up_ss, up_sn, zb_n1, true_and, and_true, ↓reduceIte, c_rB q hb, q.ck, y0, q.C.o], fun g1 q1 => by have z := q1.z0; simp (disch := omega) only [li, nI_add, pk_mul, ix_n, lt_n, le_n, eq_n, sub_n, dec_n, inb_t, neg_n, neg_n', ck_true, stp_eq, bnd_some, wp_some, wp_stp, Nat.add_zero, Nat.lt_irrefl, Nat.reduceEqDiff, Nat.reduceAdd, Nat.reduceSub, Nat.reduceMul, Nat.reduceLT, Nat.reduceLeDiff, up_o, up_ss, up_sn, zb_n1, true_and, and_true, ↓reduceIte, m_noBlock z.W z.G hb, y0, q1.G.bs]⟩
  by_cases y1 : y = nI 1
  · exact ⟨nI (R 11 b), by simp (disch := omega) only [li, nI_add, pk_mul, ix_n, lt_n, le_n, eq_n, sub_n, dec_n, inb_t, neg_n, neg_n', ck_true, stp_eq, bnd_some, wp_some, wp_stp, Nat.add_zero, Nat.lt_irrefl, Nat.reduceEqDiff, Nat.reduceAdd, Nat.reduceSub, Nat.reduceMul, Nat.reduceLT, Nat.reduceLeDiff, up_o, up_ss, up_sn, zb_n1, true_and, and_true, ↓reduceIte, c_rB q hb, q.ck, y1, q.C.o], fun g1 q1 => by have z := q1.z0; simp (disch := omega) only [li, nI_add, pk_mul, ix_n, lt_n, le_n, eq_n, sub_n, dec_n, inb_t, neg_n, neg_n', ck_true, stp_eq, bnd_some, wp_some, wp_stp, Nat.add_zero, Nat.lt_irrefl, Nat.reduceEqDiff, Nat.reduceAdd, Nat.reduceSub, Nat.reduceMul, Nat.reduceLT, Nat.reduceLeDiff, up_o, up_ss, up_sn, zb_n1, true_and, and_true, ↓reduceIte, m_noBlock z.W z.G hb, y1, q1.G.be]⟩
  by_cases y2 : y = nI 2
  · exact ⟨nI (R 9 (b + 1) - R 9 b), by simp (disch := omega) only [li, nI_add, pk_mul, ix_n, lt_n, le_n, eq_n, sub_n, dec_n, inb_t, neg_n, neg_n', ck_true, stp_eq, bnd_some, wp_some, wp_stp, Nat.add_zero, Nat.lt_irrefl, Nat.reduceEqDiff, Nat.reduceAdd, Nat.reduceSub, Nat.reduceMul, Nat.reduceLT, Nat.reduceLeDiff, up_o, up_ss, up_sn, zb_n1, true_and, and_true, ↓reduceIte, c_rB q hb, q.ck, y2, q.C.o], fun g1 q1 => by have z := q1.z0; simp (disch := omega) only [li, nI_add, pk_mul, ix_n, lt_n, le_n, eq_n, sub_n, dec_n, inb_t, neg_n, neg_n', ck_true, stp_eq, bnd_some, wp_some, wp_stp, Nat.add_zero, Nat.lt_irrefl, Nat.reduceEqDiff, Nat.reduceAdd, Nat.reduceSub, Nat.reduceMul, Nat.reduceLT, Nat.reduceLeDiff, up_o, up_ss, up_sn, zb_n1, true_and, and_true, ↓reduceIte, m_noBlock z.W z.G hb, y2, q1.G.bw]⟩
  by_cases y3 : y = nI 3
  · exact ⟨nI (kw R E b (R 9 (b + 1))).length, by simp (disch := omega) only [li, nI_add, pk_mul, ix_n, lt_n, le_n, eq_n, sub_n, dec_n, inb_t, neg_n, neg_n', ck_true, stp_eq, bnd_some, wp_some, wp_stp, Nat.add_zero, Nat.lt_irrefl, Nat.reduceEqDiff, Nat.reduceAdd, Nat.reduceSub, Nat.reduceMul, Nat.reduceLT, Nat.reduceLeDiff, up_o, up_ss, up_sn, zb_n1, true_and, and_true, ↓reduceIte, c_rB q hb, q.ck, y3, c_countKept q.W q.E q.C q.D q.p q.k hb], fun g1 q1 => by have z := q1.z0; simp (disch := omega) only [li, nI_add, pk_mul, ix_n, lt_n, le_n, eq_n, sub_n, dec_n, inb_t, neg_n, neg_n', ck_true, stp_eq, bnd_some, wp_some, wp_stp, Nat.add_zero, Nat.lt_irrefl, Nat.reduceEqDiff, Nat.reduceAdd, Nat.reduceSub, Nat.reduceMul, Nat.reduceLT, Nat.reduceLeDiff, up_o, up_ss, up_sn, zb_n1, true_and, and_true, ↓reduceIte, m_noBlock z.W z.G hb, y3, m_keptIn z.W z.E z.G z.M hb]⟩
  by_cases y4 : y = nI 4
  · exact ⟨nI (rs R b), by simp (disch := omega) only [li, nI_add, pk_mul, ix_n, lt_n, le_n, eq_n, sub_n, dec_n, inb_t, neg_n, neg_n', ck_true, stp_eq, bnd_some, wp_some, wp_stp, Nat.add_zero, Nat.lt_irrefl, Nat.reduceEqDiff, Nat.reduceAdd, Nat.reduceSub, Nat.reduceMul, Nat.reduceLT, Nat.reduceLeDiff, up_o, up_ss, up_sn, zb_n1, true_and, and_true, ↓reduceIte, c_rB q hb, q.ck, y4, c_rangeStart q.W q.C hb], fun g1 q1 => by have z := q1.z0; simp (disch := omega) only [li, nI_add, pk_mul, ix_n, lt_n, le_n, eq_n, sub_n, dec_n, inb_t, neg_n, neg_n', ck_true, stp_eq, bnd_some, wp_some, wp_stp, Nat.add_zero, Nat.lt_irrefl, Nat.reduceEqDiff, Nat.reduceAdd, Nat.reduceSub, Nat.reduceMul, Nat.reduceLT, Nat.reduceLeDiff, up_o, up_ss, up_sn, zb_n1, true_and, and_true, ↓reduceIte, m_noBlock z.W z.G hb, y4, m_rangeStart z.W z.G hb]⟩
  by_cases y5 : y = nI 5
  · exact ⟨nI (R 12 b), by simp (disch := omega) only [li, nI_add, pk_mul, ix_n, lt_n, le_n, eq_n, sub_n, dec_n, inb_t, neg_n, neg_n', ck_true, stp_eq, bnd_some, wp_some, wp_stp, Nat.add_zero, Nat.lt_irrefl, Nat.reduceEqDiff, Nat.reduceAdd, Nat.reduceSub, Nat.reduceMul, Nat.reduceLT, Nat.reduceLeDiff, up_o, up_ss, up_sn, zb_n1, true_and, and_true, ↓reduceIte, c_rB q hb, q.ck, y5, q.C.o], fun g1 q1 => by have z := q1.z0; simp (disch := omega) only [li, nI_add, pk_mul, ix_n, lt_n, le_n, eq_n, sub_n, dec_n, inb_t, neg_n, neg_n', ck_true, stp_eq, bnd_some, wp_some, wp_stp, Nat.add_zero, Nat.lt_irrefl, Nat.reduceEqDiff, Nat.reduceAdd, Nat.reduceSub, Nat.reduceMul, Nat.reduceLT, Nat.reduceLeDiff, up_o, up_ss, up_sn, zb_n1, true_and, and_true, ↓reduceIte, m_noBlock z.W z.G hb, y5, m_rangeEnd z.W z.G hb]⟩
  by_cases y6 : y = nI 6
  · exact ⟨nI (E 3 b), by simp (disch := omega) only [li, nI_add, pk_mul, ix_n, lt_n, le_n, eq_n, sub_n, dec_n, inb_t, neg_n, neg_n', ck_true, stp_eq, bnd_some, wp_some, wp_stp, Nat.add_zero, Nat.lt_irrefl, Nat.reduceEqDiff, Nat.reduceAdd, Nat.reduceSub, Nat.reduceMul, Nat.reduceLT, Nat.reduceLeDiff, up_o, up_ss, up_sn, zb_n1, true_and, and_true, ↓reduceIte, c_rB q hb, q.ck, y6, q.D.hd], fun g1 q1 => by have z := q1.z0; simp (disch := omega) only [li, nI_add, pk_mul, ix_n, lt_n, le_n, eq_n, sub_n, dec_n, inb_t, neg_n, neg_n', ck_true, stp_eq, bnd_some, wp_some, wp_stp, Nat.add_zero, Nat.lt_irrefl, Nat.reduceEqDiff, Nat.reduceAdd, Nat.reduceSub, Nat.reduceMul, Nat.reduceLT, Nat.reduceLeDiff, up_o, up_ss, up_sn, zb_n1, true_and, and_true, ↓reduceIte, m_noBlock z.W z.G hb, y6, q1.M.hd]⟩
  by_cases y7 : y = nI 7
  · exact ⟨nI (E 4 b), by simp (disch := omega) only [li, nI_add, pk_mul, ix_n, lt_n, le_n, eq_n, sub_n, dec_n, inb_t, neg_n, neg_n', ck_true, stp_eq, bnd_some, wp_some, wp_stp, Nat.add_zero, Nat.lt_irrefl, Nat.reduceEqDiff, Nat.reduceAdd, Nat.reduceSub, Nat.reduceMul, Nat.reduceLT, Nat.reduceLeDiff, up_o, up_ss, up_sn, zb_n1, true_and, and_true, ↓reduceIte, c_rB q hb, q.ck, y7, q.D.tl], fun g1 q1 => by have z := q1.z0; simp (disch := omega) only [li, nI_add, pk_mul, ix_n, lt_n, le_n, eq_n, sub_n, dec_n, inb_t, neg_n, neg_n', ck_true, stp_eq, bnd_some, wp_some, wp_stp, Nat.add_zero, Nat.lt_irrefl, Nat.reduceEqDiff, Nat.reduceAdd, Nat.reduceSub, Nat.reduceMul, Nat.reduceLT, Nat.reduceLeDiff, up_o, up_ss, up_sn, zb_n1, true_and, and_true, ↓reduceIte, m_noBlock z.W z.G hb, y7, q1.M.tl]⟩
  by_cases y8 : y = nI 8
  · exact ⟨oI (E 0 1) (sch (fun s => E 2 s = b) (E 0 1)), by simp (disch := omega) only [li, nI_add, pk_mul, ix_n, lt_n, le_n, eq_n, sub_n, dec_n, inb_t, neg_n, neg_n', ck_true, stp_eq, bnd_some, wp_some, wp_stp, Nat.add_zero, Nat.lt_irrefl, Nat.reduceEqDiff, Nat.reduceAdd, Nat.reduceSub, Nat.reduceMul, Nat.reduceLT, Nat.reduceLeDiff, up_o, up_ss, up_sn, zb_n1, true_and, and_true, ↓reduceIte, c_rB q hb, q.ck, y8, q.F.bs], fun g1 q1 => by have z := q1.z0; simp (disch := omega) only [li, nI_add, pk_mul, ix_n, lt_n, le_n, eq_n, sub_n, dec_n, inb_t, neg_n, neg_n', ck_true, stp_eq, bnd_some, wp_some, wp_stp, Nat.add_zero, Nat.lt_irrefl, Nat.reduceEqDiff, Nat.reduceAdd, Nat.reduceSub, Nat.reduceMul, Nat.reduceLT, Nat.reduceLeDiff, up_o, up_ss, up_sn, zb_n1, true_and, and_true, ↓reduceIte, m_noBlock z.W z.G hb, y8, m_shotOf z.W z.E z.M]⟩
  · exact ⟨-nI 1, by simp (disch := omega) only [li, nI_add, pk_mul, ix_n, lt_n, le_n, eq_n, sub_n, dec_n, inb_t, neg_n, neg_n', ck_true, stp_eq, bnd_some, wp_some, wp_stp, Nat.add_zero, Nat.lt_irrefl, Nat.reduceEqDiff, Nat.reduceAdd, Nat.reduceSub, Nat.reduceMul, Nat.reduceLT, Nat.reduceLeDiff, up_o, up_ss, up_sn, zb_n1, true_and, and_true, ↓reduceIte, c_rB q hb, q.ck, y0, y1, y2, y3, y4, y5, y6, y7, y8], fun g1 q1 => by have z := q1.z0; simp (disch := omega) only [li, nI_add, pk_mul, ix_n, lt_n, le_n, eq_n, sub_n, dec_n, inb_t, neg_n, neg_n', ck_true, stp_eq, bnd_some, wp_some, wp_stp, Nat.add_zero, Nat.lt_irrefl, Nat.reduceEqDiff, Nat.reduceAdd, Nat.reduceSub, Nat.reduceMul, Nat.reduceLT, Nat.reduceLeDiff, up_o, up_ss, up_sn, zb_n1, true_and, and_true, ↓reduceIte, m_noBlock z.W z.G hb, y0, y1, y2, y3, y4, y5, y6, y7, y8]⟩
theorem qa11 (q : QQ h g c R E) (x y : Int32) : QA (A_11 h g x y) h g := by
  have h4 := q.W.w40
  have h5 := q.W.bw
  unfold A_11 f_L_blockField
  rcases idb x (n := R 0 13) (by omega) with hx | ⟨w, hw, rfl⟩
  · refine QA.thr (Y := fun g => f_X11_blockField g x y) (t := 1) (v := nI 0) (w := 0) ?_ (by simp) (fun z => absurd z (by decide)) (fun _ => ?_) 1 rfl
    · unfold f_X10_blockField
      rw [c_rB' q hx, bnd_some, if_neg (by decide)]
      rfl
    · have z := q.z0
      show MA (bnd (f_X11_noBlock (up g 125 0 (nI 0)) x) _) _ _ _
      rw [m_noBlock' z.W z.G hx, bnd_some, if_neg (show ¬ nI 1 = 0 by decide)]
      exact MA.fail (by decide)
  · obtain ⟨v, e1, e2⟩ := wf11 q hw y
    exact QA.thr (Y := fun g => f_X11_blockField g (nI w) y) (t := 0) (w := 0) e1 (by simp) (fun _ => by rw [e2 _ (q.zo v)]; exact MA.ok0) (fun z => absurd rfl z) 1 rfl
theorem qa13 (q : QQ h g c R E) (x : Int32) : QA (A_13 h g x) h g := by
  have h4 := q.W.w40
  have h5 := q.W.bw
  unfold A_13 f_L_isSnapped
  rcases idb x (n := R 0 13) (by omega) with hx | ⟨w, hw, rfl⟩
  · refine QA.thz (Y := fun g => f_X11_isSnapped g x) (t := 1) (v := nI 0) ?_ (by simp) (fun z => absurd z (by decide)) (fun _ => ?_)
    · unfold f_X10_isSnapped
      simp (disch := omega) only [li, nI_add, pk_mul, ix_n, lt_n, le_n, eq_n, sub_n, dec_n, inb_t, neg_n, neg_n', ck_true, stp_eq, bnd_some, wp_some, wp_stp, Nat.add_zero, Nat.lt_irrefl, Nat.reduceEqDiff, Nat.reduceAdd, Nat.reduceSub, Nat.reduceMul, Nat.reduceLT, Nat.reduceLeDiff, up_o, up_ss, up_sn, zb_n1, true_and, and_true, ↓reduceIte, c_rB' q hx]
    · have z := q.z0
      unfold f_X11_isSnapped
      simp (disch := omega) only [li, nI_add, pk_mul, ix_n, lt_n, le_n, eq_n, sub_n, dec_n, inb_t, neg_n, neg_n', ck_true, stp_eq, bnd_some, wp_some, wp_stp, Nat.add_zero, Nat.lt_irrefl, Nat.reduceEqDiff, Nat.reduceAdd, Nat.reduceSub, Nat.reduceMul, Nat.reduceLT, Nat.reduceLeDiff, up_o, up_ss, up_sn, zb_n1, true_and, and_true, ↓reduceIte, m_noBlock' z.W z.G hx]
      exact MA.fail (by decide)
  · have h6 := q.W.sn w hw
    refine QA.thz (Y := fun g => f_X11_isSnapped g (nI w)) (t := 0) (v := nI (R 13 w)) ?_ ?_ (fun _ => ?_) (fun z => absurd rfl z)
    · unfold f_X10_isSnapped
      simp (disch := omega) only [li, nI_add, pk_mul, ix_n, lt_n, le_n, eq_n, sub_n, dec_n, inb_t, neg_n, neg_n', ck_true, stp_eq, bnd_some, wp_some, wp_stp, Nat.add_zero, Nat.lt_irrefl, Nat.reduceEqDiff, Nat.reduceAdd, Nat.reduceSub, Nat.reduceMul, Nat.reduceLT, Nat.reduceLeDiff, up_o, up_ss, up_sn, zb_n1, true_and, and_true, ↓reduceIte, c_rB q hw, q.ck, q.C.o]
    · rcases Nat.le_one_iff_eq_zero_or_eq_one.mp h6 with e | e
      · rw [e]; exact Or.inl ⟨rfl, Or.inl rfl⟩
      · rw [e]; exact Or.inl ⟨rfl, Or.inr rfl⟩
    · unfold f_X11_isSnapped
      rcases Nat.le_one_iff_eq_zero_or_eq_one.mp h6 with e | e
      · have z := (q.zo (nI 0)).z0
        simp (disch := omega) only [li, nI_add, pk_mul, ix_n, lt_n, le_n, eq_n, sub_n, dec_n, inb_t, neg_n, neg_n', ck_true, stp_eq, bnd_some, wp_some, wp_stp, Nat.add_zero, Nat.lt_irrefl, Nat.reduceEqDiff, Nat.reduceAdd, Nat.reduceSub, Nat.reduceMul, Nat.reduceLT, Nat.reduceLeDiff, up_o, up_ss, up_sn, zb_n1, true_and, and_true, ↓reduceIte, m_noBlock z.W z.G hw, q.G.sn, e]
        exact MA.ok0
      · have z := (q.zo (nI 1)).z0
        simp (disch := omega) only [li, nI_add, pk_mul, ix_n, lt_n, le_n, eq_n, sub_n, dec_n, inb_t, neg_n, neg_n', ck_true, stp_eq, bnd_some, wp_some, wp_stp, Nat.add_zero, Nat.lt_irrefl, Nat.reduceEqDiff, Nat.reduceAdd, Nat.reduceSub, Nat.reduceMul, Nat.reduceLT, Nat.reduceLeDiff, up_o, up_ss, up_sn, zb_n1, true_and, and_true, ↓reduceIte, m_noBlock z.W z.G hw, q.G.sn, e]
        exact MA.ok0
theorem qa15 (q : QQ h g c R E) : QA (A_15 h g) h g := by
  refine QA.of (v := nI (E 0 1)) ?_ ?_
  · unfold f_X10_shots
    rw [q.D.z]
  · unfold f_X11_shots
    simp (disch := omega) only [li, nI_add, pk_mul, ix_n, lt_n, le_n, eq_n, sub_n, dec_n, inb_t, neg_n, neg_n', ck_true, stp_eq, bnd_some, wp_some, wp_stp, Nat.add_zero, Nat.lt_irrefl, Nat.reduceEqDiff, Nat.reduceAdd, Nat.reduceSub, Nat.reduceMul, Nat.reduceLT, Nat.reduceLeDiff, up_o, up_ss, up_sn, zb_n1, true_and, and_true, ↓reduceIte, q.M.n]
    exact GW.upF g (by decide)
theorem qa16 (q : QQ h g c R E) (x : Int32) : QA (A_16 h g x) h g := by
  have h4 := q.W.w40
  have h5 := q.W.bw
  have h6 := q.E.n
  unfold A_16 f_L_blockOf
  rcases idb x (n := E 0 1) (by omega) with hx | ⟨w, hw, rfl⟩
  · refine QA.thr (Y := fun g => f_X11_blockOf g x) (t := 1) (v := nI 0) (w := 0) ?_ (by simp) (fun z => absurd z (by decide)) (fun _ => ?_) 1 rfl
    · unfold f_X10_blockOf
      simp (disch := omega) only [li, nI_add, pk_mul, ix_n, lt_n, le_n, eq_n, sub_n, dec_n, inb_t, neg_n, neg_n', ck_true, stp_eq, bnd_some, wp_some, wp_stp, Nat.add_zero, Nat.lt_irrefl, Nat.reduceEqDiff, Nat.reduceAdd, Nat.reduceSub, Nat.reduceMul, Nat.reduceLT, Nat.reduceLeDiff, up_o, up_ss, up_sn, zb_n1, true_and, and_true, ↓reduceIte, c_rS' q hx]
    · have z := q.z0
      unfold f_X11_blockOf
      simp (disch := omega) only [li, nI_add, pk_mul, ix_n, lt_n, le_n, eq_n, sub_n, dec_n, inb_t, neg_n, neg_n', ck_true, stp_eq, bnd_some, wp_some, wp_stp, Nat.add_zero, Nat.lt_irrefl, Nat.reduceEqDiff, Nat.reduceAdd, Nat.reduceSub, Nat.reduceMul, Nat.reduceLT, Nat.reduceLeDiff, up_o, up_ss, up_sn, zb_n1, true_and, and_true, ↓reduceIte, m_noShot' z.W z.E z.M hx]
      exact MA.fail (by decide)
  · refine QA.thr (Y := fun g => f_X11_blockOf g (nI w)) (t := 0) (v := nI (E 2 w)) (w := 0) ?_ (by simp) (fun _ => ?_) (fun z => absurd rfl z) 1 rfl
    · unfold f_X10_blockOf
      simp (disch := omega) only [li, nI_add, pk_mul, ix_n, lt_n, le_n, eq_n, sub_n, dec_n, inb_t, neg_n, neg_n', ck_true, stp_eq, bnd_some, wp_some, wp_stp, Nat.add_zero, Nat.lt_irrefl, Nat.reduceEqDiff, Nat.reduceAdd, Nat.reduceSub, Nat.reduceMul, Nat.reduceLT, Nat.reduceLeDiff, up_o, up_ss, up_sn, zb_n1, true_and, and_true, ↓reduceIte, c_rS q hw, q.D.o]
    · have z := (q.zo (nI (E 2 w))).z0
      unfold f_X11_blockOf
      simp (disch := omega) only [li, nI_add, pk_mul, ix_n, lt_n, le_n, eq_n, sub_n, dec_n, inb_t, neg_n, neg_n', ck_true, stp_eq, bnd_some, wp_some, wp_stp, Nat.add_zero, Nat.lt_irrefl, Nat.reduceEqDiff, Nat.reduceAdd, Nat.reduceSub, Nat.reduceMul, Nat.reduceLT, Nat.reduceLeDiff, up_o, up_ss, up_sn, zb_n1, true_and, and_true, ↓reduceIte, m_noShot z.W z.E z.M hw, m_shotBlock z.W z.E z.M hw]
      exact MA.ok0
theorem wf17 (q : QQ h g c R E) {s : Nat} (hs : s < E 0 1) (y : Int32) : ∃ v, f_X10_shotField h (nI s) y = some (0, v) ∧ ∀ g1, QQ h g1 c R E → f_X11_shotField g1 (nI s) y = some (v, up g1 125 0 (nI 0)) := by
  have h1 := q.W.w40
  have h2 := q.W.bw
  have h3 := q.E.n
  have h4 := q.E.lt s hs
  unfold f_X10_shotField f_X11_shotField
  by_cases y0 : y = nI 0
  · exact ⟨nI (pf R E (E 2 s)), by simp (disch := omega) only [li, nI_add, pk_mul, ix_n, lt_n, le_n, eq_n, sub_n, dec_n, inb_t, neg_n, neg_n', ck_true, stp_eq, bnd_some, wp_some, wp_stp, Nat.add_zero, Nat.lt_irrefl, Nat.reduceEqDiff, Nat.reduceAdd, Nat.reduceSub, Nat.reduceMul, Nat.reduceLT, Nat.reduceLeDiff, up_o, up_ss, up_sn, zb_n1, true_and, and_true, ↓reduceIte, c_rS q hs, y0, q.F.first], fun g1 q1 => by have z := q1.z0; simp (disch := omega) only [li, nI_add, pk_mul, ix_n, lt_n, le_n, eq_n, sub_n, dec_n, inb_t, neg_n, neg_n', ck_true, stp_eq, bnd_some, wp_some, wp_stp, Nat.add_zero, Nat.lt_irrefl, Nat.reduceEqDiff, Nat.reduceAdd, Nat.reduceSub, Nat.reduceMul, Nat.reduceLT, Nat.reduceLeDiff, up_o, up_ss, up_sn, zb_n1, true_and, and_true, ↓reduceIte, m_noShot z.W z.E z.M hs, m_shotBlock z.W z.E z.M hs, y0, m_playsFrom z.W z.E z.G z.M h4]⟩
  by_cases y1 : y = nI 1
  · exact ⟨nI (pt R E (E 2 s)), by simp (disch := omega) only [li, nI_add, pk_mul, ix_n, lt_n, le_n, eq_n, sub_n, dec_n, inb_t, neg_n, neg_n', ck_true, stp_eq, bnd_some, wp_some, wp_stp, Nat.add_zero, Nat.lt_irrefl, Nat.reduceEqDiff, Nat.reduceAdd, Nat.reduceSub, Nat.reduceMul, Nat.reduceLT, Nat.reduceLeDiff, up_o, up_ss, up_sn, zb_n1, true_and, and_true, ↓reduceIte, c_rS q hs, y1, q.F.behind], fun g1 q1 => by have z := q1.z0; simp (disch := omega) only [li, nI_add, pk_mul, ix_n, lt_n, le_n, eq_n, sub_n, dec_n, inb_t, neg_n, neg_n', ck_true, stp_eq, bnd_some, wp_some, wp_stp, Nat.add_zero, Nat.lt_irrefl, Nat.reduceEqDiff, Nat.reduceAdd, Nat.reduceSub, Nat.reduceMul, Nat.reduceLT, Nat.reduceLeDiff, up_o, up_ss, up_sn, zb_n1, true_and, and_true, ↓reduceIte, m_noShot z.W z.E z.M hs, m_shotBlock z.W z.E z.M hs, y1, m_playsTo z.W z.E z.G z.M h4]⟩
  by_cases y2 : y = nI 2
  · exact ⟨nI (fs R E s), by simp (disch := omega) only [li, nI_add, pk_mul, ix_n, lt_n, le_n, eq_n, sub_n, dec_n, inb_t, neg_n, neg_n', ck_true, stp_eq, bnd_some, wp_some, wp_stp, Nat.add_zero, Nat.lt_irrefl, Nat.reduceEqDiff, Nat.reduceAdd, Nat.reduceSub, Nat.reduceMul, Nat.reduceLT, Nat.reduceLeDiff, up_o, up_ss, up_sn, zb_n1, true_and, and_true, ↓reduceIte, c_rS q hs, y2, q.F.start], fun g1 q1 => by have z := q1.z0; simp (disch := omega) only [li, nI_add, pk_mul, ix_n, lt_n, le_n, eq_n, sub_n, dec_n, inb_t, neg_n, neg_n', ck_true, stp_eq, bnd_some, wp_some, wp_stp, Nat.add_zero, Nat.lt_irrefl, Nat.reduceEqDiff, Nat.reduceAdd, Nat.reduceSub, Nat.reduceMul, Nat.reduceLT, Nat.reduceLeDiff, up_o, up_ss, up_sn, zb_n1, true_and, and_true, ↓reduceIte, m_noShot z.W z.E z.M hs, m_shotBlock z.W z.E z.M hs, y2, m_filmStart z.W z.E z.G z.M (s := s) (by omega)]⟩
  · exact ⟨-nI 1, by simp (disch := omega) only [li, nI_add, pk_mul, ix_n, lt_n, le_n, eq_n, sub_n, dec_n, inb_t, neg_n, neg_n', ck_true, stp_eq, bnd_some, wp_some, wp_stp, Nat.add_zero, Nat.lt_irrefl, Nat.reduceEqDiff, Nat.reduceAdd, Nat.reduceSub, Nat.reduceMul, Nat.reduceLT, Nat.reduceLeDiff, up_o, up_ss, up_sn, zb_n1, true_and, and_true, ↓reduceIte, c_rS q hs, y0, y1, y2], fun g1 q1 => by have z := q1.z0; simp (disch := omega) only [li, nI_add, pk_mul, ix_n, lt_n, le_n, eq_n, sub_n, dec_n, inb_t, neg_n, neg_n', ck_true, stp_eq, bnd_some, wp_some, wp_stp, Nat.add_zero, Nat.lt_irrefl, Nat.reduceEqDiff, Nat.reduceAdd, Nat.reduceSub, Nat.reduceMul, Nat.reduceLT, Nat.reduceLeDiff, up_o, up_ss, up_sn, zb_n1, true_and, and_true, ↓reduceIte, m_noShot z.W z.E z.M hs, m_shotBlock z.W z.E z.M hs, y0, y1, y2]⟩
theorem qa17 (q : QQ h g c R E) (x y : Int32) : QA (A_17 h g x y) h g := by
  have h4 := q.W.w40
  have h5 := q.W.bw
  have h6 := q.E.n
  unfold A_17 f_L_shotField
  rcases idb x (n := E 0 1) (by omega) with hx | ⟨w, hw, rfl⟩
  · refine QA.thr (Y := fun g => f_X11_shotField g x y) (t := 1) (v := nI 0) (w := 0) ?_ (by simp) (fun z => absurd z (by decide)) (fun _ => ?_) 1 rfl
    · unfold f_X10_shotField
      simp (disch := omega) only [li, nI_add, pk_mul, ix_n, lt_n, le_n, eq_n, sub_n, dec_n, inb_t, neg_n, neg_n', ck_true, stp_eq, bnd_some, wp_some, wp_stp, Nat.add_zero, Nat.lt_irrefl, Nat.reduceEqDiff, Nat.reduceAdd, Nat.reduceSub, Nat.reduceMul, Nat.reduceLT, Nat.reduceLeDiff, up_o, up_ss, up_sn, zb_n1, true_and, and_true, ↓reduceIte, c_rS' q hx]
    · have z := q.z0
      unfold f_X11_shotField
      simp (disch := omega) only [li, nI_add, pk_mul, ix_n, lt_n, le_n, eq_n, sub_n, dec_n, inb_t, neg_n, neg_n', ck_true, stp_eq, bnd_some, wp_some, wp_stp, Nat.add_zero, Nat.lt_irrefl, Nat.reduceEqDiff, Nat.reduceAdd, Nat.reduceSub, Nat.reduceMul, Nat.reduceLT, Nat.reduceLeDiff, up_o, up_ss, up_sn, zb_n1, true_and, and_true, ↓reduceIte, m_noShot' z.W z.E z.M hx]
      exact MA.fail (by decide)
  · obtain ⟨v, e1, e2⟩ := wf17 q hw y
    exact QA.thr (Y := fun g => f_X11_shotField g (nI w) y) (t := 0) (w := 0) e1 (by simp) (fun _ => by rw [e2 _ (q.zo v)]; exact MA.ok0) (fun z => absurd rfl z) 1 rfl
theorem qa18 (q : QQ h g c R E) : QA (A_18 h g) h g := by
  have z := q.z0
  refine QA.of (v := nI (fs R E (E 0 1))) ?_ ?_
  · unfold f_X10_filmLength
    rw [q.F.fr]
  · unfold f_X11_filmLength
    simp (disch := omega) only [li, nI_add, pk_mul, ix_n, lt_n, le_n, eq_n, sub_n, dec_n, inb_t, neg_n, neg_n', ck_true, stp_eq, bnd_some, wp_some, wp_stp, Nat.add_zero, Nat.lt_irrefl, Nat.reduceEqDiff, Nat.reduceAdd, Nat.reduceSub, Nat.reduceMul, Nat.reduceLT, Nat.reduceLeDiff, up_o, up_ss, up_sn, zb_n1, true_and, and_true, ↓reduceIte, m_film z.W z.E z.G z.M]
    exact GW.upF g (by decide)
end
