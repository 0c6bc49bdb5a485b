/-! scripts: the class's commands S beside the tape T of the model's; phrases are found -/
def CS (h : Hp) (s : Nat) (S : Nat → Nat → Nat) : Prop :=
  (h s 0 = nI (S 0 0)) ∧
  (∀ o j, 1 ≤ o → o < 7 → h (s + o) j = nI (S o j))
theorem CS.z {h : Hp} {s : Nat} {S : Nat → Nat → Nat} (q : CS h s S) : h s 0 = nI (S 0 0) := q.1
theorem CS.o {h : Hp} {s : Nat} {S : Nat → Nat → Nat} (q : CS h s S) : ∀ o j, 1 ≤ o → o < 7 → h (s + o) j = nI (S o j) := q.2
def GS (g : Hp) (T : Nat → Nat) (n : Nat) : Prop :=
  (g 125 26 = nI n) ∧
  (n ≤ 700) ∧
  (∀ i, i < n → g 139 i = nI (T i))
theorem GS.n {g : Hp} {T : Nat → Nat} {n : Nat} (q : GS g T n) : g 125 26 = nI n := q.1
theorem GS.n7 {g : Hp} {T : Nat → Nat} {n : Nat} (q : GS g T n) : n ≤ 700 := q.2.1
theorem GS.t {g : Hp} {T : Nat → Nat} {n : Nat} (q : GS g T n) : ∀ i, i < n → g 139 i = nI (T i) := q.2.2
def PH (S : Nat → Nat → Nat) (T : Nat → Nat) (n : Nat) (ph : Nat) (k : Nat) : Prop :=
  (T k = S 5 ph) ∧
  (1 ≤ S 5 ph) ∧
  (S 5 ph ≤ 6) ∧
  (ph < 60) ∧
  (k + 1 + S 5 ph ≤ n) ∧
  (∀ i, i < S 5 ph → isName (S 6 (6 * ph + i))) ∧
  (∀ i, i < S 5 ph → T (k + 1 + i) = n27 (S 6 (6 * ph + i)))
theorem PH.n {S : Nat → Nat → Nat} {T : Nat → Nat} {n : Nat} {ph : Nat} {k : Nat} (q : PH S T n ph k) : T k = S 5 ph := q.1
theorem PH.n1 {S : Nat → Nat → Nat} {T : Nat → Nat} {n : Nat} {ph : Nat} {k : Nat} (q : PH S T n ph k) : 1 ≤ S 5 ph := q.2.1
theorem PH.n6 {S : Nat → Nat → Nat} {T : Nat → Nat} {n : Nat} {ph : Nat} {k : Nat} (q : PH S T n ph k) : S 5 ph ≤ 6 := q.2.2.1
theorem PH.p {S : Nat → Nat → Nat} {T : Nat → Nat} {n : Nat} {ph : Nat} {k : Nat} (q : PH S T n ph k) : ph < 60 := q.2.2.2.1
theorem PH.e {S : Nat → Nat → Nat} {T : Nat → Nat} {n : Nat} {ph : Nat} {k : Nat} (q : PH S T n ph k) : k + 1 + S 5 ph ≤ n := q.2.2.2.2.1
theorem PH.nm {S : Nat → Nat → Nat} {T : Nat → Nat} {n : Nat} {ph : Nat} {k : Nat} (q : PH S T n ph k) : ∀ i, i < S 5 ph → isName (S 6 (6 * ph + i)) := q.2.2.2.2.2.1
theorem PH.t {S : Nat → Nat → Nat} {T : Nat → Nat} {n : Nat} {ph : Nat} {k : Nat} (q : PH S T n ph k) : ∀ i, i < S 5 ph → T (k + 1 + i) = n27 (S 6 (6 * ph + i)) := q.2.2.2.2.2.2
theorem CS.fr {h h' : Hp} {s : Nat} {S : Nat → Nat → Nat} (q : CS h s S) (e : ∀ o, o < 7 → h' (s + o) = h (s + o)) : CS h' s S := ⟨by rw [show s = s + 0 from rfl, e 0 (by decide)]; exact q.z, fun o j a b => by rw [e o b]; exact q.o o j a b⟩
theorem GS.fr {g g' : Hp} {T : Nat → Nat} {n : Nat} (q : GS g T n) (w : GFr g g') : GS g' T n := ⟨by rw [w.2 26 (by decide) (by decide)]; exact q.n, q.n7, fun i hi => by rw [w.1 139 (by decide) (by decide) (by decide)]; exact q.t i hi⟩
/-- the phrase stands at place a -/
def hitT (R E S : Nat → Nat → Nat) (ph a : Nat) : Prop := a + S 5 ph ≤ (trA R E).length ∧ ∀ i, i < S 5 ph → ∃ w, (trA R E)[a + i]? = some w ∧ R 2 w = S 6 (6 * ph + i)
noncomputable def FP (R E S : Nat → Nat → Nat) (ph : Nat) : Nat := sch (hitT R E S ph) (trA R E).length
/-- the phrase stands at word a, and not all of it is kept -/
def hitW (R E S : Nat → Nat → Nat) (ph a : Nat) : Prop := a + S 5 ph ≤ R 0 4 ∧ (∀ i, i < S 5 ph → R 2 (a + i) = S 6 (6 * ph + i)) ∧ ∃ i, i < S 5 ph ∧ E 1 (a + i) = 0
noncomputable def FW (R E S : Nat → Nat → Nat) (ph : Nat) : Nat := sch (hitW R E S ph) (R 0 4)
section
variable {h g : Hp} {c s : Nat} {R E S : Nat → Nat → Nat} {T : Nat → Nat} {n ph q : Nat}
theorem nmAt (hS : CS h s S) {i : Nat} (hp : ph < 60) (hi : i < 6) : f_X6_nameAt h s (nI ph) (nI i) = some (nI (S 6 (6 * ph + i))) := by
  unfold f_X6_nameAt
  have e := hS.o 6 (6 * ph + i) (by omega) (by omega)
  have e2 : nI ph * nI 6 + nI i = nI (6 * ph + i) := by rw [pk_mul, nI_add, Nat.mul_comm]
  show ck (inb (nI ph * nI 6 + nI i) 360) (some (h (s + 6) (ix (nI ph * nI 6 + nI i)))) = _
  rw [e2, inb_t (by omega) (by omega), ck_true, ix_n (by omega), e]
theorem c_findPhrase (hW : WR R) (hE : WE R E) (hC : CR h c R) (hF : CF h R E) (hp : h 3 0 = nI c) (hk : knd c = 4 ∧ (c = 83 ∨ c = 97)) (hS : CS h s S) (hP : PH S T n ph q) : f_X1_findPhrase h s (nI ph) = some (oI (trA R E).length (FP R E S ph)) := by
  have hl := trA_le hW hE
  have h40 := hW.w40
  have p1 := hP.n1
  have p6 := hP.n6
  have pp := hP.p
  refine wp_eq.mp ?_
  unfold f_X1_findPhrase
  simp (disch := omega) only [li, nI_add, pk_mul, ix_n, lt_n, le_n, eq_n, sub_n, dec_n, inb_t, neg_n, neg_n', ck_true, stp_eq, bnd_some, wp_some, wp_stp, Nat.add_zero, Nat.lt_irrefl, Nat.reduceEqDiff, Nat.reduceAdd, Nat.reduceSub, Nat.reduceMul, Nat.reduceLT, Nat.reduceLeDiff, up_o, up_ss, up_sn, zb_n1, true_and, and_true, ↓reduceIte, hS.o]
  refine wp_for (i := 0) (trA R E).length (fun a st => st = nI a ∧ ∀ j, j < a → ¬ hitT R E S ph j) (by omega) (by omega) ⟨rfl, fun j hj => absurd hj (Nat.not_lt_zero _)⟩ ?_
  rintro a st r ha ⟨rfl, hno⟩ k
  unfold F_X1_findPhrase_10
  by_cases z : (trA R E).length < a + S 5 ph
  · simp (disch := omega) only [li, nI_add, pk_mul, ix_n, lt_n, le_n, eq_n, sub_n, dec_n, inb_t, neg_n, neg_n', ck_true, stp_eq, bnd_some, wp_some, wp_stp, Nat.add_zero, Nat.lt_irrefl, Nat.reduceEqDiff, Nat.reduceAdd, Nat.reduceSub, Nat.reduceMul, Nat.reduceLT, Nat.reduceLeDiff, up_o, up_ss, up_sn, zb_n1, true_and, and_true, ↓reduceIte, hF.pls, z]
    unfold FP
    have e : sch (hitT R E S ph) (trA R E).length = (trA R E).length := by
      refine sch_u (Nat.le_refl _) (fun j hj y => ?_) (fun y => absurd y (Nat.lt_irrefl _))
      by_cases y2 : j < a
      · exact hno j y2 y
      · have := y.1
        omega
    rw [e, oI, if_neg (Nat.lt_irrefl _)]
  · have next : ∀ i, i < S 5 ph → (∀ w, (trA R E)[a + i]? = some w → ¬ R 2 w = S 6 (6 * ph + i)) → Wp (J_X1_findPhrase_64 h s (nI ph) r (nI (S 5 ph)) (nI a) (nI i)) (fun v => v = oI (trA R E).length (FP R E S ph)) := by
      intro i hi hne
      have hne2 : ¬ i = S 5 ph := by omega
      unfold J_X1_findPhrase_64
      simp (disch := omega) only [li, nI_add, pk_mul, ix_n, lt_n, le_n, eq_n, sub_n, dec_n, inb_t, neg_n, neg_n', ck_true, stp_eq, bnd_some, wp_some, wp_stp, Nat.add_zero, Nat.lt_irrefl, Nat.reduceEqDiff, Nat.reduceAdd, Nat.reduceSub, Nat.reduceMul, Nat.reduceLT, Nat.reduceLeDiff, up_o, up_ss, up_sn, zb_n1, true_and, and_true, ↓reduceIte, hne2]
      refine k _ (by omega) ⟨rfl, fun j hj y => ?_⟩
      by_cases e : j = a
      · subst e
        obtain ⟨w, y1, y2⟩ := y.2 i hi
        exact hne w y1 y2
      · exact hno j (by omega) y
    simp (disch := omega) only [li, nI_add, pk_mul, ix_n, lt_n, le_n, eq_n, sub_n, dec_n, inb_t, neg_n, neg_n', ck_true, stp_eq, bnd_some, wp_some, wp_stp, Nat.add_zero, Nat.lt_irrefl, Nat.reduceEqDiff, Nat.reduceAdd, Nat.reduceSub, Nat.reduceMul, Nat.reduceLT, Nat.reduceLeDiff, up_o, up_ss, up_sn, zb_n1, true_and, and_true, ↓reduceIte, hF.pls, z]
    refine wp_for (i := 0) (S 5 ph) (fun i st => st = nI i ∧ ∀ j, j < i → ∃ w, (trA R E)[a + j]? = some w ∧ R 2 w = S 6 (6 * ph + j)) (by omega) (by omega) ⟨rfl, fun j hj => absurd hj (Nat.not_lt_zero _)⟩ ?_
    rintro i st r2 hi ⟨rfl, hall⟩ k2
    unfold F_X1_findPhrase_24
    by_cases hlt : i < S 5 ph
    · obtain ⟨w, hw⟩ := lget (show a + i < (trA R E).length by omega)
      have hw2 := (trA_get hW hE hw).1
      have f9 := hF.tr _ _ hw
      have f2 : h (c + 2) w = nI (R 2 w) := hC.o 2 w (by omega)
      have b1 := nm_lt (hW.tx w hw2)
      have b2 := nm_lt (hP.nm i hlt)
      simp (disch := omega) only [li, nI_add, pk_mul, ix_n, lt_n, le_n, eq_n, sub_n, dec_n, inb_t, neg_n, neg_n', ck_true, stp_eq, bnd_some, wp_some, wp_stp, Nat.add_zero, Nat.lt_irrefl, Nat.reduceEqDiff, Nat.reduceAdd, Nat.reduceSub, Nat.reduceMul, Nat.reduceLT, Nat.reduceLeDiff, up_o, up_ss, up_sn, zb_n1, true_and, and_true, ↓reduceIte, hlt, ckp_of hp hk.1, f9, f2, nmAt hS pp]
      refine wp_if (fun y => ?_) (fun y => ?_)
      · exact k2 _ hlt ⟨rfl, fun j hj => by
          by_cases e : j = i
          · subst e; exact ⟨w, hw, y⟩
          · exact hall j (by omega)⟩
      · refine next i hlt (fun v hv => ?_)
        rw [hw] at hv
        cases hv
        exact y
    · have e : i = S 5 ph := by omega
      subst e
      unfold J_X1_findPhrase_64
      simp (disch := omega) only [li, nI_add, pk_mul, ix_n, lt_n, le_n, eq_n, sub_n, dec_n, inb_t, neg_n, neg_n', ck_true, stp_eq, bnd_some, wp_some, wp_stp, Nat.add_zero, Nat.lt_irrefl, Nat.reduceEqDiff, Nat.reduceAdd, Nat.reduceSub, Nat.reduceMul, Nat.reduceLT, Nat.reduceLeDiff, up_o, up_ss, up_sn, zb_n1, true_and, and_true, ↓reduceIte]
      have e : FP R E S ph = a := sch_u (by omega) hno (fun _ => ⟨by omega, hall⟩)
      rw [e, oI, if_pos (by omega)]
theorem m_find (hW : WR R) (hE : WE R E) (hG : GR g R) (hM : GE g E) (hS : GS g T n) (hP : PH S T n ph q) : Wp (f_X11_find g (nI q)) (fun u => u.1 = oI (trA R E).length (FP R E S ph) ∧ RowOK g u.2 R E) := by
  have hl := trA_le hW hE
  have h40 := hW.w40
  have p1 := hP.n1
  have p6 := hP.n6
  have pp := hP.p
  have pq := hP.e
  have n7 := hS.n7
  unfold f_X11_find
  refine wp_bnd_of (m_laysRow hW hE hG hM) (fun g1 k1 => ?_)
  have G1 := hG.fr k1.gw
  have e139 : ∀ i, i < n → g1 139 i = nI (T i) := fun i hi => by rw [k1.o 139 (by decide) (by decide) (by decide)]; exact hS.t i hi
  have pn : g1 139 q = nI (S 5 ph) := by rw [e139 q (by omega), hP.n]
  simp (disch := omega) only [li, nI_add, pk_mul, ix_n, lt_n, le_n, eq_n, sub_n, dec_n, inb_t, neg_n, neg_n', ck_true, stp_eq, bnd_some, wp_some, wp_stp, Nat.add_zero, Nat.lt_irrefl, Nat.reduceEqDiff, Nat.reduceAdd, Nat.reduceSub, Nat.reduceMul, Nat.reduceLT, Nat.reduceLeDiff, up_o, up_ss, up_sn, zb_n1, true_and, and_true, ↓reduceIte, pn]
  refine wp_for (i := 0) (trA R E).length (fun a st => st = nI a ∧ ∀ j, j < a → ¬ hitT R E S ph j) (by omega) (by omega) ⟨rfl, fun j hj => absurd hj (Nat.not_lt_zero _)⟩ ?_
  rintro a st r ha ⟨rfl, hno⟩ k
  unfold F_X11_find_13
  by_cases z : (trA R E).length < a + S 5 ph
  · simp (disch := omega) only [li, nI_add, pk_mul, ix_n, lt_n, le_n, eq_n, sub_n, dec_n, inb_t, neg_n, neg_n', ck_true, stp_eq, bnd_some, wp_some, wp_stp, Nat.add_zero, Nat.lt_irrefl, Nat.reduceEqDiff, Nat.reduceAdd, Nat.reduceSub, Nat.reduceMul, Nat.reduceLT, Nat.reduceLeDiff, up_o, up_ss, up_sn, zb_n1, true_and, and_true, ↓reduceIte, k1.n, z]
    refine ⟨?_, k1⟩
    unfold FP
    have e : sch (hitT R E S ph) (trA R E).length = (trA R E).length := by
      refine sch_u (Nat.le_refl _) (fun j hj y => ?_) (fun y => absurd y (Nat.lt_irrefl _))
      by_cases y2 : j < a
      · exact hno j y2 y
      · have := y.1
        omega
    rw [e, oI, if_neg (Nat.lt_irrefl _)]
  · simp (disch := omega) only [li, nI_add, pk_mul, ix_n, lt_n, le_n, eq_n, sub_n, dec_n, inb_t, neg_n, neg_n', ck_true, stp_eq, bnd_some, wp_some, wp_stp, Nat.add_zero, Nat.lt_irrefl, Nat.reduceEqDiff, Nat.reduceAdd, Nat.reduceSub, Nat.reduceMul, Nat.reduceLT, Nat.reduceLeDiff, up_o, up_ss, up_sn, zb_n1, true_and, and_true, ↓reduceIte, k1.n, z]
    refine wp_for (i := 0) (S 5 ph) (fun i st => (st = (nI 1, nI i) ∧ ∀ j, j < i → ∃ w, (trA R E)[a + j]? = some w ∧ R 2 w = S 6 (6 * ph + j)) ∨ (st = (nI 0, nI i) ∧ ¬ hitT R E S ph a)) (by omega) (by omega) (Or.inl ⟨rfl, fun j hj => absurd hj (Nat.not_lt_zero _)⟩) ?_
    rintro i st r2 hi hst k2
    unfold F_X11_find_29
    rcases hst with ⟨rfl, hall⟩ | ⟨rfl, hnot⟩
    · by_cases hlt : i < S 5 ph
      · obtain ⟨w, hw⟩ := lget (show a + i < (trA R E).length by omega)
        have hw2 := (trA_get hW hE hw).1
        have f9 := k1.row _ _ hw
        have hb1 := hW.tx w hw2
        have hb2 := hP.nm i hlt
        have b1 := n27_lt hb1
        have b2 := n27_lt hb2
        have t1 : g1 139 (q + 1 + i) = nI (n27 (S 6 (6 * ph + i))) := by rw [e139 _ (by omega), hP.t i hlt]
        simp (disch := omega) only [li, nI_add, pk_mul, ix_n, lt_n, le_n, eq_n, sub_n, dec_n, inb_t, neg_n, neg_n', ck_true, stp_eq, bnd_some, wp_some, wp_stp, Nat.add_zero, Nat.lt_irrefl, Nat.reduceEqDiff, Nat.reduceAdd, Nat.reduceSub, Nat.reduceMul, Nat.reduceLT, Nat.reduceLeDiff, up_o, up_ss, up_sn, zb_n1, true_and, and_true, ↓reduceIte, hlt, f9, m_of1 hW G1 hw2, t1]
        refine wp_if (fun y => ?_) (fun y => ?_)
        · have y := (n27_inj hb1 hb2).mp y
          unfold J_X11_find_73
          simp (disch := omega) only [li, nI_add, pk_mul, ix_n, lt_n, le_n, eq_n, sub_n, dec_n, inb_t, neg_n, neg_n', ck_true, stp_eq, bnd_some, wp_some, wp_stp, Nat.add_zero, Nat.lt_irrefl, Nat.reduceEqDiff, Nat.reduceAdd, Nat.reduceSub, Nat.reduceMul, Nat.reduceLT, Nat.reduceLeDiff, up_o, up_ss, up_sn, zb_n1, true_and, and_true, ↓reduceIte]
          exact k2 _ hlt (Or.inl ⟨rfl, fun j hj => by
            by_cases e : j = i
            · subst e; exact ⟨w, hw, y⟩
            · exact hall j (by omega)⟩)
        · have y : ¬ R 2 w = S 6 (6 * ph + i) := fun e => y ((n27_inj hb1 hb2).mpr e)
          unfold J_X11_find_72 J_X11_find_73
          simp (disch := omega) only [li, nI_add, pk_mul, ix_n, lt_n, le_n, eq_n, sub_n, dec_n, inb_t, neg_n, neg_n', ck_true, stp_eq, bnd_some, wp_some, wp_stp, Nat.add_zero, Nat.lt_irrefl, Nat.reduceEqDiff, Nat.reduceAdd, Nat.reduceSub, Nat.reduceMul, Nat.reduceLT, Nat.reduceLeDiff, up_o, up_ss, up_sn, zb_n1, true_and, and_true, ↓reduceIte]
          refine k2 _ hlt (Or.inr ⟨rfl, fun y2 => ?_⟩)
          obtain ⟨v, y3, y4⟩ := y2.2 i hlt
          rw [hw] at y3
          cases y3
          exact y y4
      · have e : i = S 5 ph := by omega
        subst e
        unfold J_X11_find_81
        simp (disch := omega) only [li, nI_add, pk_mul, ix_n, lt_n, le_n, eq_n, sub_n, dec_n, inb_t, neg_n, neg_n', ck_true, stp_eq, bnd_some, wp_some, wp_stp, Nat.add_zero, Nat.lt_irrefl, Nat.reduceEqDiff, Nat.reduceAdd, Nat.reduceSub, Nat.reduceMul, Nat.reduceLT, Nat.reduceLeDiff, up_o, up_ss, up_sn, zb_n1, true_and, and_true, ↓reduceIte]
        have e : FP R E S ph = a := sch_u (by omega) hno (fun _ => ⟨by omega, hall⟩)
        rw [e, oI, if_pos (by omega)]
        exact ⟨rfl, k1⟩
    · by_cases hlt : i < S 5 ph
      · unfold J_X11_find_72 J_X11_find_73
        simp (disch := omega) only [li, nI_add, pk_mul, ix_n, lt_n, le_n, eq_n, sub_n, dec_n, inb_t, neg_n, neg_n', ck_true, stp_eq, bnd_some, wp_some, wp_stp, Nat.add_zero, Nat.lt_irrefl, Nat.reduceEqDiff, Nat.reduceAdd, Nat.reduceSub, Nat.reduceMul, Nat.reduceLT, Nat.reduceLeDiff, up_o, up_ss, up_sn, zb_n1, true_and, and_true, ↓reduceIte, hlt]
        exact k2 _ hlt (Or.inr ⟨rfl, hnot⟩)
      · unfold J_X11_find_81
        simp (disch := omega) only [li, nI_add, pk_mul, ix_n, lt_n, le_n, eq_n, sub_n, dec_n, inb_t, neg_n, neg_n', ck_true, stp_eq, bnd_some, wp_some, wp_stp, Nat.add_zero, Nat.lt_irrefl, Nat.reduceEqDiff, Nat.reduceAdd, Nat.reduceSub, Nat.reduceMul, Nat.reduceLT, Nat.reduceLeDiff, up_o, up_ss, up_sn, zb_n1, true_and, and_true, ↓reduceIte, hlt]
        refine k _ (by omega) ⟨rfl, fun j hj y => ?_⟩
        by_cases e : j = a
        · subst e; exact hnot y
        · exact hno j (by omega) y
end
