/-! a phrase not all of whose words are kept -/
section
variable {h g : Hp} {c s : Nat} {R E S : Nat → Nat → Nat} {T : Nat → Nat} {n ph q : Nat}
theorem FW_hit (R E S : Nat → Nat → Nat) (ph : Nat) (hl : FW R E S ph < R 0 4) : hitW R E S ph (FW R E S ph) := (sch_spec (hitW R E S ph) (R 0 4)).2.2 hl
theorem FW_no {a : Nat} (hz : R 0 4 < a + S 5 ph) (hno : ∀ j, j < a → ¬ hitW R E S ph j) : FW R E S ph = R 0 4 := by
  refine sch_u (Nat.le_refl _) (fun j hj y => ?_) (fun y => absurd y (Nat.lt_irrefl _))
  by_cases y2 : j < a
  · exact hno j y2 y
  · have := y.1
    omega
theorem orI {a b : Nat} (ha : a ≤ 1) (hb : b ≤ 1) : nI a ||| nI b = nI (max a b) := by
  rcases Nat.le_one_iff_eq_zero_or_eq_one.mp ha with rfl | rfl <;> rcases Nat.le_one_iff_eq_zero_or_eq_one.mp hb with rfl | rfl <;> decide
theorem c_findLost (hW : WR R) (hE : WE R E) (hC : CR h c R) (hD : CE h E) (hp : h 3 0 = nI c) (hk : knd c = 4 ∧ (c = 83 ∨ c = 97)) (hS : CS h s S) (hP : PH S T n ph q) : f_X1_findLostPhrase h s (nI ph) = some (oI (R 0 4) (FW R E S ph)) := by
  have h40 := hW.w40
  have p1 := hP.n1
  have p6 := hP.n6
  have pp := hP.p
  refine wp_eq.mp ?_
  unfold f_X1_findLostPhrase
  simp (disch := omega) only [li, nI_add, pk_mul, ix_n, lt_n, le_n, eq_n, sub_n, dec_n, inb_t, neg_n, neg_n', ck_true, stp_eq, bnd_some, wp_some, wp_stp, Nat.add_zero, Nat.lt_irrefl, Nat.reduceEqDiff, Nat.reduceAdd, Nat.reduceSub, Nat.reduceMul, Nat.reduceLT, Nat.reduceLeDiff, up_o, up_ss, up_sn, zb_n1, true_and, and_true, ↓reduceIte, hS.o]
  refine wp_for (i := 0) (R 0 4) (fun a st => st = nI a ∧ ∀ j, j < a → ¬ hitW R E S ph j) (by omega) (by omega) ⟨rfl, fun j hj => absurd hj (Nat.not_lt_zero _)⟩ ?_
  rintro a st r ha ⟨rfl, hno⟩ k
  unfold F_X1_findLostPhrase_10
  by_cases z : R 0 4 < a + S 5 ph
  · simp (disch := omega) only [li, nI_add, pk_mul, ix_n, lt_n, le_n, eq_n, sub_n, dec_n, inb_t, neg_n, neg_n', ck_true, stp_eq, bnd_some, wp_some, wp_stp, Nat.add_zero, Nat.lt_irrefl, Nat.reduceEqDiff, Nat.reduceAdd, Nat.reduceSub, Nat.reduceMul, Nat.reduceLT, Nat.reduceLeDiff, up_o, up_ss, up_sn, zb_n1, true_and, and_true, ↓reduceIte, ckp_of hp hk.1, hC.z, z]
    rw [FW_no z hno, oI, if_neg (Nat.lt_irrefl _)]
  · have next : ¬ hitW R E S ph a → Wp (J_X1_findLostPhrase_105 h s (nI ph) r (nI (S 5 ph)) (nI a)) (fun v => v = oI (R 0 4) (FW R E S ph)) := by
      intro hne
      unfold J_X1_findLostPhrase_105
      simp (disch := omega) only [li, nI_add, pk_mul, ix_n, lt_n, le_n, eq_n, sub_n, dec_n, inb_t, neg_n, neg_n', ck_true, stp_eq, bnd_some, wp_some, wp_stp, Nat.add_zero, Nat.lt_irrefl, Nat.reduceEqDiff, Nat.reduceAdd, Nat.reduceSub, Nat.reduceMul, Nat.reduceLT, Nat.reduceLeDiff, up_o, up_ss, up_sn, zb_n1, true_and, and_true, ↓reduceIte]
      refine k _ (by omega) ⟨rfl, fun j hj y => ?_⟩
      by_cases e : j = a
      · subst e; exact hne y
      · exact hno j (by omega) y
    simp (disch := omega) only [li, nI_add, pk_mul, ix_n, lt_n, le_n, eq_n, sub_n, dec_n, inb_t, neg_n, neg_n', ck_true, stp_eq, bnd_some, wp_some, wp_stp, Nat.add_zero, Nat.lt_irrefl, Nat.reduceEqDiff, Nat.reduceAdd, Nat.reduceSub, Nat.reduceMul, Nat.reduceLT, Nat.reduceLeDiff, up_o, up_ss, up_sn, zb_n1, true_and, and_true, ↓reduceIte, ckp_of hp hk.1, hC.z, z]
    refine wp_for (i := 0) (S 5 ph) (fun i st => ∃ f, f ≤ 1 ∧ st = (nI i, nI f) ∧ (f = 1 ↔ ∃ j, j < i ∧ E 1 (a + j) = 0) ∧ ∀ j, j < i → R 2 (a + j) = S 6 (6 * ph + j)) (by omega) (by omega) ⟨0, by omega, rfl, ⟨fun y => by omega, fun ⟨j, hj, _⟩ => absurd hj (Nat.not_lt_zero _)⟩, fun j hj => absurd hj (Nat.not_lt_zero _)⟩ ?_
    rintro i st r2 hi ⟨f, hf, rfl, hff, hall⟩ k2
    unfold F_X1_findLostPhrase_30
    by_cases hlt : i < S 5 ph
    · have hw : a + i < R 0 4 := by omega
      have f2 : h (c + 2) (a + i) = nI (R 2 (a + i)) := hC.o 2 _ (by omega)
      have b1 := nm_lt (hW.tx _ hw)
      have b2 := nm_lt (hP.nm i hlt)
      have hk1 := hE.k1 (a + i) (by omega)
      have f19 : h 19 (a + i) = nI (E 1 (a + i)) := hD.k _ (by omega)
      simp (disch := omega) only [li, nI_add, pk_mul, ix_n, lt_n, le_n, eq_n, sub_n, dec_n, inb_t, neg_n, neg_n', ck_true, stp_eq, bnd_some, wp_some, wp_stp, Nat.add_zero, Nat.lt_irrefl, Nat.reduceEqDiff, Nat.reduceAdd, Nat.reduceSub, Nat.reduceMul, Nat.reduceLT, Nat.reduceLeDiff, up_o, up_ss, up_sn, zb_n1, true_and, and_true, ↓reduceIte, hlt, ckp_of hp hk.1, f2, f19, nmAt hS pp]
      refine wp_if (fun y => ?_) (fun y => ?_)
      · have go : ∀ v, v ≤ 1 → (v = 1 ↔ E 1 (a + i) = 0) → Wp (J_X1_findLostPhrase_82 h s (nI ph) r r2 (nI (S 5 ph)) (nI a) (nI i) (nI f) (nI v)) (fun v => v = oI (R 0 4) (FW R E S ph)) := by
          intro v hv hve
          unfold J_X1_findLostPhrase_82
          rw [orI hf hv]
          simp (disch := omega) only [li, nI_add, pk_mul, ix_n, lt_n, le_n, eq_n, sub_n, dec_n, inb_t, neg_n, neg_n', ck_true, stp_eq, bnd_some, wp_some, wp_stp, Nat.add_zero, Nat.lt_irrefl, Nat.reduceEqDiff, Nat.reduceAdd, Nat.reduceSub, Nat.reduceMul, Nat.reduceLT, Nat.reduceLeDiff, up_o, up_ss, up_sn, zb_n1, true_and, and_true, ↓reduceIte]
          refine k2 _ hlt ⟨max f v, by omega, rfl, ⟨fun y2 => ?_, fun ⟨j, hj, e⟩ => ?_⟩, fun j hj => ?_⟩
          · by_cases z2 : f = 1
            · obtain ⟨j, hj, e⟩ := hff.mp z2
              exact ⟨j, by omega, e⟩
            · exact ⟨i, by omega, hve.mp (by omega)⟩
          · by_cases e2 : j = i
            · subst e2
              have := hve.mpr e
              omega
            · have := hff.mpr ⟨j, by omega, e⟩
              omega
          · by_cases e2 : j = i
            · subst e2; exact y
            · exact hall j (by omega)
        refine wp_if (fun y2 => ?_) (fun y2 => ?_)
        · exact go 1 (by omega) ⟨fun _ => y2, fun _ => rfl⟩
        · exact go 0 (by omega) ⟨fun z2 => absurd z2 (by decide), fun z2 => absurd z2 y2⟩
      · have hne2 : ¬ i = S 5 ph := by omega
        unfold J_X1_findLostPhrase_91
        simp (disch := omega) only [li, nI_add, pk_mul, ix_n, lt_n, le_n, eq_n, sub_n, dec_n, inb_t, neg_n, neg_n', ck_true, stp_eq, bnd_some, wp_some, wp_stp, Nat.add_zero, Nat.lt_irrefl, Nat.reduceEqDiff, Nat.reduceAdd, Nat.reduceSub, Nat.reduceMul, Nat.reduceLT, Nat.reduceLeDiff, up_o, up_ss, up_sn, zb_n1, true_and, and_true, ↓reduceIte, hne2]
        exact next (fun y2 => y (y2.2.1 i hlt))
    · have e : i = S 5 ph := by omega
      subst e
      unfold J_X1_findLostPhrase_91
      simp (disch := omega) only [li, nI_add, pk_mul, ix_n, lt_n, le_n, eq_n, sub_n, dec_n, inb_t, neg_n, neg_n', ck_true, stp_eq, bnd_some, wp_some, wp_stp, Nat.add_zero, Nat.lt_irrefl, Nat.reduceEqDiff, Nat.reduceAdd, Nat.reduceSub, Nat.reduceMul, Nat.reduceLT, Nat.reduceLeDiff, up_o, up_ss, up_sn, zb_n1, true_and, and_true, ↓reduceIte]
      refine wp_if (fun y => ?_) (fun y => ?_)
      · refine next (fun y2 => ?_)
        have := hff.mpr y2.2.2
        omega
      · have e : FW R E S ph = a := sch_u (by omega) hno (fun _ => ⟨by omega, hall, hff.mp (by omega)⟩)
        rw [wp_some, e, oI, if_pos (by omega)]
theorem resE_1 {w v : Nat} (hv : ¬ v = w) : resE R E w 1 v = E 1 v := by
  by_cases q : ∃ s, s < E 0 1 ∧ E 2 s = R 6 w
  · rw [resE_y q]
    exact if_neg hv
  · rw [resE_n q]
    exact if_neg hv
theorem rA_1 {a v : Nat} : ∀ i, a + i ≤ v → (rA R E a i).1 1 v = E 1 v := by
  intro i
  induction i with
  | zero => intro _; rfl
  | succ i ih =>
    intro h
    rw [rA_s]
    by_cases z : (rA R E a i).1 1 (a + i) = 1
    · rw [if_pos z]; exact ih (by omega)
    · rw [if_neg z]
      show resE R (rA R E a i).1 (a + i) 1 v = _
      rw [resE_1 (by omega)]
      exact ih (by omega)
theorem rA_pos {a : Nat} (_hE : WE R E) : ∀ i j, j < i → E 1 (a + j) = 0 → a + i ≤ a + i → 1 ≤ (rA R E a i).2 := by
  intro i
  induction i with
  | zero => intro j hj; exact absurd hj (Nat.not_lt_zero _)
  | succ i ih =>
    intro j hj e _
    rw [rA_s]
    by_cases z : (rA R E a i).1 1 (a + i) = 1
    · rw [if_pos z]
      by_cases e2 : j = i
      · subst e2
        rw [rA_1 j (Nat.le_refl _), e] at z
        cases z
      · exact ih j (by omega) e (Nat.le_refl _)
    · rw [if_neg z]
      exact Nat.le_add_left _ _
theorem m_restoresPhrase (hW : WR R) (hE : WE R E) (hX : WX R E) (hG : GR g R) (hM : GE g E) (hS : GS g T n) (hP : PH S T n ph q) : Wp (f_X11_restoresPhrase g (nI q)) (fun u => (FW R E S ph = R 0 4 ∧ u = (nI 0, g)) ∨ (FW R E S ph < R 0 4 ∧ u.1 = nI 1 ∧ GE u.2 (rA R E (FW R E S ph) (S 5 ph)).1 ∧ AW g u.2)) := by
  have h40 := hW.w40
  have p1 := hP.n1
  have p6 := hP.n6
  have pp := hP.p
  have pq := hP.e
  have n7 := hS.n7
  have pn : g 139 q = nI (S 5 ph) := by rw [hS.t q (by omega), hP.n]
  unfold f_X11_restoresPhrase
  simp (disch := omega) only [li, nI_add, pk_mul, ix_n, lt_n, le_n, eq_n, sub_n, dec_n, inb_t, neg_n, neg_n', ck_true, stp_eq, bnd_some, wp_some, wp_stp, Nat.add_zero, Nat.lt_irrefl, Nat.reduceEqDiff, Nat.reduceAdd, Nat.reduceSub, Nat.reduceMul, Nat.reduceLT, Nat.reduceLeDiff, up_o, up_ss, up_sn, zb_n1, true_and, and_true, ↓reduceIte, pn]
  refine wp_for (i := 0) (R 0 4) (fun a st => st = nI a ∧ ∀ j, j < a → ¬ hitW R E S ph j) (by omega) (by omega) ⟨rfl, fun j hj => absurd hj (Nat.not_lt_zero _)⟩ ?_
  rintro a st r ha ⟨rfl, hno⟩ k
  unfold F_X11_restoresPhrase_9
  by_cases z : R 0 4 < a + S 5 ph
  · simp (disch := omega) only [li, nI_add, pk_mul, ix_n, lt_n, le_n, eq_n, sub_n, dec_n, inb_t, neg_n, neg_n', ck_true, stp_eq, bnd_some, wp_some, wp_stp, Nat.add_zero, Nat.lt_irrefl, Nat.reduceEqDiff, Nat.reduceAdd, Nat.reduceSub, Nat.reduceMul, Nat.reduceLT, Nat.reduceLeDiff, up_o, up_ss, up_sn, zb_n1, true_and, and_true, ↓reduceIte, m_words hG, z]
    exact Or.inl (FW_no z hno)
  · have next : ¬ hitW R E S ph a → Wp (J_X11_restoresPhrase_127 (nI q) g r (nI (S 5 ph)) (nI a)) (fun u => (FW R E S ph = R 0 4 ∧ u = (nI 0, g)) ∨ (FW R E S ph < R 0 4 ∧ u.1 = nI 1 ∧ GE u.2 (rA R E (FW R E S ph) (S 5 ph)).1 ∧ AW g u.2)) := by
      intro hne
      unfold J_X11_restoresPhrase_127
      simp (disch := omega) only [li, nI_add, pk_mul, ix_n, lt_n, le_n, eq_n, sub_n, dec_n, inb_t, neg_n, neg_n', ck_true, stp_eq, bnd_some, wp_some, wp_stp, Nat.add_zero, Nat.lt_irrefl, Nat.reduceEqDiff, Nat.reduceAdd, Nat.reduceSub, Nat.reduceMul, Nat.reduceLT, Nat.reduceLeDiff, up_o, up_ss, up_sn, zb_n1, true_and, and_true, ↓reduceIte]
      refine k _ (by omega) ⟨rfl, fun j hj y => ?_⟩
      by_cases e : j = a
      · subst e; exact hne y
      · exact hno j (by omega) y
    simp (disch := omega) only [li, nI_add, pk_mul, ix_n, lt_n, le_n, eq_n, sub_n, dec_n, inb_t, neg_n, neg_n', ck_true, stp_eq, bnd_some, wp_some, wp_stp, Nat.add_zero, Nat.lt_irrefl, Nat.reduceEqDiff, Nat.reduceAdd, Nat.reduceSub, Nat.reduceMul, Nat.reduceLT, Nat.reduceLeDiff, up_o, up_ss, up_sn, zb_n1, true_and, and_true, ↓reduceIte, m_words hG, z]
    refine wp_for (i := 0) (S 5 ph) (fun i st => ∃ m f, m ≤ 1 ∧ f ≤ 1 ∧ st = (nI m, nI f, nI i) ∧ (f = 1 ↔ ∃ j, j < i ∧ E 1 (a + j) = 0) ∧ (m = 1 ↔ ∀ j, j < i → R 2 (a + j) = S 6 (6 * ph + j))) (by omega) (by omega) ⟨1, 0, by omega, by omega, rfl, ⟨fun y => by omega, fun ⟨j, hj, _⟩ => absurd hj (Nat.not_lt_zero _)⟩, ⟨fun _ j hj => absurd hj (Nat.not_lt_zero _), fun _ => rfl⟩⟩ ?_
    rintro i st r2 hi ⟨m, f, hm, hf, rfl, hff, hmm⟩ k2
    unfold F_X11_restoresPhrase_28
    by_cases hlt : i < S 5 ph
    · have hw : a + i < R 0 4 := by omega
      have hb1 := hW.tx _ hw
      have hb2 := hP.nm i hlt
      have b1 := n27_lt hb1
      have b2 := n27_lt hb2
      have hk1 := hE.k1 (a + i) (by omega)
      have t1 : g 139 (q + 1 + i) = nI (n27 (S 6 (6 * ph + i))) := by rw [hS.t _ (by omega), hP.t i hlt]
      have fin : ∀ v, v ≤ 1 → (v = 1 ↔ m = 1 ∧ R 2 (a + i) = S 6 (6 * ph + i)) → Wp (J_X11_restoresPhrase_67 (nI q) g r r2 (nI (S 5 ph)) (nI a) (nI f) (nI i) (nI v)) (fun u => (FW R E S ph = R 0 4 ∧ u = (nI 0, g)) ∨ (FW R E S ph < R 0 4 ∧ u.1 = nI 1 ∧ GE u.2 (rA R E (FW R E S ph) (S 5 ph)).1 ∧ AW g u.2)) := by
        intro v hv hve
        have go : ∀ y, y ≤ 1 → (y = 1 ↔ f = 1 ∨ E 1 (a + i) = 0) → Wp (J_X11_restoresPhrase_90 (nI q) g r r2 (nI (S 5 ph)) (nI a) (nI v) (nI i) (nI y)) (fun u => (FW R E S ph = R 0 4 ∧ u = (nI 0, g)) ∨ (FW R E S ph < R 0 4 ∧ u.1 = nI 1 ∧ GE u.2 (rA R E (FW R E S ph) (S 5 ph)).1 ∧ AW g u.2)) := by
          intro y hy hye
          unfold J_X11_restoresPhrase_90
          simp (disch := omega) only [li, nI_add, pk_mul, ix_n, lt_n, le_n, eq_n, sub_n, dec_n, inb_t, neg_n, neg_n', ck_true, stp_eq, bnd_some, wp_some, wp_stp, Nat.add_zero, Nat.lt_irrefl, Nat.reduceEqDiff, Nat.reduceAdd, Nat.reduceSub, Nat.reduceMul, Nat.reduceLT, Nat.reduceLeDiff, up_o, up_ss, up_sn, zb_n1, true_and, and_true, ↓reduceIte]
          refine k2 _ hlt ⟨v, y, hv, hy, rfl, ?_, ?_⟩
          · rw [hye, hff]
            constructor
            · rintro (⟨j, hj, e⟩ | e)
              · exact ⟨j, by omega, e⟩
              · exact ⟨i, by omega, e⟩
            · rintro ⟨j, hj, e⟩
              by_cases e2 : j = i
              · subst e2; exact Or.inr e
              · exact Or.inl ⟨j, by omega, e⟩
          · rw [hve, hmm]
            constructor
            · rintro ⟨e1, e2⟩ j hj
              by_cases e3 : j = i
              · subst e3; exact e2
              · exact e1 j (by omega)
            · intro e
              exact ⟨fun j hj => e j (by omega), e i (by omega)⟩
        unfold J_X11_restoresPhrase_67
        by_cases zf : f = 0
        · subst zf
          simp (disch := omega) only [li, nI_add, pk_mul, ix_n, lt_n, le_n, eq_n, sub_n, dec_n, inb_t, neg_n, neg_n', ck_true, stp_eq, bnd_some, wp_some, wp_stp, Nat.add_zero, Nat.lt_irrefl, Nat.reduceEqDiff, Nat.reduceAdd, Nat.reduceSub, Nat.reduceMul, Nat.reduceLT, Nat.reduceLeDiff, up_o, up_ss, up_sn, zb_n1, true_and, and_true, ↓reduceIte, m_isKept hM (hE.zz (by omega)) (w := a + i) (by omega) hk1]
          refine wp_if (fun y2 => ?_) (fun y2 => ?_)
          · unfold J_X11_restoresPhrase_85
            exact go 1 (by omega) ⟨fun _ => Or.inr y2, fun _ => rfl⟩
          · exact go 0 (by omega) ⟨fun z2 => absurd z2 (by decide), fun z2 => by omega⟩
        · have e : f = 1 := by omega
          subst e
          simp (disch := omega) only [li, nI_add, pk_mul, ix_n, lt_n, le_n, eq_n, sub_n, dec_n, inb_t, neg_n, neg_n', ck_true, stp_eq, bnd_some, wp_some, wp_stp, Nat.add_zero, Nat.lt_irrefl, Nat.reduceEqDiff, Nat.reduceAdd, Nat.reduceSub, Nat.reduceMul, Nat.reduceLT, Nat.reduceLeDiff, up_o, up_ss, up_sn, zb_n1, true_and, and_true, ↓reduceIte]
          unfold J_X11_restoresPhrase_85
          exact go 1 (by omega) ⟨fun _ => Or.inl rfl, fun _ => rfl⟩
      by_cases zm : m = 0
      · subst zm
        simp (disch := omega) only [li, nI_add, pk_mul, ix_n, lt_n, le_n, eq_n, sub_n, dec_n, inb_t, neg_n, neg_n', ck_true, stp_eq, bnd_some, wp_some, wp_stp, Nat.add_zero, Nat.lt_irrefl, Nat.reduceEqDiff, Nat.reduceAdd, Nat.reduceSub, Nat.reduceMul, Nat.reduceLT, Nat.reduceLeDiff, up_o, up_ss, up_sn, zb_n1, true_and, and_true, ↓reduceIte, hlt]
        unfold J_X11_restoresPhrase_66
        exact fin 0 (by omega) ⟨fun y => by omega, fun y => by omega⟩
      · have e : m = 1 := by omega
        subst e
        simp (disch := omega) only [li, nI_add, pk_mul, ix_n, lt_n, le_n, eq_n, sub_n, dec_n, inb_t, neg_n, neg_n', ck_true, stp_eq, bnd_some, wp_some, wp_stp, Nat.add_zero, Nat.lt_irrefl, Nat.reduceEqDiff, Nat.reduceAdd, Nat.reduceSub, Nat.reduceMul, Nat.reduceLT, Nat.reduceLeDiff, up_o, up_ss, up_sn, zb_n1, true_and, and_true, ↓reduceIte, hlt, m_of1 hW hG hw, t1]
        refine wp_if (fun y => ?_) (fun y => ?_)
        · exact fin 1 (by omega) ⟨fun _ => ⟨rfl, (n27_inj hb1 hb2).mp y⟩, fun _ => rfl⟩
        · unfold J_X11_restoresPhrase_66
          exact fin 0 (by omega) ⟨fun z2 => absurd z2 (by decide), fun z2 => absurd ((n27_inj hb1 hb2).mpr z2.2) y⟩
    · have e : i = S 5 ph := by omega
      subst e
      unfold J_X11_restoresPhrase_98
      by_cases zm : m = 0
      · subst zm
        simp (disch := omega) only [li, nI_add, pk_mul, ix_n, lt_n, le_n, eq_n, sub_n, dec_n, inb_t, neg_n, neg_n', ck_true, stp_eq, bnd_some, wp_some, wp_stp, Nat.add_zero, Nat.lt_irrefl, Nat.reduceEqDiff, Nat.reduceAdd, Nat.reduceSub, Nat.reduceMul, Nat.reduceLT, Nat.reduceLeDiff, up_o, up_ss, up_sn, zb_n1, true_and, and_true, ↓reduceIte]
        refine next (fun y => ?_)
        have := hmm.mpr y.2.1
        omega
      · have e : m = 1 := by omega
        subst e
        by_cases zf : f = 0
        · subst zf
          simp (disch := omega) only [li, nI_add, pk_mul, ix_n, lt_n, le_n, eq_n, sub_n, dec_n, inb_t, neg_n, neg_n', ck_true, stp_eq, bnd_some, wp_some, wp_stp, Nat.add_zero, Nat.lt_irrefl, Nat.reduceEqDiff, Nat.reduceAdd, Nat.reduceSub, Nat.reduceMul, Nat.reduceLT, Nat.reduceLeDiff, up_o, up_ss, up_sn, zb_n1, true_and, and_true, ↓reduceIte]
          refine next (fun y => ?_)
          have := hff.mpr y.2.2
          omega
        · have e : f = 1 := by omega
          subst e
          have hlost := hff.mp rfl
          have e : FW R E S ph = a := sch_u (by omega) hno (fun _ => ⟨by omega, hmm.mp rfl, hlost⟩)
          unfold J_X11_restoresPhrase_108
          simp (disch := omega) only [li, nI_add, pk_mul, ix_n, lt_n, le_n, eq_n, sub_n, dec_n, inb_t, neg_n, neg_n', ck_true, stp_eq, bnd_some, wp_some, wp_stp, Nat.add_zero, Nat.lt_irrefl, Nat.reduceEqDiff, Nat.reduceAdd, Nat.reduceSub, Nat.reduceMul, Nat.reduceLT, Nat.reduceLeDiff, up_o, up_ss, up_sn, zb_n1, true_and, and_true, ↓reduceIte]
          have hr := m_restoresAll hW hE hX hG hM (a := a) (b := a + S 5 ph - 1) (by omega) (by omega)
          rw [show a + S 5 ph - 1 + 1 - a = S 5 ph by omega] at hr
          refine wp_bnd_of hr (fun u ku => ?_)
          obtain ⟨k3, k4, k5⟩ := ku
          have hpos : 1 ≤ (rA R E a (S 5 ph)).2 := by
            obtain ⟨j, hj, ej⟩ := hlost
            exact rA_pos hE (S 5 ph) j hj ej (by omega)
          have hc := rA_c R E a (S 5 ph)
          have hnz : ¬ (rA R E a (S 5 ph)).2 ≤ 0 := by omega
          rw [k3]
          simp (disch := omega) only [li, nI_add, pk_mul, ix_n, lt_n, le_n, eq_n, sub_n, dec_n, inb_t, neg_n, neg_n', ck_true, stp_eq, bnd_some, wp_some, wp_stp, Nat.add_zero, Nat.lt_irrefl, Nat.reduceEqDiff, Nat.reduceAdd, Nat.reduceSub, Nat.reduceMul, Nat.reduceLT, Nat.reduceLeDiff, up_o, up_ss, up_sn, zb_n1, true_and, and_true, ↓reduceIte, hnz]
          rw [e]
          exact Or.inr ⟨by omega, k4, k5⟩
end
