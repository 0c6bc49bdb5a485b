/-! who is heard in a frame, and silence -/
def hP (R E : Nat → Nat → Nat) (sp : Nat → Prop) (fr w : Nat) : Prop := sp w ∧ E 1 w = 1 ∧ R 4 w ≤ fr ∧ fr < R 5 w
noncomputable def fH (R E : Nat → Nat → Nat) (sp : Nat → Prop) (b fr : Nat) : Int32 := if sch (fun j => hP R E sp fr (R 9 b + j)) (R 9 (b + 1) - R 9 b) < R 9 (b + 1) - R 9 b then nI (R 9 b + sch (fun j => hP R E sp fr (R 9 b + j)) (R 9 (b + 1) - R 9 b)) else -nI 1
theorem fH_y {R E : Nat → Nat → Nat} {sp : Nat → Prop} {b fr i : Nat} (hi : i < R 9 (b + 1) - R 9 b) (h1 : ∀ j, j < i → ¬ hP R E sp fr (R 9 b + j)) (h2 : hP R E sp fr (R 9 b + i)) : fH R E sp b fr = nI (R 9 b + i) := by
  have e := sch_u (p := fun j => hP R E sp fr (R 9 b + j)) (n := R 9 (b + 1) - R 9 b) (i := i) (by omega) h1 (fun _ => h2)
  unfold fH
  rw [e, if_pos hi]
theorem fH_n {R E : Nat → Nat → Nat} {sp : Nat → Prop} {b fr : Nat} (h1 : ∀ j, j < R 9 (b + 1) - R 9 b → ¬ hP R E sp fr (R 9 b + j)) : fH R E sp b fr = -nI 1 := by
  have e := sch_u (p := fun j => hP R E sp fr (R 9 b + j)) (n := R 9 (b + 1) - R 9 b) (i := R 9 (b + 1) - R 9 b) (Nat.le_refl _) h1 (fun y => absurd y (Nat.lt_irrefl _))
  unfold fH
  rw [e, if_neg (Nat.lt_irrefl _)]
section
variable {h g : Hp} {c : Nat} {R E : Nat → Nat → Nat}
theorem m_heardBy (hW : WR R) (hE : WE R E) (hG : GR g R) (hM : GE g E) {p1 : Int32} {sp : Nat → Prop} {s fr : Nat} (hsp : (p1 = -nI 1 ∧ ∀ w, sp w) ∨ ∃ p, p < 2147483648 ∧ p1 = nI p ∧ ∀ w, sp w ↔ R 3 w = p) (hs : s < E 0 1) (h30 : g 125 30 = nI s) (h31 : g 125 31 = nI fr) (hfr : fr < 2147483648) : f_X11_heardBy g p1 = some (fH R E sp (E 2 s) fr) := by
  have h1 := hE.n
  have h2 := hW.bw
  have h3 := hW.w40
  have hlt := hE.lt s hs
  have hbw := hW.wlt _ hlt
  have hbl := bw_le hW (b := E 2 s + 1) (by omega)
  refine wp_eq.mp ?_
  unfold f_X11_heardBy
  simp (disch := omega) only [li, nI_add, pk_mul, ix_n, lt_n, le_n, eq_n, sub_n, dec_n, inb_t, neg_n, neg_n', ck_true, stp_eq, bnd_some, wp_some, wp_stp, Nat.add_zero, Nat.lt_irrefl, Nat.reduceEqDiff, Nat.reduceAdd, Nat.reduceSub, Nat.reduceMul, Nat.reduceLT, Nat.reduceLeDiff, up_o, up_ss, up_sn, zb_n1, true_and, and_true, ↓reduceIte, h30, m_shotBlock hW hE hM hs, hG.bw]
  refine wp_for (i := 0) (R 9 (E 2 s + 1) - R 9 (E 2 s)) (fun i x => x = nI (R 9 (E 2 s) + i) ∧ ∀ j, j < i → ¬ hP R E sp fr (R 9 (E 2 s) + j)) (by omega) (by omega) ⟨rfl, fun s hs => absurd hs (Nat.not_lt_zero _)⟩ ?_
  rintro i x r hi ⟨rfl, hp⟩ k
  unfold F_X11_heardBy_16 J_X11_heardBy_43
  by_cases hl : i < R 9 (E 2 s + 1) - R 9 (E 2 s)
  · have hl2 : R 9 (E 2 s) + i < R 9 (E 2 s + 1) := by omega
    have hw : R 9 (E 2 s) + i < R 0 4 := by omega
    obtain ⟨f1, f2, f3, f4, f5, f6⟩ := w_facts hW hw
    have hk1 := hE.k1 _ f1
    have nx : ¬ hP R E sp fr (R 9 (E 2 s) + i) → ∀ j, j < i + 1 → ¬ hP R E sp fr (R 9 (E 2 s) + j) := by
      intro z j hj
      by_cases e : j = i
      · rw [e]; exact z
      · exact hp j (by omega)
    have yes : sp (R 9 (E 2 s) + i) → Wp (J_X11_heardBy_48 g p1 r (nI (E 2 s)) (nI (R 9 (E 2 s) + i)) (nI 1)) (fun a => a = fH R E sp (E 2 s) fr) := by
      intro hspw
      unfold J_X11_heardBy_48 J_X11_heardBy_89
      by_cases hk : E 1 (R 9 (E 2 s) + i) = 1
      · simp (disch := omega) only [li, nI_add, pk_mul, ix_n, lt_n, le_n, eq_n, sub_n, dec_n, inb_t, neg_n, neg_n', ck_true, stp_eq, bnd_some, wp_some, wp_stp, Nat.add_zero, Nat.lt_irrefl, Nat.reduceEqDiff, Nat.reduceAdd, Nat.reduceSub, Nat.reduceMul, Nat.reduceLT, Nat.reduceLeDiff, up_o, up_ss, up_sn, zb_n1, true_and, and_true, ↓reduceIte, m_isKept hM (hE.zz (by omega)) f1 hk1, hk, m_of2 hW hG hw, m_of3 hW hG hw, h31, m_in, m_in']
        by_cases q1 : fr < R 4 (R 9 (E 2 s) + i)
        · simp (disch := omega) only [li, nI_add, pk_mul, ix_n, lt_n, le_n, eq_n, sub_n, dec_n, inb_t, neg_n, neg_n', ck_true, stp_eq, bnd_some, wp_some, wp_stp, Nat.add_zero, Nat.lt_irrefl, Nat.reduceEqDiff, Nat.reduceAdd, Nat.reduceSub, Nat.reduceMul, Nat.reduceLT, Nat.reduceLeDiff, up_o, up_ss, up_sn, zb_n1, true_and, and_true, ↓reduceIte, q1]
          exact k _ hl ⟨rfl, nx (fun z => by have := z.2.2.1; omega)⟩
        · by_cases q2 : fr < R 5 (R 9 (E 2 s) + i)
          · simp (disch := omega) only [li, nI_add, pk_mul, ix_n, lt_n, le_n, eq_n, sub_n, dec_n, inb_t, neg_n, neg_n', ck_true, stp_eq, bnd_some, wp_some, wp_stp, Nat.add_zero, Nat.lt_irrefl, Nat.reduceEqDiff, Nat.reduceAdd, Nat.reduceSub, Nat.reduceMul, Nat.reduceLT, Nat.reduceLeDiff, up_o, up_ss, up_sn, zb_n1, true_and, and_true, ↓reduceIte, q1, q2]
            exact (fH_y hl hp ⟨hspw, hk, by omega, q2⟩).symm
          · simp (disch := omega) only [li, nI_add, pk_mul, ix_n, lt_n, le_n, eq_n, sub_n, dec_n, inb_t, neg_n, neg_n', ck_true, stp_eq, bnd_some, wp_some, wp_stp, Nat.add_zero, Nat.lt_irrefl, Nat.reduceEqDiff, Nat.reduceAdd, Nat.reduceSub, Nat.reduceMul, Nat.reduceLT, Nat.reduceLeDiff, up_o, up_ss, up_sn, zb_n1, true_and, and_true, ↓reduceIte, q1, q2]
            exact k _ hl ⟨rfl, nx (fun z => by have := z.2.2.2; omega)⟩
      · have hk0 : E 1 (R 9 (E 2 s) + i) = 0 := by omega
        simp (disch := omega) only [li, nI_add, pk_mul, ix_n, lt_n, le_n, eq_n, sub_n, dec_n, inb_t, neg_n, neg_n', ck_true, stp_eq, bnd_some, wp_some, wp_stp, Nat.add_zero, Nat.lt_irrefl, Nat.reduceEqDiff, Nat.reduceAdd, Nat.reduceSub, Nat.reduceMul, Nat.reduceLT, Nat.reduceLeDiff, up_o, up_ss, up_sn, zb_n1, true_and, and_true, ↓reduceIte, m_isKept hM (hE.zz (by omega)) f1 hk1, hk0]
        exact k _ hl ⟨rfl, nx (fun z => hk z.2.1)⟩
    rcases hsp with ⟨rfl, hsp⟩ | ⟨p, hpp, rfl, hsp⟩
    · simp (disch := omega) only [li, nI_add, pk_mul, ix_n, lt_n, le_n, eq_n, sub_n, dec_n, inb_t, neg_n, neg_n', ck_true, stp_eq, bnd_some, wp_some, wp_stp, Nat.add_zero, Nat.lt_irrefl, Nat.reduceEqDiff, Nat.reduceAdd, Nat.reduceSub, Nat.reduceMul, Nat.reduceLT, Nat.reduceLeDiff, up_o, up_ss, up_sn, zb_n1, true_and, and_true, ↓reduceIte, hG.bw, hl2]
      exact yes (hsp _)
    · simp (disch := omega) only [li, nI_add, pk_mul, ix_n, lt_n, le_n, eq_n, sub_n, dec_n, inb_t, neg_n, neg_n', ck_true, stp_eq, bnd_some, wp_some, wp_stp, Nat.add_zero, Nat.lt_irrefl, Nat.reduceEqDiff, Nat.reduceAdd, Nat.reduceSub, Nat.reduceMul, Nat.reduceLT, Nat.reduceLeDiff, up_o, up_ss, up_sn, zb_n1, true_and, and_true, ↓reduceIte, hG.bw, hl2, m_of0 hW hG hw]
      by_cases e : R 3 (R 9 (E 2 s) + i) = p
      · simp (disch := omega) only [li, nI_add, pk_mul, ix_n, lt_n, le_n, eq_n, sub_n, dec_n, inb_t, neg_n, neg_n', ck_true, stp_eq, bnd_some, wp_some, wp_stp, Nat.add_zero, Nat.lt_irrefl, Nat.reduceEqDiff, Nat.reduceAdd, Nat.reduceSub, Nat.reduceMul, Nat.reduceLT, Nat.reduceLeDiff, up_o, up_ss, up_sn, zb_n1, true_and, and_true, ↓reduceIte, e]
        exact yes ((hsp _).mpr e)
      · simp (disch := omega) only [li, nI_add, pk_mul, ix_n, lt_n, le_n, eq_n, sub_n, dec_n, inb_t, neg_n, neg_n', ck_true, stp_eq, bnd_some, wp_some, wp_stp, Nat.add_zero, Nat.lt_irrefl, Nat.reduceEqDiff, Nat.reduceAdd, Nat.reduceSub, Nat.reduceMul, Nat.reduceLT, Nat.reduceLeDiff, up_o, up_ss, up_sn, zb_n1, true_and, and_true, ↓reduceIte, e]
        unfold J_X11_heardBy_48 J_X11_heardBy_89
        simp (disch := omega) only [li, nI_add, pk_mul, ix_n, lt_n, le_n, eq_n, sub_n, dec_n, inb_t, neg_n, neg_n', ck_true, stp_eq, bnd_some, wp_some, wp_stp, Nat.add_zero, Nat.lt_irrefl, Nat.reduceEqDiff, Nat.reduceAdd, Nat.reduceSub, Nat.reduceMul, Nat.reduceLT, Nat.reduceLeDiff, up_o, up_ss, up_sn, zb_n1, true_and, and_true, ↓reduceIte]
        exact k _ hl ⟨rfl, nx (fun z => e ((hsp _).mp z.1))⟩
  · have hl2 : ¬ R 9 (E 2 s) + i < R 9 (E 2 s + 1) := by omega
    simp (disch := omega) only [li, nI_add, pk_mul, ix_n, lt_n, le_n, eq_n, sub_n, dec_n, inb_t, neg_n, neg_n', ck_true, stp_eq, bnd_some, wp_some, wp_stp, Nat.add_zero, Nat.lt_irrefl, Nat.reduceEqDiff, Nat.reduceAdd, Nat.reduceSub, Nat.reduceMul, Nat.reduceLT, Nat.reduceLeDiff, up_o, up_ss, up_sn, zb_n1, true_and, and_true, ↓reduceIte, hG.bw, hl2]
    exact (fH_n (fun j hj => hp j (by omega))).symm
theorem tr_pre : ∀ d s p, p < (tr R E s).length → (tr R E (s + d))[p]? = (tr R E s)[p]? := by
  intro d
  induction d with
  | zero => intro s p _; rfl
  | succ d ih =>
    intro s p hp
    have h1 := tr_mono (R := R) (E := E) d s
    rw [show s + (d + 1) = s + d + 1 by omega, tr_s, List.getElem?_append_left (by omega)]
    exact ih s p hp
theorem trA_kw {s j w : Nat} (hs : s < E 0 1) (h : (kw R E (E 2 s) (R 9 (E 2 s + 1)))[j]? = some w) : (trA R E)[(tr R E s).length + j]? = some w := by
  have hj : j < (kw R E (E 2 s) (R 9 (E 2 s + 1))).length := by
    apply Classical.byContradiction
    intro z
    rw [List.getElem?_eq_none (by omega)] at h
    cases h
  have h1 := tr_pre (R := R) (E := E) (E 0 1 - (s + 1)) (s + 1) ((tr R E s).length + j) (by rw [tr_s, List.length_append]; omega)
  rw [show s + 1 + (E 0 1 - (s + 1)) = E 0 1 by omega] at h1
  unfold trA
  rw [h1, tr_s, List.getElem?_append_right (by omega), Nat.add_sub_cancel_left]
  exact h
theorem kw_srt {b w i j u v : Nat} (hi : (kw R E b w)[i]? = some u) (hj : (kw R E b w)[j]? = some v) (h : u < v) : i < j := by
  have hp : (kw R E b w).Pairwise (fun a b => a < b) := by
    unfold kw
    exact List.Pairwise.filter _ List.pairwise_lt_range'
  rw [List.pairwise_iff_getElem] at hp
  obtain ⟨hi1, hi2⟩ := List.getElem?_eq_some_iff.mp hi
  obtain ⟨hj1, hj2⟩ := List.getElem?_eq_some_iff.mp hj
  rcases Nat.lt_trichotomy i j with q | q | q
  · exact q
  · subst q; omega
  · have := hp j i hj1 hi1 q
    omega
theorem c_wordHeard (hW : WR R) (hE : WE R E) (hC : CR h c R) (hD : CE h E) (hF : CF h R E) (hp : h 3 0 = nI c) (hk : knd c = 4 ∧ (c = 83 ∨ c = 97)) {f s p : Nat} (hf : f < 2147483648) (hs : s < E 0 1) (h5 : fs R E s ≤ f) (h6 : f < fs R E s + plE R E (E 2 s)) (hpp : p < 4) : f_X1_wordHeard h (nI f) (nI p) = some (fH R E (fun w => R 3 w = p) (E 2 s) (pf R E (E 2 s) + (f - fs R E s))) := by
  have h1 := hE.n
  have h2 := hW.bw
  have h3 := hW.w40
  have hlt := hE.lt s hs
  have hbw := hW.wlt _ hlt
  have hbl := bw_le hW (b := E 2 s + 1) (by omega)
  have hln := tr_le hW hE (s := s + 1) (by omega)
  have pfs := p_facts hW hE hlt
  have hpl : plE R E (E 2 s) ≤ 99999 := by unfold plE; omega
  have hfs := fs_le hW hE (s := s) (by omega)
  rw [tr_s, List.length_append] at hln
  refine wp_eq.mp ?_
  unfold f_X1_wordHeard
  rw [c_swf hW hE hD hF hf (Nat.le_of_lt hs) h5 (fun _ => h6), bnd_some, oI, if_pos hs]
  simp (disch := omega) only [li, nI_add, pk_mul, ix_n, lt_n, le_n, eq_n, sub_n, dec_n, inb_t, neg_n, neg_n', ck_true, stp_eq, bnd_some, wp_some, wp_stp, Nat.add_zero, Nat.lt_irrefl, Nat.reduceEqDiff, Nat.reduceAdd, Nat.reduceSub, Nat.reduceMul, Nat.reduceLT, Nat.reduceLeDiff, up_o, up_ss, up_sn, zb_n1, true_and, and_true, ↓reduceIte, c_sourceIn hW hE hF hs h5, hF.place]
  generalize hfr : pf R E (E 2 s) + (f - fs R E s) = fr
  have hfrb : fr < 2147483648 := by omega
  refine wp_for (i := 0) (kw R E (E 2 s) (R 9 (E 2 s + 1))).length (fun i x => x = nI ((tr R E s).length + i) ∧ ∀ j w, j < i → (kw R E (E 2 s) (R 9 (E 2 s + 1)))[j]? = some w → ¬ hP R E (fun w => R 3 w = p) fr w) (by omega) (by omega) ⟨rfl, fun s w hs => absurd hs (Nat.not_lt_zero _)⟩ ?_
  rintro i x r hi ⟨rfl, hp2⟩ k
  have hpl2 := hF.place (s + 1) (by omega)
  rw [tr_s, List.length_append] at hpl2
  unfold F_X1_wordHeard_29 J_X1_wordHeard_82
  by_cases hl : i < (kw R E (E 2 s) (R 9 (E 2 s + 1))).length
  · obtain ⟨w, hw⟩ := lget hl
    have hw0 := trA_kw hs hw
    have hw2 := trA_get hW hE hw0
    have hwm := kw_mem.mp (List.mem_of_getElem? hw)
    obtain ⟨f1, f2, f3, f4, f5, f6⟩ := w_facts hW hw2.1
    have nx : ¬ hP R E (fun w => R 3 w = p) fr w → ∀ j w, j < i + 1 → (kw R E (E 2 s) (R 9 (E 2 s + 1)))[j]? = some w → ¬ hP R E (fun w => R 3 w = p) fr w := by
      intro z j w2 hj hw3
      by_cases e : j = i
      · subst e
        rw [hw] at hw3
        obtain rfl := Option.some.inj hw3
        exact z
      · exact hp2 j w2 (by omega) hw3
    have hl3 : (tr R E s).length + i < (tr R E s).length + (kw R E (E 2 s) (R 9 (E 2 s + 1))).length := by omega
    simp (disch := omega) only [li, nI_add, pk_mul, ix_n, lt_n, le_n, eq_n, sub_n, dec_n, inb_t, neg_n, neg_n', ck_true, stp_eq, bnd_some, wp_some, wp_stp, Nat.add_zero, Nat.lt_irrefl, Nat.reduceEqDiff, Nat.reduceAdd, Nat.reduceSub, Nat.reduceMul, Nat.reduceLT, Nat.reduceLeDiff, up_o, up_ss, up_sn, zb_n1, true_and, and_true, ↓reduceIte, hpl2, hl3, hF.tr _ _ hw0, ckc hp hk, hC.o, c_isSpoken hW hC hw2.1]
    by_cases e : R 3 w = p
    · by_cases q1 : fr < R 4 w
      · simp (disch := omega) only [li, nI_add, pk_mul, ix_n, lt_n, le_n, eq_n, sub_n, dec_n, inb_t, neg_n, neg_n', ck_true, stp_eq, bnd_some, wp_some, wp_stp, Nat.add_zero, Nat.lt_irrefl, Nat.reduceEqDiff, Nat.reduceAdd, Nat.reduceSub, Nat.reduceMul, Nat.reduceLT, Nat.reduceLeDiff, up_o, up_ss, up_sn, zb_n1, true_and, and_true, ↓reduceIte, e, q1]
        exact k _ hl ⟨by rw [Nat.add_assoc], nx (fun z => by have := z.2.2.1; omega)⟩
      · by_cases q2 : fr < R 5 w
        · simp (disch := omega) only [li, nI_add, pk_mul, ix_n, lt_n, le_n, eq_n, sub_n, dec_n, inb_t, neg_n, neg_n', ck_true, stp_eq, bnd_some, wp_some, wp_stp, Nat.add_zero, Nat.lt_irrefl, Nat.reduceEqDiff, Nat.reduceAdd, Nat.reduceSub, Nat.reduceMul, Nat.reduceLT, Nat.reduceLeDiff, up_o, up_ss, up_sn, zb_n1, true_and, and_true, ↓reduceIte, e, q1, q2]
          have hy := fH_y (R := R) (E := E) (sp := fun w => R 3 w = p) (b := E 2 s) (fr := fr) (i := w - R 9 (E 2 s)) (by omega) (fun j hj z => ?_) (by rw [show R 9 (E 2 s) + (w - R 9 (E 2 s)) = w by omega]; exact ⟨e, hw2.2, by omega, q2⟩)
          · rw [show R 9 (E 2 s) + (w - R 9 (E 2 s)) = w by omega] at hy
            exact hy.symm
          · have hm : R 9 (E 2 s) + j ∈ kw R E (E 2 s) (R 9 (E 2 s + 1)) := kw_mem.mpr ⟨by omega, by omega, z.2.1⟩
            obtain ⟨m, hm1, hm2⟩ := List.getElem_of_mem hm
            have hm3 : (kw R E (E 2 s) (R 9 (E 2 s + 1)))[m]? = some (R 9 (E 2 s) + j) := by rw [List.getElem?_eq_getElem hm1, hm2]
            exact hp2 m _ (kw_srt hm3 hw (by omega)) hm3 z
        · simp (disch := omega) only [li, nI_add, pk_mul, ix_n, lt_n, le_n, eq_n, sub_n, dec_n, inb_t, neg_n, neg_n', ck_true, stp_eq, bnd_some, wp_some, wp_stp, Nat.add_zero, Nat.lt_irrefl, Nat.reduceEqDiff, Nat.reduceAdd, Nat.reduceSub, Nat.reduceMul, Nat.reduceLT, Nat.reduceLeDiff, up_o, up_ss, up_sn, zb_n1, true_and, and_true, ↓reduceIte, e, q1, q2]
          exact k _ hl ⟨by rw [Nat.add_assoc], nx (fun z => by have := z.2.2.2; omega)⟩
    · simp (disch := omega) only [li, nI_add, pk_mul, ix_n, lt_n, le_n, eq_n, sub_n, dec_n, inb_t, neg_n, neg_n', ck_true, stp_eq, bnd_some, wp_some, wp_stp, Nat.add_zero, Nat.lt_irrefl, Nat.reduceEqDiff, Nat.reduceAdd, Nat.reduceSub, Nat.reduceMul, Nat.reduceLT, Nat.reduceLeDiff, up_o, up_ss, up_sn, zb_n1, true_and, and_true, ↓reduceIte, e]
      exact k _ hl ⟨by rw [Nat.add_assoc], nx (fun z => e z.1)⟩
  · have hl3 : ¬ (tr R E s).length + i < (tr R E s).length + (kw R E (E 2 s) (R 9 (E 2 s + 1))).length := by omega
    simp (disch := omega) only [li, nI_add, pk_mul, ix_n, lt_n, le_n, eq_n, sub_n, dec_n, inb_t, neg_n, neg_n', ck_true, stp_eq, bnd_some, wp_some, wp_stp, Nat.add_zero, Nat.lt_irrefl, Nat.reduceEqDiff, Nat.reduceAdd, Nat.reduceSub, Nat.reduceMul, Nat.reduceLT, Nat.reduceLeDiff, up_o, up_ss, up_sn, zb_n1, true_and, and_true, ↓reduceIte, hpl2, hl3]
    refine (fH_n (fun j hj z => ?_)).symm
    have hm : R 9 (E 2 s) + j ∈ kw R E (E 2 s) (R 9 (E 2 s + 1)) := kw_mem.mpr ⟨by omega, by omega, z.2.1⟩
    obtain ⟨m, hm1, hm2⟩ := List.getElem_of_mem hm
    have hm3 : (kw R E (E 2 s) (R 9 (E 2 s + 1)))[m]? = some (R 9 (E 2 s) + j) := by rw [List.getElem?_eq_getElem hm1, hm2]
    exact hp2 m _ (by omega) hm3 z
theorem qa22 (q : QQ h g c R E) (x y : Int32) : QA (A_22 h g x y) h g := by
  have h1 := q.E.n
  have h2 := q.W.bw
  have h3 := q.W.w40
  have h5 := q.W.s4
  unfold A_22 f_L_heard
  rcases idb y (n := R 0 2) (by omega) with hx | ⟨p, hp, rfl⟩
  · refine QA.thr (Y := fun g => f_X11_heard g x y) (t := 1) (v := nI 0) (w := 0) ?_ (by simp) (fun z => absurd z (by decide)) (fun _ => ?_) 1 rfl
    · unfold f_X10_heard
      rw [c_rP' q hx, bnd_some, if_neg (by decide)]
      rfl
    · have z := q.z0
      show MA (bnd (f_X11_noSpeaker (up g 125 0 (nI 0)) y) _) _ _ _
      rw [m_noSpeaker' z.W z.G hx, bnd_some, if_neg (show ¬ nI 1 = 0 by decide)]
      exact MA.fail (by decide)
  · have mk : ∀ v, Wp (f_X11_finds (up (up g 145 0 v) 125 0 (nI 0)) x) _ := fun v => m_finds ((q.zo v).z0).W ((q.zo v).z0).E ((q.zo v).z0).G ((q.zo v).z0).M x
    have hv : (∃ f s, f < 2147483648 ∧ x = nI f ∧ s < E 0 1 ∧ fs R E s ≤ f ∧ f < fs R E s + plE R E (E 2 s)) ∨ (ngt x ∨ ∃ f, f < 2147483648 ∧ x = nI f ∧ fs R E (E 0 1) ≤ f) := by
      obtain ⟨u, eu, hu⟩ := mk 0
      rcases hu with ⟨_, hu⟩ | ⟨f, s, a1, a2, a3, a4, a5, _⟩
      · exact Or.inr hu
      · exact Or.inl ⟨f, s, a1, a2, a3, a4, a5⟩
    rcases hv with ⟨f, s, hf, rfl, hs, h6, h7⟩ | hv
    · refine QA.thr (Y := fun g => f_X11_heard g (nI f) (nI p)) (t := 0) (v := fH R E (fun w => R 3 w = p) (E 2 s) (pf R E (E 2 s) + (f - fs R E s))) (w := 0) ?_ (by simp) (fun _ => ?_) (fun z => absurd rfl z) 1 rfl
      · unfold f_X10_heard
        rw [c_rP q hp, bnd_some, if_pos rfl, c_wordHeard q.W q.E q.C q.D q.F q.p q.k hf hs h6 h7 (by omega), bnd_some]
      · obtain ⟨u, eu, hu⟩ := mk (fH R E (fun w => R 3 w = p) (E 2 s) (pf R E (E 2 s) + (f - fs R E s)))
        have z := (q.zo (fH R E (fun w => R 3 w = p) (E 2 s) (pf R E (E 2 s) + (f - fs R E s)))).z0
        refine MA.ok ?_
        show Wp (bnd (f_X11_noSpeaker (up (up g 145 0 (fH R E (fun w => R 3 w = p) (E 2 s) (pf R E (E 2 s) + (f - fs R E s)))) 125 0 (nI 0)) (nI p)) _) _
        rw [m_noSpeaker z.W z.G hp, bnd_some, if_pos (show nI 0 = (0 : Int32) from rfl)]
        show Wp (bnd (f_X11_finds (up (up g 145 0 (fH R E (fun w => R 3 w = p) (E 2 s) (pf R E (E 2 s) + (f - fs R E s)))) 125 0 (nI 0)) (nI f)) _) _
        rw [eu, bnd_some]
        rcases hu with ⟨_, hu⟩ | ⟨f2, s2, a1, a2, a3, a4, a5, rfl⟩
        · exfalso
          rcases hu with hu | ⟨f2, b1, b2, b3⟩
          · unfold ngt at hu
            rw [lt_n (by omega) (by omega)] at hu
            exact absurd hu (Nat.not_lt_zero _)
          · have e := (nI_eq (by omega) (by omega)).mp b2
            subst e
            have := fs_le2 (R := R) (E := E) (s := s + 1) (t := E 0 1) (by omega)
            rw [fs_s] at this
            omega
        · have e := (nI_eq (by omega) (by omega)).mp a2
          subst e
          have es : s2 = s := by
            rcases Nat.lt_trichotomy s2 s with y | y | y
            · have := fs_le2 (R := R) (E := E) (s := s2 + 1) (t := s) (by omega)
              rw [fs_s] at this
              omega
            · exact y
            · have := fs_le2 (R := R) (E := E) (s := s + 1) (t := s2) (by omega)
              rw [fs_s] at this
              omega
          subst es
          have pfs := p_facts q.W q.E (q.E.lt s2 hs)
          have hpl : plE R E (E 2 s2) ≤ 99999 := by unfold plE; omega
          generalize hg1 : up (up g 145 0 (fH R E (fun w => R 3 w = p) (E 2 s2) (pf R E (E 2 s2) + (f - fs R E s2)))) 125 0 (nI 0) = g1 at *
          have w1 := (GW.upF g1 (j := 30) (v := nI s2) (by decide)).tr (GW.upF _ (j := 31) (v := nI (pf R E (E 2 s2) + (f - fs R E s2))) (by decide))
          have e2 := m_heardBy z.W z.E (z.G.fr w1) (z.M.fr w1) (p1 := nI p) (sp := fun w => R 3 w = p) (s := s2) (fr := pf R E (E 2 s2) + (f - fs R E s2)) (Or.inr ⟨p, by omega, rfl, fun w => Iff.rfl⟩) hs (by rw [up_sn (by decide), up_ss]) up_ss (by omega)
          rw [if_neg (show ¬ nI 1 = (0 : Int32) by decide)]
          show Wp (bnd (f_X11_heardBy (up (up g1 125 30 (nI s2)) 125 31 (nI (pf R E (E 2 s2) + (f - fs R E s2)))) (nI p)) _) _
          rw [e2, bnd_some]
          refine wp_some.mpr ⟨rfl, g1, fun k h1 h2 h3 => ?_, fun j h1 h2 h3 h4 h5 => ?_, rfl⟩
          · show up (up g1 125 30 (nI s2)) 125 31 (nI (pf R E (E 2 s2) + (f - fs R E s2))) k = g1 k
            rw [up_o h1, up_o h1]
          · show up (up g1 125 30 (nI s2)) 125 31 (nI (pf R E (E 2 s2) + (f - fs R E s2))) 125 j = g1 125 j
            rw [up_sn h3, up_sn h2]
    · refine QA.thr (Y := fun g => f_X11_heard g x (nI p)) (t := 0) (v := -nI 1) (w := 0) ?_ (by simp) (fun _ => ?_) (fun z => absurd rfl z) 1 rfl
      · unfold f_X10_heard
        rw [c_rP q hp, bnd_some, if_pos rfl]
        unfold f_X1_wordHeard
        rcases hv with hv | ⟨f, hf, rfl, hv⟩
        · rw [c_swf' q.W q.E q.D q.F hv, bnd_some, if_pos (show -nI 1 = (-1 : Int32) from rfl)]
          rfl
        · rw [c_swf q.W q.E q.D q.F hf (Nat.le_refl _) hv (fun y => absurd y (Nat.lt_irrefl _)), bnd_some, oI, if_neg (Nat.lt_irrefl _), if_pos (show -nI 1 = (-1 : Int32) from rfl)]
          rfl
      · obtain ⟨u, eu, hu⟩ := mk (-nI 1)
        have z := (q.zo (-nI 1)).z0
        refine MA.ok ?_
        show Wp (bnd (f_X11_noSpeaker (up (up g 145 0 (-nI 1)) 125 0 (nI 0)) (nI p)) _) _
        rw [m_noSpeaker z.W z.G hp, bnd_some, if_pos (show nI 0 = (0 : Int32) from rfl)]
        show Wp (bnd (f_X11_finds (up (up g 145 0 (-nI 1)) 125 0 (nI 0)) x) _) _
        rw [eu, bnd_some]
        rcases hu with ⟨rfl, hu⟩ | ⟨f2, s2, a1, rfl, a3, a4, a5, rfl⟩
        · rw [if_pos (show nI 0 = (0 : Int32) from rfl)]
          exact wp_some.mpr ⟨rfl, _, fun k h1 h2 h3 => rfl, fun j h1 h2 h3 h4 h5 => rfl, rfl⟩
        · exfalso
          rcases hv with hu | ⟨f, b1, b2, b3⟩
          · unfold ngt at hu
            rw [lt_n (by omega) (by omega)] at hu
            exact absurd hu (Nat.not_lt_zero _)
          · have e := (nI_eq (by omega) (by omega)).mp b2
            subst e
            have := fs_le2 (R := R) (E := E) (s := s2 + 1) (t := E 0 1) (by omega)
            rw [fs_s] at this
            omega
end
