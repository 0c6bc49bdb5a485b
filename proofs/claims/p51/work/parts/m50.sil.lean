/-! silence, the model's way -/
section
variable {h g : Hp} {c : Nat} {R E : Nat → Nat → Nat}
theorem stF_y {b f : Nat} {t : Nat × Nat × Nat} (q : hdF R E b f) : stF R E b f t = (t.1, t.2.1, 0) := if_pos q
theorem stF_n {b f : Nat} {t : Nat × Nat × Nat} (q : ¬ hdF R E b f) : stF R E b f t = (t.1 + 1, max t.2.1 (t.2.2 + 1), t.2.2 + 1) := if_neg q
theorem sF_le {b f : Nat} {t : Nat × Nat × Nat} {m : Nat} (h0 : t.1 ≤ m ∧ t.2.1 ≤ m ∧ t.2.2 ≤ m) : ∀ k, (sF R E b f t k).1 ≤ m + k ∧ (sF R E b f t k).2.1 ≤ m + k ∧ (sF R E b f t k).2.2 ≤ m + k := by
  intro k
  induction k with
  | zero => exact h0
  | succ k ih =>
    rw [sF_s]
    by_cases q : hdF R E b (f + k)
    · rw [stF_y q]
      refine ⟨?_, ?_, ?_⟩
      · show (sF R E b f t k).1 ≤ _; omega
      · show (sF R E b f t k).2.1 ≤ _; omega
      · show 0 ≤ _; omega
    · rw [stF_n q]
      refine ⟨?_, ?_, ?_⟩
      · show (sF R E b f t k).1 + 1 ≤ _; omega
      · show max (sF R E b f t k).2.1 ((sF R E b f t k).2.2 + 1) ≤ _; omega
      · show (sF R E b f t k).2.2 + 1 ≤ _; omega
theorem sS_le : ∀ s, (sS R E s).1 ≤ fs R E s ∧ (sS R E s).2.1 ≤ fs R E s ∧ (sS R E s).2.2 ≤ fs R E s := by
  intro s
  induction s with
  | zero => exact ⟨Nat.le_refl _, Nat.le_refl _, Nat.le_refl _⟩
  | succ s ih =>
    rw [sS_s, fs_s]
    exact sF_le ih _
theorem fH_hd (hW : WR R) {b fr : Nat} (hb : b < R 0 13) : (fH R E (fun _ => True) b fr = -nI 1) = ¬ hdF R E b fr := by
  have h3 := hW.w40
  have hbl := bw_le hW (b := b + 1) (by omega)
  obtain ⟨a1, a2, a3⟩ := sch_spec (fun j => hP R E (fun _ => True) fr (R 9 b + j)) (R 9 (b + 1) - R 9 b)
  unfold fH
  by_cases q : sch (fun j => hP R E (fun _ => True) fr (R 9 b + j)) (R 9 (b + 1) - R 9 b) < R 9 (b + 1) - R 9 b
  · rw [if_pos q, neg_n (by omega)]
    obtain ⟨_, b1, b2, b3⟩ := a3 q
    refine propext ⟨fun z => z.elim, fun z => z ⟨_, by omega, by omega, b1, b2, b3⟩⟩
  · rw [if_neg q]
    refine propext ⟨fun _ z => ?_, fun _ => rfl⟩
    obtain ⟨w, c1, c2, c3, c4, c5⟩ := z
    refine a2 (w - R 9 b) (by omega) ⟨trivial, ?_⟩
    rw [show R 9 b + (w - R 9 b) = w by omega]
    exact ⟨c3, c4, c5⟩
theorem m_countsSilence (hW : WR R) (hE : WE R E) (hG : GR g R) (hM : GE g E) : Wp (f_X11_countsSilence g) (fun u => u 125 32 = nI (sS R E (E 0 1)).1 ∧ u 125 33 = nI (sS R E (E 0 1)).2.1 ∧ GW g u) := by
  have h1 := hE.n
  have h2 := hW.bw
  have h3 := hW.w40
  unfold f_X11_countsSilence
  simp (disch := omega) only [li, nI_add, pk_mul, ix_n, lt_n, le_n, eq_n, sub_n, dec_n, inb_t, neg_n, neg_n', ck_true, stp_eq, bnd_some, wp_some, wp_stp, Nat.add_zero, Nat.lt_irrefl, Nat.reduceEqDiff, Nat.reduceAdd, Nat.reduceSub, Nat.reduceMul, Nat.reduceLT, Nat.reduceLeDiff, up_o, up_ss, up_sn, zb_n1, true_and, and_true, ↓reduceIte]
  refine wp_for (i := 0) (E 0 1) (fun i x => ∃ g1, x = (nI (sS R E i).2.2, nI i, g1) ∧ GW g g1 ∧ g1 125 32 = nI (sS R E i).1 ∧ g1 125 33 = nI (sS R E i).2.1) (by omega) (by omega) ⟨_, rfl, (GW.upF g (by decide)).tr (GW.upF _ (by decide)), by rw [up_sn (by decide), up_ss]; rfl, up_ss⟩ ?_
  rintro i x r hi ⟨g1, rfl, w1, a1, a2⟩ k
  have hM1 := hM.fr w1
  have hsl := sS_le (R := R) (E := E) i
  have hfl := fs_le hW hE (s := i) hi
  unfold F_X11_countsSilence_14
  by_cases hl : i < E 0 1
  · have hlt := hE.lt i hl
    have pfs := p_facts hW hE hlt
    have w2 := w1.tr (GW.upF g1 (j := 30) (v := nI i) (by decide))
    simp (disch := omega) only [li, nI_add, pk_mul, ix_n, lt_n, le_n, eq_n, sub_n, dec_n, inb_t, neg_n, neg_n', ck_true, stp_eq, bnd_some, wp_some, wp_stp, Nat.add_zero, Nat.lt_irrefl, Nat.reduceEqDiff, Nat.reduceAdd, Nat.reduceSub, Nat.reduceMul, Nat.reduceLT, Nat.reduceLeDiff, up_o, up_ss, up_sn, zb_n1, true_and, and_true, ↓reduceIte, hM1.n, hl, m_shotBlock hW hE (hM.fr w2) hl, m_playsFrom hW hE (hG.fr w2) (hM.fr w2) hlt]
    have w3 := w2.tr (GW.upF _ (j := 31) (v := nI (pf R E (E 2 i))) (by decide))
    refine wp_for (i := 0) (plE R E (E 2 i)) (fun m x => ∃ g2, x = (nI (sF R E (E 2 i) (pf R E (E 2 i)) (sS R E i) m).2.2, g2) ∧ GW g g2 ∧ g2 125 30 = nI i ∧ g2 125 31 = nI (pf R E (E 2 i) + m) ∧ g2 125 32 = nI (sF R E (E 2 i) (pf R E (E 2 i)) (sS R E i) m).1 ∧ g2 125 33 = nI (sF R E (E 2 i) (pf R E (E 2 i)) (sS R E i) m).2.1) (by unfold plE; omega) (by omega) ⟨_, rfl, w3, by rw [up_sn (by decide), up_ss], up_ss, by rw [up_sn (by decide), up_sn (by decide), a1]; rfl, by rw [up_sn (by decide), up_sn (by decide), a2]; rfl⟩ ?_
    rintro m x r2 hm ⟨g2, rfl, w4, b0, b1, b2, b3⟩ k2
    have hsf := sF_le (R := R) (E := E) (b := E 2 i) (f := pf R E (E 2 i)) (t := sS R E i) (m := fs R E i) hsl m
    have hpt := m_playsTo hW hE (hG.fr w4) (hM.fr w4) hlt
    have hpl : plE R E (E 2 i) ≤ 99999 := by unfold plE; omega
    have hpe : pf R E (E 2 i) + plE R E (E 2 i) = pt R E (E 2 i) := by unfold plE; omega
    unfold F_X11_countsSilence_45 J_X11_countsSilence_71 J_X11_countsSilence_88 J_X11_countsSilence_104 J_X11_countsSilence_130
    by_cases hml : m < plE R E (E 2 i)
    · have hml2 : pf R E (E 2 i) + m < pt R E (E 2 i) := by omega
      have hh := m_heardBy hW hE (hG.fr w4) (hM.fr w4) (p1 := -nI 1) (sp := fun _ => True) (Or.inl ⟨rfl, fun _ => trivial⟩) hl b0 b1 (by omega)
      simp (disch := omega) only [li, nI_add, pk_mul, ix_n, lt_n, le_n, eq_n, sub_n, dec_n, inb_t, neg_n, neg_n', ck_true, stp_eq, bnd_some, wp_some, wp_stp, Nat.add_zero, Nat.lt_irrefl, Nat.reduceEqDiff, Nat.reduceAdd, Nat.reduceSub, Nat.reduceMul, Nat.reduceLT, Nat.reduceLeDiff, up_o, up_ss, up_sn, zb_n1, true_and, and_true, ↓reduceIte, hpt, b1, hml2, hh, b2, b3, imax_n]
      have wf : ∀ (a b d : Int32), GW g (up (up (up g2 125 32 a) 125 33 b) 125 31 d) := fun a b d => ((w4.tr (GW.upF _ (by decide))).tr (GW.upF _ (by decide))).tr (GW.upF _ (by decide))
      refine wp_if (fun hq => ?_) (fun hq => ?_)
      · have hq : ¬ hdF R E (E 2 i) (pf R E (E 2 i) + m) := by rw [← fH_hd hW hlt]; exact hq
        refine k2 _ hml ⟨_, by rw [sF_s, stF_n hq], wf _ _ _, ?_, ?_, ?_, ?_⟩
        · rw [up_sn (by decide), up_sn (by decide), up_sn (by decide), b0]
        · rw [up_ss, Nat.add_assoc]
        · rw [up_sn (by decide), up_sn (by decide), up_ss, sF_s, stF_n hq]
        · rw [up_sn (by decide), up_ss, sF_s, stF_n hq]
      · have hq : hdF R E (E 2 i) (pf R E (E 2 i) + m) := Classical.not_not.mp (by rw [← fH_hd hW hlt]; exact hq)
        refine k2 _ hml ⟨_, by rw [sF_s, stF_y hq], wf _ _ _, ?_, ?_, ?_, ?_⟩
        · rw [up_sn (by decide), up_sn (by decide), up_sn (by decide), b0]
        · rw [up_ss, Nat.add_assoc]
        · rw [up_sn (by decide), up_sn (by decide), up_ss, sF_s, stF_y hq]
        · rw [up_sn (by decide), up_ss, sF_s, stF_y hq, Nat.max_eq_left (Nat.zero_le _)]
    · have e : m = plE R E (E 2 i) := by omega
      have hml2 : ¬ pf R E (E 2 i) + m < pt R E (E 2 i) := by omega
      simp (disch := omega) only [li, nI_add, pk_mul, ix_n, lt_n, le_n, eq_n, sub_n, dec_n, inb_t, neg_n, neg_n', ck_true, stp_eq, bnd_some, wp_some, wp_stp, Nat.add_zero, Nat.lt_irrefl, Nat.reduceEqDiff, Nat.reduceAdd, Nat.reduceSub, Nat.reduceMul, Nat.reduceLT, Nat.reduceLeDiff, up_o, up_ss, up_sn, zb_n1, true_and, and_true, ↓reduceIte, hpt, b1, hml2]
      subst e
      refine k _ hl ⟨g2, by rw [sS_s], w4, ?_, ?_⟩
      · rw [sS_s]; exact b2
      · rw [sS_s]; exact b3
  · have e : i = E 0 1 := by omega
    simp (disch := omega) only [li, nI_add, pk_mul, ix_n, lt_n, le_n, eq_n, sub_n, dec_n, inb_t, neg_n, neg_n', ck_true, stp_eq, bnd_some, wp_some, wp_stp, Nat.add_zero, Nat.lt_irrefl, Nat.reduceEqDiff, Nat.reduceAdd, Nat.reduceSub, Nat.reduceMul, Nat.reduceLT, Nat.reduceLeDiff, up_o, up_ss, up_sn, zb_n1, true_and, and_true, ↓reduceIte, hM1.n, hl]
    subst e
    exact ⟨a1, a2, w1⟩
theorem qa23 (q : QQ h g c R E) : QA (A_23 h g) h g := by
  have z := q.z0
  refine QA.of (v := nI (sS R E (E 0 1)).1) ?_ ?_
  · unfold f_X10_silence
    rw [q.F.sil]
  · unfold f_X11_silence
    rw [stp_eq]
    exact wp_bnd_of (m_countsSilence z.W z.E z.G z.M) (fun u k => wp_some.mpr ⟨k.1, (GW.upF g (by decide)).tr k.2.2⟩)
theorem qa24 (q : QQ h g c R E) : QA (A_24 h g) h g := by
  have z := q.z0
  refine QA.of (v := nI (sS R E (E 0 1)).2.1) ?_ ?_
  · unfold f_X10_longestSilence
    rw [q.F.lon]
  · unfold f_X11_longestSilence
    rw [stp_eq]
    exact wp_bnd_of (m_countsSilence z.W z.E z.G z.M) (fun u k => wp_some.mpr ⟨k.2.1, (GW.upF g (by decide)).tr k.2.2⟩)
end
