/-! formatTranscript, formatShot, formattedByte -/
def FFr (g g' : Hp) : Prop := (∀ k, relO k = true → ¬ k = 144 → g' k = g k) ∧ ∀ j, relF j = true → ¬ j = 42 → g' 125 j = g 125 j
theorem FFr.rf (g : Hp) : FFr g g := ⟨fun _ _ _ => rfl, fun _ _ _ => rfl⟩
theorem FFr.tr {a b c : Hp} (h1 : FFr a b) (h2 : FFr b c) : FFr a c := ⟨fun k p q => (h2.1 k p q).trans (h1.1 k p q), fun j p q => (h2.2 j p q).trans (h1.2 j p q)⟩
theorem GW.ff {g g' : Hp} (q : GW g g') : FFr g g' := ⟨fun k p _ => q.1 k p, fun j p _ => q.2 j p⟩
theorem GX.ff {g g' : Hp} (q : GX g g') : FFr g g' := ⟨fun k p a => q.1 k (fun e => by subst e; revert p; decide) a, fun j _ a => q.2 j a⟩
theorem ED.ff {h h' g g' : Hp} {c d x : Nat} {R E : Nat → Nat → Nat} {hi : Nat → Nat → Nat → Nat} (w : ED h g c R E d x hi) (hx : CXf h h') (f : FFr g g') : ED h' g' c R E d x hi := by
  have hk := w.Q.k
  have hG : GR g' R := by
    unfold GR
    rw [f.1 126 (by decide) (by decide), f.1 128 (by decide) (by decide), f.1 129 (by decide) (by decide), f.1 130 (by decide) (by decide), f.1 131 (by decide) (by decide), f.1 132 (by decide) (by decide), f.1 133 (by decide) (by decide), f.2 3 (by decide) (by decide)]
    exact w.Q.G
  have hM : GE g' E := by
    unfold GE
    rw [f.1 134 (by decide) (by decide)]
    exact w.Q.M
  have hF : CF h' R E := by
    have : ∀ k, k ≤ 12 → h' k = h k := fun k hk => hx k (by omega) (by omega)
    unfold CF
    rw [this 3 (by decide), this 4 (by decide), this 5 (by decide), this 6 (by decide), this 7 (by decide), this 8 (by decide), this 9 (by decide), this 10 (by decide), this 11 (by decide)]
    exact w.Q.F
  exact ⟨⟨w.Q.W, w.Q.E, w.Q.X, hG, hM, w.Q.C.fr (fun o ho => hx _ (by omega) (by omega)), w.Q.D.fr (fun k a b => hx k (by omega) (by omega)), hF, by rw [hx 3 (by decide) (by decide)]; exact w.Q.p, hk⟩, w.Hc.fr (fun k a => hx k (by omega) (by omega)), w.Hg.fr (f.2 13 (by decide) (by decide)) (f.1 135 (by decide) (by decide)), w.Hw⟩
def fstS (R E : Nat → Nat → Nat) (m : Nat) : Prop := ∃ s, s < E 0 1 ∧ (tr R E s).length = m
noncomputable def ftL (R E : Nat → Nat → Nat) (m : Nat) : List Nat := Nat.rec (motive := fun _ => List Nat) [] (fun m r => r ++ (if m = 0 then [] else @ite _ (fstS R E m) (Classical.propDecidable _) [32, 47, 32] [32]) ++ nmL 6 (R 2 ((trA R E).getD m 0))) m
theorem ftL_s (R E : Nat → Nat → Nat) (m : Nat) : ftL R E (m + 1) = ftL R E m ++ (if m = 0 then [] else @ite _ (fstS R E m) (Classical.propDecidable _) [32, 47, 32] [32]) ++ nmL 6 (R 2 ((trA R E).getD m 0)) := rfl
theorem ftL_len (R E : Nat → Nat → Nat) : ∀ m, (ftL R E m).length ≤ 9 * m := by
  intro m
  induction m with
  | zero => exact Nat.le_refl _
  | succ m ih =>
    have h1 := nmL_len 6 (R 2 ((trA R E).getD m 0))
    rw [ftL_s, List.length_append, List.length_append]
    split
    · rw [List.length_nil]; omega
    · split
      · show _ + 3 + _ ≤ _; omega
      · show _ + 1 + _ ≤ _; omega
theorem tx_0 : tl 0 = 3 ∧ ∀ j, j < 3 → tb 0 j = nI ([32, 47, 32].getD j 0) ∧ [32, 47, 32].getD j 0 < 128 := by decide +kernel
theorem tx_1 : tl 1 = 1 ∧ ∀ j, j < 1 → tb 1 j = nI ([32].getD j 0) ∧ [32].getD j 0 < 128 := by decide +kernel
theorem tx_28 : tl 28 = 1 ∧ ∀ j, j < 1 → tb 28 j = nI ([115].getD j 0) ∧ [115].getD j 0 < 128 := by decide +kernel
theorem tx_29 : tl 29 = 1 ∧ ∀ j, j < 1 → tb 29 j = nI ([45].getD j 0) ∧ [45].getD j 0 < 128 := by decide +kernel
theorem tx_30 : tl 30 = 1 ∧ ∀ j, j < 1 → tb 30 j = nI ([58].getD j 0) ∧ [58].getD j 0 < 128 := by decide +kernel
theorem tx_31 : tl 31 = 2 ∧ ∀ j, j < 2 → tb 31 j = nI ([58, 91].getD j 0) ∧ [58, 91].getD j 0 < 128 := by decide +kernel
theorem tx_32 : tl 32 = 0 ∧ ∀ j, j < 0 → tb 32 j = nI (([] : List Nat).getD j 0) ∧ ([] : List Nat).getD j 0 < 128 := by decide +kernel
theorem tx_33 : tl 33 = 1 ∧ ∀ j, j < 1 → tb 33 j = nI ([93].getD j 0) ∧ [93].getD j 0 < 128 := by decide +kernel
section
variable {h g : Hp} {c : Nat} {R E : Nat → Nat → Nat} {d x : Nat} {hi : Nat → Nat → Nat → Nat}
theorem tr_le2 {s t : Nat} (hst : s ≤ t) : (tr R E s).length ≤ (tr R E t).length := by
  have := tr_mono (R := R) (E := E) (t - s) s
  rw [show s + (t - s) = t by omega] at this
  exact this
theorem fst_iff {s m : Nat} (hs : s < E 0 1) (h1 : (tr R E s).length ≤ m) (h2 : m < (tr R E (s + 1)).length) : fstS R E m ↔ m = (tr R E s).length := by
  constructor
  · rintro ⟨t, h3, h4⟩
    by_cases z : t ≤ s
    · have := tr_le2 (R := R) (E := E) z
      omega
    · have := tr_le2 (R := R) (E := E) (show s + 1 ≤ t by omega)
      omega
  · intro e
    exact ⟨s, hs, e.symm⟩
theorem so_get : ∀ s m, m < (tr R E s).length → ∃ k, k < s ∧ (so R E s)[m]? = some k ∧ (tr R E k).length ≤ m ∧ m < (tr R E (k + 1)).length := by
  intro s
  induction s with
  | zero => intro m h; exact absurd h (Nat.not_lt_zero _)
  | succ s ih =>
    intro m hm
    by_cases z : m < (tr R E s).length
    · obtain ⟨k, a1, a2, a3, a4⟩ := ih m z
      refine ⟨k, by omega, ?_, a3, a4⟩
      rw [so_s, List.getElem?_append_left (by rw [so_len]; exact z)]
      exact a2
    · refine ⟨s, by omega, ?_, by omega, hm⟩
      rw [so_s, List.getElem?_append_right (by rw [so_len]; omega), so_len, List.getElem?_replicate, if_pos]
      rw [tr_s, List.length_append] at hm
      omega
theorem c_writeTranscript (hW : WR R) (hE : WE R E) (hX : WX R E) (hC : CR h c R) (hD : CE h E) (hF : CF h R E) (hp : h 3 0 = nI c) (hk : knd c = 4 ∧ (c = 83 ∨ c = 97)) : Wp (f_X2_writeTranscript h) (fun u => CT u (ftL R E (trA R E).length) ∧ CXf h u) := by
  have hn := hE.n
  have hbw := hW.bw
  have h40 := hW.w40
  have hlA := trA_le hW hE
  unfold f_X2_writeTranscript
  simp (disch := omega) only [li, nI_add, pk_mul, ix_n, lt_n, le_n, eq_n, sub_n, dec_n, inb_t, neg_n, neg_n', ck_true, stp_eq, bnd_some, wp_some, wp_stp, Nat.add_zero, Nat.lt_irrefl, Nat.reduceEqDiff, Nat.reduceAdd, Nat.reduceSub, Nat.reduceMul, Nat.reduceLT, Nat.reduceLeDiff, up_o, up_ss, up_sn, zb_n1, true_and, and_true, ↓reduceIte]
  refine wp_for (i := 0) (E 0 1) (fun i s => ∃ h1, s = (nI i, h1) ∧ CT h1 (ftL R E (tr R E i).length) ∧ CXf h h1) (by omega) (by omega) ⟨_, rfl, ⟨up_ss, Arr.nil _⟩, fun k a b => up_o a⟩ ?_
  rintro i s r hi2 ⟨h1, rfl, a1, a2⟩ k
  have e18 := a2 18 (by decide) (by decide)
  have e7 := a2 7 (by decide) (by decide)
  unfold F_X2_writeTranscript_7
  by_cases hl : i < E 0 1
  · have hln := tr_le2 (R := R) (E := E) (show i + 1 ≤ E 0 1 by omega)
    have hln : (tr R E (i + 1)).length ≤ (trA R E).length := hln
    have hmm := tr_mono (R := R) (E := E) 1 i
    simp (disch := omega) only [li, nI_add, pk_mul, ix_n, lt_n, le_n, eq_n, sub_n, dec_n, inb_t, neg_n, neg_n', ck_true, stp_eq, bnd_some, wp_some, wp_stp, Nat.add_zero, Nat.lt_irrefl, Nat.reduceEqDiff, Nat.reduceAdd, Nat.reduceSub, Nat.reduceMul, Nat.reduceLT, Nat.reduceLeDiff, up_o, up_ss, up_sn, zb_n1, true_and, and_true, ↓reduceIte, e18, hD.z, hl, e7, hF.place]
    refine wp_for (i := (tr R E i).length) (tr R E (i + 1)).length (fun m s => ∃ h2, s = (nI m, h2) ∧ (tr R E i).length ≤ m ∧ CT h2 (ftL R E m) ∧ CXf h h2) (by omega) hmm ⟨h1, rfl, Nat.le_refl _, a1, a2⟩ ?_
    rintro m s r2 hm ⟨h2, rfl, hm0, b1, b2⟩ k2
    have g7 := b2 7 (by decide) (by decide)
    have hfl := ftL_len R E m
    unfold F_X2_writeTranscript_25 J_X2_writeTranscript_86
    by_cases hml : m < (tr R E (i + 1)).length
    · obtain ⟨w, hw⟩ := lget (show m < (trA R E).length by omega)
      have hw2 := (trA_get hW hE hw).1
      have hwD : (trA R E).getD m 0 = w := by rw [List.getD_eq_getElem?_getD, hw]; rfl
      have hff := fst_iff (R := R) hl hm0 hml
      have hnm := nmL_len 6 (R 2 w)
      have fin : ∀ (h3 : Hp) (l : List Nat), CT h3 l → CXf h h3 → l.length < 900 → l ++ nmL 6 (R 2 w) = ftL R E (m + 1) → Wp (J_X2_writeTranscript_62 h3 r r2 (nI i) (nI m)) (fun u => CT u (ftL R E (trA R E).length) ∧ CXf h u) := by
        intro h3 l hT hXX hll he
        have g9 := hXX 9 (by decide) (by decide)
        have g0 : h3 3 0 = nI c := by rw [hXX 3 (by decide) (by decide)]; exact hp
        have gc : h3 (c + 2) w = nI (R 2 w) := by rw [hXX _ (by omega) (by omega)]; exact hC.o 2 w (by omega)
        unfold J_X2_writeTranscript_62
        simp (disch := omega) only [li, nI_add, pk_mul, ix_n, lt_n, le_n, eq_n, sub_n, dec_n, inb_t, neg_n, neg_n', ck_true, stp_eq, bnd_some, wp_some, wp_stp, Nat.add_zero, Nat.lt_irrefl, Nat.reduceEqDiff, Nat.reduceAdd, Nat.reduceSub, Nat.reduceMul, Nat.reduceLT, Nat.reduceLeDiff, up_o, up_ss, up_sn, zb_n1, true_and, and_true, ↓reduceIte, ckp_of g0 hk.1, g9, hF.tr _ _ hw, gc]
        refine wp_bnd_of (c_putName hT (by omega) (hW.tx w hw2)) (fun h4 k4 => ?_)
        exact k2 _ hml ⟨h4, rfl, by omega, by rw [← he]; exact k4.1, hXX.tr k4.2⟩
      by_cases z : m = 0
      · have e0 : ¬ 0 < m := by omega
        subst z
        simp (disch := omega) only [li, nI_add, pk_mul, ix_n, lt_n, le_n, eq_n, sub_n, dec_n, inb_t, neg_n, neg_n', ck_true, stp_eq, bnd_some, wp_some, wp_stp, Nat.add_zero, Nat.lt_irrefl, Nat.reduceEqDiff, Nat.reduceAdd, Nat.reduceSub, Nat.reduceMul, Nat.reduceLT, Nat.reduceLeDiff, up_o, up_ss, up_sn, zb_n1, true_and, and_true, ↓reduceIte, g7, hF.place, hml]
        refine fin h2 _ b1 b2 (by omega) ?_
        rw [ftL_s, if_pos rfl, List.append_nil, hwD]
      · have z1 : ¬ m ≤ 0 := by omega
        by_cases z2 : m = (tr R E i).length
        · have z3 : fstS R E m := hff.mpr z2
          simp (disch := omega) only [li, nI_add, pk_mul, ix_n, lt_n, le_n, eq_n, sub_n, dec_n, inb_t, neg_n, neg_n', ck_true, stp_eq, bnd_some, wp_some, wp_stp, Nat.add_zero, Nat.lt_irrefl, Nat.reduceEqDiff, Nat.reduceAdd, Nat.reduceSub, Nat.reduceMul, Nat.reduceLT, Nat.reduceLeDiff, up_o, up_ss, up_sn, zb_n1, true_and, and_true, ↓reduceIte, g7, hF.place, hml, z1]
          rw [if_pos z2]
          unfold J_X2_writeTranscript_59
          refine wp_bnd_of (c_putText b1 (cs := [32, 47, 32]) (by show _ + 3 < _; omega) tx_0.1 tx_0.2) (fun h4 k4 => ?_)
          refine fin h4 _ k4.1 (b2.tr k4.2) (by rw [List.length_append]; show _ + 3 < _; omega) ?_
          rw [ftL_s, if_neg z, if_pos z3, hwD]
        · have z3 : ¬ fstS R E m := fun y => z2 (hff.mp y)
          simp (disch := omega) only [li, nI_add, pk_mul, ix_n, lt_n, le_n, eq_n, sub_n, dec_n, inb_t, neg_n, neg_n', ck_true, stp_eq, bnd_some, wp_some, wp_stp, Nat.add_zero, Nat.lt_irrefl, Nat.reduceEqDiff, Nat.reduceAdd, Nat.reduceSub, Nat.reduceMul, Nat.reduceLT, Nat.reduceLeDiff, up_o, up_ss, up_sn, zb_n1, true_and, and_true, ↓reduceIte, g7, hF.place, hml, z1]
          rw [if_neg z2]
          unfold J_X2_writeTranscript_59
          refine wp_bnd_of (c_putText b1 (cs := [32]) (by show _ + 1 < _; omega) tx_1.1 tx_1.2) (fun h4 k4 => ?_)
          refine fin h4 _ k4.1 (b2.tr k4.2) (by rw [List.length_append]; show _ + 1 < _; omega) ?_
          rw [ftL_s, if_neg z, if_neg z3, hwD]
    · have e : m = (tr R E (i + 1)).length := by omega
      simp (disch := omega) only [li, nI_add, pk_mul, ix_n, lt_n, le_n, eq_n, sub_n, dec_n, inb_t, neg_n, neg_n', ck_true, stp_eq, bnd_some, wp_some, wp_stp, Nat.add_zero, Nat.lt_irrefl, Nat.reduceEqDiff, Nat.reduceAdd, Nat.reduceSub, Nat.reduceMul, Nat.reduceLT, Nat.reduceLeDiff, up_o, up_ss, up_sn, zb_n1, true_and, and_true, ↓reduceIte, g7, hF.place, hml]
      exact k _ hl ⟨h2, rfl, by rw [← e]; exact b1, b2⟩
  · have e : i = E 0 1 := by omega
    simp (disch := omega) only [li, nI_add, pk_mul, ix_n, lt_n, le_n, eq_n, sub_n, dec_n, inb_t, neg_n, neg_n', ck_true, stp_eq, bnd_some, wp_some, wp_stp, Nat.add_zero, Nat.lt_irrefl, Nat.reduceEqDiff, Nat.reduceAdd, Nat.reduceSub, Nat.reduceMul, Nat.reduceLT, Nat.reduceLeDiff, up_o, up_ss, up_sn, zb_n1, true_and, and_true, ↓reduceIte, e18, hD.z, hl]
    subst e
    exact ⟨a1, a2⟩
theorem m_formatTranscript (hW : WR R) (hE : WE R E) (hX : WX R E) (hG : GR g R) (hM : GE g E) : Wp (f_X11_formatTranscript g) (fun u => u.1 = nI (ftL R E (trA R E).length).length ∧ GT u.2 (ftL R E (trA R E).length) ∧ FFr g u.2) := by
  have hlA := trA_le hW hE
  have w0 := GW.upF g (j := 0) (v := nI 0) (by decide)
  unfold f_X11_formatTranscript
  rw [stp_eq]
  refine wp_bnd_of (m_laysRow hW hE (hG.fr w0) (hM.fr w0)) (fun g1 k1 => ?_)
  have G1 := (hG.fr w0).fr k1.gw
  have x0 : GX g1 (up g1 125 42 (nI 0)) := ⟨fun k a b => up_o a, fun j a => up_sn a⟩
  rw [stp_eq]
  refine wp_for (i := 0) (trA R E).length (fun i s => ∃ g2, s = (nI i, g2) ∧ GT g2 (ftL R E i) ∧ GX g1 g2) (by omega) (by omega) ⟨_, rfl, ⟨up_ss, Arr.nil _⟩, x0⟩ ?_
  rintro i s r hi2 ⟨g2, rfl, a1, a2⟩ k
  have e36 : g2 125 36 = nI (trA R E).length := by rw [a2.2 36 (by decide)]; exact k1.n
  have hfl := ftL_len R E i
  unfold F_X11_formatTranscript_16
  by_cases hl : i < (trA R E).length
  · obtain ⟨w, hw⟩ := lget hl
    have hw2 := (trA_get hW hE hw).1
    have hwD : (trA R E).getD i 0 = w := by rw [List.getD_eq_getElem?_getD, hw]; rfl
    have hnm := nmL_len 6 (R 2 w)
    obtain ⟨s1, b1, b2, b3, b4⟩ := so_get (R := R) (E := E) (E 0 1) i hl
    have b2 : (soA R E)[i]? = some s1 := b2
    have hff := fst_iff (R := R) b1 b3 b4
    have fin : ∀ (g3 : Hp) (l : List Nat), GT g3 l → GX g1 g3 → l.length < 850 → l ++ nmL 6 (R 2 w) = ftL R E (i + 1) → Wp (J_X11_formatTranscript_67 g3 r (nI i)) (fun u => u.1 = nI (ftL R E (trA R E).length).length ∧ GT u.2 (ftL R E (trA R E).length) ∧ FFr g u.2) := by
      intro g3 l hT hXX hll he
      have g141 : g3 141 i = nI w := by rw [hXX.1 141 (by decide) (by decide)]; exact k1.row _ _ hw
      unfold J_X11_formatTranscript_67
      simp (disch := omega) only [li, nI_add, pk_mul, ix_n, lt_n, le_n, eq_n, sub_n, dec_n, inb_t, neg_n, neg_n', ck_true, stp_eq, bnd_some, wp_some, wp_stp, Nat.add_zero, Nat.lt_irrefl, Nat.reduceEqDiff, Nat.reduceAdd, Nat.reduceSub, Nat.reduceMul, Nat.reduceLT, Nat.reduceLeDiff, up_o, up_ss, up_sn, zb_n1, true_and, and_true, ↓reduceIte, g141, m_of1 hW (hXX.gr G1) hw2]
      refine wp_bnd_of (m_saysName hT (by omega) (hW.tx w hw2)) (fun g4 k4 => ?_)
      exact k _ hl ⟨g4, rfl, by rw [← he]; exact k4.1, hXX.tr k4.2⟩
    by_cases z : i = 0
    · subst z
      simp (disch := omega) only [li, nI_add, pk_mul, ix_n, lt_n, le_n, eq_n, sub_n, dec_n, inb_t, neg_n, neg_n', ck_true, stp_eq, bnd_some, wp_some, wp_stp, Nat.add_zero, Nat.lt_irrefl, Nat.reduceEqDiff, Nat.reduceAdd, Nat.reduceSub, Nat.reduceMul, Nat.reduceLT, Nat.reduceLeDiff, up_o, up_ss, up_sn, zb_n1, true_and, and_true, ↓reduceIte, e36, hl]
      unfold J_X11_formatTranscript_34
      simp (disch := omega) only [li, nI_add, pk_mul, ix_n, lt_n, le_n, eq_n, sub_n, dec_n, inb_t, neg_n, neg_n', ck_true, stp_eq, bnd_some, wp_some, wp_stp, Nat.add_zero, Nat.lt_irrefl, Nat.reduceEqDiff, Nat.reduceAdd, Nat.reduceSub, Nat.reduceMul, Nat.reduceLT, Nat.reduceLeDiff, up_o, up_ss, up_sn, zb_n1, true_and, and_true, ↓reduceIte]
      refine fin g2 _ a1 a2 (by omega) ?_
      rw [ftL_s, if_pos rfl, List.append_nil, hwD]
    · have z1 : ¬ i ≤ 0 := by omega
      obtain ⟨s0, d1, d2, d3, d4⟩ := so_get (R := R) (E := E) (E 0 1) (i - 1) (show i - 1 < (trA R E).length by omega)
      have d2 : (soA R E)[i - 1]? = some s0 := d2
      simp (disch := omega) only [li, nI_add, pk_mul, ix_n, lt_n, le_n, eq_n, sub_n, dec_n, inb_t, neg_n, neg_n', ck_true, stp_eq, bnd_some, wp_some, wp_stp, Nat.add_zero, Nat.lt_irrefl, Nat.reduceEqDiff, Nat.reduceAdd, Nat.reduceSub, Nat.reduceMul, Nat.reduceLT, Nat.reduceLeDiff, up_o, up_ss, up_sn, zb_n1, true_and, and_true, ↓reduceIte, e36, hl, z1]
      refine wp_bnd_of (m_says a1 (by omega) (show 32 < 128 by omega)) (fun g3 k3 => ?_)
      obtain ⟨c1, c2⟩ := k3
      have x3 := a2.tr c2
      have e142 : g3 142 i = nI s1 := by rw [x3.1 142 (by decide) (by decide)]; exact k1.sho _ _ b2
      have e142' : g3 142 (i - 1) = nI s0 := by rw [x3.1 142 (by decide) (by decide)]; exact k1.sho _ _ d2
      have hn := hE.n
      have hbw := hW.bw
      have h40 := hW.w40
      unfold J_X11_formatTranscript_34
      simp (disch := omega) only [li, nI_add, pk_mul, ix_n, lt_n, le_n, eq_n, sub_n, dec_n, inb_t, neg_n, neg_n', ck_true, stp_eq, bnd_some, wp_some, wp_stp, Nat.add_zero, Nat.lt_irrefl, Nat.reduceEqDiff, Nat.reduceAdd, Nat.reduceSub, Nat.reduceMul, Nat.reduceLT, Nat.reduceLeDiff, up_o, up_ss, up_sn, zb_n1, true_and, and_true, ↓reduceIte, z1, e142, e142']
      by_cases z2 : s1 = s0
      · have z3 : ¬ fstS R E i := by
          intro y
          have := hff.mp y
          subst z2
          omega
        rw [if_pos z2]
        refine fin g3 _ c1 x3 (by rw [List.length_append]; show _ + 1 < _; omega) ?_
        rw [ftL_s, if_neg z, if_neg z3, hwD]
      · have z3 : fstS R E i := by
          rw [hff]
          rcases Nat.lt_trichotomy s0 s1 with y | y | y
          · have := tr_le2 (R := R) (E := E) (show s0 + 1 ≤ s1 by omega)
            omega
          · exact absurd y.symm z2
          · have := tr_le2 (R := R) (E := E) (show s1 + 1 ≤ s0 by omega)
            omega
        rw [if_neg z2]
        refine wp_bnd_of (m_says c1 (by rw [List.length_append]; show _ + 1 < _; omega) (show 47 < 128 by omega)) (fun g4 k4 => ?_)
        refine wp_bnd_of (m_says k4.1 (by rw [List.length_append, List.length_append]; show _ + 1 + 1 < _; omega) (show 32 < 128 by omega)) (fun g5 k5 => ?_)
        refine fin g5 _ k5.1 ((x3.tr k4.2).tr k5.2) (by rw [List.length_append, List.length_append, List.length_append]; show _ + 1 + 1 + 1 < _; omega) ?_
        rw [ftL_s, if_neg z, if_pos z3, hwD, List.append_assoc, List.append_assoc, List.append_assoc]
        rw [List.append_assoc]
        rfl
  · have e : i = (trA R E).length := by omega
    simp (disch := omega) only [li, nI_add, pk_mul, ix_n, lt_n, le_n, eq_n, sub_n, dec_n, inb_t, neg_n, neg_n', ck_true, stp_eq, bnd_some, wp_some, wp_stp, Nat.add_zero, Nat.lt_irrefl, Nat.reduceEqDiff, Nat.reduceAdd, Nat.reduceSub, Nat.reduceMul, Nat.reduceLT, Nat.reduceLeDiff, up_o, up_ss, up_sn, zb_n1, true_and, and_true, ↓reduceIte, e36, hl]
    subst e
    exact ⟨a1.1, a1, (w0.ff.tr k1.gw.ff).tr a2.ff⟩
def FA (X : Option (Hp × Hp)) (h g : Hp) : Prop := ∃ h' g' l, X = some (h', g') ∧ CXf h h' ∧ FFr g g' ∧ l.length ≤ 900 ∧ CT h' l ∧ GT g' l
theorem qa45 (w : ED h g c R E d x hi) : FA (A_45 h g) h g := by
  have q := w.Q
  have hlA := trA_le q.W q.E
  have hfl := ftL_len R E (trA R E).length
  obtain ⟨h1, e1, t1, x1⟩ := c_writeTranscript q.W q.E q.X q.C q.D q.F q.p q.k
  obtain ⟨⟨v, g1⟩, e2, e3, t2, x2⟩ := m_formatTranscript q.W q.E q.X q.G q.M
  refine ⟨h1, g1, ftL R E (trA R E).length, ?_, x1, x2, by omega, t1, t2⟩
  unfold A_45 f_X10_formatTranscript
  rw [e1, bnd_some, bnd_some, e2, bnd_some, t1.1, if_pos e3.symm]
def wdL (R E : Nat → Nat → Nat) (w : Nat) : List Nat := [32] ++ nmL 6 (R 1 (R 3 w)) ++ (if E 1 w = 1 then [58] else [58, 91]) ++ nmL 6 (R 2 w) ++ (if E 1 w = 1 then [] else [93])
def wsL (R E : Nat → Nat → Nat) (b i : Nat) : List Nat := Nat.rec (motive := fun _ => List Nat) [] (fun k r => r ++ wdL R E (b + k)) i
theorem wsL_s (R E : Nat → Nat → Nat) (b i : Nat) : wsL R E b (i + 1) = wsL R E b i ++ wdL R E (b + i) := rfl
theorem wsL_len (R E : Nat → Nat → Nat) (b : Nat) : ∀ i, (wsL R E b i).length ≤ 16 * i := by
  intro i
  induction i with
  | zero => exact Nat.le_refl _
  | succ i ih =>
    have h1 := nmL_len 6 (R 1 (R 3 (b + i)))
    have h2 := nmL_len 6 (R 2 (b + i))
    rw [wsL_s, List.length_append]
    unfold wdL
    rw [List.length_append, List.length_append, List.length_append, List.length_append]
    split
    · show _ + (1 + _ + 1 + _ + 0) ≤ _; omega
    · show _ + (1 + _ + 2 + _ + 1) ≤ _; omega
def hdL (R E : Nat → Nat → Nat) (s : Nat) : List Nat := [115] ++ dgL 5 s ++ [32] ++ dgL 5 (pf R E (E 2 s)) ++ [45] ++ dgL 5 (pt R E (E 2 s))
theorem hdL_len (R E : Nat → Nat → Nat) (s : Nat) : (hdL R E s).length ≤ 18 := by
  have h1 := dgL_len 5 s
  have h2 := dgL_len 5 (pf R E (E 2 s))
  have h3 := dgL_len 5 (pt R E (E 2 s))
  unfold hdL
  rw [List.length_append, List.length_append, List.length_append, List.length_append, List.length_append]
  show 1 + _ + 1 + _ + 1 + _ ≤ _
  omega
theorem c_writeShot (hW : WR R) (hE : WE R E) (hC : CR h c R) (hD : CE h E) (hF : CF h R E) (hp : h 3 0 = nI c) (hk : knd c = 4 ∧ (c = 83 ∨ c = 97)) {s : Nat} (hs : s < E 0 1) : Wp (f_X2_writeShot h (nI s)) (fun u => CT u (hdL R E s ++ wsL R E (R 9 (E 2 s)) (R 9 (E 2 s + 1) - R 9 (E 2 s))) ∧ CXf h u) := by
  have hn := hE.n
  have hbw := hW.bw
  have h40 := hW.w40
  have hlt := hE.lt s hs
  have hwl := hW.wlt _ hlt
  have hbl := bw_le hW (b := E 2 s + 1) (by omega)
  have pfs := p_facts hW hE hlt
  have d1 := dgL_len 5 s
  have d2 := dgL_len 5 (pf R E (E 2 s))
  have d3 := dgL_len 5 (pt R E (E 2 s))
  have hhd := hdL_len R E s
  unfold f_X2_writeShot
  rw [stp_eq]
  have x0 : CXf h (up h 16 1 0) := fun k a b => up_o a
  refine wp_bnd_of (c_putText (l := []) ⟨up_ss, Arr.nil _⟩ (cs := [115]) (by decide) tx_28.1 tx_28.2) (fun h1 k1 => ?_)
  have y1 := x0.tr k1.2
  have l1 : ([] ++ [115] : List Nat).length = 1 := rfl
  refine wp_bnd_of (c_putNumber k1.1 (by rw [l1]; omega) (show s < 100000 by omega)) (fun h2 k2 => ?_)
  have y2 := y1.tr k2.2
  refine wp_bnd_of (c_putText k2.1 (cs := [32]) (by rw [List.length_append, l1]; show _ + 1 < _; omega) tx_1.1 tx_1.2) (fun h3 k3 => ?_)
  have y3 := y2.tr k3.2
  have f4 : h3 4 s = nI (pf R E (E 2 s)) := by rw [y3 4 (by decide) (by decide)]; exact hF.first s hs
  rw [inb_t (show s < 40 by omega) (by omega), ck_true, ix_n (by omega), f4]
  refine wp_bnd_of (c_putNumber k3.1 (by rw [List.length_append, List.length_append, l1]; show _ + 1 + 5 < _; omega) (by omega)) (fun h4 k4 => ?_)
  have y4 := y3.tr k4.2
  refine wp_bnd_of (c_putText k4.1 (cs := [45]) (by rw [List.length_append, List.length_append, List.length_append, l1]; show _ + 1 + _ + 1 < _; omega) tx_29.1 tx_29.2) (fun h5 k5 => ?_)
  have y5 := y4.tr k5.2
  have f5 : h5 5 s = nI (pt R E (E 2 s)) := by rw [y5 5 (by decide) (by decide)]; exact hF.behind s hs
  rw [ck_true, f5]
  refine wp_bnd_of (c_putNumber k5.1 (by rw [List.length_append, List.length_append, List.length_append, List.length_append, l1]; show _ + 1 + _ + 1 + 5 < _; omega) (by omega)) (fun h6 k6 => ?_)
  have y6 := y5.tr k6.2
  have t6 : CT h6 (hdL R E s) := k6.1
  have f0 : h6 3 0 = nI c := by rw [y6 3 (by decide) (by decide)]; exact hp
  have f20 : h6 20 s = nI (E 2 s) := by rw [y6 20 (by decide) (by decide)]; exact hD.o s hs
  have f9 : ∀ j, h6 (c + 9) j = nI (R 9 j) := fun j => by rw [y6 _ (by omega) (by omega)]; exact hC.o 9 j (by omega)
  simp (disch := omega) only [li, nI_add, pk_mul, ix_n, lt_n, le_n, eq_n, sub_n, dec_n, inb_t, neg_n, neg_n', ck_true, stp_eq, bnd_some, wp_some, wp_stp, Nat.add_zero, Nat.lt_irrefl, Nat.reduceEqDiff, Nat.reduceAdd, Nat.reduceSub, Nat.reduceMul, Nat.reduceLT, Nat.reduceLeDiff, up_o, up_ss, up_sn, zb_n1, true_and, and_true, ↓reduceIte, ckp_of f0 hk.1, f20, f9]
  refine wp_for (i := 0) (R 9 (E 2 s + 1) - R 9 (E 2 s)) (fun i st => ∃ h7, st = (nI (R 9 (E 2 s) + i), h7) ∧ CT h7 (hdL R E s ++ wsL R E (R 9 (E 2 s)) i) ∧ CXf h h7) (by omega) (by omega) ⟨h6, rfl, by show CT h6 (hdL R E s ++ []); rw [List.append_nil]; exact t6, y6⟩ ?_
  rintro i st r hi2 ⟨h7, rfl, a1, a2⟩ k
  have g9 : ∀ j, h7 (c + 9) j = nI (R 9 j) := fun j => by rw [a2 _ (by omega) (by omega)]; exact hC.o 9 j (by omega)
  have hws := wsL_len R E (R 9 (E 2 s)) i
  have hl0 : (hdL R E s ++ wsL R E (R 9 (E 2 s)) i).length ≤ 18 + 16 * i := by rw [List.length_append]; omega
  unfold F_X2_writeShot_73
  by_cases hl : i < R 9 (E 2 s + 1) - R 9 (E 2 s)
  · have hl2 : R 9 (E 2 s) + i < R 9 (E 2 s + 1) := by omega
    have hw : R 9 (E 2 s) + i < R 0 4 := by omega
    obtain ⟨q1, q2, q3, q4, q5, q6⟩ := w_facts hW hw
    have hwd := hW.wd _ hw
    have hk1 := hE.k1 _ q1
    have n1 := nmL_len 6 (R 1 (R 3 (R 9 (E 2 s) + i)))
    have n2 := nmL_len 6 (R 2 (R 9 (E 2 s) + i))
    simp (disch := omega) only [li, nI_add, pk_mul, ix_n, lt_n, le_n, eq_n, sub_n, dec_n, inb_t, neg_n, neg_n', ck_true, stp_eq, bnd_some, wp_some, wp_stp, Nat.add_zero, Nat.lt_irrefl, Nat.reduceEqDiff, Nat.reduceAdd, Nat.reduceSub, Nat.reduceMul, Nat.reduceLT, Nat.reduceLeDiff, up_o, up_ss, up_sn, zb_n1, true_and, and_true, ↓reduceIte, g9, hl2]
    refine wp_bnd_of (c_putText a1 (cs := [32]) (by show _ + 1 < _; omega) tx_1.1 tx_1.2) (fun h8 k8 => ?_)
    have y8 := a2.tr k8.2
    have m3 : h8 (c + 3) (R 9 (E 2 s) + i) = nI (R 3 (R 9 (E 2 s) + i)) := by rw [y8 _ (by omega) (by omega)]; exact hC.o 3 _ (by omega)
    have m1 : h8 (c + 1) (R 3 (R 9 (E 2 s) + i)) = nI (R 1 (R 3 (R 9 (E 2 s) + i))) := by rw [y8 _ (by omega) (by omega)]; exact hC.o 1 _ (by omega)
    simp (disch := omega) only [li, nI_add, pk_mul, ix_n, lt_n, le_n, eq_n, sub_n, dec_n, inb_t, neg_n, neg_n', ck_true, stp_eq, bnd_some, wp_some, wp_stp, Nat.add_zero, Nat.lt_irrefl, Nat.reduceEqDiff, Nat.reduceAdd, Nat.reduceSub, Nat.reduceMul, Nat.reduceLT, Nat.reduceLeDiff, up_o, up_ss, up_sn, zb_n1, true_and, and_true, ↓reduceIte, m3, m1]
    refine wp_bnd_of (c_putName k8.1 (by rw [List.length_append]; show _ + 1 + 6 < _; omega) (hW.nm _ hwd.2.2)) (fun h9 k9 => ?_)
    have y9 := y8.tr k9.2
    have m19 : h9 19 (R 9 (E 2 s) + i) = nI (E 1 (R 9 (E 2 s) + i)) := by rw [y9 _ (by decide) (by decide)]; exact hD.k _ q1
    have tail : ∀ (p p2 : Nat) (cs cs2 : List Nat), cs.length ≤ 2 → cs2.length ≤ 1 → tl p = cs.length → (∀ j, j < cs.length → tb p j = nI (cs.getD j 0) ∧ cs.getD j 0 < 128) → tl p2 = cs2.length → (∀ j, j < cs2.length → tb p2 j = nI (cs2.getD j 0) ∧ cs2.getD j 0 < 128) → (E 1 (R 9 (E 2 s) + i) = 1 ∧ p2 = 32 ∨ ¬ E 1 (R 9 (E 2 s) + i) = 1 ∧ p2 = 33) → wdL R E (R 9 (E 2 s) + i) = [32] ++ nmL 6 (R 1 (R 3 (R 9 (E 2 s) + i))) ++ cs ++ nmL 6 (R 2 (R 9 (E 2 s) + i)) ++ cs2 → Wp (J_X2_writeShot_130 (nI s) h9 r c (nI (E 2 s)) (nI (R 9 (E 2 s) + i)) p) (fun u => CT u (hdL R E s ++ wsL R E (R 9 (E 2 s)) (R 9 (E 2 s + 1) - R 9 (E 2 s))) ∧ CXf h u) := by
      intro p p2 cs cs2 hc1 hc2 b1 b2 b3 b4 hkp hwl
      unfold J_X2_writeShot_130
      refine wp_bnd_of (c_putText k9.1 (cs := cs) (by rw [List.length_append, List.length_append]; show _ + 1 + _ + _ < _; omega) b1 b2) (fun h10 k10 => ?_)
      have y10 := y9.tr k10.2
      have m2 : h10 (c + 2) (R 9 (E 2 s) + i) = nI (R 2 (R 9 (E 2 s) + i)) := by rw [y10 _ (by omega) (by omega)]; exact hC.o 2 _ (by omega)
      simp (disch := omega) only [li, nI_add, pk_mul, ix_n, lt_n, le_n, eq_n, sub_n, dec_n, inb_t, neg_n, neg_n', ck_true, stp_eq, bnd_some, wp_some, wp_stp, Nat.add_zero, Nat.lt_irrefl, Nat.reduceEqDiff, Nat.reduceAdd, Nat.reduceSub, Nat.reduceMul, Nat.reduceLT, Nat.reduceLeDiff, up_o, up_ss, up_sn, zb_n1, true_and, and_true, ↓reduceIte, m2]
      refine wp_bnd_of (c_putName k10.1 (by rw [List.length_append, List.length_append, List.length_append]; show _ + 1 + _ + _ + 6 < _; omega) (hW.tx _ hw)) (fun h11 k11 => ?_)
      have y11 := y10.tr k11.2
      have m19' : h11 19 (R 9 (E 2 s) + i) = nI (E 1 (R 9 (E 2 s) + i)) := by rw [y11 _ (by decide) (by decide)]; exact hD.k _ q1
      have last : Wp (J_X2_writeShot_165 (nI s) h11 r c (nI (E 2 s)) (nI (R 9 (E 2 s) + i)) p2) (fun u => CT u (hdL R E s ++ wsL R E (R 9 (E 2 s)) (R 9 (E 2 s + 1) - R 9 (E 2 s))) ∧ CXf h u) := by
        unfold J_X2_writeShot_165
        refine wp_bnd_of (c_putText k11.1 (cs := cs2) (by rw [List.length_append, List.length_append, List.length_append, List.length_append]; show _ + 1 + _ + _ + _ + _ < _; omega) b3 b4) (fun h12 k12 => ?_)
        have t12 := k12.1
        rw [li, stp_eq, nI_add, Nat.add_assoc]
        refine k _ hl ⟨h12, rfl, ?_, y11.tr k12.2⟩
        rw [wsL_s, hwl, ← List.append_assoc, ← List.append_assoc, ← List.append_assoc, ← List.append_assoc, ← List.append_assoc]
        exact t12
      rcases hkp with ⟨z, rfl⟩ | ⟨z, rfl⟩
      · have z0 : ¬ nI (E 1 (R 9 (E 2 s) + i)) = nI 0 := by rw [z]; decide
        simp (disch := omega) only [li, nI_add, pk_mul, ix_n, lt_n, le_n, eq_n, sub_n, dec_n, inb_t, neg_n, neg_n', ck_true, stp_eq, bnd_some, wp_some, wp_stp, Nat.add_zero, Nat.lt_irrefl, Nat.reduceEqDiff, Nat.reduceAdd, Nat.reduceSub, Nat.reduceMul, Nat.reduceLT, Nat.reduceLeDiff, up_o, up_ss, up_sn, zb_n1, true_and, and_true, ↓reduceIte, m19', z]
        exact last
      · have z0 : E 1 (R 9 (E 2 s) + i) = 0 := by omega
        simp (disch := omega) only [li, nI_add, pk_mul, ix_n, lt_n, le_n, eq_n, sub_n, dec_n, inb_t, neg_n, neg_n', ck_true, stp_eq, bnd_some, wp_some, wp_stp, Nat.add_zero, Nat.lt_irrefl, Nat.reduceEqDiff, Nat.reduceAdd, Nat.reduceSub, Nat.reduceMul, Nat.reduceLT, Nat.reduceLeDiff, up_o, up_ss, up_sn, zb_n1, true_and, and_true, ↓reduceIte, m19', z0]
        exact last
    by_cases z : E 1 (R 9 (E 2 s) + i) = 1
    · simp (disch := omega) only [li, nI_add, pk_mul, ix_n, lt_n, le_n, eq_n, sub_n, dec_n, inb_t, neg_n, neg_n', ck_true, stp_eq, bnd_some, wp_some, wp_stp, Nat.add_zero, Nat.lt_irrefl, Nat.reduceEqDiff, Nat.reduceAdd, Nat.reduceSub, Nat.reduceMul, Nat.reduceLT, Nat.reduceLeDiff, up_o, up_ss, up_sn, zb_n1, true_and, and_true, ↓reduceIte, m19, z]
      exact tail 30 32 [58] [] (by decide) (by decide) tx_30.1 tx_30.2 tx_32.1 tx_32.2 (Or.inl ⟨z, rfl⟩) (by unfold wdL; rw [if_pos z, if_pos z])
    · have z0 : E 1 (R 9 (E 2 s) + i) = 0 := by omega
      simp (disch := omega) only [li, nI_add, pk_mul, ix_n, lt_n, le_n, eq_n, sub_n, dec_n, inb_t, neg_n, neg_n', ck_true, stp_eq, bnd_some, wp_some, wp_stp, Nat.add_zero, Nat.lt_irrefl, Nat.reduceEqDiff, Nat.reduceAdd, Nat.reduceSub, Nat.reduceMul, Nat.reduceLT, Nat.reduceLeDiff, up_o, up_ss, up_sn, zb_n1, true_and, and_true, ↓reduceIte, m19, z0]
      exact tail 31 33 [58, 91] [93] (by decide) (by decide) tx_31.1 tx_31.2 tx_33.1 tx_33.2 (Or.inr ⟨z, rfl⟩) (by unfold wdL; rw [if_neg z, if_neg z])
  · have hl2 : ¬ R 9 (E 2 s) + i < R 9 (E 2 s + 1) := by omega
    have e : i = R 9 (E 2 s + 1) - R 9 (E 2 s) := by omega
    simp (disch := omega) only [li, nI_add, pk_mul, ix_n, lt_n, le_n, eq_n, sub_n, dec_n, inb_t, neg_n, neg_n', ck_true, stp_eq, bnd_some, wp_some, wp_stp, Nat.add_zero, Nat.lt_irrefl, Nat.reduceEqDiff, Nat.reduceAdd, Nat.reduceSub, Nat.reduceMul, Nat.reduceLT, Nat.reduceLeDiff, up_o, up_ss, up_sn, zb_n1, true_and, and_true, ↓reduceIte, g9, hl2]
    subst e
    exact ⟨a1, a2⟩
end
