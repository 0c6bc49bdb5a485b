/-! clips, frames of the film, who is heard -/
theorem cnt_find {p : Nat → Prop} : ∀ (n j : Nat), j < cnt p n → ∃ s, s < n ∧ p s ∧ cnt p s = j := by
  intro n
  induction n with
  | zero => intro j h; rw [cnt_0] at h; exact absurd h (Nat.not_lt_zero _)
  | succ n ih =>
    intro j h
    by_cases q : p n
    · rw [cnt_y q] at h
      by_cases z : j = cnt p n
      · exact ⟨n, by omega, q, z.symm⟩
      · obtain ⟨s, h1, h2, h3⟩ := ih j (by omega)
        exact ⟨s, by omega, h2, h3⟩
    · rw [cnt_n q] at h
      obtain ⟨s, h1, h2, h3⟩ := ih j h
      exact ⟨s, by omega, h2, h3⟩
theorem cnt_mono {p : Nat → Prop} : ∀ d s, cnt p s ≤ cnt p (s + d) := by
  intro d
  induction d with
  | zero => intro s; exact Nat.le_refl _
  | succ d ih =>
    intro s
    have := ih s
    rw [show s + (d + 1) = s + d + 1 by omega]
    by_cases q : p (s + d)
    · rw [cnt_y q]; omega
    · rw [cnt_n q]; exact this
theorem cnt_gap {p : Nat → Prop} {s : Nat} : ∀ d, (∀ t, s ≤ t → t < s + d → ¬ p t) → cnt p (s + d) = cnt p s := by
  intro d
  induction d with
  | zero => intro _; rfl
  | succ d ih =>
    intro h
    rw [show s + (d + 1) = s + d + 1 by omega, cnt_n (h (s + d) (by omega) (by omega))]
    exact ih (fun t h1 h2 => h t h1 (by omega))
section
variable {h g : Hp} {c : Nat} {R E : Nat → Nat → Nat}
theorem m_beginsClip (hW : WR R) (hE : WE R E) (hG : GR g R) (hM : GE g E) {s : Nat} (hs : s < E 0 1) : f_X11_beginsClip g (nI s) = some (nI (@ite _ (bcl R E s) (Classical.propDecidable _) 1 0)) := by
  have h1 := hE.n
  have h2 := hW.bw
  have h3 := hW.w40
  refine wp_eq.mp ?_
  unfold f_X11_beginsClip
  by_cases z : s = 0
  · simp (disch := omega) only [li, nI_add, pk_mul, ix_n, lt_n, le_n, eq_n, sub_n, dec_n, inb_t, neg_n, neg_n', ck_true, stp_eq, bnd_some, wp_some, wp_stp, Nat.add_zero, Nat.lt_irrefl, Nat.reduceEqDiff, Nat.reduceAdd, Nat.reduceSub, Nat.reduceMul, Nat.reduceLT, Nat.reduceLeDiff, up_o, up_ss, up_sn, zb_n1, true_and, and_true, ↓reduceIte, z]
    rw [if_pos (show bcl R E s from Or.inl z)]
  · have q1 := p_facts hW hE (hE.lt s hs)
    have q2 := p_facts hW hE (hE.lt (s - 1) (by omega))
    simp (disch := omega) only [li, nI_add, pk_mul, ix_n, lt_n, le_n, eq_n, sub_n, dec_n, inb_t, neg_n, neg_n', ck_true, stp_eq, bnd_some, wp_some, wp_stp, Nat.add_zero, Nat.lt_irrefl, Nat.reduceEqDiff, Nat.reduceAdd, Nat.reduceSub, Nat.reduceMul, Nat.reduceLT, Nat.reduceLeDiff, up_o, up_ss, up_sn, zb_n1, true_and, and_true, ↓reduceIte, z, m_shotBlock hW hE hM hs, m_shotBlock hW hE hM (s := s - 1) (by omega), m_playsFrom hW hE hG hM (hE.lt s hs), m_playsTo hW hE hG hM (hE.lt (s - 1) (by omega))]
    by_cases y : pf R E (E 2 s) = pt R E (E 2 (s - 1))
    · simp (disch := omega) only [li, nI_add, pk_mul, ix_n, lt_n, le_n, eq_n, sub_n, dec_n, inb_t, neg_n, neg_n', ck_true, stp_eq, bnd_some, wp_some, wp_stp, Nat.add_zero, Nat.lt_irrefl, Nat.reduceEqDiff, Nat.reduceAdd, Nat.reduceSub, Nat.reduceMul, Nat.reduceLT, Nat.reduceLeDiff, up_o, up_ss, up_sn, zb_n1, true_and, and_true, ↓reduceIte, y]
      rw [if_neg (show ¬ bcl R E s from fun k => k.elim z (fun k => k y))]
    · simp (disch := omega) only [li, nI_add, pk_mul, ix_n, lt_n, le_n, eq_n, sub_n, dec_n, inb_t, neg_n, neg_n', ck_true, stp_eq, bnd_some, wp_some, wp_stp, Nat.add_zero, Nat.lt_irrefl, Nat.reduceEqDiff, Nat.reduceAdd, Nat.reduceSub, Nat.reduceMul, Nat.reduceLT, Nat.reduceLeDiff, up_o, up_ss, up_sn, zb_n1, true_and, and_true, ↓reduceIte, y]
      rw [if_pos (show bcl R E s from Or.inr y)]
theorem qa19 (q : QQ h g c R E) : QA (A_19 h g) h g := by
  have z := q.z0
  have h1 := q.E.n
  have h2 := q.W.bw
  have h3 := q.W.w40
  refine QA.of (v := nI (cnt (bcl R E) (E 0 1))) ?_ ?_
  · unfold f_X10_clips
    rw [q.F.cc]
  · unfold f_X11_clips
    have w0 := GW.upF g (j := 0) (v := nI 0) (by decide)
    simp (disch := omega) only [li, nI_add, pk_mul, ix_n, lt_n, le_n, eq_n, sub_n, dec_n, inb_t, neg_n, neg_n', ck_true, stp_eq, bnd_some, wp_some, wp_stp, Nat.add_zero, Nat.lt_irrefl, Nat.reduceEqDiff, Nat.reduceAdd, Nat.reduceSub, Nat.reduceMul, Nat.reduceLT, Nat.reduceLeDiff, up_o, up_ss, up_sn, zb_n1, true_and, and_true, ↓reduceIte]
    generalize up g 125 0 (nI 0) = g1 at *
    refine wp_for (i := 0) (E 0 1) (fun i x => x = (nI (cnt (bcl R E) i), nI i)) (by omega) (by omega) rfl ?_
    rintro i x r hi rfl k
    unfold F_X11_clips_9 J_X11_clips_34
    by_cases hl : i < E 0 1
    · have e := m_beginsClip z.W z.E z.G z.M hl
      by_cases y : bcl R E i
      · rw [if_pos y] at e
        simp (disch := omega) only [li, nI_add, pk_mul, ix_n, lt_n, le_n, eq_n, sub_n, dec_n, inb_t, neg_n, neg_n', ck_true, stp_eq, bnd_some, wp_some, wp_stp, Nat.add_zero, Nat.lt_irrefl, Nat.reduceEqDiff, Nat.reduceAdd, Nat.reduceSub, Nat.reduceMul, Nat.reduceLT, Nat.reduceLeDiff, up_o, up_ss, up_sn, zb_n1, true_and, and_true, ↓reduceIte, z.M.n, hl, e]
        exact k _ hl (by rw [cnt_y y])
      · rw [if_neg y] at e
        simp (disch := omega) only [li, nI_add, pk_mul, ix_n, lt_n, le_n, eq_n, sub_n, dec_n, inb_t, neg_n, neg_n', ck_true, stp_eq, bnd_some, wp_some, wp_stp, Nat.add_zero, Nat.lt_irrefl, Nat.reduceEqDiff, Nat.reduceAdd, Nat.reduceSub, Nat.reduceMul, Nat.reduceLT, Nat.reduceLeDiff, up_o, up_ss, up_sn, zb_n1, true_and, and_true, ↓reduceIte, z.M.n, hl, e]
        exact k _ hl (by rw [cnt_n y])
    · have e : i = E 0 1 := by omega
      simp (disch := omega) only [li, nI_add, pk_mul, ix_n, lt_n, le_n, eq_n, sub_n, dec_n, inb_t, neg_n, neg_n', ck_true, stp_eq, bnd_some, wp_some, wp_stp, Nat.add_zero, Nat.lt_irrefl, Nat.reduceEqDiff, Nat.reduceAdd, Nat.reduceSub, Nat.reduceMul, Nat.reduceLT, Nat.reduceLeDiff, up_o, up_ss, up_sn, zb_n1, true_and, and_true, ↓reduceIte, z.M.n, hl]
      exact ⟨by rw [e], w0⟩
theorem m_clipAt (hW : WR R) (hE : WE R E) (hG : GR g R) (hM : GE g E) (x : Int32) : Wp (f_X11_clipAt g x) (fun r => (bad x (cnt (bcl R E) (E 0 1)) ∧ r = -nI 1) ∨ ∃ s, s < E 0 1 ∧ bcl R E s ∧ x = nI (cnt (bcl R E) s) ∧ r = nI s) := by
  have h1 := hE.n
  have h2 := hW.bw
  have h3 := hW.w40
  have hc := cnt_le (bcl R E) (E 0 1)
  unfold f_X11_clipAt
  refine wp_for (i := 0) (E 0 1) (fun i y => y = (nI (cnt (bcl R E) i), nI i) ∧ ∀ s, s < i → ¬ (bcl R E s ∧ x = nI (cnt (bcl R E) s))) (by omega) (by omega) ⟨rfl, fun s hs => absurd hs (Nat.not_lt_zero _)⟩ ?_
  rintro i y r hi ⟨rfl, hp⟩ k
  unfold F_X11_clipAt_4 J_X11_clipAt_36
  by_cases hl : i < E 0 1
  · have e := m_beginsClip hW hE hG hM hl
    by_cases y : bcl R E i
    · rw [if_pos y] at e
      simp (disch := omega) only [li, nI_add, pk_mul, ix_n, lt_n, le_n, eq_n, sub_n, dec_n, inb_t, neg_n, neg_n', ck_true, stp_eq, bnd_some, wp_some, wp_stp, Nat.add_zero, Nat.lt_irrefl, Nat.reduceEqDiff, Nat.reduceAdd, Nat.reduceSub, Nat.reduceMul, Nat.reduceLT, Nat.reduceLeDiff, up_o, up_ss, up_sn, zb_n1, true_and, and_true, ↓reduceIte, hM.n, hl, e]
      refine wp_if (fun q => ?_) (fun q => ?_)
      · exact wp_some.mpr (Or.inr ⟨i, hl, y, q.symm, rfl⟩)
      · refine k _ hl ⟨by rw [cnt_y y], fun s hs z => ?_⟩
        by_cases w : s = i
        · subst w; exact q z.2.symm
        · exact hp s (by omega) z
    · rw [if_neg y] at e
      simp (disch := omega) only [li, nI_add, pk_mul, ix_n, lt_n, le_n, eq_n, sub_n, dec_n, inb_t, neg_n, neg_n', ck_true, stp_eq, bnd_some, wp_some, wp_stp, Nat.add_zero, Nat.lt_irrefl, Nat.reduceEqDiff, Nat.reduceAdd, Nat.reduceSub, Nat.reduceMul, Nat.reduceLT, Nat.reduceLeDiff, up_o, up_ss, up_sn, zb_n1, true_and, and_true, ↓reduceIte, hM.n, hl, e]
      refine k _ hl ⟨by rw [cnt_n y], fun s hs z => ?_⟩
      by_cases w : s = i
      · subst w; exact y z.1
      · exact hp s (by omega) z
  · simp (disch := omega) only [li, nI_add, pk_mul, ix_n, lt_n, le_n, eq_n, sub_n, dec_n, inb_t, neg_n, neg_n', ck_true, stp_eq, bnd_some, wp_some, wp_stp, Nat.add_zero, Nat.lt_irrefl, Nat.reduceEqDiff, Nat.reduceAdd, Nat.reduceSub, Nat.reduceMul, Nat.reduceLT, Nat.reduceLeDiff, up_o, up_ss, up_sn, zb_n1, true_and, and_true, ↓reduceIte, hM.n, hl]
    rcases idb x (n := cnt (bcl R E) (E 0 1)) (by omega) with q | ⟨j, hj, rfl⟩
    · exact Or.inl q
    · obtain ⟨s, h4, h5, h6⟩ := cnt_find _ _ hj
      exact absurd ⟨h5, by rw [h6]⟩ (hp s (by omega))
/-- a clip's fields: from shot s to shot t -/
def fld (R E : Nat → Nat → Nat) (s t : Nat) (y : Int32) : Int32 := if y = nI 0 then nI (pf R E (E 2 s)) else if y = nI 1 then nI (pt R E (E 2 t)) else if y = nI 2 then nI (fs R E s) else if y = nI 3 then nI (t + 1 - s) else -nI 1
theorem qa20 (q : QQ h g c R E) (x y : Int32) : QA (A_20 h g x y) h g := by
  have h1 := q.E.n
  have h2 := q.W.bw
  have h3 := q.W.w40
  have z := q.z0
  have hc := cnt_le (bcl R E) (E 0 1)
  have w0 := GW.upF g (j := 0) (v := nI 0) (by decide)
  obtain ⟨a, ea, ha⟩ := m_clipAt z.W z.E z.G z.M x
  rcases ha with ⟨hx, rfl⟩ | ⟨s, hs, hb, rfl, rfl⟩
  · refine QA.of (v := -nI 1) ?_ ?_
    · unfold f_X10_clipField
      rcases hx with hx | ⟨hx, hy⟩
      · simp (disch := omega) only [li, nI_add, pk_mul, ix_n, lt_n, le_n, eq_n, sub_n, dec_n, inb_t, neg_n, neg_n', ck_true, stp_eq, bnd_some, wp_some, wp_stp, Nat.add_zero, Nat.lt_irrefl, Nat.reduceEqDiff, Nat.reduceAdd, Nat.reduceSub, Nat.reduceMul, Nat.reduceLT, Nat.reduceLeDiff, up_o, up_ss, up_sn, zb_n1, true_and, and_true, ↓reduceIte, hx]
      · rw [if_neg (show ¬ x < 0 from hx), if_neg (by rw [q.F.cc]; exact hy)]
        rfl
    · unfold f_X11_clipField
      rw [stp_eq, show f_X11_clipAt (up g 125 0 0) x = _ from ea, bnd_some, if_pos (show -nI 1 = (-1 : Int32) from rfl)]
      exact wp_some.mpr ⟨rfl, w0⟩
  · have key : Wp (f_X11_clipField g (nI (cnt (bcl R E) s)) y) (fun u => (∃ t, s ≤ t ∧ t < E 0 1 ∧ (∀ v, s < v → v ≤ t → ¬ bcl R E v) ∧ (t + 1 = E 0 1 ∨ t + 1 < E 0 1 ∧ bcl R E (t + 1)) ∧ u.1 = fld R E s t y) ∧ GW g u.2) := by
      unfold f_X11_clipField
      rw [stp_eq, show f_X11_clipAt (up g 125 0 0) _ = _ from ea, bnd_some]
      simp (disch := omega) only [li, nI_add, pk_mul, ix_n, lt_n, le_n, eq_n, sub_n, dec_n, inb_t, neg_n, neg_n', ck_true, stp_eq, bnd_some, wp_some, wp_stp, Nat.add_zero, Nat.lt_irrefl, Nat.reduceEqDiff, Nat.reduceAdd, Nat.reduceSub, Nat.reduceMul, Nat.reduceLT, Nat.reduceLeDiff, up_o, up_ss, up_sn, zb_n1, true_and, and_true, ↓reduceIte]
      generalize up g 125 0 (nI 0) = g1 at *
      have fin : ∀ t, s ≤ t → t < E 0 1 → (∀ v, s < v → v ≤ t → ¬ bcl R E v) → (t + 1 = E 0 1 ∨ t + 1 < E 0 1 ∧ bcl R E (t + 1)) → Wp (J_X11_clipField_52 (nI (cnt (bcl R E) s)) y g1 (nI s) (nI t)) (fun u => (∃ t, s ≤ t ∧ t < E 0 1 ∧ (∀ v, s < v → v ≤ t → ¬ bcl R E v) ∧ (t + 1 = E 0 1 ∨ t + 1 < E 0 1 ∧ bcl R E (t + 1)) ∧ u.1 = fld R E s t y) ∧ GW g u.2) := by
        intro t a1 a2 a3 a4
        have p1 := q.E.lt s hs
        have p2 := q.E.lt t a2
        have e : J_X11_clipField_52 (nI (cnt (bcl R E) s)) y g1 (nI s) (nI t) = some (fld R E s t y, g1) := by
          unfold J_X11_clipField_52 fld
          by_cases y0 : y = nI 0
          · simp (disch := omega) only [li, nI_add, pk_mul, ix_n, lt_n, le_n, eq_n, sub_n, dec_n, inb_t, neg_n, neg_n', ck_true, stp_eq, bnd_some, wp_some, wp_stp, Nat.add_zero, Nat.lt_irrefl, Nat.reduceEqDiff, Nat.reduceAdd, Nat.reduceSub, Nat.reduceMul, Nat.reduceLT, Nat.reduceLeDiff, up_o, up_ss, up_sn, zb_n1, true_and, and_true, ↓reduceIte, y0, m_shotBlock z.W z.E z.M hs, m_playsFrom z.W z.E z.G z.M p1]
          by_cases y1 : y = nI 1
          · simp (disch := omega) only [li, nI_add, pk_mul, ix_n, lt_n, le_n, eq_n, sub_n, dec_n, inb_t, neg_n, neg_n', ck_true, stp_eq, bnd_some, wp_some, wp_stp, Nat.add_zero, Nat.lt_irrefl, Nat.reduceEqDiff, Nat.reduceAdd, Nat.reduceSub, Nat.reduceMul, Nat.reduceLT, Nat.reduceLeDiff, up_o, up_ss, up_sn, zb_n1, true_and, and_true, ↓reduceIte, y1, m_shotBlock z.W z.E z.M a2, m_playsTo z.W z.E z.G z.M p2]
          by_cases y2 : y = nI 2
          · simp (disch := omega) only [li, nI_add, pk_mul, ix_n, lt_n, le_n, eq_n, sub_n, dec_n, inb_t, neg_n, neg_n', ck_true, stp_eq, bnd_some, wp_some, wp_stp, Nat.add_zero, Nat.lt_irrefl, Nat.reduceEqDiff, Nat.reduceAdd, Nat.reduceSub, Nat.reduceMul, Nat.reduceLT, Nat.reduceLeDiff, up_o, up_ss, up_sn, zb_n1, true_and, and_true, ↓reduceIte, y2, m_filmStart z.W z.E z.G z.M (s := s) (by omega)]
          by_cases y3 : y = nI 3
          · simp (disch := omega) only [li, nI_add, pk_mul, ix_n, lt_n, le_n, eq_n, sub_n, dec_n, inb_t, neg_n, neg_n', ck_true, stp_eq, bnd_some, wp_some, wp_stp, Nat.add_zero, Nat.lt_irrefl, Nat.reduceEqDiff, Nat.reduceAdd, Nat.reduceSub, Nat.reduceMul, Nat.reduceLT, Nat.reduceLeDiff, up_o, up_ss, up_sn, zb_n1, true_and, and_true, ↓reduceIte, y3]
            rw [show t - s + 1 = t + 1 - s by omega]
          · simp (disch := omega) only [li, nI_add, pk_mul, ix_n, lt_n, le_n, eq_n, sub_n, dec_n, inb_t, neg_n, neg_n', ck_true, stp_eq, bnd_some, wp_some, wp_stp, Nat.add_zero, Nat.lt_irrefl, Nat.reduceEqDiff, Nat.reduceAdd, Nat.reduceSub, Nat.reduceMul, Nat.reduceLT, Nat.reduceLeDiff, up_o, up_ss, up_sn, zb_n1, true_and, and_true, ↓reduceIte, y0, y1, y2, y3]
        rw [e]
        exact wp_some.mpr ⟨⟨t, a1, a2, a3, a4, rfl⟩, w0⟩
      refine wp_for (i := s) (E 0 1) (fun i y => y = nI i ∧ s ≤ i ∧ i < E 0 1 ∧ ∀ v, s < v → v ≤ i → ¬ bcl R E v) (by omega) (by omega) ⟨rfl, Nat.le_refl _, hs, fun v a b => by omega⟩ ?_
      rintro i y2 r hi ⟨rfl, hsi, hin, hp⟩ k
      unfold F_X11_clipField_21
      by_cases hl : i + 1 < E 0 1
      · have e := m_beginsClip z.W z.E z.G z.M hl
        by_cases w : bcl R E (i + 1)
        · rw [if_pos w] at e
          simp (disch := omega) only [li, nI_add, pk_mul, ix_n, lt_n, le_n, eq_n, sub_n, dec_n, inb_t, neg_n, neg_n', ck_true, stp_eq, bnd_some, wp_some, wp_stp, Nat.add_zero, Nat.lt_irrefl, Nat.reduceEqDiff, Nat.reduceAdd, Nat.reduceSub, Nat.reduceMul, Nat.reduceLT, Nat.reduceLeDiff, up_o, up_ss, up_sn, zb_n1, true_and, and_true, ↓reduceIte, z.M.n, hl, e]
          exact fin i hsi hin hp (Or.inr ⟨hl, w⟩)
        · rw [if_neg w] at e
          simp (disch := omega) only [li, nI_add, pk_mul, ix_n, lt_n, le_n, eq_n, sub_n, dec_n, inb_t, neg_n, neg_n', ck_true, stp_eq, bnd_some, wp_some, wp_stp, Nat.add_zero, Nat.lt_irrefl, Nat.reduceEqDiff, Nat.reduceAdd, Nat.reduceSub, Nat.reduceMul, Nat.reduceLT, Nat.reduceLeDiff, up_o, up_ss, up_sn, zb_n1, true_and, and_true, ↓reduceIte, z.M.n, hl, e]
          refine k _ hin ⟨rfl, by omega, hl, fun v a b => ?_⟩
          by_cases w2 : v = i + 1
          · rw [w2]; exact w
          · exact hp v a (by omega)
      · simp (disch := omega) only [li, nI_add, pk_mul, ix_n, lt_n, le_n, eq_n, sub_n, dec_n, inb_t, neg_n, neg_n', ck_true, stp_eq, bnd_some, wp_some, wp_stp, Nat.add_zero, Nat.lt_irrefl, Nat.reduceEqDiff, Nat.reduceAdd, Nat.reduceSub, Nat.reduceMul, Nat.reduceLT, Nat.reduceLeDiff, up_o, up_ss, up_sn, zb_n1, true_and, and_true, ↓reduceIte, z.M.n, hl]
        exact fin i hsi hin hp (Or.inl (by omega))
    obtain ⟨u, eu, ⟨t, a1, a2, a3, a4, a5⟩, a6⟩ := key
    have hcs : cnt (bcl R E) (s + 1) = cnt (bcl R E) s + 1 := cnt_y hb
    have hct : cnt (bcl R E) (t + 1) = cnt (bcl R E) s + 1 := by
      rw [← hcs, show t + 1 = (s + 1) + (t - s) by omega]
      exact cnt_gap _ (fun v b1 b2 => a3 v (by omega) (by omega))
    have hcm := cnt_mono (p := bcl R E) (E 0 1 - (t + 1)) (t + 1)
    rw [show t + 1 + (E 0 1 - (t + 1)) = E 0 1 by omega] at hcm
    have hnx : h 11 (cnt (bcl R E) s + 1) = nI (t + 1) := by
      rw [← hct]
      rcases a4 with a4 | ⟨a4, a7⟩
      · rw [a4]; exact q.F.clN
      · exact q.F.cl _ a4 a7
    refine QA.of (v := fld R E s t y) ?_ ⟨u, eu, a5, a6⟩
    unfold f_X10_clipField fld
    have hlt : cnt (bcl R E) s < cnt (bcl R E) (E 0 1) := by omega
    by_cases y0 : y = nI 0
    · simp (disch := omega) only [li, nI_add, pk_mul, ix_n, lt_n, le_n, eq_n, sub_n, dec_n, inb_t, neg_n, neg_n', ck_true, stp_eq, bnd_some, wp_some, wp_stp, Nat.add_zero, Nat.lt_irrefl, Nat.reduceEqDiff, Nat.reduceAdd, Nat.reduceSub, Nat.reduceMul, Nat.reduceLT, Nat.reduceLeDiff, up_o, up_ss, up_sn, zb_n1, true_and, and_true, ↓reduceIte, q.F.cc, Nat.not_lt_zero, hlt, q.F.cl s hs hb, hnx, y0, q.F.first]
    by_cases y1 : y = nI 1
    · simp (disch := omega) only [li, nI_add, pk_mul, ix_n, lt_n, le_n, eq_n, sub_n, dec_n, inb_t, neg_n, neg_n', ck_true, stp_eq, bnd_some, wp_some, wp_stp, Nat.add_zero, Nat.lt_irrefl, Nat.reduceEqDiff, Nat.reduceAdd, Nat.reduceSub, Nat.reduceMul, Nat.reduceLT, Nat.reduceLeDiff, up_o, up_ss, up_sn, zb_n1, true_and, and_true, ↓reduceIte, q.F.cc, Nat.not_lt_zero, hlt, q.F.cl s hs hb, hnx, y1, Nat.add_sub_cancel, q.F.behind]
    by_cases y2 : y = nI 2
    · simp (disch := omega) only [li, nI_add, pk_mul, ix_n, lt_n, le_n, eq_n, sub_n, dec_n, inb_t, neg_n, neg_n', ck_true, stp_eq, bnd_some, wp_some, wp_stp, Nat.add_zero, Nat.lt_irrefl, Nat.reduceEqDiff, Nat.reduceAdd, Nat.reduceSub, Nat.reduceMul, Nat.reduceLT, Nat.reduceLeDiff, up_o, up_ss, up_sn, zb_n1, true_and, and_true, ↓reduceIte, q.F.cc, Nat.not_lt_zero, hlt, q.F.cl s hs hb, hnx, y2, q.F.start]
    by_cases y3 : y = nI 3
    · simp (disch := omega) only [li, nI_add, pk_mul, ix_n, lt_n, le_n, eq_n, sub_n, dec_n, inb_t, neg_n, neg_n', ck_true, stp_eq, bnd_some, wp_some, wp_stp, Nat.add_zero, Nat.lt_irrefl, Nat.reduceEqDiff, Nat.reduceAdd, Nat.reduceSub, Nat.reduceMul, Nat.reduceLT, Nat.reduceLeDiff, up_o, up_ss, up_sn, zb_n1, true_and, and_true, ↓reduceIte, q.F.cc, Nat.not_lt_zero, hlt, q.F.cl s hs hb, hnx, y3]
    · simp (disch := omega) only [li, nI_add, pk_mul, ix_n, lt_n, le_n, eq_n, sub_n, dec_n, inb_t, neg_n, neg_n', ck_true, stp_eq, bnd_some, wp_some, wp_stp, Nat.add_zero, Nat.lt_irrefl, Nat.reduceEqDiff, Nat.reduceAdd, Nat.reduceSub, Nat.reduceMul, Nat.reduceLT, Nat.reduceLeDiff, up_o, up_ss, up_sn, zb_n1, true_and, and_true, ↓reduceIte, q.F.cc, Nat.not_lt_zero, hlt, q.F.cl s hs hb, hnx, y0, y1, y2, y3]
theorem fs_mono {R E : Nat → Nat → Nat} : ∀ d s, fs R E s ≤ fs R E (s + d) := by
  intro d
  induction d with
  | zero => intro s; exact Nat.le_refl _
  | succ d ih =>
    intro s
    have := ih s
    rw [show s + (d + 1) = s + d + 1 by omega]
    unfold fs at *
    rw [sm_s]
    omega
theorem fs_s (s : Nat) : fs R E (s + 1) = fs R E s + plE R E (E 2 s) := rfl
theorem fs_le2 {s t : Nat} (hst : s ≤ t) : fs R E s ≤ fs R E t := by
  have := fs_mono (R := R) (E := E) (t - s) s
  rw [show s + (t - s) = t by omega] at this
  exact this
theorem c_framesOfShot (hW : WR R) (hE : WE R E) (hF : CF h R E) {s : Nat} (hs : s < E 0 1) : f_X1_framesOfShot h (nI s) = some (nI (plE R E (E 2 s))) := by
  have h1 := hE.n
  have h2 := hW.bw
  have h3 := hW.w40
  have q1 := p_facts hW hE (hE.lt s hs)
  unfold f_X1_framesOfShot plE
  simp (disch := omega) only [li, nI_add, pk_mul, ix_n, lt_n, le_n, eq_n, sub_n, dec_n, inb_t, neg_n, neg_n', ck_true, stp_eq, bnd_some, wp_some, wp_stp, Nat.add_zero, Nat.lt_irrefl, Nat.reduceEqDiff, Nat.reduceAdd, Nat.reduceSub, Nat.reduceMul, Nat.reduceLT, Nat.reduceLeDiff, up_o, up_ss, up_sn, zb_n1, true_and, and_true, ↓reduceIte, hF.first, hF.behind]
theorem c_swf (hW : WR R) (hE : WE R E) (hD : CE h E) (hF : CF h R E) {f s0 : Nat} (hf : f < 2147483648) (hs0 : s0 ≤ E 0 1) (h0 : fs R E s0 ≤ f) (h00 : s0 < E 0 1 → f < fs R E s0 + plE R E (E 2 s0)) : f_X1_shotWithFrame h (nI f) = some (oI (E 0 1) s0) := by
  have h1 := hE.n
  have h2 := hW.bw
  have h3 := hW.w40
  refine wp_eq.mp ?_
  unfold f_X1_shotWithFrame
  refine wp_for (i := 0) s0 (fun i x => x = nI i) (by omega) (by omega) rfl ?_
  rintro i x r hi rfl k
  unfold F_X1_shotWithFrame_2 J_X1_shotWithFrame_41
  by_cases hl : i < s0
  · have hil : i < E 0 1 := by omega
    have h4 := fs_le2 (R := R) (E := E) (s := i + 1) (t := s0) hl
    rw [fs_s] at h4
    have h5 : ¬ f - fs R E i < plE R E (E 2 i) := by omega
    have h6 := p_facts hW hE (hE.lt i hil)
    have h7 : plE R E (E 2 i) ≤ 99999 := by unfold plE; omega
    simp (disch := omega) only [li, nI_add, pk_mul, ix_n, lt_n, le_n, eq_n, sub_n, dec_n, inb_t, neg_n, neg_n', ck_true, stp_eq, bnd_some, wp_some, wp_stp, Nat.add_zero, Nat.lt_irrefl, Nat.reduceEqDiff, Nat.reduceAdd, Nat.reduceSub, Nat.reduceMul, Nat.reduceLT, Nat.reduceLeDiff, up_o, up_ss, up_sn, zb_n1, true_and, and_true, ↓reduceIte, hD.z, hil, hF.start, Nat.not_lt_zero, c_framesOfShot hW hE hF hil, h5]
    exact k _ hl rfl
  · have e : i = s0 := by omega
    subst e
    by_cases hil : i < E 0 1
    · have h5 := h00 hil
      have h6 := p_facts hW hE (hE.lt i hil)
      have h7 : plE R E (E 2 i) ≤ 99999 := by unfold plE; omega
      have h8 : f - fs R E i < plE R E (E 2 i) := by omega
      simp (disch := omega) only [li, nI_add, pk_mul, ix_n, lt_n, le_n, eq_n, sub_n, dec_n, inb_t, neg_n, neg_n', ck_true, stp_eq, bnd_some, wp_some, wp_stp, Nat.add_zero, Nat.lt_irrefl, Nat.reduceEqDiff, Nat.reduceAdd, Nat.reduceSub, Nat.reduceMul, Nat.reduceLT, Nat.reduceLeDiff, up_o, up_ss, up_sn, zb_n1, true_and, and_true, ↓reduceIte, hD.z, hil, hF.start, Nat.not_lt_zero, c_framesOfShot hW hE hF hil, h8]
      rw [oI, if_pos hil]
    · simp (disch := omega) only [li, nI_add, pk_mul, ix_n, lt_n, le_n, eq_n, sub_n, dec_n, inb_t, neg_n, neg_n', ck_true, stp_eq, bnd_some, wp_some, wp_stp, Nat.add_zero, Nat.lt_irrefl, Nat.reduceEqDiff, Nat.reduceAdd, Nat.reduceSub, Nat.reduceMul, Nat.reduceLT, Nat.reduceLeDiff, up_o, up_ss, up_sn, zb_n1, true_and, and_true, ↓reduceIte, hD.z, hil]
      rw [oI, if_neg hil]
theorem c_swf' (hW : WR R) (hE : WE R E) (hD : CE h E) (hF : CF h R E) {x : Int32} (hx : x < nI 0) : f_X1_shotWithFrame h x = some (-nI 1) := by
  have h1 := hE.n
  have h2 := hW.bw
  have h3 := hW.w40
  refine wp_eq.mp ?_
  unfold f_X1_shotWithFrame
  refine wp_for (i := 0) (E 0 1) (fun i x => x = nI i) (by omega) (by omega) rfl ?_
  rintro i x r hi rfl k
  unfold F_X1_shotWithFrame_2 J_X1_shotWithFrame_41
  by_cases hl : i < E 0 1
  · simp (disch := omega) only [li, nI_add, pk_mul, ix_n, lt_n, le_n, eq_n, sub_n, dec_n, inb_t, neg_n, neg_n', ck_true, stp_eq, bnd_some, wp_some, wp_stp, Nat.add_zero, Nat.lt_irrefl, Nat.reduceEqDiff, Nat.reduceAdd, Nat.reduceSub, Nat.reduceMul, Nat.reduceLT, Nat.reduceLeDiff, up_o, up_ss, up_sn, zb_n1, true_and, and_true, ↓reduceIte, hD.z, hl, hF.start, hx]
    exact k _ hl rfl
  · simp (disch := omega) only [li, nI_add, pk_mul, ix_n, lt_n, le_n, eq_n, sub_n, dec_n, inb_t, neg_n, neg_n', ck_true, stp_eq, bnd_some, wp_some, wp_stp, Nat.add_zero, Nat.lt_irrefl, Nat.reduceEqDiff, Nat.reduceAdd, Nat.reduceSub, Nat.reduceMul, Nat.reduceLT, Nat.reduceLeDiff, up_o, up_ss, up_sn, zb_n1, true_and, and_true, ↓reduceIte, hD.z, hl]
def ngt (x : Int32) : Prop := x < nI 0
theorem m_finds (hW : WR R) (hE : WE R E) (hG : GR g R) (hM : GE g E) (x : Int32) : Wp (f_X11_finds g x) (fun u => (u = (nI 0, g) ∧ (ngt x ∨ ∃ f, f < 2147483648 ∧ x = nI f ∧ fs R E (E 0 1) ≤ f)) ∨ ∃ f s, f < 2147483648 ∧ x = nI f ∧ s < E 0 1 ∧ fs R E s ≤ f ∧ f < fs R E s + plE R E (E 2 s) ∧ u = (nI 1, up (up g 125 30 (nI s)) 125 31 (nI (pf R E (E 2 s) + (f - fs R E s))))) := by
  have h1 := hE.n
  have h2 := hW.bw
  have h3 := hW.w40
  unfold f_X11_finds
  by_cases hx : x < nI 0
  · refine wp_for (i := 0) (E 0 1) (fun i y => y = (x, nI 0) ∧ i = 0) (by omega) (by omega) ⟨rfl, rfl⟩ ?_
    rintro i y r hi ⟨rfl, rfl⟩ k
    unfold F_X11_finds_4
    by_cases hl : 0 < E 0 1
    · simp (disch := omega) only [li, nI_add, pk_mul, ix_n, lt_n, le_n, eq_n, sub_n, dec_n, inb_t, neg_n, neg_n', ck_true, stp_eq, bnd_some, wp_some, wp_stp, Nat.add_zero, Nat.lt_irrefl, Nat.reduceEqDiff, Nat.reduceAdd, Nat.reduceSub, Nat.reduceMul, Nat.reduceLT, Nat.reduceLeDiff, up_o, up_ss, up_sn, zb_n1, true_and, and_true, ↓reduceIte, hM.n, hl, hx]
      exact Or.inl (Or.inl hx)
    · simp (disch := omega) only [li, nI_add, pk_mul, ix_n, lt_n, le_n, eq_n, sub_n, dec_n, inb_t, neg_n, neg_n', ck_true, stp_eq, bnd_some, wp_some, wp_stp, Nat.add_zero, Nat.lt_irrefl, Nat.reduceEqDiff, Nat.reduceAdd, Nat.reduceSub, Nat.reduceMul, Nat.reduceLT, Nat.reduceLeDiff, up_o, up_ss, up_sn, zb_n1, true_and, and_true, ↓reduceIte, hM.n, hl]
      exact Or.inl (Or.inl hx)
  · obtain ⟨f, hf, rfl⟩ := nI_of hx
    have hf : f < 2147483648 := hf
    refine wp_for (i := 0) (E 0 1) (fun i y => y = (nI (f - fs R E i), nI i) ∧ fs R E i ≤ f) (by omega) (by omega) ⟨by show _ = (nI (f - 0), _); rw [Nat.sub_zero]; rfl, Nat.zero_le _⟩ ?_
    rintro i y r hi ⟨rfl, hp⟩ k
    unfold F_X11_finds_4 J_X11_finds_36
    by_cases hl : i < E 0 1
    · have p1 := hE.lt i hl
      have h6 := p_facts hW hE p1
      have h7 : plE R E (E 2 i) ≤ 99999 := by unfold plE; omega
      have w1 := GW.upF g (j := 30) (v := nI i) (by decide)
      by_cases hq : f - fs R E i < plE R E (E 2 i)
      · simp (disch := omega) only [li, nI_add, pk_mul, ix_n, lt_n, le_n, eq_n, sub_n, dec_n, inb_t, neg_n, neg_n', ck_true, stp_eq, bnd_some, wp_some, wp_stp, Nat.add_zero, Nat.lt_irrefl, Nat.reduceEqDiff, Nat.reduceAdd, Nat.reduceSub, Nat.reduceMul, Nat.reduceLT, Nat.reduceLeDiff, up_o, up_ss, up_sn, zb_n1, true_and, and_true, ↓reduceIte, hM.n, hl, Nat.not_lt_zero, m_shotBlock hW hE hM hl, m_plays hW hE hG hM p1, hq, m_playsFrom hW hE (hG.fr w1) (hM.fr w1) p1]
        exact Or.inr ⟨f, i, hf, rfl, hl, hp, by omega, rfl⟩
      · simp (disch := omega) only [li, nI_add, pk_mul, ix_n, lt_n, le_n, eq_n, sub_n, dec_n, inb_t, neg_n, neg_n', ck_true, stp_eq, bnd_some, wp_some, wp_stp, Nat.add_zero, Nat.lt_irrefl, Nat.reduceEqDiff, Nat.reduceAdd, Nat.reduceSub, Nat.reduceMul, Nat.reduceLT, Nat.reduceLeDiff, up_o, up_ss, up_sn, zb_n1, true_and, and_true, ↓reduceIte, hM.n, hl, Nat.not_lt_zero, m_shotBlock hW hE hM hl, m_plays hW hE hG hM p1, hq]
        refine k _ hl ⟨?_, by rw [fs_s]; omega⟩
        rw [fs_s, Nat.sub_sub]
    · have e : i = E 0 1 := by omega
      simp (disch := omega) only [li, nI_add, pk_mul, ix_n, lt_n, le_n, eq_n, sub_n, dec_n, inb_t, neg_n, neg_n', ck_true, stp_eq, bnd_some, wp_some, wp_stp, Nat.add_zero, Nat.lt_irrefl, Nat.reduceEqDiff, Nat.reduceAdd, Nat.reduceSub, Nat.reduceMul, Nat.reduceLT, Nat.reduceLeDiff, up_o, up_ss, up_sn, zb_n1, true_and, and_true, ↓reduceIte, hM.n, hl]
      exact Or.inl (Or.inr ⟨f, hf, rfl, by rw [← e]; exact hp⟩)
theorem c_sourceIn (hW : WR R) (hE : WE R E) (hF : CF h R E) {s f : Nat} (hs : s < E 0 1) (hf : fs R E s ≤ f) : f_X1_sourceIn h (nI s) (nI f) = some (nI (pf R E (E 2 s) + (f - fs R E s))) := by
  have h1 := hE.n
  have h2 := hW.bw
  have h3 := hW.w40
  unfold f_X1_sourceIn
  simp (disch := omega) only [li, nI_add, pk_mul, ix_n, lt_n, le_n, eq_n, sub_n, dec_n, inb_t, neg_n, neg_n', ck_true, stp_eq, bnd_some, wp_some, wp_stp, Nat.add_zero, Nat.lt_irrefl, Nat.reduceEqDiff, Nat.reduceAdd, Nat.reduceSub, Nat.reduceMul, Nat.reduceLT, Nat.reduceLeDiff, up_o, up_ss, up_sn, zb_n1, true_and, and_true, ↓reduceIte, hF.first, hF.start]
  rw [show pf R E (E 2 s) + f - fs R E s = pf R E (E 2 s) + (f - fs R E s) by omega]
theorem qa21 (q : QQ h g c R E) (x : Int32) : QA (A_21 h g x) h g := by
  have h1 := q.E.n
  have h2 := q.W.bw
  have h3 := q.W.w40
  have z := q.z0
  have w0 := GW.upF g (j := 0) (v := nI 0) (by decide)
  obtain ⟨u, eu, hu⟩ := m_finds z.W z.E z.G z.M x
  rcases hu with ⟨rfl, hx⟩ | ⟨f, s, hf, rfl, hs, h5, h6, rfl⟩
  · refine QA.of (v := -nI 1) ?_ ?_
    · unfold f_X10_sourceOf
      rcases hx with hx | ⟨f, hf, rfl, hx⟩
      · rw [c_swf' q.W q.E q.D q.F hx, bnd_some, if_pos (show -nI 1 = (-1 : Int32) from rfl)]
        rfl
      · rw [c_swf q.W q.E q.D q.F hf (Nat.le_refl _) hx (fun y => absurd y (Nat.lt_irrefl _)), bnd_some, oI, if_neg (Nat.lt_irrefl _), if_pos (show -nI 1 = (-1 : Int32) from rfl)]
        rfl
    · unfold f_X11_sourceOf
      rw [stp_eq, show f_X11_finds (up g 125 0 0) x = _ from eu, bnd_some, if_pos (show nI 0 = (0 : Int32) from rfl)]
      exact wp_some.mpr ⟨rfl, w0⟩
  · refine QA.of (v := nI (pf R E (E 2 s) + (f - fs R E s))) ?_ ?_
    · unfold f_X10_sourceOf
      rw [c_swf q.W q.E q.D q.F hf (Nat.le_of_lt hs) h5 (fun _ => h6), bnd_some, oI, if_pos hs]
      simp (disch := omega) only [li, nI_add, pk_mul, ix_n, lt_n, le_n, eq_n, sub_n, dec_n, inb_t, neg_n, neg_n', ck_true, stp_eq, bnd_some, wp_some, wp_stp, Nat.add_zero, Nat.lt_irrefl, Nat.reduceEqDiff, Nat.reduceAdd, Nat.reduceSub, Nat.reduceMul, Nat.reduceLT, Nat.reduceLeDiff, up_o, up_ss, up_sn, zb_n1, true_and, and_true, ↓reduceIte, c_sourceIn q.W q.E q.F hs h5]
    · unfold f_X11_sourceOf
      rw [stp_eq, show f_X11_finds (up g 125 0 0) _ = _ from eu, bnd_some, if_neg (show ¬ nI 1 = 0 by decide)]
      refine wp_some.mpr ⟨show up (up (up g 125 0 (nI 0)) 125 30 (nI s)) 125 31 (nI (pf R E (E 2 s) + (f - fs R E s))) 125 31 = _ from up_ss, (w0.tr (GW.upF _ (by decide))).tr (GW.upF _ (by decide))⟩
end
