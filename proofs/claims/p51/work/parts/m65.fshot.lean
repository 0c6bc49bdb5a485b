/-! formatShot -/
section
variable {h g : Hp} {c : Nat} {R E : Nat → Nat → Nat} {d x : Nat} {hi : Nat → Nat → Nat → Nat}
theorem m_formatShot (hW : WR R) (hE : WE R E) (hG : GR g R) (hM : GE g E) {s : Nat} (hs : s < E 0 1) : Wp (f_X11_formatShot g (nI s)) (fun u => u.1 = nI (hdL R E s ++ wsL R E (R 9 (E 2 s)) (R 9 (E 2 s + 1) - R 9 (E 2 s))).length ∧ GT u.2 (hdL R E s ++ wsL R E (R 9 (E 2 s)) (R 9 (E 2 s + 1) - R 9 (E 2 s))) ∧ FFr g u.2 ∧ u.2 125 0 = 0 ∧ u.2 145 = g 145) := by
  have hn := hE.n
  have hbw := hW.bw
  have h40 := hW.w40
  have hlt := hE.lt s hs
  have hwl := hW.wlt _ hlt
  have hbl := bw_le hW (b := E 2 s + 1) (by omega)
  have pfs := p_facts hW hE hlt
  have d1 := dgL_len 5 s
  have d2 := dgL_len 5 (pf R E (E 2 s))
  have d3 := dgL_len 5 (pt R E (E 2 s))
  have hhd := hdL_len R E s
  have w0 := GW.upF g (j := 0) (v := nI 0) (by decide)
  have M0 := hM.fr w0
  unfold f_X11_formatShot
  rw [stp_eq, show (up g 125 0 0) = up g 125 0 (nI 0) from rfl, m_noShot hW hE M0 hs, bnd_some, if_pos (show (nI 0 : Int32) = 0 from rfl), stp_eq]
  have x0 : GX (up g 125 0 (nI 0)) (up (up g 125 0 (nI 0)) 125 42 0) := ⟨fun k a b => up_o a, fun j a => up_sn a⟩
  rw [m_shotBlock hW hE (x0.ge M0) hs, bnd_some]
  refine wp_bnd_of (m_says (l := []) ⟨up_ss, Arr.nil _⟩ (by decide) (show 115 < 128 by omega)) (fun g1 k1 => ?_)
  have y1 := x0.tr k1.2
  have l1 : ([] ++ [115] : List Nat).length = 1 := rfl
  refine wp_bnd_of (m_saysNumber k1.1 (by rw [l1]; omega) (show s < 100000 by omega)) (fun g2 k2 => ?_)
  have y2 := y1.tr k2.2
  refine wp_bnd_of (m_says k2.1 (by rw [List.length_append, l1]; omega) (show 32 < 128 by omega)) (fun g3 k3 => ?_)
  have y3 := y2.tr k3.2
  have G0 := hG.fr w0
  rw [m_playsFrom hW hE (y3.gr G0) (y3.ge M0) hlt, bnd_some]
  refine wp_bnd_of (m_saysNumber k3.1 (by rw [List.length_append, List.length_append, l1]; show _ + 1 + 5 < _; omega) (by omega)) (fun g4 k4 => ?_)
  have y4 := y3.tr k4.2
  refine wp_bnd_of (m_says k4.1 (by rw [List.length_append, List.length_append, List.length_append, l1]; show _ + 1 + _ < _; omega) (show 45 < 128 by omega)) (fun g5 k5 => ?_)
  have y5 := y4.tr k5.2
  rw [m_playsTo hW hE (y5.gr G0) (y5.ge M0) hlt, bnd_some]
  refine wp_bnd_of (m_saysNumber k5.1 (by rw [List.length_append, List.length_append, List.length_append, List.length_append, l1]; show _ + 1 + _ + 1 + 5 < _; omega) (by omega)) (fun g6 k6 => ?_)
  have y6 := y5.tr k6.2
  have t6 : GT g6 (hdL R E s) := k6.1
  have f131 : g6 131 (E 2 s) = nI (R 9 (E 2 s)) := (y6.gr G0).bw _ (by omega)
  rw [inb_t (show E 2 s < 41 by omega) (by omega), ck_true, ix_n (by omega), stp_eq, f131]
  refine wp_for (i := 0) (R 9 (E 2 s + 1) - R 9 (E 2 s)) (fun i st => ∃ g7, st = (nI (R 9 (E 2 s) + i), g7) ∧ GT g7 (hdL R E s ++ wsL R E (R 9 (E 2 s)) i) ∧ GX (up g 125 0 (nI 0)) g7) (by omega) (by omega) ⟨g6, rfl, by show GT g6 (hdL R E s ++ []); rw [List.append_nil]; exact t6, y6⟩ ?_
  rintro i st r hi2 ⟨g7, rfl, a1, a2⟩ k
  have gb : ∀ b, b ≤ R 0 13 → g7 131 b = nI (R 9 b) := (a2.gr G0).bw
  have hws := wsL_len R E (R 9 (E 2 s)) i
  have hl0 : (hdL R E s ++ wsL R E (R 9 (E 2 s)) i).length ≤ 18 + 16 * i := by rw [List.length_append]; omega
  unfold F_X11_formatShot_74
  by_cases hl : i < R 9 (E 2 s + 1) - R 9 (E 2 s)
  · have hl2 : R 9 (E 2 s) + i < R 9 (E 2 s + 1) := by omega
    have hw : R 9 (E 2 s) + i < R 0 4 := by omega
    obtain ⟨q1, q2, q3, q4, q5, q6⟩ := w_facts hW hw
    have hwd := hW.wd _ hw
    have hs4 := hW.s4
    have hk1 := hE.k1 _ q1
    have n1 := nmL_len 6 (R 1 (R 3 (R 9 (E 2 s) + i)))
    have n2 := nmL_len 6 (R 2 (R 9 (E 2 s) + i))
    simp (disch := omega) only [li, nI_add, pk_mul, ix_n, lt_n, le_n, eq_n, sub_n, dec_n, inb_t, neg_n, neg_n', ck_true, stp_eq, bnd_some, wp_some, wp_stp, Nat.add_zero, Nat.lt_irrefl, Nat.reduceEqDiff, Nat.reduceAdd, Nat.reduceSub, Nat.reduceMul, Nat.reduceLT, Nat.reduceLeDiff, up_o, up_ss, up_sn, zb_n1, true_and, and_true, ↓reduceIte, gb, hl2]
    refine wp_bnd_of (m_says a1 (by omega) (show 32 < 128 by omega)) (fun g8 k8 => ?_)
    have y8 := a2.tr k8.2
    have m126 : g8 126 (5 + R 3 (R 9 (E 2 s) + i)) = nI (n27 (R 1 (R 3 (R 9 (E 2 s) + i)))) := (y8.gr G0).nm _ hwd.2.2
    simp (disch := omega) only [li, nI_add, pk_mul, ix_n, lt_n, le_n, eq_n, sub_n, dec_n, inb_t, neg_n, neg_n', ck_true, stp_eq, bnd_some, wp_some, wp_stp, Nat.add_zero, Nat.lt_irrefl, Nat.reduceEqDiff, Nat.reduceAdd, Nat.reduceSub, Nat.reduceMul, Nat.reduceLT, Nat.reduceLeDiff, up_o, up_ss, up_sn, zb_n1, true_and, and_true, ↓reduceIte, m_of0 hW (y8.gr G0) hw, m126]
    refine wp_bnd_of (m_saysName k8.1 (by rw [List.length_append]; show _ + 1 + 6 < _; omega) (hW.nm _ hwd.2.2)) (fun g9 k9 => ?_)
    have y9 := y8.tr k9.2
    refine wp_bnd_of (m_says k9.1 (by rw [List.length_append, List.length_append]; show _ + 1 + _ < _; omega) (show 58 < 128 by omega)) (fun g10 k10 => ?_)
    have y10 := y9.tr k10.2
    rw [m_isKept (y10.ge M0) (hE.zz (by omega)) q1 hk1, bnd_some]
    have tail : ∀ (g11 : Hp) (l : List Nat) (cs2 : List Nat), GT g11 l → GX (up g 125 0 (nI 0)) g11 → l.length < 880 → (E 1 (R 9 (E 2 s) + i) = 1 ∧ cs2 = [] ∨ E 1 (R 9 (E 2 s) + i) = 0 ∧ cs2 = [93]) → l ++ nmL 6 (R 2 (R 9 (E 2 s) + i)) ++ cs2 = hdL R E s ++ wsL R E (R 9 (E 2 s)) (i + 1) → Wp (J_X11_formatShot_129 (nI s) g11 r (nI (E 2 s)) (nI (R 9 (E 2 s) + i))) (fun u => u.1 = nI (hdL R E s ++ wsL R E (R 9 (E 2 s)) (R 9 (E 2 s + 1) - R 9 (E 2 s))).length ∧ GT u.2 (hdL R E s ++ wsL R E (R 9 (E 2 s)) (R 9 (E 2 s + 1) - R 9 (E 2 s))) ∧ FFr g u.2 ∧ u.2 125 0 = 0 ∧ u.2 145 = g 145) := by
      intro g11 l cs2 hT hX hll hkk he
      unfold J_X11_formatShot_129
      simp (disch := omega) only [li, nI_add, pk_mul, ix_n, lt_n, le_n, eq_n, sub_n, dec_n, inb_t, neg_n, neg_n', ck_true, stp_eq, bnd_some, wp_some, wp_stp, Nat.add_zero, Nat.lt_irrefl, Nat.reduceEqDiff, Nat.reduceAdd, Nat.reduceSub, Nat.reduceMul, Nat.reduceLT, Nat.reduceLeDiff, up_o, up_ss, up_sn, zb_n1, true_and, and_true, ↓reduceIte, m_of1 hW (hX.gr G0) hw]
      refine wp_bnd_of (m_saysName hT (by omega) (hW.tx _ hw)) (fun g12 k12 => ?_)
      have y12 := hX.tr k12.2
      rw [m_isKept (y12.ge M0) (hE.zz (by omega)) q1 hk1, bnd_some]
      rcases hkk with ⟨z, rfl⟩ | ⟨z, rfl⟩
      · rw [z, if_neg (by decide)]
        unfold J_X11_formatShot_153
        rw [stp_eq, li, nI_add, Nat.add_assoc]
        refine k _ hl ⟨g12, rfl, ?_, y12⟩
        rw [← he, List.append_nil]
        exact k12.1
      · rw [z, if_pos (by rfl)]
        refine wp_bnd_of (m_says k12.1 (by rw [List.length_append]; omega) (show 93 < 128 by omega)) (fun g13 k13 => ?_)
        unfold J_X11_formatShot_153
        rw [stp_eq, li, nI_add, Nat.add_assoc]
        refine k _ hl ⟨g13, rfl, ?_, y12.tr k13.2⟩
        rw [← he]
        exact k13.1
    by_cases z : E 1 (R 9 (E 2 s) + i) = 1
    · rw [z, if_neg (by decide)]
      refine tail g10 _ [] k10.1 y10 (by rw [List.length_append, List.length_append, List.length_append]; show _ + 1 + _ + 1 < _; omega) (Or.inl ⟨z, rfl⟩) ?_
      rw [wsL_s]
      unfold wdL
      rw [if_pos z, if_pos z]
      simp only [List.append_assoc]
    · have z0 : E 1 (R 9 (E 2 s) + i) = 0 := by omega
      rw [z0, if_pos (by rfl)]
      refine wp_bnd_of (m_says k10.1 (by rw [List.length_append, List.length_append, List.length_append]; show _ + 1 + _ + 1 < _; omega) (show 91 < 128 by omega)) (fun g11 k11 => ?_)
      refine tail g11 _ [93] k11.1 (y10.tr k11.2) (by rw [List.length_append, List.length_append, List.length_append, List.length_append]; show _ + 1 + _ + 1 + 1 < _; omega) (Or.inr ⟨z0, rfl⟩) ?_
      rw [wsL_s]
      unfold wdL
      rw [if_neg z, if_neg z]
      simp only [List.append_assoc]
      rfl
  · have hl2 : ¬ R 9 (E 2 s) + i < R 9 (E 2 s + 1) := by omega
    have e : i = R 9 (E 2 s + 1) - R 9 (E 2 s) := by omega
    simp (disch := omega) only [li, nI_add, pk_mul, ix_n, lt_n, le_n, eq_n, sub_n, dec_n, inb_t, neg_n, neg_n', ck_true, stp_eq, bnd_some, wp_some, wp_stp, Nat.add_zero, Nat.lt_irrefl, Nat.reduceEqDiff, Nat.reduceAdd, Nat.reduceSub, Nat.reduceMul, Nat.reduceLT, Nat.reduceLeDiff, up_o, up_ss, up_sn, zb_n1, true_and, and_true, ↓reduceIte, gb, hl2]
    subst e
    refine ⟨a1.1, a1, w0.ff.tr a2.ff, ?_, ?_⟩
    · rw [a2.2 0 (by decide), up_ss]
    · rw [a2.1 145 (by decide) (by decide)]; exact up_o (by decide)
theorem m_formatShot' (hW : WR R) (hE : WE R E) (hM : GE g E) {y : Int32} (hy : bad y (E 0 1)) : f_X11_formatShot g y = some (0, up (up g 125 0 (nI 0)) 125 0 (nI 1)) := by
  have w0 := GW.upF g (j := 0) (v := nI 0) (by decide)
  unfold f_X11_formatShot
  rw [stp_eq, show (up g 125 0 0) = up g 125 0 (nI 0) from rfl, m_noShot' hW hE (hM.fr w0) hy, bnd_some, if_neg (show ¬ (nI 1 : Int32) = 0 by decide)]
theorem qa46 (w : ED h g c R E d x hi) (t : TT h g) (a1 : Int32) : FA (A_46 h g a1) h g := by
  have q := w.Q
  have h40 := q.W.w40
  have hbw := q.W.bw
  have hn := q.E.n
  unfold A_46 f_L_formatShot f_X10_formatShot
  rcases idb a1 (n := E 0 1) (by omega) with hb | ⟨s, hs, rfl⟩
  · obtain ⟨l, hl, t1, t2, t3⟩ := t
    rw [c_rS' q hb, bnd_some, if_neg (show ¬ (1 : Nat) = 0 by decide), bnd_some, if_neg (show ¬ (1 : Nat) = 0 by decide), if_pos rfl, bnd_some, m_formatShot' q.W q.E q.M hb, bnd_some]
    have w1 := GW.upF g (j := 0) (v := nI 0) (by decide)
    have w2 := w1.tr (GW.upF _ (j := 0) (v := nI 1) (by decide))
    refine ⟨h, _, l, ?_, CXf.rf h, w2.ff, hl, t1, ?_, ?_⟩
    · unfold f_X11_thrown
      rw [bnd_some, if_pos (show up (up g 125 0 (nI 0)) 125 0 (nI 1) 125 0 = 1 from up_ss), if_neg (show ¬ (1 : Int32) = 0 by decide)]
    · rw [w2.2 42 (by decide)]; exact t2
    · rw [w2.1 144 (by decide)]; exact t3
  · obtain ⟨h1, e1, t1, x1⟩ := c_writeShot q.W q.E q.C q.D q.F q.p q.k hs
    have wo := GW.out g (h1 16 1)
    obtain ⟨⟨v, g1⟩, e2, e3, t2, x2, e4, e5⟩ := m_formatShot q.W q.E (q.G.fr wo) (q.M.fr wo) hs
    have hlt := q.E.lt s hs
    have hwl := q.W.wlt _ hlt
    have hbl := bw_le q.W (b := E 2 s + 1) (by omega)
    have l1 := hdL_len R E s
    have l2 := wsL_len R E (R 9 (E 2 s)) (R 9 (E 2 s + 1) - R 9 (E 2 s))
    rw [c_rS q hs, bnd_some, if_pos rfl, e1, bnd_some, bnd_some, if_pos rfl, bnd_some]
    have e5 : g1 145 0 = h1 16 1 := by rw [show g1 145 = _ from e5]; exact up_ss
    refine ⟨h1, g1, _, ?_, x1, wo.ff.tr x2, ?_, t1, t2⟩
    · show bnd (f_X11_formatShot (up g 145 0 (h1 16 1)) (nI s)) _ = _
      rw [e2, bnd_some]
      unfold f_X11_thrown
      rw [bnd_some, if_pos e4, if_pos rfl, if_pos]
      show g1 145 0 = v
      rw [e5, t1.1, show v = _ from e3]
    · rw [List.length_append]; omega
end
