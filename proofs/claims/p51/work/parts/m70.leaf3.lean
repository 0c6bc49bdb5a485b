/-! move by phrases -/
section
variable {h g : Hp} {c s : Nat} {R E S : Nat → Nat → Nat} {T : Nat → Nat} {n ph q ph2 q2 : Nat}
theorem c_shotOf (hW : WR R) (hE : WE R E) (hD : CE h E) (hF : CF h R E) {p k : Nat} (hk : k < E 0 1) (h1 : (tr R E k).length ≤ p) (h2 : p < (tr R E (k + 1)).length) : f_X1_shotOfPlace h (nI p) = some (nI k) := by
  have hn := hE.n
  have hbw := hW.bw
  have h40 := hW.w40
  have hlA := trA_le hW hE
  have hle := tr_le2 (R := R) (E := E) (show k + 1 ≤ E 0 1 by omega)
  have hle : (tr R E (k + 1)).length ≤ (trA R E).length := hle
  refine wp_eq.mp ?_
  unfold f_X1_shotOfPlace
  refine wp_for (i := 0) k (fun i st => st = nI i) (by omega) (by omega) rfl ?_
  rintro i st r hi rfl kk
  unfold F_X1_shotOfPlace_2
  by_cases z : i + 1 < E 0 1
  · have hm := tr_le2 (R := R) (E := E) (show i + 1 ≤ E 0 1 by omega)
    have hm : (tr R E (i + 1)).length ≤ (trA R E).length := hm
    by_cases y : p < (tr R E (i + 1)).length
    · have e : i = k := by
        apply Classical.byContradiction
        intro e
        have := tr_le2 (R := R) (E := E) (show i + 1 ≤ k by omega)
        omega
      subst e
      simp (disch := omega) only [li, nI_add, pk_mul, ix_n, lt_n, le_n, eq_n, sub_n, dec_n, inb_t, neg_n, neg_n', ck_true, stp_eq, bnd_some, wp_some, wp_stp, Nat.add_zero, Nat.lt_irrefl, Nat.reduceEqDiff, Nat.reduceAdd, Nat.reduceSub, Nat.reduceMul, Nat.reduceLT, Nat.reduceLeDiff, up_o, up_ss, up_sn, zb_n1, true_and, and_true, ↓reduceIte, hD.z, z, hF.place, y]
    · have e : i < k := by
        apply Classical.byContradiction
        intro e
        have : i = k := by omega
        subst this
        exact y h2
      simp (disch := omega) only [li, nI_add, pk_mul, ix_n, lt_n, le_n, eq_n, sub_n, dec_n, inb_t, neg_n, neg_n', ck_true, stp_eq, bnd_some, wp_some, wp_stp, Nat.add_zero, Nat.lt_irrefl, Nat.reduceEqDiff, Nat.reduceAdd, Nat.reduceSub, Nat.reduceMul, Nat.reduceLT, Nat.reduceLeDiff, up_o, up_ss, up_sn, zb_n1, true_and, and_true, ↓reduceIte, hD.z, z, hF.place, y]
      exact kk _ e rfl
  · have e : i = k := by omega
    subst e
    simp (disch := omega) only [li, nI_add, pk_mul, ix_n, lt_n, le_n, eq_n, sub_n, dec_n, inb_t, neg_n, neg_n', ck_true, stp_eq, bnd_some, wp_some, wp_stp, Nat.add_zero, Nat.lt_irrefl, Nat.reduceEqDiff, Nat.reduceAdd, Nat.reduceSub, Nat.reduceMul, Nat.reduceLT, Nat.reduceLeDiff, up_o, up_ss, up_sn, zb_n1, true_and, and_true, ↓reduceIte, hD.z, z]
theorem l_move (hW : WR R) (hE : WE R E) (hX : WX R E) (hG : GR g R) (hM : GE g E) (hC : CR h c R) (hD : CE h E) (hF : CF h R E) (hp : h 3 0 = nI c) (hk : knd c = 4 ∧ (c = 83 ∨ c = 97)) (hs : s = 111 ∨ s = 118) (hS : CS h s S) (hT : GS g T n) (hP : PH S T n ph q) (hP2 : PH S T n ph2 q2) : LF (f_X1_carryPhrase h s (nI ph) (nI ph2)) (f_X11_movesPhrase g (nI q) (nI q2)) h g R := by
  have pp := hP.p
  have p1 := hP.n1
  have p6 := hP.n6
  have pq := hP.e
  have pp2 := hP2.p
  have p12 := hP2.n1
  have p62 := hP2.n6
  have pq2 := hP2.e
  have n7 := hT.n7
  have hn := hE.n
  have hbw := hW.bw
  have h40 := hW.w40
  have hlA := trA_le hW hE
  obtain ⟨g1, k1, m1⟩ := m_find' hW hE hG hM hT hP
  obtain ⟨g2, k2, m2⟩ := m_find' hW hE (hG.fr k1.gw) (k1.ge hM) (hT.fr k1.gw.gf) hP2
  have w2 := k1.aw.tr k2.aw
  have no : f_X1_carryPhrase h s (nI ph) (nI ph2) = some (0, h) → f_X11_movesPhrase g (nI q) (nI q2) = some (0, g2) → LF (f_X1_carryPhrase h s (nI ph) (nI ph2)) (f_X11_movesPhrase g (nI q) (nI q2)) h g R := by
    intro e1 e2
    exact ⟨0, h, g2, E, e1, e2, by omega, hD, hF, HF.rf h, k2.ge (k1.ge hM), w2, hE, hX⟩
  rcases c_find' hW hE hC hF hp hk hS hP with ⟨z1, c1⟩ | ⟨z1, c1⟩
  · rcases m1 with ⟨-, m1⟩ | ⟨y, -⟩
    case inr => exact absurd z1 y
    rcases c_find' hW hE hC hF hp hk hS hP2 with ⟨z2, c2⟩ | ⟨z2, c2⟩
    · rcases m2 with ⟨-, m2⟩ | ⟨y, -⟩
      case inr => exact absurd z2 y
      obtain ⟨b1, b2, b3⟩ := fp_b hW hE hP z1
      obtain ⟨b4, b5, b6⟩ := fp_b hW hE hP2 z2
      have z1' : FP R E S ph < (trA R E).length := z1
      have z2' : FP R E S ph2 < (trA R E).length := z2
      obtain ⟨f, f1, f2, f3, f4⟩ := so_get (R := R) (E := E) (E 0 1) (FP R E S ph) z1'
      obtain ⟨l, l1, l2, l3, l4⟩ := so_get (R := R) (E := E) (E 0 1) (FP R E S ph + S 5 ph - 1) (show FP R E S ph + S 5 ph - 1 < (trA R E).length by omega)
      obtain ⟨b, t1, t2, t3, t4⟩ := so_get (R := R) (E := E) (E 0 1) (FP R E S ph2 + S 5 ph2 - 1) (show FP R E S ph2 + S 5 ph2 - 1 < (trA R E).length by omega)
      have hfl : f ≤ l := by
        apply Classical.byContradiction
        intro y
        have := tr_le2 (R := R) (E := E) (show l + 1 ≤ f by omega)
        omega
      have cf := c_shotOf hW hE hD hF f1 f3 f4
      have cl := c_shotOf hW hE hD hF l1 l3 l4
      have cb := c_shotOf hW hE hD hF t1 t3 t4
      have e142 : Arr (g2 142) (soA R E) := k2.sho
      have v1 : g2 142 (FP R E S ph) = nI f := e142 _ _ f2
      have v2 : g2 142 (FP R E S ph + S 5 ph - 1) = nI l := e142 _ _ l2
      have v3 : g2 142 (FP R E S ph2 + S 5 ph2 - 1) = nI b := e142 _ _ t2
      have pn : ∀ i, i < n → g2 139 i = nI (T i) := fun i hi => by rw [k2.o 139 (by decide) (by decide) (by decide), k1.o 139 (by decide) (by decide) (by decide)]; exact hT.t i hi
      have pn1 : g2 139 q = nI (S 5 ph) := by rw [pn q (by omega), hP.n]
      have pn2 : g2 139 q2 = nI (S 5 ph2) := by rw [pn q2 (by omega), hP2.n]
      have hc : f_X1_carryPhrase h s (nI ph) (nI ph2) = (if nI b < nI f then J_X1_carryPhrase_88 s (nI ph) (nI ph2) h (nI f) (nI l) (nI b) else if nI l < nI b then J_X1_carryPhrase_88 s (nI ph) (nI ph2) h (nI f) (nI l) (nI b) else some (0, h)) := by
        unfold f_X1_carryPhrase
        rw [c1, bnd_some, c2, bnd_some]
        show (if nI (FP R E S ph) = -nI 1 then _ else if nI (FP R E S ph2) = -nI 1 then _ else bnd (f_X1_shotOfPlace h (nI (FP R E S ph))) (fun u4 => ck (inb (nI ph) 60) (bnd (f_X1_shotOfPlace h (nI (FP R E S ph) + h (s + 5) (ix (nI ph)) - nI 1)) (fun u5 => ck (inb (nI ph2) 60) (bnd (f_X1_shotOfPlace h (nI (FP R E S ph2) + h (s + 5) (ix (nI ph2)) - nI 1)) _))))) = _
        rw [if_neg (ng1 (by omega)), if_neg (ng1 (by omega)), cf, bnd_some, inb_t (show ph < 60 by omega) (by omega), ck_true, ix_n (show ph < 2147483648 by omega), hS.o 5 ph (by omega) (by omega), b3, cl, bnd_some, inb_t (show ph2 < 60 by omega) (by omega), ck_true, ix_n (by omega), hS.o 5 ph2 (by omega) (by omega), b6, cb, bnd_some]
      have hm : f_X11_movesPhrase g (nI q) (nI q2) = (if (if nI b < nI f then nI 0 else if nI l < nI b then nI 0 else nI 1) = 0 then bnd (f_X11_movesAll g2 (nI f) (nI l) (nI b)) (fun u7 => if u7.1 < 0 then some (0, u7.2) else some (1, u7.2)) else some (0, g2)) := by
        unfold f_X11_movesPhrase
        rw [m1, bnd_some]
        show bnd (f_X11_find g1 (nI q2)) _ = _
        rw [m2, bnd_some]
        show (if nI (FP R E S ph) = -nI 1 then _ else if nI (FP R E S ph2) = -nI 1 then _ else ck (inb (nI (FP R E S ph)) 40) (stp (g2 142 (ix (nI (FP R E S ph)))) (fun v3 => ck (inb (nI q) 700) (ck (inb (nI (FP R E S ph) + g2 139 (ix (nI q)) - nI 1) 40) (stp (g2 142 (ix (nI (FP R E S ph) + g2 139 (ix (nI q)) - nI 1))) (fun v4 => ck (inb (nI q2) 700) (ck (inb (nI (FP R E S ph2) + g2 139 (ix (nI q2)) - nI 1) 40) (stp (g2 142 (ix (nI (FP R E S ph2) + g2 139 (ix (nI q2)) - nI 1))) (fun v5 => bnd (f_X11_in g2 v5 v3 v4) _))))))))) = _
        rw [if_neg (ng1 (by omega)), if_neg (ng1 (by omega)), inb_t (show FP R E S ph < 40 by omega) (by omega), ck_true, ix_n (show FP R E S ph < 2147483648 by omega), v1, stp_eq, inb_t (show q < 700 by omega) (by omega), ck_true, ix_n (show q < 2147483648 by omega), pn1, b3, inb_t (show FP R E S ph + S 5 ph - 1 < 40 by omega) (by omega), ck_true, ix_n (show FP R E S ph + S 5 ph - 1 < 2147483648 by omega), v2, stp_eq, inb_t (show q2 < 700 by omega) (by omega), ck_true, ix_n (show q2 < 2147483648 by omega), pn2, b6, inb_t (show FP R E S ph2 + S 5 ph2 - 1 < 40 by omega) (by omega), ck_true, ix_n (show FP R E S ph2 + S 5 ph2 - 1 < 2147483648 by omega), v3, stp_eq, m_inR, bnd_some]
      by_cases y : b < f ∨ l < b
      · have hf2 : f + (l - f + 1) ≤ E 0 1 := by omega
        have hl2 : nI l = nI (f + (l - f + 1) - 1) := congrArg nI (by omega)
        have yI : nI b < nI f ∨ (¬ nI b < nI f ∧ nI l < nI b) := by
          rcases y with y | y
          · exact Or.inl ((nI_ltI (by omega) (by omega)).mpr y)
          · exact Or.inr ⟨fun y2 => by have := (nI_ltI (by omega) (by omega)).mp y2; omega, (nI_ltI (by omega) (by omega)).mpr y⟩
        have ht : ∃ t, t + (l - f + 1) ≤ E 0 1 ∧ ((nI b < nI f ∧ nI b + nI 1 = nI t) ∨ (¬ nI b < nI f ∧ nI b + nI 1 - nI (l - f + 1) = nI t)) := by
          rcases y with y | y
          · exact ⟨b + 1, by omega, Or.inl ⟨(nI_ltI (by omega) (by omega)).mpr y, nI_add b 1⟩⟩
          · exact ⟨b + 1 - (l - f + 1), by omega, Or.inr ⟨fun y2 => by have := (nI_ltI (by omega) (by omega)).mp y2; omega, by rw [nI_add, sub_n (by omega)]⟩⟩
        obtain ⟨t, ht, h4⟩ := ht
        obtain ⟨⟨v5, h1⟩, e1, -, D1, F1, H1⟩ := c_carryShots hW hE hC hD hp hk (f := f) (k := l - f + 1) (t := t) (by omega) hf2 ht hl2 h4
        obtain ⟨⟨v6, g3⟩, e2, e3, M3, w3⟩ := m_movesAll hW hE ((hG.fr k1.gw).fr k2.gw) (k2.ge (k1.ge hM)) (f := f) (k := l - f + 1) (t := t) (by omega) hf2 ht hl2 h4
        have e3 : v6 = nI t := e3
        subst e3
        have ec : f_X1_carryPhrase h s (nI ph) (nI ph2) = some (nI 1, h1) := by
          rw [hc]
          have : J_X1_carryPhrase_88 s (nI ph) (nI ph2) h (nI f) (nI l) (nI b) = some (nI 1, h1) := by
            unfold J_X1_carryPhrase_88
            rw [e1, bnd_some]
            rfl
          rcases yI with y2 | ⟨y2, y3⟩
          · rw [if_pos y2, this]
          · rw [if_neg y2, if_pos y3, this]
        have em : f_X11_movesPhrase g (nI q) (nI q2) = some (nI 1, g3) := by
          rw [hm]
          have : (if nI b < nI f then nI 0 else if nI l < nI b then nI 0 else nI 1) = nI 0 := by
            rcases yI with y2 | ⟨y2, y3⟩
            · rw [if_pos y2]
            · rw [if_neg y2, if_pos y3]
          rw [this, if_pos (show (nI 0 : Int32) = 0 from rfl), e2, bnd_some]
          show (if nI t < 0 then _ else _) = _
          rw [if_neg (nI_pos (by omega))]
          rfl
        exact ⟨1, h1, g3, _, ec, em, Nat.le_refl _, D1, F1, H1, M3, w2.tr w3, moveE_WE hW hE hf2 ht, moveE_WX hX (by omega) hf2 ht⟩
      · have y1 : ¬ nI b < nI f := fun y2 => by have := (nI_ltI (by omega) (by omega)).mp y2; omega
        have y2 : ¬ nI l < nI b := fun y2 => by have := (nI_ltI (by omega) (by omega)).mp y2; omega
        refine no ?_ ?_
        · rw [hc, if_neg y1, if_neg y2]
        · rw [hm, if_neg y1, if_neg y2, if_neg (show ¬ (nI 1 : Int32) = 0 by decide)]
    · rcases m2 with ⟨y, -⟩ | ⟨-, m2⟩
      case inl => exact absurd y z2
      obtain ⟨b1, b2, b3⟩ := fp_b hW hE hP z1
      refine no ?_ ?_
      · unfold f_X1_carryPhrase
        rw [c1, bnd_some, c2, bnd_some]
        show (if nI (FP R E S ph) = -nI 1 then _ else if (-nI 1 : Int32) = -1 then _ else _) = _
        rw [if_neg (ng1 (by omega)), if_pos (show (-nI 1 : Int32) = -1 from rfl)]
      · unfold f_X11_movesPhrase
        rw [m1, bnd_some]
        show bnd (f_X11_find g1 (nI q2)) _ = _
        rw [m2, bnd_some]
        show (if nI (FP R E S ph) = -nI 1 then _ else if (-nI 1 : Int32) = -1 then _ else _) = _
        rw [if_neg (ng1 (by omega)), if_pos (show (-nI 1 : Int32) = -1 from rfl)]
  · rcases m1 with ⟨y, -⟩ | ⟨-, m1⟩
    case inl => exact absurd y z1
    refine no ?_ ?_
    · unfold f_X1_carryPhrase
      rcases c_find' hW hE hC hF hp hk hS hP2 with ⟨z2, c2⟩ | ⟨z2, c2⟩
      · rw [c1, bnd_some, c2, bnd_some, if_pos (show (-nI 1 : Int32) = -1 from rfl)]
      · rw [c1, bnd_some, c2, bnd_some, if_pos (show (-nI 1 : Int32) = -1 from rfl)]
    · unfold f_X11_movesPhrase
      rw [m1, bnd_some]
      show bnd (f_X11_find g1 (nI q2)) _ = _
      rcases m2 with ⟨-, m2⟩ | ⟨-, m2⟩
      · rw [m2, bnd_some, if_pos (show (-nI 1 : Int32) = -1 from rfl)]
      · rw [m2, bnd_some, if_pos (show (-nI 1 : Int32) = -1 from rfl)]
end
