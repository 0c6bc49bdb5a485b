/-! the law moves shots -/
section
variable {g : PL} {R E : Nat → Nat → Nat} {wid : Nat → Nat} {f : Nat}
theorem inE_0 (E : Nat → Nat → Nat) (a k t : Nat) : inE E a k t 0 0 1 = rmE E a k 0 1 ∧ ∀ i, inE E a k t 0 2 i = rmE E a k 2 i := by
  refine ⟨rfl, fun i => ?_⟩
  show (if i < t then (if i < a then E 2 i else E 2 (i + k)) else if i < t + 0 then E 2 (a + (i - t)) else if i - 0 < a then E 2 (i - 0) else E 2 (i - 0 + k)) = if i < a then E 2 i else E 2 (i + k)
  by_cases h : i < t
  · rw [if_pos h]
  · rw [if_neg h, if_neg (by omega), Nat.sub_zero]
theorem inE_s (E : Nat → Nat → Nat) (a k t j : Nat) : inE E a k t (j + 1) 0 1 = putE (inE E a k t j) (t + j) (E 2 (a + j)) 0 1 ∧ ∀ i, inE E a k t (j + 1) 2 i = putE (inE E a k t j) (t + j) (E 2 (a + j)) 2 i := by
  refine ⟨rfl, fun i => ?_⟩
  show (if i < t then (if i < a then E 2 i else E 2 (i + k)) else if i < t + (j + 1) then E 2 (a + (i - t)) else if i - (j + 1) < a then E 2 (i - (j + 1)) else E 2 (i - (j + 1) + k)) = if i < t + j then (if i < t then (if i < a then E 2 i else E 2 (i + k)) else if i < t + j then E 2 (a + (i - t)) else if i - j < a then E 2 (i - j) else E 2 (i - j + k)) else if i = t + j then E 2 (a + j) else (if i - 1 < t then (if i - 1 < a then E 2 (i - 1) else E 2 (i - 1 + k)) else if i - 1 < t + j then E 2 (a + (i - 1 - t)) else if i - 1 - j < a then E 2 (i - 1 - j) else E 2 (i - 1 - j + k))
  by_cases h1 : i < t
  · rw [if_pos h1, if_pos (show i < t + j by omega), if_pos h1]
  · rw [if_neg h1]
    by_cases h2 : i < t + j
    · rw [if_pos (show i < t + (j + 1) by omega), if_pos h2, if_neg h1, if_pos h2]
    · rw [if_neg h2]
      by_cases h3 : i = t + j
      · rw [if_pos (show i < t + (j + 1) by omega), if_pos h3, h3, show t + j - t = j by omega]
      · rw [if_neg (show ¬ i < t + (j + 1) by omega), if_neg h3, if_neg (show ¬ i - 1 < t by omega), if_neg (show ¬ i - 1 < t + j by omega), show i - (j + 1) = i - 1 - j by omega]
theorem inE_k (E : Nat → Nat → Nat) (a k t n : Nat) (ha : a + k ≤ n) (ht : t + k ≤ n) (hn : E 0 1 = n) : inE E a k t k 0 1 = n ∧ ∀ i, inE E a k t k 2 i = E 2 (sig a k t i) := by
  refine ⟨by show E 0 1 - k + k = n; omega, fun i => ?_⟩
  show (if i < t then (if i < a then E 2 i else E 2 (i + k)) else if i < t + k then E 2 (a + (i - t)) else if i - k < a then E 2 (i - k) else E 2 (i - k + k)) = _
  unfold sig
  by_cases h1 : i < t
  · rw [if_pos h1, if_pos h1]
    by_cases h2 : i < a
    · rw [if_pos h2, if_pos h2]
    · rw [if_neg h2, if_neg h2]
  · rw [if_neg h1, if_neg h1]
    by_cases h2 : i < t + k
    · rw [if_pos h2, if_pos h2]
    · rw [if_neg h2, if_neg h2]
      by_cases h3 : i - k < a
      · rw [if_pos h3, if_pos h3]
      · rw [if_neg h3, if_neg h3, show i - k + k = i by omega]
theorem d_move (hW : WR R) (hE : WE R E) (q : DG g R E wid f) (hp : g.1 ≤ 400000) {a k t : Nat} {p2 p3 : Int32} (hk : 0 < k) (hk5 : k ≤ 5) (ha : a + k ≤ E 0 1) (ht : t + k ≤ E 0 1) (h2 : p2 = nI (a + k - 1)) (h3 : (p3 < nI a ∧ p3 + nI 1 = nI t) ∨ (¬ p3 < nI a ∧ p3 + nI 1 - nI k = nI t)) : ∃ f' u, fp_X11_move g 1 (nI a) p2 p3 = some (nI t, u) ∧ DG u R (moveE R E a k t) wid f' ∧ NF 7 g u := by
  have hn := hE.n
  have hbw := hW.bw
  have h40 := hW.w40
  have hd := q.d.n
  have hfo := q.fo
  have i0 : ix (0 : Int32) = 0 := ix_n (a := 0) (by decide)
  -- the row of what is moved
  obtain ⟨u1, hu1⟩ : ∃ u, u = gnew g 4 k (fun _ => 0) := ⟨_, rfl⟩
  obtain ⟨n1, k1, v1, kr, q1⟩ := row_new q (by omega) (by omega) hu1
  have key : Wp (fp_X11_move g 1 (nI a) p2 p3) (fun x => x.1 = nI t ∧ ∃ f', DG x.2 R (moveE R E a k t) wid f' ∧ NF 7 g x.2) := by
    unfold fp_X11_move
    rw [h2, show nI (a + k - 1) - nI a + (1 : Int32) = nI k from by rw [sub_n (by omega), show nI (a + k - 1 - a) + (1 : Int32) = nI (a + k - 1 - a + 1) from nI_add _ 1, show a + k - 1 - a + 1 = k by omega], stp_eq, ck_of (rkb_i (show 1 < g.1 by omega)), ix_n (show k < 2147483648 by omega), ck_of (by rw [ngw_i (by omega) (by omega), decide_eq_true (nI_pos' (show k < 2147483648 by omega))]; rfl), ← hu1, stp_eq]
    refine wp_for (i := 0) k (fun i x => ∃ g1, x = (nI i, g1) ∧ O1 g.1 u1 g1 ∧ ∀ j, j < i → g1.2.2 g.1 j = nI (E 2 (a + j))) (by omega) (Nat.zero_le _) ⟨u1, rfl, O1.rf _ _, fun j h => absurd h (Nat.not_lt_zero _)⟩ ?_
    rintro i x r hi ⟨ga, rfl, o1, hv⟩ kk
    have qa := row_up q n1 (by omega) k1 v1 o1
    have N1 : ga.1 = g.1 + 1 := by rw [o1.1, n1]
    have kr1 : ga.2.1 g.1 = (4, k) := by rw [o1.2.1, kr]
    have gr : gk ga g.1 4 = true := gk_i (by omega) (by rw [kr1])
    have lr : gl ga g.1 = k := by show (ga.2.1 g.1).2 = _; rw [kr1]
    unfold Fp_X11_move_16
    dsimp only
    by_cases z : i < k
    · rw [if_pos (lty z (by omega)), qa.rf, nI_add, ck_of (qa.if (show a + i < E 0 1 by omega) (by omega)), ck_of (by rw [gr, lr, inb_t z (by omega)]; rfl), ix_n (show i < 2147483648 by omega), ix_n (show a + i < 2147483648 by omega), qa.fv (a + i) (by omega), stp_eq, show nI i + (1 : Int32) = nI (i + 1) from nI_add i 1, stp_eq]
      refine kk _ z ⟨gu ga g.1 i (nI (E 2 (a + i))), rfl, o1.tr (O1.up _ _ _ _), fun j hj => ?_⟩
      rw [gu_h]
      by_cases e : j = i
      · rw [e, up_ss]
      · rw [up_sn e]; exact hv j (by omega)
    · have ei : i = k := by omega
      subst ei
      rw [if_neg (ltn (by omega) (by omega))]
      clear kk r
      -- the rest
      obtain ⟨u2, hu2⟩ : ∃ u, u = gnew ga 4 (E 0 1 - i) (fun _ => 0) := ⟨_, rfl⟩
      obtain ⟨n2, k2, v2, kr2, q2⟩ := row_new qa (by omega) (by omega) hu2
      unfold Jp_X11_move_43
      rw [qa.rf, ck_of qa.gf, qa.lf, ck_of (rkb_i (show 1 < ga.1 by omega)), ck_of (rkb_i (show g.1 < ga.1 by omega)), sub_n (show i ≤ E 0 1 by omega), ix_n (show E 0 1 - i < 2147483648 by omega), ck_of (by rw [ngw_i (by omega) (by omega), decide_eq_true (nI_pos' (show E 0 1 - i < 2147483648 by omega))]; rfl), ← hu2, stp_eq]
      refine wp_for (i := 0) (E 0 1 - i) (fun m x => ∃ g1, x = (nI m, g1) ∧ O1 ga.1 u2 g1 ∧ ∀ j, j < m → g1.2.2 ga.1 j = nI (rmE E a i 2 j)) (by omega) (Nat.zero_le _) ⟨u2, rfl, O1.rf _ _, fun j h => absurd h (Nat.not_lt_zero _)⟩ ?_
      rintro m x r hm ⟨gb, rfl, o2, hv2⟩ kk
      have qb := row_up qa n2 (by omega) k2 v2 o2
      have N2 : gb.1 = g.1 + 2 := by rw [o2.1, n2]; omega
      have kr3 : gb.2.1 ga.1 = (4, E 0 1 - i) := by rw [o2.2.1, kr2]
      have gr2 : gk gb ga.1 4 = true := gk_i (by omega) (by rw [kr3])
      have lr2 : gl gb ga.1 = E 0 1 - i := by show (gb.2.1 ga.1).2 = _; rw [kr3]
      unfold Fp_X11_move_58
      dsimp only
      rw [ck_of gr2, lr2]
      by_cases z2 : m < E 0 1 - i
      · have step : ∀ s : Nat, s < E 0 1 → E 2 s = rmE E a i 2 m → Wp (Jp_X11_move_90 1 (nI a) (nI (a + i - 1)) p3 gb r (nI i) g.1 ga.1 (nI m) ga.1 (nI m) f (nI s)) (fun x => x.1 = nI t ∧ ∃ f', DG x.2 R (moveE R E a i t) wid f' ∧ NF 7 g x.2) := fun s hs hvv => by
          unfold Jp_X11_move_90
          rw [ck_of (qb.if hs (by omega)), ck_of (by rw [gr2, lr2, inb_t z2 (by omega)]; rfl), ix_n (show m < 2147483648 by omega), ix_n (show s < 2147483648 by omega), qb.fv s hs, stp_eq, show nI m + (1 : Int32) = nI (m + 1) from nI_add m 1, stp_eq]
          refine kk _ z2 ⟨gu gb ga.1 m (nI (E 2 s)), rfl, o2.tr (O1.up _ _ _ _), fun j hj => ?_⟩
          rw [gu_h]
          by_cases e : j = m
          · rw [e, up_ss, hvv]
          · rw [up_sn e]; exact hv2 j (by omega)
        rw [if_pos (lty z2 (by omega)), qb.rf]
        by_cases y : m < a
        · rw [if_pos (lty y (by omega))]
          exact step m (by omega) (by show _ = (if m < a then E 2 m else _); rw [if_pos y])
        · rw [if_neg (ltn (by omega) (by omega)), nI_add]
          exact step (m + i) (by omega) (by show _ = (if m < a then _ else E 2 (m + i)); rw [if_neg y])
      · have em : m = E 0 1 - i := by omega
        subst em
        rw [if_neg (ltn (by omega) (by omega))]
        clear kk r
        obtain ⟨qc, nfc⟩ := row_set (E' := rmE E a i) qa n2 (by omega) k2 v2 kr2 o2 hv2 (fun _ _ => rfl) (fun _ _ => rfl) (fun _ _ => rfl) rfl
        obtain ⟨gc, hgc⟩ : ∃ u, u = gu gb 1 15 (nI ga.1) := ⟨_, rfl⟩
        rw [← hgc] at qc nfc
        have Nc : gc.1 = g.1 + 2 := by rw [hgc]; exact N2
        -- the row stays
        have rowv : ∀ j, j < i → gc.2.2 g.1 j = nI (E 2 (a + j)) := fun j hj => by
          rw [nfc.2.2.2.2 g.1 (by omega) (by omega) (by omega)]
          exact hv j hj
        have rowk : gc.2.1 g.1 = (4, i) := by rw [nfc.2.2.2.1 g.1 (by omega)]; exact kr1
        have nf0 : NF 2 g gc := by
          have h0 : NF 1 g ga := ⟨by omega, by omega, by rw [o1.2.2 0 (by omega), v1 0 (by omega)], fun o ho => by rw [o1.2.1, k1 o ho], fun o ho _ _ => by rw [o1.2.2 o (by omega), v1 o ho]⟩
          exact h0.tr nfc (by omega)
        have loop : Wp (Lp (Fp_X11_move_126 1 (nI a) (nI (a + i - 1)) p3 (nI i) g.1 (nI t)) FU ((0 : Int32), gc, 2)) (fun x => x.1 = nI t ∧ ∃ f', DG x.2 R (moveE R E a i t) wid f' ∧ NF 7 g x.2) := by
          refine wp_for (i := 0) i (fun j x => ∃ g1 f1, x = (nI j, g1, 2 + j) ∧ DG g1 R (inE E a i t j) wid f1 ∧ NF (2 + j) g g1 ∧ g.1 < g1.1 ∧ g1.2.1 g.1 = (4, i) ∧ ∀ j, j < i → g1.2.2 g.1 j = nI (E 2 (a + j))) (by omega) (Nat.zero_le _) ⟨gc, ga.1, rfl, qc.congr (inE_0 E a i t).1 (fun s _ => (inE_0 E a i t).2 s) (fun _ _ => rfl) (fun _ _ => rfl) (fun _ _ => rfl) rfl, nf0, by omega, rowk, rowv⟩ ?_
          rintro j x r hj ⟨g1, f1, rfl, q3, nf, hl, rk, rv⟩ kk
          have nfb := nf.2.1
          have q3n := q3.d.n
          have gr3 : gk g1 g.1 4 = true := gk_i hl (by rw [rk])
          have lr3 : gl g1 g.1 = i := by show (g1.2.1 g.1).2 = _; rw [rk]
          unfold Fp_X11_move_126
          dsimp only
          by_cases z3 : j < i
          · have en3 : inE E a i t j 0 1 = E 0 1 - i + j := rfl
            obtain ⟨u4, e4, q4, nf4, n4⟩ := d_putShot q3 (by rw [en3]; omega) (by omega) (s := t + j) (b := E 2 (a + j)) (by rw [en3]; omega)
            rw [if_pos (lty z3 (by omega)), ck_of (by rw [gr3, lr3, inb_t z3 (by omega)]; rfl), ck_of (rkb_i (show 1 < g1.1 by omega)), ck_of (rkb_i hl), ck_of (decide_eq_true (show 2 + j + 1 ≤ 7 by omega)), ck_of q3.d.g1, nI_add, ix_n (show j < 2147483648 by omega), rv j z3, e4, bnd_some, show nI j + (1 : Int32) = nI (j + 1) from nI_add j 1, stp_eq, ck_of (decide_eq_true (show 2 + j + 1 ≤ 7 by omega))]
            refine kk _ z3 ⟨u4, g1.1, rfl, q4.congr (inE_s E a i t j).1 (fun s _ => (inE_s E a i t j).2 s) (fun _ _ => rfl) (fun _ _ => rfl) (fun _ _ => rfl) rfl, nf.tr nf4 (by omega), by omega, by rw [nf4.2.2.2.1 g.1 hl]; exact rk, fun j2 hj2 => by rw [nf4.2.2.2.2 g.1 hl (by omega) (by omega)]; exact rv j2 hj2⟩
          · have ej : j = i := by omega
            subst ej
            obtain ⟨m1, m2⟩ := inE_k E a j t (E 0 1) ha ht rfl
            have hb0 := hE.lt a (by omega)
            have hb1 := hE.lt (a + (j - 1)) (by omega)
            have c0 : (gk g1 g.1 4 && inb (0 : Int32) (gl g1 g.1)) = true := by
              have c := inb_t (a := 0) (n := j) (by omega) (by omega)
              have c : inb (0 : Int32) j = true := c
              rw [gr3, lr3, c]
              rfl
            have w0 : g1.2.2 g.1 0 = nI (E 2 a) := rv 0 (by omega)
            have w1 : g1.2.2 g.1 (j - 1) = nI (E 2 (a + (j - 1))) := rv (j - 1) (by omega)
            have p8 : g1.2.2 1 12 = nI 8 := q3.d.f8 12 (by decide) (by decide)
            obtain ⟨g2, hg2⟩ : ∃ u, u = gu g1 8 (E 2 a) (nI (R 0 1)) := ⟨_, rfl⟩
            have q5 : DG g2 R (setE (inE E a j t j) 3 (E 2 a) (R 0 1)) wid f1 := by rw [hg2]; exact q3.g8
            have p9 : g2.2.2 1 13 = nI 9 := q5.d.f8 13 (by decide) (by decide)
            have w1' : g2.2.2 g.1 (j - 1) = nI (E 2 (a + (j - 1))) := by rw [hg2, gu_h, up_o (by omega)]; exact w1
            have gr4 : gk g2 g.1 4 = true := by rw [hg2]; exact gr3
            have lr4 : gl g2 g.1 = j := by rw [hg2]; exact lr3
            have q6 := q5.g9 (b := E 2 (a + (j - 1))) (v := R 0 1)
            rw [if_neg (ltn (by omega) (by omega))]
            unfold Jp_X11_move_153
            rw [ckn_of q3.d.g1 p8 (by omega), ck_of c0, i0, w0, ck_of q3.d.g1, ck_of (q3.d.i41 (p := 8) (by decide) (by decide) (by omega)), ix_n (show E 2 a < 2147483648 by omega), q3.han, ← hg2, stp_eq, ckn_of q5.d.g1 p9 (by omega), show nI j - (1 : Int32) = nI (j - 1) from sub_n (b := 1) (by omega), ck_of (by rw [gr4, lr4, inb_t (show j - 1 < j by omega) (by omega)]; rfl), ix_n (show j - 1 < 2147483648 by omega), w1', ck_of q5.d.g1, ck_of (q5.d.i41 (p := 9) (by decide) (by decide) (by omega)), ix_n (show E 2 (a + (j - 1)) < 2147483648 by omega), q5.han, stp_eq]
            have nfg : NF 7 g (gu g2 9 (E 2 (a + (j - 1))) (nI (R 0 1))) := by
              rw [hg2]
              exact ((nf.tr (NF.gu (o := 8) (j := E 2 a) (v := nI (R 0 1)) (Or.inr ⟨by decide, by decide⟩)) (k := 2 + j) (by omega)).tr (NF.gu (o := 9) (j := E 2 (a + (j - 1))) (v := nI (R 0 1)) (Or.inr ⟨by decide, by decide⟩)) (by omega))
            refine wp_some.mpr ⟨rfl, f1, q6.congr m1.symm (fun s _ => (m2 s).symm) (fun _ _ => rfl) (fun b _ => ?_) (fun b _ => ?_) rfl, nfg⟩
            · show (if b = E 2 a then R 0 1 else E 3 b) = setE (setE (inE E a j t j) 3 (E 2 a) (R 0 1)) 4 (E 2 (a + (j - 1))) (R 0 1) 3 b
              rw [setE_o (by decide)]
              by_cases e : b = E 2 a
              · rw [if_pos e, e, setE_s]
              · rw [if_neg e, setE_n e]; rfl
            · show (if b = E 2 (a + j - 1) then R 0 1 else E 4 b) = setE (setE (inE E a j t j) 3 (E 2 a) (R 0 1)) 4 (E 2 (a + (j - 1))) (R 0 1) 4 b
              rw [show a + j - 1 = a + (j - 1) by omega]
              by_cases e : b = E 2 (a + (j - 1))
              · rw [if_pos e, e, setE_s]
              · rw [if_neg e, setE_n e, setE_o (by decide)]; rfl
        have fin : Wp (Jp_X11_move_115 1 (nI a) (nI (a + i - 1)) p3 gb (nI i) g.1 ga.1 (nI t)) (fun x => x.1 = nI t ∧ ∃ f', DG x.2 R (moveE R E a i t) wid f' ∧ NF 7 g x.2) := by
          unfold Jp_X11_move_115
          rw [ck_of (by rw [qb.d.g1, rkb_i (show ga.1 < gb.1 by omega), lt31 (by omega)]; rfl), ← hgc, stp_eq]
          exact loop
        unfold Jp_X11_move_98
        rcases h3 with ⟨b1, b2⟩ | ⟨b1, b2⟩
        · rw [if_pos b1, show p3 + (1 : Int32) = nI t from b2]
          exact fin
        · rw [if_neg b1, show p3 + (1 : Int32) - nI i = nI t from b2]
          exact fin
  obtain ⟨⟨v, u⟩, e, e1, f', a1, a2⟩ := key
  have e1 : v = nI t := e1
  subst e1
  exact ⟨f', u, e, a1, a2⟩
end
