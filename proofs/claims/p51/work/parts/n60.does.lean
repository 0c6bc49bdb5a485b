/-! an act, both sides -/
section
variable {h : Hp} {g : PL} {c f : Nat} {R E : Nat → Nat → Nat} {wid : Nat → Nat}
theorem DG.d0 {g' : PL} (q : DG g R E wid f) (w : D0 g g') : DG g' R E wid f := q.cg (Nat.le_of_eq w.1.symm) (by rw [w.1]; exact q.d.p) (fun o _ => by rw [w.2.1]) (fun o _ h => w.2.2 o h)
theorem dc0 {g g' : PL} (w : D0 g g') : decide (g'.1 = g.1) = true := decide_eq_true w.1
set_option maxHeartbeats 2000000 in
theorem l_does (p : KH h c R E) (q : DG g R E wid f) (hw0 : 1 ≤ R 0 4) (hp : g.1 ≤ 300000) : Wp (fp_L_does h g 1 0) (AO c R wid (g.1 + 12)) := by
  have pq := p.1
  have hn := pq.n
  have hl := trA_le pq.W pq.E
  have hd := q.d.n
  have hb0 : 1 ≤ R 0 13 := by have := (pq.W.wb 0 (by omega)).1; omega
  obtain ⟨w, g1, e1, hw, w1⟩ := q.d.dr (c := nI (R 0 4)) rfl (by omega) (by omega)
  have q1 := q.d0 w1
  have n1 := w1.1
  obtain ⟨row, g2, e2, r1, r2, r3, r4, r5, r6, r7⟩ := d_trans pq.W pq.E q1 (by omega)
  have q2 : DG g2 R E wid f := q1.cg (by omega) (by omega) r6 (fun o ho _ => r7 o ho)
  obtain ⟨s, g3, e3, hs, w3⟩ := q2.d.dr (c := 6) (n := 6) rfl (by decide) (by decide)
  have q3 := q2.d0 w3
  have n3 : g3.1 = g.1 + 2 := by rw [w3.1, r3, n1]
  have rk : g3.2.1 row = (4, (trA R E).length) := by rw [w3.2.1]; exact r4
  have rv : Arr (g3.2.2 row) (trA R E) := r5.o (w3.2.2 row (by omega))
  have gr : gk g3 row 4 = true := gk_i (by omega) (by rw [rk])
  have lr : gl g3 row = (trA R E).length := by show (g3.2.1 row).2 = _; rw [rk]
  unfold fp_L_does
  rw [ck_of q.d.g1, ck_of q.d.g0, q.n, e1, bnd_some, ck_of (dc0 w1), ck_of (rkb_i (show 1 < g1.1 by omega)), ck_of (rkb_i (show 0 < g1.1 by omega)), ck_of q1.d.g1, e2, bnd_some]
  (try dsimp only)
  rw [ck_of q2.d.g0, e3, bnd_some, ck_of (dc0 w3)]
  (try dsimp only)
  by_cases s0 : s = 0
  · -- cut
    rw [if_pos (show nI s = (0 : Int32) from by rw [s0]; rfl), ck_of gr, lr]
    by_cases l0 : (trA R E).length = 0
    · rw [if_pos (show nI (trA R E).length = (0 : Int32) from by rw [l0]; rfl), k_cutX pq l0, bnd_some]
      exact wp_some.mpr ⟨rfl, E, f, p, q3, by show g3.1 ≤ _; omega⟩
    · obtain ⟨a, g4, e4, ha, w4⟩ := q3.d.dr (c := nI (trA R E).length) rfl (by omega) (by omega)
      have q4 := q3.d0 w4
      obtain ⟨b, g5, e5, hb, w5⟩ := q4.d.dr (c := 3) (n := 3) rfl (by decide) (by decide)
      have q5 := q4.d0 w5
      have n5 : g5.1 = g.1 + 2 := by rw [w5.1, w4.1, n3]
      have rk5 : g5.2.1 row = (4, (trA R E).length) := by rw [w5.2.1, w4.2.1]; exact rk
      have rv5 : Arr (g5.2.2 row) (trA R E) := rv.o (by rw [w5.2.2 row (by omega), w4.2.2 row (by omega)])
      have gr4 : gk g4 row 4 = true := gk_i (by rw [w4.1]; omega) (by rw [w4.2.1, rk])
      have lr4 : gl g4 row = (trA R E).length := by show (g4.2.1 row).2 = _; rw [w4.2.1, rk]
      have lr5 : gl g5 row = (trA R E).length := by show (g5.2.1 row).2 = _; rw [rk5]
      rw [if_neg (show ¬ nI (trA R E).length = (0 : Int32) from eqo (b := 0) l0 (by omega) (by omega)), ck_of gr, ck_of q3.d.g0, e4, bnd_some, ck_of (dc0 w4)]
      (try dsimp only)
      rw [ck_of gr4, ck_of q4.d.g0, e5, bnd_some, ck_of (dc0 w5)]
      (try dsimp only)
      rw [lr4, show nI (trA R E).length - (1 : Int32) = nI ((trA R E).length - 1) from sub_n (b := 1) (by omega), nI_add, imin_n (by omega) (by omega), stp_eq, ck_of q5.d.g1, d_len pq.W pq.E q5, bnd_some]
      exact l_cuts p q5 (by omega) (by omega) (by omega) (by omega) (by omega) (by omega) (by omega) rk5 rv5
  · rw [if_neg (show ¬ nI s = (0 : Int32) from eqo (b := 0) s0 (by omega) (by omega))]
    by_cases s1 : s = 1
    · -- cutWord
      have hk1 := pq.E.k1 w (by omega)
      rw [if_pos (show nI s = (1 : Int32) from by rw [s1]; rfl), q3.r10, ck_of (q3.d.i10 (show w < 40 by omega)), show g3.2.2 10 (ix (nI w)) = nI (1 - E 1 w) from by rw [ix_n (by omega)]; exact q3.out w (by omega)]
      by_cases k : E 1 w = 1
      · obtain ⟨f2, u, e, qu, nf⟩ := d_cutOne pq.W pq.E pq.E.k1 (cutK_WX pq.W pq.E pq.X (fun v _ hv => hv)) (q3.cut0 pq.E pq.X) (by omega) hw k
        obtain ⟨h1, ea, pu⟩ := k_cutW p hw k
        have nfb := nf.2.1
        rw [k, if_pos (show nI (1 - 1) = (0 : Int32) from rfl), ck_of (rkb_i (show 1 < g3.1 by omega)), ck_of q3.d.g1, e, bnd_some, ea, bnd_some]
        (try dsimp only)
        rw [ck_of (by rfl), ck_of qu.d.g1, d_state pu.1.W pu.1.E qu hw, bnd_some, if_pos rfl]
        exact wp_some.mpr ⟨rfl, _, f2, pu, qu, by show u.1 ≤ _; omega⟩
      · have k0 : E 1 w = 0 := by omega
        rw [k0, if_neg (show ¬ nI (1 - 0) = (0 : Int32) by decide), k_cutWX pq hw k, bnd_some]
        exact wp_some.mpr ⟨rfl, E, f, p, q3, by show g3.1 ≤ _; omega⟩
    · rw [if_neg (show ¬ nI s = (1 : Int32) from eqo (b := 1) s1 (by omega) (by omega))]
      by_cases s2 : s = 2
      · -- restore
        obtain ⟨b, g4, e4, hb, w4⟩ := q3.d.dr (c := 4) (n := 4) rfl (by decide) (by decide)
        have q4 := q3.d0 w4
        have n4 : g4.1 = g.1 + 2 := by rw [w4.1, n3]
        rw [if_pos (show nI s = (2 : Int32) from by rw [s2]; rfl), ck_of q3.d.g1, ck_of q3.d.g0, e4, bnd_some, ck_of (dc0 w4)]
        (try dsimp only)
        rw [q3.n, show nI (R 0 4) - (1 : Int32) = nI (R 0 4 - 1) from sub_n (b := 1) (by omega), nI_add, imin_n (by omega) (by omega), stp_eq]
        exact l_rests p q4 (by omega) (by omega) (by omega) (by omega) (by omega)
      · rw [if_neg (show ¬ nI s = (2 : Int32) from eqo (b := 2) s2 (by omega) (by omega))]
        by_cases s3 : s = 3
        · -- setHandles
          obtain ⟨b, g4, e4, hb, w4⟩ := q3.d.dr (c := nI (R 0 13)) rfl (by omega) (by omega)
          have q4 := q3.d0 w4
          obtain ⟨u, g5, e5, hu, w5⟩ := q4.d.dr (c := 25) (n := 25) rfl (by decide) (by decide)
          have q5 := q4.d0 w5
          have q6 := q5.g8 (b := b) (v := u)
          obtain ⟨v, g7, e7, hv, w7⟩ := q6.d.dr (c := 25) (n := 25) rfl (by decide) (by decide)
          have q7 := q6.d0 w7
          have q8 := q7.g9 (b := b) (v := v)
          have n8 : (gu g7 9 b (nI v)).1 = g.1 + 2 := by show g7.1 = _; rw [w7.1]; show g5.1 = _; rw [w5.1, w4.1, n3]
          have p84 : g4.2.2 1 12 = nI 8 := q4.d.f8 12 (by decide) (by decide)
          have p86 : (gu g5 8 b (nI u)).2.2 1 13 = nI 9 := q6.d.f8 13 (by decide) (by decide)
          have p88 : (gu g7 9 b (nI v)).2.2 1 12 = nI 8 := q8.d.f8 12 (by decide) (by decide)
          have p98 : (gu g7 9 b (nI v)).2.2 1 13 = nI 9 := q8.d.f8 13 (by decide) (by decide)
          have hh : (gu g7 9 b (nI v)).2.2 8 b = nI u := by
            rw [q8.head b (by omega), setE_o (by decide), setE_s]
          have ht : (gu g7 9 b (nI v)).2.2 9 b = nI v := by
            rw [q8.tail b (by omega), setE_s]
          obtain ⟨h1, ea, pu⟩ := k_hand p (b := b) (u := u) (v := v) hb (by omega) (by omega)
          rw [if_pos (show nI s = (3 : Int32) from by rw [s3]; rfl), ck_of q3.d.g1, q3.bn, ck_of q3.d.g0, e4, bnd_some, ck_of (dc0 w4)]
          (try dsimp only)
          rw [ckn_of q4.d.g1 p84 (by omega), ck_of q4.d.g0, e5, bnd_some, ck_of (dc0 w5)]
          (try dsimp only)
          rw [ck_of (q5.d.i41 (p := 8) (by decide) (by decide) (by omega)), ix_n (show b < 2147483648 by omega), stp_eq, ckn_of q6.d.g1 p86 (by omega), ck_of q6.d.g0, e7, bnd_some, ck_of (dc0 w7)]
          (try dsimp only)
          rw [ck_of (q7.d.i41 (p := 9) (by decide) (by decide) (by omega)), stp_eq, ckn_of q8.d.g1 p88 (by omega), ck_of (q8.d.i41 (p := 8) (by decide) (by decide) (by omega)), ckn_of q8.d.g1 p98 (by omega), ck_of (q8.d.i41 (p := 9) (by decide) (by decide) (by omega)), hh, ht, ea, bnd_some]
          (try dsimp only)
          have hso := d_shotOf pu.1.W pu.1.E q8 (b := b) (by omega)
          have hso : fp_X11_shotOf (gu g7 9 b (nI v)) 1 (nI b) = some (oI (E 0 1) (sch (fun s => E 2 s = b) (E 0 1))) := hso
          rw [ck_of (by rfl), ck_of q8.d.g1, hso, bnd_some]
          unfold Jp_L_does_385
          by_cases y : sch (fun s => E 2 s = b) (E 0 1) < E 0 1
          · rw [if_pos ((oI_ge (by omega)).mpr y), ck_of q8.d.g1, d_to pu.1.W pu.1.E q8 hb, bnd_some, ck_of q8.d.g1, d_from pu.1.W pu.1.E q8 hb, bnd_some, (pt_pf pu.1.W pu.1.E hb).1, if_pos y, if_pos rfl]
            exact wp_some.mpr ⟨rfl, _, f, pu, q8, by show (gu g7 9 b (nI v)).1 ≤ _; omega⟩
          · rw [if_neg (fun z => y ((oI_ge (by omega)).mp z)), if_neg y, if_pos rfl]
            exact wp_some.mpr ⟨rfl, _, f, pu, q8, by show (gu g7 9 b (nI v)).1 ≤ _; omega⟩
        · -- move
          rw [if_neg (show ¬ nI s = (3 : Int32) from eqo (b := 3) s3 (by omega) (by omega)), q3.rf, ck_of q3.gf, q3.lf, stp_eq]
          by_cases m0 : E 0 1 = 0
          · rw [if_pos (show nI (E 0 1) = (0 : Int32) from by rw [m0]; rfl), k_moveX0 pq m0, bnd_some]
            exact wp_some.mpr ⟨rfl, E, f, p, q3, by show g3.1 ≤ _; omega⟩
          · obtain ⟨a, g4, e4, ha, w4⟩ := q3.d.dr (c := nI (E 0 1)) rfl (by omega) (by omega)
            have q4 := q3.d0 w4
            obtain ⟨b, g5, e5, hb, w5⟩ := q4.d.dr (c := 2) (n := 2) rfl (by decide) (by decide)
            have q5 := q4.d0 w5
            obtain ⟨r, g6, e6, hr, w6⟩ := q5.d.dr (c := nI (E 0 1 + 1)) rfl (by omega) (by omega)
            have q6 := q5.d0 w6
            have n6 : g6.1 = g.1 + 2 := by rw [w6.1, w5.1, w4.1, n3]
            obtain ⟨z, ez⟩ : ∃ z, z = min (E 0 1 - 1) (a + b) := ⟨_, rfl⟩
            obtain ⟨k, ek⟩ : ∃ k, k = z - a + 1 := ⟨_, rfl⟩
            have ezk : z = a + k - 1 := by omega
            rw [if_neg (show ¬ nI (E 0 1) = (0 : Int32) from eqo (b := 0) m0 (by omega) (by omega)), ck_of q3.d.g0, e4, bnd_some, ck_of (dc0 w4)]
            (try dsimp only)
            rw [ck_of q4.d.g0, e5, bnd_some, ck_of (dc0 w5)]
            (try dsimp only)
            rw [show nI (E 0 1) - (1 : Int32) = nI (E 0 1 - 1) from sub_n (b := 1) (by omega), nI_add, imin_n (by omega) (by omega), ← ez, stp_eq, ck_of q5.d.g0, show nI (E 0 1) + (1 : Int32) = nI (E 0 1 + 1) from nI_add _ 1, e6, bnd_some, ck_of (dc0 w6)]
            (try dsimp only)
            rw [stp_eq, ezk]
            have hr1 : (nI r - (1 : Int32)).toInt = (r : Int) - 1 := by
              have := tsub (a := r) (b := 1) (by omega) (by omega)
              exact this
            have m1 : ¬ nI r - (1 : Int32) < -nI 1 := by
              rw [Int32.lt_iff_toInt_lt, hr1, show (-nI 1).toInt = -1 from by decide]
              omega
            have m2 : nI r - (1 : Int32) < nI (E 0 1) := by
              rw [Int32.lt_iff_toInt_lt, hr1, nI_toInt (by omega)]
              omega
            rcases mvt (nI r - (1 : Int32)) (f := a) (k := k) (n := E 0 1) (by omega) (by omega) (by omega) with hbad | ⟨-, -, m3, t, ht, m4⟩
            · rcases hbad with y | ⟨y1, y2⟩ | ⟨y1, y2, y3, y4⟩
              · exact absurd y m1
              · exact absurd m2 y2
              · rw [if_neg y3, if_neg y4, k_moveX pq (by omega) (by omega) m1 m2 y3 y4, bnd_some]
                exact wp_some.mpr ⟨rfl, E, f, p, q6, by show g6.1 ≤ _; omega⟩
            · have mv := l_moves p q6 (N := g.1 + 12) (by omega) (by omega) (show 0 < k by omega) (by omega) (by omega) ht m1 m2 m3 m4
              rcases m3 with y | ⟨y1, y2⟩
              · rw [if_pos y]; exact mv
              · rw [if_neg y1, if_pos y2]; exact mv
end
