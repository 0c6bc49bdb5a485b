/-! a row of commands and a block, both sides -/
def LRk {ρ : Type} (X : Option (Int32 × Hp)) (FM : (Hp → Option ρ) → Hp → Option ρ) (M : Nat) (h g : Hp) (s : Nat) (B : Nat → Int32) (L k n d : Nat) : Prop := (∃ h' g' q' k' n' M', X = some (nI 1, h') ∧ Lp FM M g = FM (Lp FM (M' + 1)) g' ∧ TS h' B L q' ∧ MT g' B L q' q' ∧ rn wsB B L q' = q' ∧ h' 1 2 = -nI 1 ∧ h' 1 3 = nI 0 ∧ h' s 0 = nI k' ∧ MD g' n' k' d ∧ k ≤ k' ∧ k' ≤ 30 ∧ n' + 16 * k ≤ n + 16 * k' ∧ (q' = L ∨ isS B L q' (nI 125)) ∧ SQ (Sd h' s) (Td g') n' (k' - k) (5 - d) k k' n n' ∧ FSc s h h' ∧ FDm g g' ∧ HR h h' s 0 k ∧ GA g g' n) ∨ (∃ h' g' o e k' n' M', X = some (nI 0, h') ∧ Lp FM M g = FM (Lp FM (M' + 1)) g' ∧ MF g' B L o e ∧ h' 1 2 = nI o ∧ h' 1 3 = nI e ∧ MD g' n' k' d ∧ k ≤ k' ∧ k' ≤ 30 ∧ n' + 16 * k ≤ n + 16 * k' ∧ FSc s h h' ∧ FDm g g')
section
variable {h g : Hp} {B : Nat → Int32} {L q p b o e n k d j i s ph a kd : Nat} {v : Int32}
variable {rC x1 x2 x3 : Hp → Nat → Int32 → Option (Int32 × Hp)} {mC m1 : Hp → Option Hp}
theorem l_row {ρ : Type} {FM : (Hp → Option ρ) → Hp → Option ρ} (hs : 14 ≤ s) (hC : HCm rC mC s B L d) (y1 : Hp → Nat → Int32 → Option (Int32 × Hp)) (y3 y4 y5) (hFM : ∀ r g q, MT g B L q q → ¬ q = L → ¬ isS B L q (nI 125) → FM r g = bnd (mC g) (fun u6 => bnd (f_X11_blanks u6) (fun u7 => r u7))) : ∀ t k, 30 ≤ k + t → k ≤ 30 → ∀ i N M, i ≤ k → t + 1 < N → t + 2 < M → ∀ h g q n, TS h B L q → MT g B L q q → rn wsB B L q = q → h 1 2 = -nI 1 → h 1 3 = nI 0 → h s 0 = nI k → MD g n k d → n + 16 * (30 - k) ≤ 700 → LRk (Lp (F_X7_readCommands_2 y1 rC y3 y4 y5 s (nI d)) N (nI i, h)) FM M h g s B L k n d := by
  intro t
  induction t using Nat.strongRecOn with
  | ind t ih =>
    intro k ht hk i N M hi hN hM h g q n w m hq e1 e2 hz hD hn
    obtain ⟨N, rfl⟩ : ∃ N', N = N' + 1 := ⟨N - 1, by omega⟩
    obtain ⟨M, rfl⟩ : ∃ M', M = M' + 1 + 1 := ⟨M - 2, by omega⟩
    have eX : Lp (F_X7_readCommands_2 y1 rC y3 y4 y5 s (nI d)) (N + 1) (nI i, h) = if nI (bo (q = L)) = 0 then (if nI (bo (isS B L q (nI 125))) = 0 then bnd (rC h s (nI d)) (fun u3 => if u3.1 = 0 then some ((0 : Int32), u3.2) else stp (nI i + 1) (fun v4 => Lp (F_X7_readCommands_2 y1 rC y3 y4 y5 s (nI d)) N (v4, u3.2))) else some ((1 : Int32), h)) else some ((1 : Int32), h) := by
      show F_X7_readCommands_2 y1 rC y3 y4 y5 s (nI d) (Lp (F_X7_readCommands_2 y1 rC y3 y4 y5 s (nI d)) N) (nI i, h) = _
      unfold F_X7_readCommands_2
      show (if (30 : Int32) < nI i then _ else bnd (f_X9_isEnd h) _) = _
      rw [if_neg (show ¬ (30 : Int32) < nI i from fun y => by have := (nI_ltI (a := 30) (by omega) (by omega)).mp y; omega), c_isEnd w, bnd_some]
      by_cases z : q = L
      · rw [bo_y z, if_neg (show ¬ (nI 1 : Int32) = 0 by decide), if_neg (show ¬ (nI 1 : Int32) = 0 by decide)]
      · rw [bo_n z, if_pos (show (nI 0 : Int32) = 0 from rfl), if_pos (show (nI 0 : Int32) = 0 from rfl), show f_X9_isSign h 125 = some (nI (bo (isS B L q (nI 125)))) from c_isSign w sg125.1 sg125.2, bnd_some]
    rw [eX]
    have done : (q = L ∨ isS B L q (nI 125)) → LRk (some ((1 : Int32), h)) FM (M + 1 + 1) h g s B L k n d := by
      intro hx
      refine Or.inl ⟨h, g, q, k, n, M, rfl, rfl, w, m, hq, e1, e2, hz, hD, Nat.le_refl _, hk, by omega, hx, ?_, FSc.rf _ _, FDm.rf _, HR.rf _ _ _ _, GA.rf _ _⟩
      rw [Nat.sub_self, SQ_0]
      exact ⟨rfl, rfl⟩
    by_cases z : q = L
    · rw [bo_y z, if_neg (show ¬ (nI 1 : Int32) = 0 by decide)]
      exact done (Or.inl z)
    rw [bo_n z, if_pos (show (nI 0 : Int32) = 0 from rfl)]
    by_cases z2 : isS B L q (nI 125)
    · rw [bo_y z2, if_neg (show ¬ (nI 1 : Int32) = 0 by decide)]
      exact done (Or.inr z2)
    rw [bo_n z2, if_pos (show (nI 0 : Int32) = 0 from rfl)]
    have eY : Lp FM (M + 1 + 1) g = bnd (mC g) (fun u6 => bnd (f_X11_blanks u6) (fun u7 => Lp FM (M + 1) u7)) := hFM _ _ _ m z z2
    rcases hC.1 h g q q k n (by rw [hq]; exact w) m e1 e2 hz hD hk hn with ⟨h', g', p', b', k', n', a1, a2, a3, a4, a5, a6, a7, a8, a9, b1, b2, b3, b4, b5, b6, b7, b8⟩ | ⟨h', g', o, e, k', n', a1, a2, a3, a4, a5, a6, a7, a8, a9, b1, b2⟩
    · obtain ⟨g2, r1, r2, r3⟩ := bl0 a4
      have D2 := a8.fr r3
      have rp := rr (B := B) a4.i
      rw [a2, bnd_some, r1, bnd_some] at eY
      have T2 : Td g2 = Td g' := by
        funext j
        show vn (g2 140 j) = vn (g' 140 j)
        rw [r3.1 140 (by decide)]
      rw [a1, bnd_some, if_neg (show ¬ (nI 1 : Int32) = 0 by decide), stp_eq, show nI i + 1 = nI (i + 1) from nI_add i 1]
      rw [← T2] at b4
      rcases ih (t - 1) (by omega) k' (by omega) b1 (i + 1) N (M + 1) (by omega) (by omega) (by omega) h' g2 _ n' a3 r2 rp a5 a6 a7 D2 (by omega) with ⟨h3, g3, q3, k3, n3, M3, c1, c2, c3, c4, c5, c6, c7, c8, c9, d1, d2, d3, d4, d5, d6, d7, d8, d9⟩ | ⟨h3, g3, o, e, k3, n3, M3, c1, c2, c3, c4, c5, c6, c7, c8, c9, d1, d2⟩
      · have hle := SQ_le _ _ _ _ _ _ d5
        have w0 := b4.2.2.1
        refine Or.inl ⟨h3, g3, q3, k3, n3, M3, c1, eY.trans c2, c3, c4, c5, c6, c7, c8, c9, by omega, d2, by omega, d4, ?_, b5.tr d6, (b6.tr r3.fd).tr d7, b7.tr (d8.sub (Nat.le_refl _) (by omega)), (b8.tr (r3.ga n) (Nat.le_refl _)).tr d9 (by omega)⟩
        have b4' := b4
        obtain ⟨-, -, w3, -, w5, -, -⟩ := b4'
        rw [show k3 - k = (k3 - (k + 1)) + 1 by omega]
        have e4 : Sd h3 s 4 k = k' := by
          rw [← b3]
          exact congrArg vn (d8.1 4 k (by omega) (by omega) (by omega) (by omega))
        refine SQ_cons (q := n') ?_ ?_
        · refine CMD_fr b4 (by rw [b3]; exact (d8.sub (Nat.zero_le _) (Nat.le_refl _)).sa) (fun j _ y => congrArg vn (d9 j y)) hle.2 (SQ_le _) (fun dd k1 k2 p1 p2 x1 x2 x3 x4 x5 => ?_)
          rw [b3] at x2
          exact SQ_tr x5 (by omega) (d8.sub (by omega) (by omega)) (fun j hj => d9 j (by omega)) (by omega)
        · rw [e4]
          exact SQ_tr d5 (by omega) (HR.rf _ _ _ _) (GA.rf _ _) (Nat.le_refl _)
      · exact Or.inr ⟨h3, g3, o, e, k3, n3, M3, c1, eY.trans c2, c3, c4, c5, c6, by omega, c8, by omega, b5.tr d1, (b6.tr r3.fd).tr d2⟩
    · rw [a2, bnd_some, bl1 a3, bnd_some] at eY
      rw [a1, bnd_some, if_pos (show (nI 0 : Int32) = 0 from rfl)]
      obtain ⟨M, rfl⟩ : ∃ M', M = M' + 1 := ⟨M - 1, by omega⟩
      exact Or.inr ⟨h', g', o, e, k', n', M, rfl, eY, a3, a4, a5, a6, a7, a8, a9, b1, b2⟩
theorem dec1 : nI (d + 1) - 1 = nI d := sub_n (a := d + 1) (b := 1) (by omega)
theorem sg_tz {c : Int32} (h1 : ¬ ltB c) (h2 : ¬ dgB c) (x : isS B L q c) : tZ B L q = 1 := by
  unfold tZ
  rw [if_pos x.1, if_neg (by rw [x.2]; exact h1), if_neg (by rw [x.2]; exact h2)]
theorem j31_1 (w : MF g B L o e) (v : Nat) (hv : v ≤ 1) : J_X11_readBlock_31 m1 mC g (nI v) = some g := by
  unfold J_X11_readBlock_31
  rw [show f_X11_must g (nI v) 4 = _ from mu1 w v hv 4, bnd_some, hf1 w, bnd_some, if_neg (show ¬ (nI 1 : Int32) = 0 by decide)]
theorem b31 (w : MF g B L o e) : (if g 125 29 < (5 : Int32) then J_X11_readBlock_31 m1 mC g 1 else J_X11_readBlock_31 m1 mC g 0) = some g := by
  rw [show J_X11_readBlock_31 m1 mC g 1 = _ from j31_1 w 1 (by omega), show J_X11_readBlock_31 m1 mC g 0 = _ from j31_1 w 0 (by omega), ite_self]
theorem l_block (hs : 14 ≤ s) (hd : d ≤ 5) (y1 : Hp → Nat → Int32 → Option (Int32 × Hp)) (y3 z1 z2) (z4 z5 y4 y5) (hC : d < 5 → HCm rC mC s B L (d + 1)) : HB (B_X7_readBlock z1 z2 (B_X7_readCommands y1 rC y3 y4 y5) z4 z5) (B_X11_readBlock m1 mC) s B L d := by
  constructor
  · intro h g p b k n w m e1 e2 hz hD hk hn
    obtain ⟨q, hq⟩ : ∃ q, rn wsB B L p = q := ⟨_, rfl⟩
    rw [hq] at w
    have hqL := w.i
    have hl := w.l
    unfold B_X7_readBlock B_X11_readBlock
    obtain ⟨g1, r1, r2, r3⟩ := bl0 m
    rw [hq] at r2
    have D1 := hD.fr r3
    rw [r1, bnd_some, show f_X11_isAt g1 123 123 = _ from r2.at (nI 123) (nI 123), bnd_some, show f_X9_isSign h 123 = some (nI (bo (isS B L q (nI 123)))) from c_isSign w sg123.1 sg123.2, bnd_some]
    have hsg : (q < L ∧ ¬ B q < nI 123 ∧ ¬ nI 123 < B q) ↔ isS B L q (nI 123) := ⟨fun y => ⟨y.1, le2_eq.mp y.2⟩, fun y => ⟨y.1, le2_eq.mpr y.2⟩⟩
    by_cases z : isS B L q (nI 123)
    · rw [bo_y z, if_neg (show ¬ (nI 1 : Int32) = 0 by decide), bo_y (hsg.mpr z), show f_X11_must g1 (nI 1) 1 = _ from mu_ok 1, bnd_some, D1.2.2]
      by_cases z5 : d < 5
      · rw [if_pos (show nI d < (5 : Int32) from (nI_ltI (b := 5) (by omega) (by omega)).mpr z5), if_pos (show nI d < (5 : Int32) from (nI_ltI (b := 5) (by omega) (by omega)).mpr z5)]
        obtain ⟨h1, d1, d2, d3⟩ := c_advance w
        rw [sg_tz sg123.1 sg123.2 z] at d2
        obtain ⟨u1, u2⟩ := d3.e e1 e2
        have hz1 : h1 s 0 = nI k := by rw [d3.1.1 s (by omega)]; exact hz
        unfold J_X11_readBlock_31
        rw [show f_X11_must g1 1 4 = _ from mu_ok 4, bnd_some, hf0 r2, bnd_some, if_pos (show (nI 0 : Int32) = 0 from rfl), r2.p, show nI q + 1 = nI (q + 1) from nI_add q 1, stp_eq]
        have m2 : MT (up g1 125 17 (nI (q + 1))) B L (q + 1) q := r2.pt z.1
        have e29 : (up g1 125 17 (nI (q + 1))) 125 29 = nI d := by rw [up_sn (by decide)]; exact D1.2.2
        rw [e29, show nI d + 1 = nI (d + 1) from nI_add d 1, stp_eq]
        have D2 : MD (up (up g1 125 17 (nI (q + 1))) 125 29 (nI (d + 1))) n k (d + 1) := ⟨by rw [up_sn (by decide), up_sn (by decide)]; exact D1.1, by rw [up_sn (by decide), up_sn (by decide)]; exact D1.2.1, up_ss⟩
        have m3 : MT (up (up g1 125 17 (nI (q + 1))) 125 29 (nI (d + 1))) B L (q + 1) q := m2.f5 (by decide) (by decide) (by decide) (by decide) (by decide)
        have f3 : FDm g (up (up g1 125 17 (nI (q + 1))) 125 29 (nI (d + 1))) := (r3.fd.tr (FDm.up5 _ (by omega))).tr (FDm.up5 _ (by omega))
        have ga3 : GA g (up (up g1 125 17 (nI (q + 1))) 125 29 (nI (d + 1))) n := fun j hj => by rw [up_o (by decide), up_o (by decide), r3.1 140 (by decide)]
        rw [D2.1, stp_eq, m_drafts D2.1 (by omega), bnd_some]
        have D3 := D2.dr 0
        have m4 : MT (dra (up (up g1 125 17 (nI (q + 1))) 125 29 (nI (d + 1))) n 0) B L (q + 1) q := m3.dr
        have f4 := f3.tr (dra_fd (g := up (up g1 125 17 (nI (q + 1))) 125 29 (nI (d + 1))) (n := n) (v := 0))
        have ga4 := ga3.tr (dra_ga (g := up (up g1 125 17 (nI (q + 1))) 125 29 (nI (d + 1))) (n := n) (v := 0)) (Nat.le_refl _)
        generalize dra (up (up g1 125 17 (nI (q + 1))) 125 29 (nI (d + 1))) n 0 = g4 at *
        obtain ⟨g5, s1, s2, s3⟩ := bl0 m4
        rw [s1, bnd_some]
        have D5 := D3.fr s3
        have rq := rr (B := B) m4.i
        have f5 := f4.tr s3.fd
        have ga5 := ga4.tr (s3.ga n) (Nat.le_refl _)
        have hFM : ∀ r g q, MT g B L q q → ¬ q = L → ¬ isS B L q (nI 125) → F_X11_readBlock_77 m1 mC (nI n) r g = bnd (mC g) (fun u6 => bnd (f_X11_blanks u6) (fun u7 => r u7)) := by
          intro r g q m hqL hs
          have hsg : (q < L ∧ ¬ B q < nI 125 ∧ ¬ nI 125 < B q) ↔ isS B L q (nI 125) := ⟨fun y => ⟨y.1, le2_eq.mp y.2⟩, fun y => ⟨y.1, le2_eq.mpr y.2⟩⟩
          unfold F_X11_readBlock_77
          rw [hf0 m, bnd_some, if_pos (show (nI 0 : Int32) = 0 from rfl), show f_X11_isAt g 125 125 = _ from m.at (nI 125) (nI 125), bnd_some, bo_n (fun y => hs (hsg.mp y)), if_pos (show (nI 0 : Int32) = 0 from rfl)]
        have failM : ∀ r g o e n' k', MF g B L o e → MD g n' k' (d + 1) → ∃ g', F_X11_readBlock_77 m1 mC (nI n) r g = some g' ∧ MF g' B L o e ∧ MD g' n' k' d ∧ FDm g g' := by
          intro r g o e n' k' w hD
          have e29 : ∀ v, (up g 140 n v) 125 29 - 1 = nI d := fun v => by
            rw [up_o (by decide), hD.2.2, dec1]
          have w2 : ∀ v, MF (up (up g 140 n v) 125 29 (nI d)) B L o e := fun v => w.o4.f5 (by decide) (by decide) (by decide) (by decide) (by decide)
          refine ⟨up (up g 140 n (g 125 27 - nI n - 1)) 125 29 (nI d), ?_, w2 _, ⟨by rw [up_sn (by decide), up_o (by decide)]; exact hD.1, by rw [up_sn (by decide), up_o (by decide)]; exact hD.2.1, up_ss⟩, (FDm.up0 _).tr (FDm.up5 _ (by omega))⟩
          unfold F_X11_readBlock_77 J_X11_readBlock_106
          rw [hf1 w, bnd_some, if_neg (show ¬ (nI 1 : Int32) = 0 by decide), inb_t (by omega) (by omega), ck_true, ix_n (by omega), stp_eq, e29, stp_eq, ne1 (w2 _), bnd_some]
        rw [d1, bnd_some]
        unfold B_X7_readCommands
        rw [show (0 : Int32) = nI 0 from rfl]
        rcases l_row (FM := F_X11_readBlock_77 m1 mC (nI n)) hs (hC z5) y1 y3 y4 y5 hFM 30 k (by omega) hk 0 FU FU (by omega) (by unfold FU; omega) (by unfold FU; omega) h1 g5 _ (n + 1) d2 s2 rq u1 u2 hz1 D5 (by omega) with ⟨h2, g2, q2, k2, n2, M2, c1, c2, c3, c4, c5, c6, c7, c8, c9, i1, i2, i3, i4, i5, i6, i7, i8, i9⟩ | ⟨h2, g2, o, e, k2, n2, M2, c1, c2, c3, c4, c5, c6, c7, c8, c9, i1, i2⟩
        · rw [c1, bnd_some, if_neg (show ¬ (nI 1 : Int32) = nI 0 by decide), c2]
          have hle := SQ_le _ _ _ _ _ _ i5
          by_cases y : isS B L q2 (nI 125)
          · -- a whole block
            have hsg2 : (q2 < L ∧ ¬ B q2 < nI 125 ∧ ¬ nI 125 < B q2) := ⟨y.1, le2_eq.mpr y.2⟩
            rcases c_takeSign c3 sg125.1 sg125.2 with ⟨-, h3, t2, t3, t4⟩ | ⟨t1, -⟩
            case inr => exact absurd y t1
            have ew : g2 125 27 - nI n - 1 = nI (n2 - n - 1) := by
              rw [c9.1, sub_n (by omega), show (1 : Int32) = nI 1 from rfl, sub_n (by omega)]
            have e29 : (up g2 140 n (nI (n2 - n - 1))) 125 29 - 1 = nI d := by
              rw [up_o (by decide), c9.2.2, dec1]
            have m6 : MT (up (up g2 140 n (nI (n2 - n - 1))) 125 29 (nI d)) B L q2 q2 := c4.o4.f5 (by decide) (by decide) (by decide) (by decide) (by decide)
            have D6 : MD (up (up g2 140 n (nI (n2 - n - 1))) 125 29 (nI d)) n2 k2 d := ⟨by rw [up_sn (by decide), up_o (by decide)]; exact c9.1, by rw [up_sn (by decide), up_o (by decide)]; exact c9.2.1, up_ss⟩
            have f6 : FDm g2 (up (up g2 140 n (nI (n2 - n - 1))) 125 29 (nI d)) := (FDm.up0 _).tr (FDm.up5 _ (by omega))
            have g6 : ∀ j, ¬ j = n → (up (up g2 140 n (nI (n2 - n - 1))) 125 29 (nI d)) 140 j = g2 140 j := fun j hj => by rw [up_o (by decide), up_sn hj]
            have a6 : (up (up g2 140 n (nI (n2 - n - 1))) 125 29 (nI d)) 140 n = nI (n2 - n - 1) := by rw [up_o (by decide), up_ss]
            have eM : F_X11_readBlock_77 m1 mC (nI n) (Lp (F_X11_readBlock_77 m1 mC (nI n)) (M2 + 1)) g2 = bnd (f_X11_needs (up (up g2 140 n (nI (n2 - n - 1))) 125 29 (nI d)) (nI 125)) (fun u3 => some u3) := by
              unfold F_X11_readBlock_77 J_X11_readBlock_106
              rw [hf0 c4, bnd_some, if_pos (show (nI 0 : Int32) = 0 from rfl), show f_X11_isAt g2 125 125 = _ from c4.at (nI 125) (nI 125), bnd_some, bo_y hsg2, if_neg (show ¬ (nI 1 : Int32) = 0 by decide), inb_t (by omega) (by omega), ck_true, ix_n (by omega), ew, stp_eq, e29, stp_eq]
              rfl
            rw [eM]
            generalize up (up g2 140 n (nI (n2 - n - 1))) 125 29 (nI d) = g7 at *
            obtain ⟨g8, v1, v2, vv⟩ := ne0 m6 c5 (nI 125)
            rcases vv with ⟨-, m8⟩ | ⟨v3, -⟩
            case inr => exact absurd y v3
            rw [v1, bnd_some]
            have T8 : ∀ j, ¬ j = n → Td g8 j = Td g2 j := fun j hj => by
              show vn (g8 140 j) = vn (g2 140 j)
              rw [v2.1 140 (by decide), g6 j hj]
            have T8n : Td g8 n = n2 - n - 1 := by
              show vn (g8 140 n) = _
              rw [v2.1 140 (by decide), a6, vn_n (by omega)]
            have hr3 := t4.1.hr hs
            refine Or.inl ⟨h3, g8, _, _, k2, n2, ?_, rfl, t3, m8, t4.2.1.trans c6, t4.2.2.trans c7, ?_, D6.fr v2, i1, i2, by omega, by rw [T8n]; omega, z5, ?_, (d3.1.fs.tr i6).tr t4.1.fs, (f5.tr i7).tr (f6.tr v2.fd), ((d3.1.hr hs 0 k).tr i8).tr (hr3 0 k), fun j hj => ?_⟩
            · show bnd (f_X9_takeSign h2 125) _ = _
              rw [show f_X9_takeSign h2 125 = _ from t2, bnd_some, if_neg (show ¬ (nI 1 : Int32) = nI 0 by decide)]
              rfl
            · rw [t4.1.1 s (by omega)]; exact c8
            · rw [show 4 - d = 5 - (d + 1) by omega]
              exact SQ_fr _ _ _ _ _ _ _ i5 (Nat.le_refl _) (hr3 k k2).sa (fun j x _ => T8 j (by omega)) (Nat.le_refl _)
            · rw [v2.1 140 (by decide), g6 j (by omega), i9 j (by omega), s3.1 140 (by decide)]
              exact ga4 j hj
          · -- the text ends
            have hL : q2 = L := by
              rcases i4 with x | x
              · exact x
              · exact absurd x y
            have lz0 : lz B L q2 = 0 := by
              have := (lz_f (B := B) c3.i).1
              omega
            rcases c_takeSign c3 sg125.1 sg125.2 with ⟨t1, -⟩ | ⟨-, t2⟩
            · exact absurd t1 y
            obtain ⟨g3, v1, v2, v3⟩ := (hC z5).2 h2 g2 q2 c3 c4 c5 lz0
            have eM : F_X11_readBlock_77 m1 mC (nI n) (Lp (F_X11_readBlock_77 m1 mC (nI n)) (M2 + 1)) g2 = F_X11_readBlock_77 m1 mC (nI n) (Lp (F_X11_readBlock_77 m1 mC (nI n)) M2) g3 := by
              have hsg2 : ¬ (q2 < L ∧ ¬ B q2 < nI 125 ∧ ¬ nI 125 < B q2) := fun x => by omega
              have : ∀ r, F_X11_readBlock_77 m1 mC (nI n) r g2 = bnd (mC g2) (fun u6 => bnd (f_X11_blanks u6) (fun u7 => r u7)) := by
                intro r
                unfold F_X11_readBlock_77
                rw [hf0 c4, bnd_some, if_pos (show (nI 0 : Int32) = 0 from rfl), show f_X11_isAt g2 125 125 = _ from c4.at (nI 125) (nI 125), bnd_some, bo_n hsg2, if_pos (show (nI 0 : Int32) = 0 from rfl)]
              rw [this, v1, bnd_some, bl1 v2, bnd_some]
              rfl
            rw [eM]
            obtain ⟨g4', j1, j2, j3, j4⟩ := failM (Lp (F_X11_readBlock_77 m1 mC (nI n)) M2) g3 q2 1 n2 k2 v2 (c9.fr v3)
            obtain ⟨b1, b2, b3⟩ := ce_fr h2 q2 1
            refine Or.inr ⟨ce h2 q2 1, g4', q2, 1, k2, n2, ?_, j1, j2, b2, b3, j3, i1, i2, by omega, (d3.1.fs.tr i6).tr b1.fs, ((f5.tr i7).tr v3.fd).tr j4⟩
            show bnd (f_X9_takeSign h2 125) _ = _
            rw [show f_X9_takeSign h2 125 = _ from t2, bnd_some, if_pos (show (nI 0 : Int32) = nI 0 from rfl)]
        · rw [c1, bnd_some, if_pos (show (nI 0 : Int32) = nI 0 from rfl), c2]
          obtain ⟨g4', j1, j2, j3, j4⟩ := failM (Lp (F_X11_readBlock_77 m1 mC (nI n)) (M2 + 1)) g2 o e n2 k2 c3 c6
          exact Or.inr ⟨h2, g4', o, e, k2, n2, rfl, j1, j2, c4, c5, j3, c7, c8, by omega, d3.1.fs.tr i1, (f5.tr i2).tr j4⟩
      · have e5 : d = 5 := by omega
        subst e5
        rw [if_neg (show ¬ nI 5 < (5 : Int32) by decide), if_neg (show ¬ nI 5 < (5 : Int32) by decide)]
        obtain ⟨g2, s1, s2, s3⟩ := mu_no r2 4
        obtain ⟨b1, b2, b3⟩ := ce_fr h q 4
        refine Or.inr ⟨ce h q 4, g2, q, 4, k, n, ?_, ?_, s2, b2, b3, D1.fr s3, Nat.le_refl _, hk, by omega, b1.fs, r3.fd.tr s3.fd⟩
        · rw [show f_X9_fail h 4 = _ from c_fail w 4, bnd_some, zb0, ck_true]
        · unfold J_X11_readBlock_31
          rw [show f_X11_must g1 0 4 = _ from s1, bnd_some, hf1 s2, bnd_some, if_neg (show ¬ (nI 1 : Int32) = 0 by decide)]
    · rw [bo_n z, if_pos (show (nI 0 : Int32) = 0 from rfl), bo_n (fun y => z (hsg.mp y))]
      obtain ⟨g2, s1, s2, s3⟩ := mu_no r2 1
      obtain ⟨b1, b2, b3⟩ := ce_fr h q 1
      refine Or.inr ⟨ce h q 1, g2, q, 1, k, n, ?_, ?_, s2, b2, b3, D1.fr s3, Nat.le_refl _, hk, by omega, b1.fs, r3.fd.tr s3.fd⟩
      · rw [show f_X9_fail h 1 = _ from c_fail w 1, bnd_some, zb0, ck_true]
      · rw [show f_X11_must g1 (nI 0) 1 = _ from s1, bnd_some]
        exact b31 s2
  · intro g o e w
    unfold B_X11_readBlock
    obtain ⟨v, hv, ev⟩ := w.at (nI 123) (nI 123)
    rw [bl1 w, bnd_some, show f_X11_isAt g 123 123 = _ from ev, bnd_some, mu1 w v hv, bnd_some]
    exact b31 w
end
