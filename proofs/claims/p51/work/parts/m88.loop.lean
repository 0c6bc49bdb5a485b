/-! all lines of a text, both sides -/
section
variable {h g : Hp} {B : Nat → Int32} {L q p b o k c : Nat} {R : Nat → Nat → Nat}
theorem sg59 : ¬ ltB (nI 59) ∧ ¬ dgB (nI 59) := by unfold ltB dgB; decide +kernel
theorem l48 (w : MF g B L o k) (M : Nat) : Lp F_X11_load_13 (M + 1) g = J_X11_load_48 g := by
  show F_X11_load_13 (Lp F_X11_load_13 M) g = _
  unfold F_X11_load_13
  rw [hf1 w, bnd_some, if_neg (show ¬ (nI 1 : Int32) = 0 by decide)]
theorem l_read (hc : 14 ≤ c) : ∀ μ q i N M, L - q ≤ μ → μ < N → μ < M → i ≤ q → ∀ h g R, TS h B L q → MT g B L q q → rn wsB B L q = q → h 1 2 = -nI 1 → h 1 3 = nI 0 → CR h c R → WD R → GD g R → (∃ h' g' R', Lp (F_X8_read_10 c) N (nI i, h) = J_X8_read_49 c h' ∧ Lp F_X11_load_13 M g = J_X11_load_48 g' ∧ PS h' g' c B L L R' ∧ FC c h h' ∧ FM g g' ∧ MT g' B L L L) ∨ (∃ h' g', Lp (F_X8_read_10 c) N (nI i, h) = some (nI 0, h') ∧ Lp F_X11_load_13 M g = J_X11_load_48 g' ∧ PF h' g' B L ∧ FC c h h' ∧ FM g g') := by
  intro μ
  induction μ using Nat.strongRecOn with
  | ind μ ih =>
    intro q i N M hμ hN hM hi h g R w m hq e1 e2 hC hD hG
    obtain ⟨N, rfl⟩ : ∃ N', N = N' + 1 := ⟨N - 1, by omega⟩
    obtain ⟨M, rfl⟩ : ∃ M', M = M' + 1 := ⟨M - 1, by omega⟩
    have hl := w.l
    have hqL := w.i
    have headX : Lp (F_X8_read_10 c) (N + 1) (nI i, h) = if nI i < 900 then bnd (f_X9_isEnd h) (fun u4 => if u4 = 0 then bnd (f_X8_readLine h c) (fun u5 => if u5.1 = 0 then some (0, u5.2) else bnd (f_X9_takeSign u5.2 59) (fun u6 => if u6.1 = 0 then some (0, u6.2) else stp (nI i + 1) (fun v7 => Lp (F_X8_read_10 c) N (v7, u6.2)))) else J_X8_read_49 c h) else J_X8_read_49 c h := rfl
    have headY : Lp F_X11_load_13 (M + 1) g = bnd (f_X11_hasFailed g) (fun u6 => if u6 = 0 then (if g 125 17 < g 125 19 then bnd (f_X11_readLine g) (fun u7 => bnd (f_X11_needs u7 59) (fun u8 => bnd (f_X11_blanks u8) (fun u9 => Lp F_X11_load_13 M u9))) else J_X11_load_48 g) else J_X11_load_48 g) := rfl
    rw [headX, headY, hf0 m, bnd_some, if_pos (show (nI 0 : Int32) = 0 from rfl), m.p, m.n, c_isEnd w, bnd_some]
    by_cases z : q = L
    · left
      refine ⟨h, g, R, ?_, ?_, ⟨(show TS h B L L by rw [z] at w; exact w), ⟨_, _, m, by rw [hq, z]⟩, e1, e2, hC, hD, hG⟩, ⟨fun _ _ _ => rfl, fun _ _ => rfl⟩, ⟨fun _ _ _ => rfl, fun _ _ => rfl⟩, (by rw [z] at m; exact m)⟩
      · rw [bo_y z, if_neg (show ¬ (nI 1 : Int32) = 0 by decide), ite_self]
      · rw [if_neg (show ¬ nI q < nI L from fun y => by have := (nI_ltI (by omega) (by omega)).mp y; omega)]
    · obtain ⟨M, rfl⟩ : ∃ M', M = M' + 1 := ⟨M - 1, by omega⟩
      rw [bo_n z, if_pos (show (nI 0 : Int32) = 0 from rfl), if_pos (show nI i < (900 : Int32) from (nI_ltI (b := 900) (by omega) (by omega)).mpr (by omega)), if_pos ((nI_ltI (by omega) (by omega)).mpr (by omega))]
      rcases l_line hc w m hq e1 e2 hC hD hG with ⟨h1, g1, i1, R1, x1, x2, x3, x4, x5, x6⟩ | ⟨h1, g1, x1, x2, x3, x4, x5⟩
      · have hge := x6 q (by omega) w.s
        obtain ⟨p1, b1, m1, hq1⟩ := x3.m
        rw [x1, bnd_some, if_neg (show ¬ (nI 1 : Int32) = 0 by decide), x2, bnd_some]
        obtain ⟨g2, y1, y2, yy⟩ := ne0 m1 hq1 (nI 59)
        have y1 : f_X11_needs g1 59 = some g2 := y1
        rw [y1, bnd_some]
        rcases c_takeSign x3.t sg59.1 sg59.2 with ⟨s1, h2, s2, s3, s4⟩ | ⟨s1, s2⟩
        · have s2 : f_X9_takeSign h1 59 = some (nI 1, h2) := s2
          rcases yy with ⟨-, m2⟩ | ⟨y3, -⟩
          case inr => exact absurd s1 y3
          obtain ⟨g3, t1, m3, f3⟩ := bl0 m2
          have hge2 := (rn_s wsB B m2.i).1
          have rr3 := rr (B := B) m2.i
          rw [s2, bnd_some, if_neg (show ¬ (nI 1 : Int32) = 0 by decide), stp_eq, show nI i + 1 = nI (i + 1) from nI_add i 1, t1, bnd_some]
          have hG3 : GD g3 R1 := x3.G.fr ((f3.1 127 (by decide)).trans (y2.1 127 (by decide)))
          obtain ⟨d1, d2⟩ := s4.e x3.e1 x3.e2
          have hms := m2.i
          rcases ih (L - rn wsB B L (i1 + 1)) (by omega) (rn wsB B L (i1 + 1)) (i + 1) N (M + 1) (Nat.le_refl _) (by omega) (by omega) (by omega) h2 g3 R1 s3 m3 rr3 d1 d2 (tfr_cr hc s4 x3.C) x3.D hG3 with ⟨h', g', R', r1, r2, r3, r4, r5, r6⟩ | ⟨h', g', r1, r2, r3, r4, r5⟩
          · exact Or.inl ⟨h', g', R', r1, r2, r3, (x4.tr s4.1.fc).tr r4, ((x5.tr y2.fm).tr f3.fm).tr r5, r6⟩
          · exact Or.inr ⟨h', g', r1, r2, r3, (x4.tr s4.1.fc).tr r4, ((x5.tr y2.fm).tr f3.fm).tr r5⟩
        · have s2 : f_X9_takeSign h1 59 = some (nI 0, ce h1 i1 1) := s2
          rcases yy with ⟨y3, -⟩ | ⟨-, m2⟩
          case inl => exact absurd y3 s1
          obtain ⟨c1, c2, c3⟩ := ce_fr h1 i1 1
          rw [s2, bnd_some, if_pos (show (nI 0 : Int32) = 0 from rfl), bl1 m2, bnd_some]
          exact Or.inr ⟨_, g2, rfl, l48 m2 M, PF.mk2 x3.G x3.D m2 y2 c2 c3, x4.tr c1.fc, x5.tr y2.fm⟩
      · obtain ⟨⟨o, kd, m2, c2, c3⟩, wg⟩ := x3
        rw [x1, bnd_some, if_pos (show (nI 0 : Int32) = 0 from rfl), x2, bnd_some, ne1 m2, bnd_some, bl1 m2, bnd_some]
        exact Or.inr ⟨h1, g1, rfl, l48 m2 M, ⟨⟨o, kd, m2, c2, c3⟩, wg⟩, x4, x5⟩
/-- does the text hold all its words: R -/
def holds (R : Nat → Nat → Nat) (n : Nat) : Prop := ∀ w, w < n → R 5 w ≤ R 0 0
theorem c_holds (hC : CR h c R) (hD : WD R) : f_X4_holdsAllWords h c = some (nI (bo (holds R (R 0 4)))) := by
  have h40 := hD.w40
  have hlen := hD.len
  refine wp_eq.mp ?_
  unfold f_X4_holdsAllWords
  refine wp_for (i := 0) (R 0 4) (fun i st => st = nI i ∧ holds R i) (by omega) (by omega) ⟨rfl, fun w hw => absurd hw (Nat.not_lt_zero _)⟩ ?_
  rintro i st r hi ⟨rfl, hall⟩ k
  unfold F_X4_holdsAllWords_2
  by_cases x : i < R 0 4
  · have wd := hD.wd i x
    have e5 : h (c + 5) i = nI (R 5 i) := hC.o 5 i (by omega)
    simp (disch := omega) only [li, nI_add, pk_mul, ix_n, lt_n, le_n, eq_n, sub_n, dec_n, inb_t, neg_n, neg_n', ck_true, stp_eq, bnd_some, wp_some, wp_stp, Nat.add_zero, Nat.lt_irrefl, Nat.reduceEqDiff, Nat.reduceAdd, Nat.reduceSub, Nat.reduceMul, Nat.reduceLT, Nat.reduceLeDiff, up_o, up_ss, up_sn, zb_n1, true_and, and_true, ↓reduceIte, hC.z, x, e5]
    refine wp_if (fun y => ?_) (fun y => ?_)
    · rw [wp_some, bo_n (fun z => by have := z i x; omega)]
    · exact k _ x ⟨rfl, fun w hw => by
        by_cases e : w = i
        · subst e; omega
        · exact hall w (by omega)⟩
  · have e : i = R 0 4 := by omega
    subst e
    simp (disch := omega) only [li, nI_add, pk_mul, ix_n, lt_n, le_n, eq_n, sub_n, dec_n, inb_t, neg_n, neg_n', ck_true, stp_eq, bnd_some, wp_some, wp_stp, Nat.add_zero, Nat.lt_irrefl, Nat.reduceEqDiff, Nat.reduceAdd, Nat.reduceSub, Nat.reduceMul, Nat.reduceLT, Nat.reduceLeDiff, up_o, up_ss, up_sn, zb_n1, true_and, and_true, ↓reduceIte, hC.z]
    rw [bo_y hall]
/-- the model's last look over the words, when it has failed before -/
theorem m_last1 (w : MF g B L o k) (hw : ∃ n, n ≤ 40 ∧ g 127 3 = nI n) : J_X11_load_48 g = J_X11_load_98 g := by
  obtain ⟨n, hn, e3⟩ := hw
  have go : ∀ t i N, i + t = n → t < N → Lp F_X11_load_50 N (nI i, g) = J_X11_load_98 g := by
    intro t
    induction t with
    | zero =>
      intro i N hi hN
      obtain ⟨N, rfl⟩ : ∃ N', N = N' + 1 := ⟨N - 1, by omega⟩
      show F_X11_load_50 _ (nI i, g) = _
      unfold F_X11_load_50
      show ck (inb (nI 3) 193) (if nI i < g 127 (ix (nI 3)) then _ else J_X11_load_98 g) = _
      rw [inb_t (by omega) (by omega), ck_true, ix_n (by omega), e3, if_neg (show ¬ nI i < nI n from fun y => by have := (nI_ltI (by omega) (by omega)).mp y; omega)]
    | succ t ih =>
      intro i N hi hN
      obtain ⟨N, rfl⟩ : ∃ N', N = N' + 1 := ⟨N - 1, by omega⟩
      show F_X11_load_50 (Lp F_X11_load_50 N) (nI i, g) = _
      have j88 : ∀ s, s ≤ 1 → J_X11_load_88 g (Lp F_X11_load_50 N) (nI i) (nI s) = J_X11_load_98 g := by
        intro s hs
        unfold J_X11_load_88
        rw [mu1 w s hs, bnd_some, show nI i + 1 = nI (i + 1) from nI_add i 1, stp_eq]
        exact ih (i + 1) N (by omega) (by omega)
      unfold F_X11_load_50
      show ck (inb (nI 3) 193) (if nI i < g 127 (ix (nI 3)) then ck (inb (nI 9 + nI 4 * nI i + nI 3) 193) (ck (inb (nI 0) 193) (if g 127 (ix (nI 0)) < g 127 (ix (nI 9 + nI 4 * nI i + nI 3)) then J_X11_load_88 g (Lp F_X11_load_50 N) (nI i) (nI 0) else J_X11_load_88 g (Lp F_X11_load_50 N) (nI i) (nI 1))) else J_X11_load_98 g) = _
      rw [inb_t (show 3 < 193 by omega) (by omega), ck_true, ix_n (show 3 < 2147483648 by omega), e3, if_pos ((nI_ltI (by omega) (by omega)).mpr (by omega)), pk_mul, nI_add, nI_add, inb_t (by omega) (by omega), ck_true, inb_t (show 0 < 193 by omega) (by omega), ck_true, j88 0 (by omega), j88 1 (by omega), ite_self]
  unfold J_X11_load_48
  exact go n 0 FU (by omega) (by unfold FU; omega)
theorem m_last0 (m : MT g B L p L) (hD : WD R) (hG : GD g R) : ∃ g', J_X11_load_48 g = J_X11_load_98 g' ∧ MFr g g' ∧ ((holds R (R 0 4) ∧ MT g' B L p L) ∨ (¬ holds R (R 0 4) ∧ MF g' B L L 2)) := by
  have h40 := hD.w40
  have hlen := hD.len
  have go : ∀ t i N, i + t = R 0 4 → t < N → holds R i → ∃ g', Lp F_X11_load_50 N (nI i, g) = J_X11_load_98 g' ∧ MFr g g' ∧ ((holds R (R 0 4) ∧ MT g' B L p L) ∨ (¬ holds R (R 0 4) ∧ MF g' B L L 2)) := by
    intro t
    induction t with
    | zero =>
      intro i N hi hN hall
      obtain ⟨N, rfl⟩ : ∃ N', N = N' + 1 := ⟨N - 1, by omega⟩
      have e : i = R 0 4 := by omega
      subst e
      refine ⟨g, ?_, MFr.rf g, Or.inl ⟨hall, m⟩⟩
      show F_X11_load_50 _ (nI (R 0 4), g) = _
      unfold F_X11_load_50
      show ck (inb (nI 3) 193) (if nI (R 0 4) < g 127 (ix (nI 3)) then _ else J_X11_load_98 g) = _
      rw [inb_t (by omega) (by omega), ck_true, ix_n (by omega), hG.wc, if_neg (show ¬ nI (R 0 4) < nI (R 0 4) from fun y => by have := (nI_ltI (by omega) (by omega)).mp y; omega)]
    | succ t ih =>
      intro i N hi hN hall
      obtain ⟨N, rfl⟩ : ∃ N', N = N' + 1 := ⟨N - 1, by omega⟩
      have wd := hD.wd i (by omega)
      have head : Lp F_X11_load_50 (N + 1) (nI i, g) = if R 0 0 < R 5 i then J_X11_load_88 g (Lp F_X11_load_50 N) (nI i) (nI 0) else J_X11_load_88 g (Lp F_X11_load_50 N) (nI i) (nI 1) := by
        show F_X11_load_50 (Lp F_X11_load_50 N) (nI i, g) = _
        unfold F_X11_load_50
        show ck (inb (nI 3) 193) (if nI i < g 127 (ix (nI 3)) then ck (inb (nI 9 + nI 4 * nI i + nI 3) 193) (ck (inb (nI 0) 193) (if g 127 (ix (nI 0)) < g 127 (ix (nI 9 + nI 4 * nI i + nI 3)) then J_X11_load_88 g (Lp F_X11_load_50 N) (nI i) (nI 0) else J_X11_load_88 g (Lp F_X11_load_50 N) (nI i) (nI 1))) else J_X11_load_98 g) = _
        rw [inb_t (show 3 < 193 by omega) (by omega), ck_true, ix_n (show 3 < 2147483648 by omega), hG.wc, if_pos ((nI_ltI (by omega) (by omega)).mpr (by omega)), pk_mul, nI_add, nI_add, inb_t (by omega) (by omega), ck_true, inb_t (show 0 < 193 by omega) (by omega), ck_true, ix_n (show 0 < 2147483648 by omega), ix_n (by omega), hG.len, hG.en i (by omega)]
        by_cases y : R 0 0 < R 5 i
        · rw [if_pos y, if_pos ((nI_ltI (by omega) (by omega)).mpr y)]
          rfl
        · rw [if_neg y, if_neg (fun v => y ((nI_ltI (by omega) (by omega)).mp v))]
          rfl
      rw [head]
      by_cases y : R 0 0 < R 5 i
      · obtain ⟨g2, e2, w2, f2⟩ := mu_no m 2
        have e3 : g2 127 3 = nI (R 0 4) := by rw [f2.1 127 (by decide)]; exact hG.wc
        have rest : ∀ t i N, i + t = R 0 4 → t < N → Lp F_X11_load_50 N (nI i, g2) = J_X11_load_98 g2 := by
          intro t
          induction t with
          | zero =>
            intro i N hi hN
            obtain ⟨N, rfl⟩ : ∃ N', N = N' + 1 := ⟨N - 1, by omega⟩
            show F_X11_load_50 _ (nI i, g2) = _
            unfold F_X11_load_50
            show ck (inb (nI 3) 193) (if nI i < g2 127 (ix (nI 3)) then _ else J_X11_load_98 g2) = _
            rw [inb_t (by omega) (by omega), ck_true, ix_n (by omega), e3, if_neg (show ¬ nI i < nI (R 0 4) from fun y => by have := (nI_ltI (by omega) (by omega)).mp y; omega)]
          | succ t ih2 =>
            intro i N hi hN
            obtain ⟨N, rfl⟩ : ∃ N', N = N' + 1 := ⟨N - 1, by omega⟩
            show F_X11_load_50 (Lp F_X11_load_50 N) (nI i, g2) = _
            have j88 : ∀ s, s ≤ 1 → J_X11_load_88 g2 (Lp F_X11_load_50 N) (nI i) (nI s) = J_X11_load_98 g2 := by
              intro s hs
              unfold J_X11_load_88
              rw [mu1 w2 s hs, bnd_some, show nI i + 1 = nI (i + 1) from nI_add i 1, stp_eq]
              exact ih2 (i + 1) N (by omega) (by omega)
            unfold F_X11_load_50
            show ck (inb (nI 3) 193) (if nI i < g2 127 (ix (nI 3)) then ck (inb (nI 9 + nI 4 * nI i + nI 3) 193) (ck (inb (nI 0) 193) (if g2 127 (ix (nI 0)) < g2 127 (ix (nI 9 + nI 4 * nI i + nI 3)) then J_X11_load_88 g2 (Lp F_X11_load_50 N) (nI i) (nI 0) else J_X11_load_88 g2 (Lp F_X11_load_50 N) (nI i) (nI 1))) else J_X11_load_98 g2) = _
            rw [inb_t (show 3 < 193 by omega) (by omega), ck_true, ix_n (show 3 < 2147483648 by omega), e3, if_pos ((nI_ltI (by omega) (by omega)).mpr (by omega)), pk_mul, nI_add, nI_add, inb_t (by omega) (by omega), ck_true, inb_t (show 0 < 193 by omega) (by omega), ck_true, j88 0 (by omega), j88 1 (by omega), ite_self]
        refine ⟨g2, ?_, f2, Or.inr ⟨fun v => by have := v i (by omega); omega, w2⟩⟩
        rw [if_pos y]
        unfold J_X11_load_88
        rw [show f_X11_must g (nI 0) 2 = _ from e2, bnd_some, show nI i + 1 = nI (i + 1) from nI_add i 1, stp_eq]
        exact rest t (i + 1) N (by omega) (by omega)
      · rw [if_neg y]
        unfold J_X11_load_88
        rw [mu_ok, bnd_some, show nI i + 1 = nI (i + 1) from nI_add i 1, stp_eq]
        exact ih (i + 1) N (by omega) (by omega) (fun w hw => by
          by_cases e : w = i
          · subst e; omega
          · exact hall w (by omega))
  unfold J_X11_load_48
  exact go (R 0 4) 0 FU (by omega) (by unfold FU; omega) (fun w hw => absurd hw (Nat.not_lt_zero _))
end
