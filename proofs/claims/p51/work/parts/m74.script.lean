/-! runScript -/
section
variable {h g : Hp} {c s : Nat} {R E S : Nat → Nat → Nat} {T : Nat → Nat} {n b f z a e d dp x : Nat} {hi : Nat → Nat → Nat → Nat}
theorem l_seq {ρ : Type} {fin : Hp → ρ} {FM : (Int32 × Hp → Option ρ) → Int32 × Hp → Option ρ} {k' p' : Nat} (x2 : Int32) (hFM : ∀ r v g, GS g T n → FM r (v, g) = if v < nI p' then (if g 125 40 = 0 then bnd ((REC_X11_executes (e + 1)).1 g v) (fun u => r (u.1, u.2)) else some (fin g)) else some (fin g)) (hd : d + dp ≤ 5) (hk' : k' ≤ 30) (hp' : p' ≤ n) : ∀ m, (∀ m', m' < m → 0 < d → BK c R s S T n m' a e (d - 1)) → ∀ k p i N M, SQ S T n m d k k' p p' → m < N → m < M → i + (k' - k) ≤ 30 → ∀ h g E b f z, RN h g c R s S T n E b f z → ∃ h' g' E b f z, Lp (F_X5_runCommands_13 (REC_X5_runCommand (a + 2)).1 (REC_X5_runCommand (a + 2)).2.1 (REC_X5_runCommand (a + 2)).2.2.1 (REC_X5_runCommand (a + 2)).2.2.2 x2 (nI k') (nI dp)) N (nI k, nI i, h) = some h' ∧ Lp FM M (nI p, g) = some (fin g') ∧ RN h' g' c R s S T n E b f z ∧ RH h h' ∧ RG g g' := by
  have stopC : ∀ N (x i : Int32) h, h 15 3 = nI 1 → Lp (F_X5_runCommands_13 (REC_X5_runCommand (a + 2)).1 (REC_X5_runCommand (a + 2)).2.1 (REC_X5_runCommand (a + 2)).2.2.1 (REC_X5_runCommand (a + 2)).2.2.2 x2 (nI k') (nI dp)) (N + 1) (x, i, h) = some h := by
    intro N x i h hz
    show F_X5_runCommands_13 _ _ _ _ x2 (nI k') (nI dp) _ (x, i, h) = _
    unfold F_X5_runCommands_13
    show (if i < 30 then (if x < nI k' then (if h 15 3 = 0 then _ else some h) else some h) else some h) = _
    rw [if_neg (show ¬ h 15 3 = 0 by rw [hz]; decide), ite_self, ite_self]
  have stopM : ∀ M v g, GS g T n → g 125 40 = nI 1 → Lp FM (M + 1) (v, g) = some (fin g) := by
    intro M v g hT hz
    show FM (Lp FM M) (v, g) = _
    rw [hFM _ _ _ hT, if_neg (show ¬ g 125 40 = 0 by rw [hz]; decide), ite_self]
  have done : ∀ k p i N M, k = k' → p = p' → ∀ h g E b f z, RN h g c R s S T n E b f z → ∃ h' g' E b f z, Lp (F_X5_runCommands_13 (REC_X5_runCommand (a + 2)).1 (REC_X5_runCommand (a + 2)).2.1 (REC_X5_runCommand (a + 2)).2.2.1 (REC_X5_runCommand (a + 2)).2.2.2 x2 (nI k') (nI dp)) (N + 1) (nI k, nI i, h) = some h' ∧ Lp FM (M + 1) (nI p, g) = some (fin g') ∧ RN h' g' c R s S T n E b f z ∧ RH h h' ∧ RG g g' := by
    intro k p i N M ek ep h g E b f z w
    have n7 := w.T.n7
    refine ⟨h, g, E, b, f, z, ?_, ?_, w, RH.rf h, RG.rf g⟩
    · show F_X5_runCommands_13 _ _ _ _ x2 (nI k') (nI dp) _ (nI k, nI i, h) = _
      unfold F_X5_runCommands_13
      show (if nI i < 30 then (if nI k < nI k' then _ else some h) else some h) = _
      rw [if_neg (show ¬ nI k < nI k' from fun y => by have := (nI_ltI (by omega) (by omega)).mp y; omega), ite_self]
    · show FM (Lp FM M) (nI p, g) = _
      rw [hFM _ _ _ w.T, if_neg (show ¬ nI p < nI p' from fun y => by have := (nI_ltI (by omega) (by omega)).mp y; omega)]
  intro m
  induction m with
  | zero =>
    intro _ k p i N M hs hN hM hi h g E b f z w
    obtain ⟨N, rfl⟩ : ∃ N', N = N' + 1 := ⟨N - 1, by omega⟩
    obtain ⟨M, rfl⟩ : ∃ M', M = M' + 1 := ⟨M - 1, by omega⟩
    rw [SQ_0] at hs
    exact done k p i N M hs.1 hs.2 h g E b f z w
  | succ m ih =>
    intro hB k p i N M hs hN hM hi h g E b f z w
    obtain ⟨N, rfl⟩ : ∃ N', N = N' + 1 := ⟨N - 1, by omega⟩
    obtain ⟨M, rfl⟩ : ∃ M', M = M' + 1 := ⟨M - 1, by omega⟩
    have n7 := w.T.n7
    rw [SQ_s] at hs
    rcases hs with ⟨h1, h2⟩ | ⟨q, h1, h2, h3, h4⟩
    · exact done k p i N M h1 h2 h g E b f z w
    · have hC := h3
      obtain ⟨c1, c2, c3, c4, c5, c6, -⟩ := h3
      by_cases hz : z = 0
      · obtain ⟨h1', g1, E1, b1, f1, z1, v, e1, e2, w1, r1, r2, r3⟩ := l_cmd w hz hC hd (hB m (by omega))
        have hs := w1.s1
        have stepC : ∀ r, F_X5_runCommands_13 (REC_X5_runCommand (a + 2)).1 (REC_X5_runCommand (a + 2)).2.1 (REC_X5_runCommand (a + 2)).2.2.1 (REC_X5_runCommand (a + 2)).2.2.2 x2 (nI k') (nI dp) r (nI k, nI i, h) = r (nI (S 4 k), nI (i + 1), h1') := by
          intro r
          unfold F_X5_runCommands_13
          show (if nI i < 30 then (if nI k < nI k' then (if h 15 3 = 0 then bnd ((REC_X5_runCommand (a + 2)).1 h (nI k) (nI dp)) (fun u1 => ckp (u1 15 0) 6 (fun q2 => ck (inb (nI k) 30) (stp (u1 (q2 + 4) (ix (nI k))) (fun v3 => stp (nI i + 1) (fun v4 => r (v3, v4, u1)))))) else some h) else some h) else some h) = _
          rw [if_pos (show nI i < (30 : Int32) from (nI_ltI (b := 30) (by omega) (by omega)).mpr (by omega)), if_pos ((nI_ltI (by omega) (by omega)).mpr (by omega)), if_pos (show h 15 3 = 0 by rw [w.z1, hz]; rfl), e1, bnd_some, ckp_of w1.p w.s2 (by omega), inb_t (by omega) (by omega), ck_true, ix_n (by omega), w1.S.o 4 k (by omega) (by omega), stp_eq, stp_eq, show nI i + 1 = nI (i + 1) from nI_add i 1]
        have stepM : FM (Lp FM M) (nI p, g) = Lp FM M (v, g1) := by
          rw [hFM _ _ _ w.T, if_pos ((nI_ltI (by omega) (by omega)).mpr (by omega)), if_pos (show g 125 40 = 0 by rw [w.z2, hz]; rfl), e2, bnd_some]
        by_cases hz1 : z1 = 0
        · rw [r3 hz1] at stepM
          obtain ⟨h2', g2, E2, b2, f2, z2, e3, e4, w2, r4, r5⟩ := ih (fun m' hm' => hB m' (by omega)) (S 4 k) q (i + 1) N M h4 (by omega) (by omega) (by omega) h1' g1 E1 b1 f1 z1 w1
          exact ⟨h2', g2, E2, b2, f2, z2, Eq.trans (stepC _) e3, Eq.trans stepM e4, w2, r1.tr r4, r2.tr r5⟩
        · have hz2 : z1 = 1 := by have := w1.zl; omega
          obtain ⟨N, rfl⟩ : ∃ N', N = N' + 1 := ⟨N - 1, by omega⟩
          obtain ⟨M, rfl⟩ : ∃ M', M = M' + 1 := ⟨M - 1, by omega⟩
          exact ⟨h1', g1, E1, b1, f1, z1, Eq.trans (stepC _) (stopC _ _ _ _ (by rw [w1.z1, hz2])), Eq.trans stepM (stopM _ _ _ w1.T (by rw [w1.z2, hz2])), w1, r1, r2⟩
      · have hz1 : z = 1 := by have := w.zl; omega
        exact ⟨h, g, E, b, f, z, stopC _ _ _ _ (by rw [w.z1, hz1]), stopM _ _ _ w.T (by rw [w.z2, hz1]), w, RH.rf h, RG.rf g⟩
theorem BK_all : ∀ m, m ≤ 1000 → ∀ d a e, 3 * d + 3 ≤ a → 2 * d + 2 ≤ e → BK c R s S T n m a e d := by
  intro m
  induction m using Nat.strongRecOn with
  | ind m ih =>
    intro hm d a e ha he k k' r p' dp hs hp hp' hd hk' h g E b f z w
    obtain ⟨a, rfl⟩ : ∃ a', a = a' + 3 := ⟨a - 3, by omega⟩
    obtain ⟨e, rfl⟩ : ∃ e', e = e' + 2 := ⟨e - 2, by omega⟩
    have n7 := w.T.n7
    have hle := (SQ_le _ _ _ _ _ _ hs)
    obtain ⟨h1, g1, E1, b1, f1, z1, e1, e2, w1, r1, r2⟩ := l_seq (fin := fun g => g) (FM := F_X11_executesBlock_15 (REC_X11_executes (e + 1)).1 (REC_X11_executes (e + 1)).2 (nI r) (nI p')) (a := a) (e := e) (d := d) (dp := dp) (k' := k') (p' := p') (nI k) (fun _ _ _ _ => rfl) hd hk' hp' m (fun m' hm' hd0 => ih m' hm' (by omega) (d - 1) a e (by omega) (by omega)) k (r + 1) 0 FU FU hs (by unfold FU; omega) (by unfold FU; omega) (by omega) h g E b f z w
    refine ⟨h1, g1, E1, b1, f1, z1, ?_, ?_, w1, r1, r2⟩
    · show B_X5_runCommands (REC_X5_runCommand (a + 2)).1 (REC_X5_runCommand (a + 2)).2.1 (REC_X5_runCommand (a + 2)).2.2.1 (REC_X5_runCommand (a + 2)).2.2.2 h (nI k) (nI k') (nI dp) = _
      unfold B_X5_runCommands
      rw [if_neg (show ¬ (5 : Int32) < nI dp from fun y => by have := (nI_ltI (a := 5) (by omega) (by omega)).mp y; omega), show (0 : Int32) = nI 0 from rfl]
      exact e1
    · show B_X11_executesBlock (REC_X11_executes (e + 1)).1 (REC_X11_executes (e + 1)).2 g (nI r) = _
      unfold B_X11_executesBlock
      rw [inb_t (by omega) (by omega), ck_true, ix_n (by omega), w.T.t r (by omega), show nI r + 1 = nI (r + 1) from nI_add r 1, nI_add, stp_eq, stp_eq, ← hp]
      exact e2
end
/-- the script in use, on both sides -/
def SRs (h : Hp) (g : Hp) (s : Nat) (S : Nat → Nat → Nat) (T : Nat → Nat) (n : Nat) : Prop :=
  (s = 111 ∨ s = 118) ∧
  (knd s = 6) ∧
  (CS h s S) ∧
  (GS g T n) ∧
  (h 15 0 = nI s) ∧
  (S 0 0 ≤ 30) ∧
  (∃ m, m ≤ 1000 ∧ SQ S T n m 5 0 (S 0 0) 0 n)
theorem SRs.s1 {h : Hp} {g : Hp} {s : Nat} {S : Nat → Nat → Nat} {T : Nat → Nat} {n : Nat} (q : SRs h g s S T n) : s = 111 ∨ s = 118 := q.1
theorem SRs.s2 {h : Hp} {g : Hp} {s : Nat} {S : Nat → Nat → Nat} {T : Nat → Nat} {n : Nat} (q : SRs h g s S T n) : knd s = 6 := q.2.1
theorem SRs.S {h : Hp} {g : Hp} {s : Nat} {S : Nat → Nat → Nat} {T : Nat → Nat} {n : Nat} (q : SRs h g s S T n) : CS h s S := q.2.2.1
theorem SRs.T {h : Hp} {g : Hp} {s : Nat} {S : Nat → Nat → Nat} {T : Nat → Nat} {n : Nat} (q : SRs h g s S T n) : GS g T n := q.2.2.2.1
theorem SRs.p {h : Hp} {g : Hp} {s : Nat} {S : Nat → Nat → Nat} {T : Nat → Nat} {n : Nat} (q : SRs h g s S T n) : h 15 0 = nI s := q.2.2.2.2.1
theorem SRs.z {h : Hp} {g : Hp} {s : Nat} {S : Nat → Nat → Nat} {T : Nat → Nat} {n : Nat} (q : SRs h g s S T n) : S 0 0 ≤ 30 := q.2.2.2.2.2.1
theorem SRs.m {h : Hp} {g : Hp} {s : Nat} {S : Nat → Nat → Nat} {T : Nat → Nat} {n : Nat} (q : SRs h g s S T n) : ∃ m, m ≤ 1000 ∧ SQ S T n m 5 0 (S 0 0) 0 n := q.2.2.2.2.2.2
def RA (X : Option (Hp × Hp)) (h g : Hp) (c : Nat) (R : Nat → Nat → Nat) : Prop := ∃ h' g', X = some (h', g') ∧ (∀ k, ¬ (3 ≤ k ∧ k ≤ 15) → ¬ (18 ≤ k ∧ k ≤ 82) → h' k = h k) ∧ h' 15 0 = h 15 0 ∧ (∀ k, relO k = true → ¬ k = 134 → ¬ k = 135 → g' k = g k) ∧ (∀ j, relF j = true → ¬ j = 13 → ¬ (38 ≤ j ∧ j ≤ 40) → g' 125 j = g 125 j) ∧ (∃ E d x hi, ED h' g' c R E d x hi) ∧ RP h' g'
section
variable {h g : Hp} {c s : Nat} {R E S : Nat → Nat → Nat} {T : Nat → Nat} {n d x : Nat} {hi : Nat → Nat → Nat → Nat}
theorem qa40 (w : ED h g c R E d x hi) (q : SRs h g s S T n) : RA (A_40 h g) h g c R := by
  have hk := w.Q.k
  have hs := q.s1
  have hn7 := q.T.n7
  have hz := q.z
  obtain ⟨m, hm, hsq⟩ := q.m
  obtain ⟨h1, e1, f1, C1, D1, F1, p1, cf1⟩ := c_rec w
  have w0 := w.z0
  obtain ⟨g1, e2, G1, M1, H1, P1⟩ := m_rec w0.Q.W w0.Q.E w0.Q.G w0.Q.M w0.Hg w0.Hw w0.Hc.d12
  have e2 : f_X11_keeps (up g 125 0 0) = some g1 := e2
  have gf1 := (GW.upF g (j := 0) (v := nI 0) (by decide)).gf.tr P1.1
  have e15 : h1 15 = h 15 := cf1 15 (by omega) (by omega)
  have qq : QQ h1 g1 c R E := ⟨w.Q.W, w.Q.E, w.Q.X, G1, M1, C1, D1, F1, p1, hk⟩
  have S1 : CS h1 s S := q.S.fr (fun o ho => cf1 _ (by omega) (by omega))
  have T1 : GS g1 T n := q.T.fr gf1
  have rn : RN (up (up (up h1 15 1 (nI 0)) 15 2 (nI 0)) 15 3 (nI 0)) (up (up (up g1 125 38 (nI 0)) 125 39 (nI 0)) 125 40 (nI 0)) c R s S T n E 0 0 0 :=
    ⟨((((((qq.up15 _ _).up15 _ _).up15 _ _).upG (by decide)).upG (by decide)).upG (by decide)), hs, q.s2, ((S1.up15 hs _ _).up15 hs _ _).up15 hs _ _, ((T1.upG (by decide)).upG (by decide)).upG (by decide), by rw [up_sn (by decide), up_sn (by decide), up_sn (by decide), e15]; exact q.p, by rw [up_sn (by decide), up_sn (by decide), up_ss], by rw [up_sn (by decide), up_sn (by decide), up_ss], by rw [up_sn (by decide), up_ss], by rw [up_sn (by decide), up_ss], up_ss, up_ss, by omega, by omega, by omega⟩
  obtain ⟨h2, g2, E2, b2, f2, z2, e3, e4, w2, r1, r2⟩ := l_seq (fin := fun g : Hp => (g 125 38, g)) (FM := F_X11_runScript_26) (a := 61) (e := 63) (d := 5) (dp := 0) (k' := S 0 0) (p' := n) (nI 0) (fun r v g hT => by
    show (if v < g 125 26 then _ else _) = _
    rw [hT.n]
    rfl) (by omega) hz (Nat.le_refl _) m (fun m' hm' _ => BK_all m' (by omega) 4 61 63 (by omega) (by omega)) 0 0 0 FU FU hsq (by unfold FU; omega) (by unfold FU; omega) (by omega) _ _ _ _ _ _ rn
  have eC : f_X10_runScript h = some (nI b2, h2) := by
    unfold f_X10_runScript f_X5_runAll
    rw [e1, bnd_some, show (0 : Int32) = nI 0 from rfl, stp_eq, stp_eq, stp_eq, ckp_of rn.p q.s2 (by omega), rn.S.z]
    have : f_X5_runCommands (up (up (up h1 15 1 (nI 0)) 15 2 (nI 0)) 15 3 (nI 0)) (nI 0) (nI (S 0 0)) (nI 0) = some h2 := by
      show B_X5_runCommands (REC_X5_runCommand 63).1 (REC_X5_runCommand 63).2.1 (REC_X5_runCommand 63).2.2.1 (REC_X5_runCommand 63).2.2.2 _ (nI 0) (nI (S 0 0)) (nI 0) = _
      unfold B_X5_runCommands
      rw [if_neg (show ¬ (5 : Int32) < nI 0 by decide), show (0 : Int32) = nI 0 from rfl]
      exact e3
    rw [this, bnd_some, bnd_some, w2.b1]
  have eM : f_X11_runScript g = some (nI b2, g2) := by
    unfold f_X11_runScript
    rw [stp_eq, e2, bnd_some, show (0 : Int32) = nI 0 from rfl, stp_eq, stp_eq, stp_eq, e4, w2.b2]
  have hc2 : HC h2 (dN d) ((x + 1) % 12) (hiN E d hi) := f1.fr (fun k hk => by rw [r1.1 k (by omega) (by omega) (by omega), up_o (by omega), up_o (by omega), up_o (by omega)])
  have hg2 : HG g2 (dN d) (hiN E d hi) := H1.fr (by rw [r2.2 13 (by decide) (by decide), up_sn (by decide), up_sn (by decide), up_sn (by decide)]) (by rw [r2.1 135 (by decide) (by decide), up_o (by decide), up_o (by decide), up_o (by decide)])
  refine ⟨h2, g2, ?_, fun k a b => ?_, ?_, fun k a b _ => ?_, fun j a b cc => ?_, ⟨E2, _, _, _, w2.Q, hc2, hg2, w.Hw.new w.Hc.d12 w.Q.E w.Q.X⟩, ⟨by rw [w2.b1, w2.b2], by rw [w2.f1, w2.f2], by rw [w2.z1, w2.z2], by rw [w2.z1]; exact zb_n1 w2.zl⟩⟩
  · unfold A_40
    rw [eC, bnd_some, eM, bnd_some, if_pos rfl]
  · rw [r1.1 k (by omega) (by omega) (by omega), up_o (by omega), up_o (by omega), up_o (by omega)]
    exact cf1 k (by omega) (by omega)
  · rw [r1.2.2, up_sn (by decide), up_sn (by decide), up_sn (by decide), e15]
  · rw [r2.1 k a b, up_o (fun e => by subst e; revert a; decide), up_o (fun e => by subst e; revert a; decide), up_o (fun e => by subst e; revert a; decide)]
    exact gf1.1 k a b (by assumption)
  · rw [r2.2 j a cc, up_sn (by omega), up_sn (by omega), up_sn (by omega)]
    exact gf1.2 j a b
end
