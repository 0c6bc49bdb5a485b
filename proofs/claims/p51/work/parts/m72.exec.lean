/-! one command, both sides -/
def RVc (X : Option Hp) (Y : Option (Int32 × Hp)) (h g : Hp) (c : Nat) (R : Nat → Nat → Nat) (s : Nat) (S : Nat → Nat → Nat) (T : Nat → Nat) (n q : Nat) : Prop := ∃ h' g' E b f z v, X = some h' ∧ Y = some (v, g') ∧ RN h' g' c R s S T n E b f z ∧ RH h h' ∧ RG g g' ∧ (z = 0 → v = nI q)
def RVb (X Y : Option Hp) (h g : Hp) (c : Nat) (R : Nat → Nat → Nat) (s : Nat) (S : Nat → Nat → Nat) (T : Nat → Nat) (n : Nat) : Prop := ∃ h' g' E b f z, X = some h' ∧ Y = some g' ∧ RN h' g' c R s S T n E b f z ∧ RH h h' ∧ RG g g'
def BK (c : Nat) (R : Nat → Nat → Nat) (s : Nat) (S : Nat → Nat → Nat) (T : Nat → Nat) (n m a e d : Nat) : Prop := ∀ k k' r p' dp, SQ S T n m d k k' (r + 1) p' → p' = r + 1 + T r → p' ≤ n → d + dp ≤ 5 → k' ≤ 30 → ∀ h g E b f z, RN h g c R s S T n E b f z → RVb ((REC_X5_runCommand a).2.1 h (nI k) (nI k') (nI dp)) ((REC_X11_executes e).2 g (nI r)) h g c R s S T n
section
variable {h g : Hp} {c s : Nat} {R E S : Nat → Nat → Nat} {T : Nat → Nat} {n b f z m a e d k p q : Nat}
theorem l_end (w : RN h g c R s S T n E b f z) (hf : f < b) {v : Nat} (hv : v ≤ 1) : ∃ h' g' f', (∀ x1 x2 x3 x4 y1 y2, J_X5_runCommand_160 x1 x2 x3 x4 y1 y2 h (nI v) = some h') ∧ (∀ x1 x2 p1 y i, y ≤ 5 → J_X11_executes_201 x1 x2 p1 g (nI y) (nI i) (nI v) = if y = 3 then bnd (f_X11_phraseEnd g' (nI i)) (fun u => some (u, g')) else some (nI i, g')) ∧ RN h' g' c R s S T n E b f' z ∧ RH h h' ∧ RG g g' := by
  have h3 : ∀ y, y ≤ 5 → ((nI y = (3 : Int32)) ↔ y = 3) := fun y hy => nI_eq (b := 3) (by omega) (by omega)
  rcases Nat.le_one_iff_eq_zero_or_eq_one.mp hv with rfl | rfl
  · refine ⟨_, _, f + 1, fun x1 x2 x3 x4 y1 y2 => ?_, fun x1 x2 p1 y i hy => ?_, w.flr hf, RH.up h (by decide), RG.up g (by decide)⟩
    · unfold J_X5_runCommand_160
      rw [if_pos (show (nI 0 : Int32) = 0 from rfl), stp_eq, w.f1, show nI f + 1 = nI (f + 1) from nI_add f 1]
    · unfold J_X11_executes_201 J_X11_executes_216
      rw [if_pos (show (nI 0 : Int32) = 0 from rfl), stp_eq, w.f2, show nI f + 1 = nI (f + 1) from nI_add f 1]
      by_cases e : y = 3
      · rw [if_pos e, if_pos ((h3 y hy).mpr e)]
      · rw [if_neg e, if_neg (fun e2 => e ((h3 y hy).mp e2))]
  · refine ⟨_, _, f, fun x1 x2 x3 x4 y1 y2 => ?_, fun x1 x2 p1 y i hy => ?_, w.same, RH.rf h, RG.up g (by decide)⟩
    · unfold J_X5_runCommand_160
      rw [if_neg (show ¬ (nI 1 : Int32) = 0 by decide)]
    · unfold J_X11_executes_201 J_X11_executes_216
      rw [if_neg (show ¬ (nI 1 : Int32) = 0 by decide), stp_eq, w.f2, show nI f + 0 = nI f from nI_add f 0]
      by_cases e : y = 3
      · rw [if_pos e, if_pos ((h3 y hy).mpr e)]
      · rw [if_neg e, if_neg (fun e2 => e ((h3 y hy).mp e2))]
/-- rounds of a repeat -/
theorem l_rep (hB : ∀ h g E b f z, RN h g c R s S T n E b f z → RVb ((REC_X5_runCommand a).2.1 h (nI (k + 1)) (nI (S 4 k)) (nI (d + 1))) ((REC_X11_executes e).2 g (nI (p + 2))) h g c R s S T n) (hk : k < 30) (hp : p + 2 < n) (ht : T (p + 1) = S 2 k) (h9 : S 2 k ≤ 9) : ∀ t j, j + t = S 2 k → ∀ N M, t < N → t < M → ∀ h g E b f z, RN h g c R s S T n E b f z → RVc (Lp (F_X5_runRepeat_3 (REC_X5_runCommand a).1 (REC_X5_runCommand a).2.1 (REC_X5_runCommand a).2.2.1 (REC_X5_runCommand a).2.2.2 (nI k) (nI d)) N (nI j, h)) (Lp (F_X11_executes_41 (REC_X11_executes e).1 (REC_X11_executes e).2 (nI p)) M (nI j, g)) h g c R s S T n (p + 3 + T (p + 2)) := by
  have out : ∀ h g E b f z, RN h g c R s S T n E b f z → J_X11_executes_73 (REC_X11_executes e).1 (REC_X11_executes e).2 (nI p) g = some (nI (p + 3 + T (p + 2)), g) := by
    intro h g E b f z w
    have n7 := w.T.n7
    unfold J_X11_executes_73
    show ck (inb (nI p + nI 2) 700) (some (nI p + nI 3 + g 139 (ix (nI p + nI 2)), g)) = _
    rw [nI_add, nI_add, inb_t (by omega) (by omega), ck_true, ix_n (by omega), w.T.t _ hp, nI_add]
  intro t
  induction t with
  | zero =>
    intro j hj N M hN hM h g E b f z w
    obtain ⟨N, rfl⟩ : ∃ N', N = N' + 1 := ⟨N - 1, by omega⟩
    obtain ⟨M, rfl⟩ : ∃ M', M = M' + 1 := ⟨M - 1, by omega⟩
    have n7 := w.T.n7
    have hs := w.s1
    refine ⟨h, g, E, b, f, z, _, ?_, ?_, w, RH.rf h, RG.rf g, fun _ => rfl⟩
    · show F_X5_runRepeat_3 _ _ _ _ (nI k) (nI d) _ (nI j, h) = _
      have hlt : ¬ j < S 2 k := by omega
      unfold F_X5_runRepeat_3
      simp (disch := omega) only [li, nI_add, pk_mul, ix_n, lt_n, le_n, eq_n, sub_n, dec_n, inb_t, neg_n, neg_n', ck_true, stp_eq, bnd_some, wp_some, wp_stp, Nat.add_zero, Nat.lt_irrefl, Nat.reduceEqDiff, Nat.reduceAdd, Nat.reduceSub, Nat.reduceMul, Nat.reduceLT, Nat.reduceLeDiff, up_o, up_ss, up_sn, zb_n1, true_and, and_true, ↓reduceIte, ckp_of w.p w.s2, w.S.o, hlt]
    · show F_X11_executes_41 _ _ (nI p) _ (nI j, g) = _
      unfold F_X11_executes_41
      show ck (inb (nI p + nI 1) 700) (if nI j < g 139 (ix (nI p + nI 1)) then _ else J_X11_executes_73 (REC_X11_executes e).1 (REC_X11_executes e).2 (nI p) g) = _
      rw [nI_add, inb_t (by omega) (by omega), ck_true, ix_n (by omega), w.T.t _ (by omega), ht, if_neg (fun y => by have := (nI_ltI (by omega) (by omega)).mp y; omega)]
      exact out _ _ _ _ _ _ w
  | succ t ih =>
    intro j hj N M hN hM h g E b f z w
    obtain ⟨N, rfl⟩ : ∃ N', N = N' + 1 := ⟨N - 1, by omega⟩
    obtain ⟨M, rfl⟩ : ∃ M', M = M' + 1 := ⟨M - 1, by omega⟩
    have n7 := w.T.n7
    have hs := w.s1
    have hlt : j < S 2 k := by omega
    have hltI : nI j < nI (S 2 k) := (nI_ltI (by omega) (by omega)).mpr hlt
    by_cases hz : z = 0
    · obtain ⟨h1, g1, E1, b1, f1, z1, e1, e2, w1, r1, r2⟩ := hB h g E b f z w
      obtain ⟨h2, g2, E2, b2, f2, z2, v, e3, e4, w2, r3, r4, r5⟩ := ih (j + 1) (by omega) N M (by omega) (by omega) h1 g1 E1 b1 f1 z1 w1
      refine ⟨h2, g2, E2, b2, f2, z2, v, ?_, ?_, w2, r1.tr r3, r2.tr r4, r5⟩
      · rw [← e3]
        show F_X5_runRepeat_3 _ _ _ _ (nI k) (nI d) (Lp (F_X5_runRepeat_3 (REC_X5_runCommand a).1 (REC_X5_runCommand a).2.1 (REC_X5_runCommand a).2.2.1 (REC_X5_runCommand a).2.2.2 (nI k) (nI d)) N) (nI j, h) = _
        unfold F_X5_runRepeat_3
        have hz1 := w.z1
        rw [hz] at hz1
        simp (disch := omega) only [li, nI_add, pk_mul, ix_n, lt_n, le_n, eq_n, sub_n, dec_n, inb_t, neg_n, neg_n', ck_true, stp_eq, bnd_some, wp_some, wp_stp, Nat.add_zero, Nat.lt_irrefl, Nat.reduceEqDiff, Nat.reduceAdd, Nat.reduceSub, Nat.reduceMul, Nat.reduceLT, Nat.reduceLeDiff, up_o, up_ss, up_sn, zb_n1, true_and, and_true, ↓reduceIte, ckp_of w.p w.s2, w.S.o, hlt, hz1, e1]
      · rw [← e4]
        show F_X11_executes_41 _ _ (nI p) (Lp (F_X11_executes_41 (REC_X11_executes e).1 (REC_X11_executes e).2 (nI p)) M) (nI j, g) = _
        unfold F_X11_executes_41
        show ck (inb (nI p + nI 1) 700) (if nI j < g 139 (ix (nI p + nI 1)) then (if g 125 40 = 0 then bnd ((REC_X11_executes e).2 g (nI p + nI 2)) (fun u4 => stp (nI j + 1) (fun v5 => Lp (F_X11_executes_41 (REC_X11_executes e).1 (REC_X11_executes e).2 (nI p)) M (v5, u4))) else _) else _) = _
        rw [nI_add, inb_t (by omega) (by omega), ck_true, ix_n (by omega), w.T.t _ (by omega), ht, if_pos hltI, w.z2, if_pos (by rw [hz]; rfl), nI_add, e2, bnd_some, stp_eq, show nI j + 1 = nI (j + 1) from nI_add j 1]
        rfl
    · have hz1 : z = 1 := by have := w.zl; omega
      refine ⟨h, g, E, b, f, z, _, ?_, ?_, w, RH.rf h, RG.rf g, fun _ => rfl⟩
      · show F_X5_runRepeat_3 _ _ _ _ (nI k) (nI d) _ (nI j, h) = _
        unfold F_X5_runRepeat_3
        have hz2 := w.z1
        rw [hz1] at hz2
        simp (disch := omega) only [li, nI_add, pk_mul, ix_n, lt_n, le_n, eq_n, sub_n, dec_n, inb_t, neg_n, neg_n', ck_true, stp_eq, bnd_some, wp_some, wp_stp, Nat.add_zero, Nat.lt_irrefl, Nat.reduceEqDiff, Nat.reduceAdd, Nat.reduceSub, Nat.reduceMul, Nat.reduceLT, Nat.reduceLeDiff, up_o, up_ss, up_sn, zb_n1, true_and, and_true, ↓reduceIte, ckp_of w.p w.s2, w.S.o, hlt, hz2]
      · show F_X11_executes_41 _ _ (nI p) _ (nI j, g) = _
        unfold F_X11_executes_41
        show ck (inb (nI p + nI 1) 700) (if nI j < g 139 (ix (nI p + nI 1)) then (if g 125 40 = 0 then _ else J_X11_executes_73 (REC_X11_executes e).1 (REC_X11_executes e).2 (nI p) g) else _) = _
        rw [nI_add, inb_t (by omega) (by omega), ck_true, ix_n (by omega), w.T.t _ (by omega), ht, if_pos hltI, w.z2, if_neg (by rw [hz1]; decide)]
        exact out _ _ _ _ _ _ w
end
