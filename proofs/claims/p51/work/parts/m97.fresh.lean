/-! everything is kept, both sides -/
def eE (n : Nat) : Nat → Nat → Nat := fun a j => if a = 0 then n else if a = 1 then 1 else if a = 2 then j else 0
section
variable {h g : Hp} {c n : Nat} {P R : Nat → Nat → Nat}
theorem eE_WE : WE R (eE (R 0 13)) := ⟨Nat.le_refl _, fun _ hs => hs, fun _ _ _ _ e => e, fun _ _ => Nat.le_refl _, fun _ _ => Nat.zero_le _, fun _ _ => Nat.zero_le _, Or.inl rfl⟩
theorem eE_WX (hW : WR R) : WX R (eE (R 0 13)) := by
  refine ⟨fun s hs => ?_, fun w hw _ => ?_⟩
  · have := hW.wlt s hs
    exact ⟨R 9 s, Nat.le_refl _, this, rfl⟩
  · exact ⟨R 6 w, (hW.wb w hw).1, rfl⟩
theorem c_keepEv (hn : n ≤ 40) : Wp (f_X0_keepEverything h 18 (nI n)) (fun u => CE u (eE n) ∧ ∀ k, ¬ (18 ≤ k ∧ k ≤ 22) → u k = h k) := by
  unfold f_X0_keepEverything
  rw [stp_eq]
  refine wp_for (i := 0) 40 (fun i st => ∃ h1, st = (nI i, h1) ∧ h1 18 1 = nI n ∧ (∀ j, j < i → h1 19 j = nI 1 ∧ h1 20 j = nI j ∧ h1 21 j = nI 0 ∧ h1 22 j = nI 0) ∧ ∀ k, ¬ (18 ≤ k ∧ k ≤ 22) → h1 k = h k) (by omega) (by omega) ⟨_, rfl, up_ss, fun j hj => absurd hj (Nat.not_lt_zero _), fun k hk => up_o (by omega)⟩ ?_
  rintro i st r hi ⟨h1, rfl, a1, a2, a3⟩ k
  unfold F_X0_keepEverything_7
  by_cases x : i < 40
  · simp (disch := omega) only [li, nI_add, pk_mul, ix_n, lt_n, le_n, eq_n, sub_n, dec_n, inb_t, neg_n, neg_n', ck_true, stp_eq, bnd_some, wp_some, wp_stp, Nat.add_zero, Nat.lt_irrefl, Nat.reduceEqDiff, Nat.reduceAdd, Nat.reduceSub, Nat.reduceMul, Nat.reduceLT, Nat.reduceLeDiff, up_o, up_ss, up_sn, zb_n1, true_and, and_true, ↓reduceIte, x]
    refine k _ x ⟨_, rfl, ?_, fun j hj => ?_, fun k hk => by rw [up_o (by omega), up_o (by omega), up_o (by omega), up_o (by omega)]; exact a3 k hk⟩
    · rw [up_o (by decide), up_o (by decide), up_o (by decide), up_o (by decide)]; exact a1
    · by_cases e : j = i
      · subst e
        refine ⟨?_, ?_, ?_, ?_⟩
        · rw [up_o (by decide), up_o (by decide), up_o (by decide), up_ss]
        · rw [up_o (by decide), up_o (by decide), up_ss]
        · rw [up_o (by decide), up_ss]
        · rw [up_ss]
      · obtain ⟨b1, b2, b3, b4⟩ := a2 j (by omega)
        refine ⟨?_, ?_, ?_, ?_⟩
        · rw [up_o (by decide), up_o (by decide), up_o (by decide), up_sn e]; exact b1
        · rw [up_o (by decide), up_o (by decide), up_sn e, up_o (by decide)]; exact b2
        · rw [up_o (by decide), up_sn e, up_o (by decide), up_o (by decide)]; exact b3
        · rw [up_sn e, up_o (by decide), up_o (by decide), up_o (by decide)]; exact b4
  · have e : i = 40 := by omega
    subst e
    simp (disch := omega) only [li, nI_add, pk_mul, ix_n, lt_n, le_n, eq_n, sub_n, dec_n, inb_t, neg_n, neg_n', ck_true, stp_eq, bnd_some, wp_some, wp_stp, Nat.add_zero, Nat.lt_irrefl, Nat.reduceEqDiff, Nat.reduceAdd, Nat.reduceSub, Nat.reduceMul, Nat.reduceLT, Nat.reduceLeDiff, up_o, up_ss, up_sn, zb_n1, true_and, and_true, ↓reduceIte]
    exact ⟨⟨a1, fun j hj => (a2 j hj).1, fun j hj => (a2 j (Nat.lt_of_lt_of_le hj hn)).2.1, fun j hj => (a2 j hj).2.2.1, fun j hj => (a2 j hj).2.2.2⟩, a3⟩
/-- the recording is exchanged -/
theorem c_exch {p : Nat} (hW : WR R) (hC : CR h c R) (hk : knd c = 4 ∧ (c = 83 ∨ c = 97)) (hp : h 3 0 = nI p) (hkp : knd p = 4 ∧ (p = 83 ∨ p = 97)) : Wp (f_X1_exchangeRecording h c) (fun u => u.1 = p ∧ u.2 3 0 = nI c ∧ CR u.2 c R ∧ CE u.2 (eE (R 0 13)) ∧ CF u.2 R (eE (R 0 13)) ∧ ∀ k, ¬ (3 ≤ k ∧ k ≤ 11) → ¬ (18 ≤ k ∧ k ≤ 22) → u.2 k = h k) := by
  have h40 := hW.w40
  have hbw := hW.bw
  unfold f_X1_exchangeRecording
  have e13 : up h 3 0 (nI c) c 13 = nI (R 0 13) := by rw [up_o (by omega)]; exact hC.z 13
  rw [ckp_of hp hkp.1 (by omega), stp_eq, e13]
  refine wp_bnd_of (c_keepEv (n := R 0 13) (by omega)) (fun h1 k1 => ?_)
  obtain ⟨D1, f1⟩ := k1
  have C1 : CR h1 c R := hC.fr (fun o ho => by rw [f1 _ (by omega), up_o (by omega)])
  have p1 : h1 3 0 = nI c := by rw [f1 3 (by omega), up_ss]
  refine wp_bnd_of (c_layOut hW eE_WE C1 D1 p1 hk) (fun h2 k2 => ?_)
  exact wp_some.mpr ⟨rfl, k2.2.2.trans p1, k2.2.cr hk C1, k2.2.ce D1, k2.1, fun k a b => by show h2 k = h k; rw [k2.2.1 k (by omega), f1 k b, up_o (by omega)]⟩
theorem m_takesOver (hG : GD g P) (hD : WD P) (hh : holds P (P 0 4)) : Wp (f_X11_takesOver g) (fun u => GR u (fR P) ∧ GE u (eE (fR P 0 13)) ∧ u 125 13 = nI 0 ∧ (∀ k, ¬ k = 125 → ¬ k = 126 → ¬ (128 ≤ k ∧ k ≤ 134) → u k = g k) ∧ ∀ j, ¬ j = 3 → ¬ j = 13 → u 125 j = g 125 j) := by
  have W := fR_WR hD hh
  have h40 := W.w40
  have hbw := W.bw
  unfold f_X11_takesOver
  refine wp_for (i := 0) 193 (fun i st => ∃ g1, st = (nI i, g1) ∧ (∀ j, j < i → g1 126 j = g 127 j) ∧ ∀ k, ¬ k = 126 → g1 k = g k) (by omega) (by omega) ⟨g, rfl, fun j hj => absurd hj (Nat.not_lt_zero _), fun _ _ => rfl⟩ ?_
  rintro i st r hi ⟨g1, rfl, a1, a2⟩ k
  unfold F_X11_takesOver_2
  by_cases x : i < 193
  · simp (disch := omega) only [li, nI_add, pk_mul, ix_n, lt_n, le_n, eq_n, sub_n, dec_n, inb_t, neg_n, neg_n', ck_true, stp_eq, bnd_some, wp_some, wp_stp, Nat.add_zero, Nat.lt_irrefl, Nat.reduceEqDiff, Nat.reduceAdd, Nat.reduceSub, Nat.reduceMul, Nat.reduceLT, Nat.reduceLeDiff, up_o, up_ss, up_sn, zb_n1, true_and, and_true, ↓reduceIte, x, a2]
    refine k _ x ⟨_, rfl, fun j hj => ?_, fun k hk => by rw [up_o hk]; exact a2 k hk⟩
    by_cases e : j = i
    · subst e; rw [up_ss]
    · rw [up_sn e]; exact a1 j (by omega)
  · have e : i = 193 := by omega
    subst e
    have hs4 := hD.s4
    have hw40 := hD.w40
    have hbr := hD.br
    have q6 : GD (fun _ => g1 126) P := by
      refine ⟨(a1 0 (by omega)).trans hG.len, (a1 1 (by omega)).trans hG.han, (a1 2 (by omega)).trans hG.sc, (a1 3 (by omega)).trans hG.wc, (a1 4 (by omega)).trans hG.brc, fun s hs => (a1 _ (by omega)).trans (hG.nm s hs), fun w hw => (a1 _ (by omega)).trans (hG.who w hw), fun w hw => (a1 _ (by omega)).trans (hG.txt w hw), fun w hw => (a1 _ (by omega)).trans (hG.st w hw), fun w hw => (a1 _ (by omega)).trans (hG.en w hw), fun i hi => (a1 _ (by omega)).trans (hG.b1 i hi), fun i hi => (a1 _ (by omega)).trans (hG.b2 i hi)⟩
    show Wp (if nI 193 < nI 193 then _ else J_X11_takesOver_27 g1) _
    rw [if_neg (by decide)]
    unfold J_X11_takesOver_27
    refine wp_bnd_of (m_laysBlocks q6 hD hh) (fun g2 k2 => ?_)
    obtain ⟨G2, b2⟩ := k2
    refine wp_for (i := 0) 161 (fun i st => ∃ g3, st = (nI i, g3) ∧ (∀ j, j < i → g3 134 j = nI 0) ∧ ∀ k, ¬ k = 134 → g3 k = g2 k) (by omega) (by omega) ⟨g2, rfl, fun j hj => absurd hj (Nat.not_lt_zero _), fun _ _ => rfl⟩ ?_
    rintro i st r hi ⟨g3, rfl, c1, c2⟩ k
    unfold F_X11_takesOver_33
    by_cases x : i < 161
    · simp (disch := omega) only [li, nI_add, pk_mul, ix_n, lt_n, le_n, eq_n, sub_n, dec_n, inb_t, neg_n, neg_n', ck_true, stp_eq, bnd_some, wp_some, wp_stp, Nat.add_zero, Nat.lt_irrefl, Nat.reduceEqDiff, Nat.reduceAdd, Nat.reduceSub, Nat.reduceMul, Nat.reduceLT, Nat.reduceLeDiff, up_o, up_ss, up_sn, zb_n1, true_and, and_true, ↓reduceIte, x]
      refine k _ x ⟨_, rfl, fun j hj => ?_, fun k hk => by rw [up_o hk]; exact c2 k hk⟩
      by_cases e : j = i
      · subst e; rw [up_ss]
      · rw [up_sn e]; exact c1 j (by omega)
    · have e : i = 161 := by omega
      subst e
      have n3 : g3 125 3 = nI (fR P 0 13) := by rw [c2 125 (by decide)]; exact G2.bc
      show Wp (if nI 161 < nI 161 then _ else J_X11_takesOver_53 g3) _
      rw [if_neg (by decide)]
      unfold J_X11_takesOver_53
      rw [show (40 : Int32) = nI 40 from rfl, inb_t (by omega) (by omega), ck_true, ix_n (by omega), n3, stp_eq]
      refine wp_for (i := 0) (fR P 0 13) (fun i st => ∃ g4, st = (nI i, g4) ∧ g4 134 40 = nI (fR P 0 13) ∧ (∀ j, j < i → g4 134 (41 + j) = nI j) ∧ (∀ j, j < 40 ∨ (81 ≤ j ∧ j < 161) → g4 134 j = nI 0) ∧ ∀ k, ¬ k = 134 → g4 k = g2 k) (by omega) (by omega) ⟨_, rfl, up_ss, fun j hj => absurd hj (Nat.not_lt_zero _), fun j hj => by rw [up_sn (by omega)]; exact c1 j (by omega), fun k hk => by rw [up_o hk]; exact c2 k hk⟩ ?_
      rintro i st r hi ⟨g4, rfl, d1, d2, d3, d4⟩ k
      have n4 : g4 125 3 = nI (fR P 0 13) := by rw [d4 125 (by decide)]; exact G2.bc
      unfold F_X11_takesOver_66
      by_cases x : i < fR P 0 13
      · simp (disch := omega) only [li, nI_add, pk_mul, ix_n, lt_n, le_n, eq_n, sub_n, dec_n, inb_t, neg_n, neg_n', ck_true, stp_eq, bnd_some, wp_some, wp_stp, Nat.add_zero, Nat.lt_irrefl, Nat.reduceEqDiff, Nat.reduceAdd, Nat.reduceSub, Nat.reduceMul, Nat.reduceLT, Nat.reduceLeDiff, up_o, up_ss, up_sn, zb_n1, true_and, and_true, ↓reduceIte, n4, x]
        refine k _ x ⟨_, rfl, ?_, fun j hj => ?_, fun j hj => ?_, fun k hk => by rw [up_o hk]; exact d4 k hk⟩
        · rw [up_sn (by omega)]; exact d1
        · by_cases e : j = i
          · subst e; rw [up_ss]
          · rw [up_sn (by omega)]; exact d2 j (by omega)
        · rw [up_sn (by omega)]; exact d3 j hj
      · have e : i = fR P 0 13 := by omega
        subst e
        have n4' : ¬ nI (fR P 0 13) < g4 125 3 := by rw [n4]; exact fun y => by have := (nI_ltI (by omega) (by omega)).mp y; omega
        show Wp (if nI (fR P 0 13) < g4 125 3 then _ else J_X11_takesOver_90 g4) _
        rw [if_neg n4']
        unfold J_X11_takesOver_90
        rw [stp_eq]
        have d4' : ∀ k, ¬ k = 125 → ¬ k = 134 → up g4 125 13 0 k = g2 k := fun k a b => by rw [up_o a]; exact d4 k b
        have f4 : ∀ j, ¬ j = 13 → up g4 125 13 0 125 j = g2 125 j := fun j a => by rw [up_sn a, d4 125 (by decide)]
        refine wp_some.mpr ⟨?_, ⟨fun w hw => ?_, ?_, fun s hs => ?_, fun b hb => ?_, fun b hb => ?_⟩, up_ss, fun k a b d => ?_, fun j a b => ?_⟩
        · unfold GR
          rw [d4' 126 (by decide) (by decide), d4' 128 (by decide) (by decide), d4' 129 (by decide) (by decide), d4' 130 (by decide) (by decide), d4' 131 (by decide) (by decide), d4' 132 (by decide) (by decide), d4' 133 (by decide) (by decide), f4 3 (by decide)]
          exact G2
        · rw [up_o (by decide)]; exact fun _ => d3 w (by omega)
        · rw [up_o (by decide)]; exact d1
        · rw [up_o (by decide)]; exact d2 s hs
        · rw [up_o (by decide)]; exact d3 _ (by omega)
        · rw [up_o (by decide)]; exact d3 _ (by omega)
        · rw [d4' k a (by omega), b2.1 k a (by omega), a2 k b]
        · rw [f4 j b, b2.2 j a, a2 125 (by decide)]
end
