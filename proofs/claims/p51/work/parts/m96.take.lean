/-! findBlocks and laysBlocks to their ends -/
section
variable {h g : Hp} {c : Nat} {P R : Nat → Nat → Nat} {b : Nat}
theorem c_findBlocks (hC : CR h c P) (hD : WD P) (hh : holds P (P 0 4)) : Wp (f_X4_findBlocks h c) (fun u => CR u c (fR P) ∧ ∀ k, ¬ (c ≤ k ∧ k ≤ c + 13) → u k = h k) := by
  have q := IB.all hD hh _ (Nat.le_refl _)
  have h40 := hD.w40
  have hl := hD.len
  have hbw := q.bw
  have hbr := hD.br
  refine c_bloop hC hD hh (fun h1 C1 f1 => ?_)
  have e04 := q.s 0 4 (by decide) (by decide) (by decide) (by decide) (by decide)
  have e010 := q.s 0 10 (by decide) (by decide) (by decide) (by decide) (by decide)
  unfold J_X4_findBlocks_128
  rw [C1.z 13, C1.z 4, e04, inb_t (show bS P (P 0 4) 0 13 < 41 by omega) (by omega), ck_true, ix_n (show bS P (P 0 4) 0 13 < 2147483648 by omega), stp_eq]
  have C2 : CR (up h1 (c + 9) (bS P (P 0 4) 0 13) (nI (P 0 4))) c (fB P) := C1.put (o := 9) (by omega)
  have n13 : fB P 0 13 = bS P (P 0 4) 0 13 := fB_o (by decide)
  refine wp_for (i := 0) (fB P 0 13) (fun i st => ∃ h2, st = (nI i, h2) ∧ CR h2 c (cS (fB P) i) ∧ ∀ k, ¬ (c ≤ k ∧ k ≤ c + 13) → h2 k = h k) (by omega) (by omega) ⟨_, rfl, C2, fun k hk => by rw [up_o (by omega)]; exact f1 k hk⟩ ?_
  rintro i st r hi ⟨h2, rfl, C3, f3⟩ k
  have m13 : cS (fB P) i 0 13 = fB P 0 13 := cS_o (by decide) i
  have m10 : cS (fB P) i 0 10 = P 0 10 := by rw [cS_o (by decide), fB_o (by decide), e010]
  unfold F_X4_findBlocks_143
  show Wp (if nI i < h2 c 13 then _ else some h2) _
  rw [C3.z 13, m13]
  by_cases x : i < fB P 0 13
  · have b1 := q.bse i (by omega)
    have a11 : cS (fB P) i 11 i = bS P (P 0 4) 11 i := by rw [cS_o (by decide), fB_o (by decide)]
    have a10 : ∀ j, cS (fB P) i 10 j = bS P (P 0 4) 10 j := fun j => by rw [cS_o (by decide), fB_o (by decide)]
    have a7 : ∀ j, cS (fB P) i 7 j = P 7 j := fun j => by rw [cS_o (by decide), fB_o (by decide), q.s 7 j (by decide) (by decide) (by decide) (by decide) (by omega)]
    have a8 : ∀ j, cS (fB P) i 8 j = P 8 j := fun j => by rw [cS_o (by decide), fB_o (by decide), q.s 8 j (by decide) (by decide) (by decide) (by decide) (by omega)]
    rw [if_pos ((nI_ltI (by omega) (by omega)).mpr x)]
    refine wp_bnd_of (c_cutp C3 (b := i) (by omega) (by omega) (by omega) (fun y => by rw [a11, a10]; exact q.ord i (by omega)) (by rw [a11]; omega) ?_ (fun j hj => ?_)) (fun h4 k4 => ?_)
    · rw [a10, m13]
      by_cases y : i + 1 < fB P 0 13
      · have := q.bse (i + 1) (by omega)
        exact Or.inl (by omega)
      · exact Or.inr (by omega)
    · rw [m10] at hj
      rw [a7, a8]
      have := hD.bb j hj
      omega
    · rw [show nI i + 1 = nI (i + 1) from nI_add i 1, stp_eq]
      exact k _ x ⟨h4, rfl, by rw [cS_s]; exact k4.1, fun k hk => (k4.2 k hk).trans (f3 k hk)⟩
  · have e : i = fB P 0 13 := by omega
    rw [if_neg (fun v => x ((nI_ltI (by omega) (by omega)).mp v))]
    subst e
    exact wp_some.mpr ⟨C3, f3⟩
theorem m_laysBlocks (q6 : GD (fun _ => g 126) P) (hD : WD P) (hh : holds P (P 0 4)) : Wp (f_X11_laysBlocks g) (fun u => GR u (fR P) ∧ BF g u) := by
  have q := IB.all hD hh _ (Nat.le_refl _)
  have h40 := hD.w40
  have hl := hD.len
  have hbw := q.bw
  have hbr := hD.br
  have e010 := q.s 0 10 (by decide) (by decide) (by decide) (by decide) (by decide)
  have n13 : fB P 0 13 = bS P (P 0 4) 0 13 := fB_o (by decide)
  have nR : fR P 0 13 = bS P (P 0 4) 0 13 := by rw [fR_o (by decide), fB_o (by decide)]
  refine m_bloop q6 hD hh (fun g1 G1 b1 => ?_)
  unfold J_X11_laysBlocks_141
  rw [wd6 (b1.g6 q6), bnd_some, G1.n, inb_t (show bS P (P 0 4) 0 13 < 41 by omega) (by omega), ck_true, ix_n (show bS P (P 0 4) 0 13 < 2147483648 by omega), stp_eq]
  have bf2 : BF g (up g1 131 (bS P (P 0 4) 0 13) (nI (P 0 4))) := b1.tr ⟨fun k _ b => up_o (by omega), fun j _ => by rw [up_o (by decide)]⟩
  -- what is known at the end
  have fin : ∀ u, BF g u → u 125 3 = nI (bS P (P 0 4) 0 13) → u 128 = g1 128 → u 129 = g1 129 → u 130 = g1 130 → u 131 = (up g1 131 (bS P (P 0 4) 0 13) (nI (P 0 4))) 131 → (∀ j, j + 1 < bS P (P 0 4) 0 13 → u 132 j = nI (fR P 12 j)) → (∀ j, j < bS P (P 0 4) 0 13 → u 133 j = nI (fR P 13 j)) → GR u (fR P) ∧ BF g u := by
    intro u bu e3 e128 e129 e130 e131 e132 e133
    have q7 := bu.g6 q6
    have s : ∀ {o j}, ¬ o = 6 → ¬ o = 9 → ¬ o = 10 → ¬ o = 11 → ¬ (o = 0 ∧ j = 13) → ¬ (o = 12 ∨ o = 13) → fR P o j = P o j := fun h1 h2 h3 h4 h5 h6 => fR_s hD hh h1 h2 h3 h4 h5 h6
    have s04 : fR P 0 4 = P 0 4 := s (by decide) (by decide) (by decide) (by decide) (by decide) (by decide)
    have s02 : fR P 0 2 = P 0 2 := s (by decide) (by decide) (by decide) (by decide) (by decide) (by decide)
    refine ⟨⟨?_, ?_, ?_, ?_, ?_, fun w hw => ?_, fun w hw => ?_, fun w hw => ?_, fun w hw => ?_, fun x hx => ?_, ?_, fun w hw => ?_, fun b hb => ?_, fun b hb => ?_, fun b hb => ?_, fun b hb => ?_, fun b hb => ?_⟩, bu⟩
    · rw [s (by decide) (by decide) (by decide) (by decide) (by decide) (by decide)]; exact q7.len
    · rw [s (by decide) (by decide) (by decide) (by decide) (by decide) (by decide)]; exact q7.han
    · rw [s02]; exact q7.sc
    · rw [s04]; exact q7.wc
    · rw [s (by decide) (by decide) (by decide) (by decide) (by decide) (by decide)]; exact q7.brc
    · rw [s04] at hw
      rw [s (by decide) (by decide) (by decide) (by decide) (by omega) (by decide)]; exact q7.who w hw
    · rw [s04] at hw
      rw [s (by decide) (by decide) (by decide) (by decide) (by omega) (by decide)]; exact q7.txt w hw
    · rw [s04] at hw
      rw [s (by decide) (by decide) (by decide) (by decide) (by omega) (by decide)]; exact q7.st w hw
    · rw [s04] at hw
      rw [s (by decide) (by decide) (by decide) (by decide) (by omega) (by decide)]; exact q7.en w hw
    · rw [s02] at hx
      rw [s (by decide) (by decide) (by decide) (by decide) (by omega) (by decide)]; exact q7.nm x hx
    · rw [nR]; exact e3
    · rw [s04] at hw
      rw [e128, fR_o (by decide), fB_o (by decide)]; exact G1.w w hw
    · rw [nR] at hb
      rw [e129, fR_o (by decide), fB_o (by decide)]; exact G1.s b hb
    · rw [nR] at hb
      rw [e130, fR_o (by decide), fB_o (by decide)]; exact G1.e b hb
    · rw [nR] at hb
      rw [e131, fR_9, nR]
      by_cases e : b = bS P (P 0 4) 0 13
      · rw [if_pos e, e, up_ss]
      · rw [if_neg e, up_sn e]; exact G1.f b (by omega)
    · rw [nR] at hb
      exact e132 b hb
    · rw [nR] at hb
      exact e133 b hb
  have v1 : ∀ b, b < bS P (P 0 4) 0 13 → (b + 1 < bS P (P 0 4) 0 13 → fR P 12 b = (cpS (fB P) b (fB P 0 10)).2.1 ∧ fR P 13 b = (cpS (fB P) b (fB P 0 10)).2.2) ∧ (¬ b + 1 < bS P (P 0 4) 0 13 → fR P 12 b = fB P 0 0 ∧ fR P 13 b = 0) := by
    intro b hb
    have := cS_v (R := fB P) (j := b) (fB P 0 13) (by rw [n13]; exact hb)
    rw [n13] at this
    unfold fR
    rw [n13]
    exact this
  by_cases z : bS P (P 0 4) 0 13 = 0
  · have n3 : up g1 131 (bS P (P 0 4) 0 13) (nI (P 0 4)) 125 3 = nI 0 := by rw [up_o (by decide), G1.n, z]
    show Wp (F_X11_laysBlocks_156 _ (nI 0, up g1 131 (bS P (P 0 4) 0 13) (nI (P 0 4)))) _
    unfold F_X11_laysBlocks_156
    show Wp (if nI 0 < up g1 131 (bS P (P 0 4) 0 13) (nI (P 0 4)) 125 3 - 1 then _ else J_X11_laysBlocks_177 (up g1 131 (bS P (P 0 4) 0 13) (nI (P 0 4)))) _
    rw [n3, if_neg (by decide)]
    unfold J_X11_laysBlocks_177
    rw [n3, if_pos (by decide)]
    exact wp_some.mpr (fin _ bf2 (by rw [up_o (by decide)]; exact G1.n) (up_o (by decide)) (up_o (by decide)) (up_o (by decide)) rfl (fun j hj => by omega) (fun j hj => by omega))
  · refine wp_for (i := 0) (bS P (P 0 4) 0 13 - 1) (fun i st => ∃ g2, st = (nI i, g2) ∧ (∀ k, ¬ k = 132 → ¬ k = 133 → g2 k = up g1 131 (bS P (P 0 4) 0 13) (nI (P 0 4)) k) ∧ ∀ j, j < i → g2 132 j = nI (fR P 12 j) ∧ g2 133 j = nI (fR P 13 j)) (by omega) (by omega) ⟨_, rfl, fun _ _ _ => rfl, fun j hj => absurd hj (Nat.not_lt_zero _)⟩ ?_
    rintro i st r hi ⟨g2, rfl, a1, a2⟩ k
    have n3 : g2 125 3 = nI (bS P (P 0 4) 0 13) := by rw [a1 125 (by decide) (by decide), up_o (by decide)]; exact G1.n
    have bf3 : BF g g2 := bf2.tr ⟨fun k _ b => a1 k (by omega) (by omega), fun j _ => by rw [a1 125 (by decide) (by decide)]⟩
    have q7 := bf3.g6 q6
    unfold F_X11_laysBlocks_156
    show Wp (if nI i < g2 125 3 - 1 then bnd (f_X11_laysCut g2 (nI i)) (fun u2 => stp (nI i + 1) (fun v3 => r (v3, u2))) else J_X11_laysBlocks_177 g2) _
    rw [n3, show nI (bS P (P 0 4) 0 13) - 1 = nI (bS P (P 0 4) 0 13 - 1) from sub_n (b := 1) (by omega)]
    by_cases x : i < bS P (P 0 4) 0 13 - 1
    · have b2 := q.bse i (by omega)
      have b3 := q.bse (i + 1) (by omega)
      have f10 : fB P 0 10 = P 0 10 := by rw [fB_o (by decide), e010]
      rw [if_pos ((nI_ltI (by omega) (by omega)).mpr x)]
      have f11 : ∀ j, fB P 11 j = bS P (P 0 4) 11 j := fun j => fB_o (by decide)
      have f100 : ∀ j, fB P 10 j = bS P (P 0 4) 10 j := fun j => fB_o (by decide)
      have f7 : ∀ j, fB P 7 j = P 7 j := fun j => by rw [fB_o (by decide), q.s 7 j (by decide) (by decide) (by decide) (by decide) (by omega)]
      have f8 : ∀ j, fB P 8 j = P 8 j := fun j => by rw [fB_o (by decide), q.s 8 j (by decide) (by decide) (by decide) (by decide) (by omega)]
      refine wp_bnd_of (m_laysCut (R := fB P) (b := i) (by omega) (by rw [f11, f100]; exact q.ord i (by omega)) (by rw [f11]; omega) (by rw [f100]; omega) (by rw [f10]; exact hbr) (fun j hj => ?_) ?_ ?_ ?_ (fun j hj => ?_) (fun j hj => ?_)) (fun g3 k3 => ?_)
      · rw [f10] at hj
        rw [f7, f8]
        have := hD.bb j hj
        omega
      · rw [f11, a1 130 (by decide) (by decide), up_o (by decide)]; exact G1.e i (by omega)
      · rw [f100, a1 129 (by decide) (by decide), up_o (by decide)]; exact G1.s (i + 1) (by omega)
      · rw [f10]; exact q7.brc
      · rw [f10] at hj
        rw [f7]; exact q7.b1 j hj
      · rw [f10] at hj
        rw [f8]; exact q7.b2 j hj
      · obtain ⟨c1, c2, c3, c4⟩ := k3
        rw [show nI i + 1 = nI (i + 1) from nI_add i 1, stp_eq]
        refine k _ x ⟨g3, rfl, fun k a d => (c3 k a d).trans (a1 k a d), fun j hj => ?_⟩
        by_cases e : j = i
        · subst e
          have := (v1 j (by omega)).1 (by omega)
          rw [this.1, this.2]
          exact ⟨c1, c2⟩
        · rw [(c4 j e).1, (c4 j e).2]; exact a2 j (by omega)
    · have e : i = bS P (P 0 4) 0 13 - 1 := by omega
      rw [if_neg (fun v => x ((nI_ltI (by omega) (by omega)).mp v))]
      unfold J_X11_laysBlocks_177
      have nz : ¬ nI (bS P (P 0 4) 0 13) ≤ 0 := fun v => z (by have := (nI_leI (b := 0) (by omega) (by omega)).mp v; omega)
      rw [n3, if_neg nz, show nI (bS P (P 0 4) 0 13) - 1 = nI (bS P (P 0 4) 0 13 - 1) from sub_n (b := 1) (by omega), inb_t (by omega) (by omega), ck_true, ix_n (by omega), stp_eq]
      have a1' : ∀ k, ¬ k = 132 → ¬ k = 133 → up g2 133 (bS P (P 0 4) 0 13 - 1) 0 k = up g1 131 (bS P (P 0 4) 0 13) (nI (P 0 4)) k := fun k a d => by rw [up_o d]; exact a1 k a d
      refine wp_some.mpr (fin _ (bf3.tr ⟨fun k _ b => up_o (by omega), fun j _ => by rw [up_o (by decide)]⟩) (by rw [up_o (by decide)]; exact n3) (by rw [a1' 128 (by decide) (by decide), up_o (by decide)]) (by rw [a1' 129 (by decide) (by decide), up_o (by decide)]) (by rw [a1' 130 (by decide) (by decide), up_o (by decide)]) (a1' 131 (by decide) (by decide)) (fun j hj => by rw [up_o (by decide)]; exact (a2 j (by omega)).1) (fun j hj => ?_))
      by_cases ej : j = bS P (P 0 4) 0 13 - 1
      · rw [ej, up_ss, ((v1 (bS P (P 0 4) 0 13 - 1) (by omega)).2 (by omega)).2]
        rfl
      · rw [up_sn ej]; exact (a2 j (by omega)).2
end
