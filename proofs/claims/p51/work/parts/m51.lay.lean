/-! the class lays its film out: clips and silence -/
def CL (h : Hp) (R : Nat → Nat → Nat) (E : Nat → Nat → Nat) : Prop :=
  (h 3 2 = nI (fs R E (E 0 1))) ∧
  (h 3 8 = nI (trA R E).length) ∧
  (∀ s, s < E 0 1 → h 4 s = nI (pf R E (E 2 s))) ∧
  (∀ s, s < E 0 1 → h 5 s = nI (pt R E (E 2 s))) ∧
  (∀ s, s < E 0 1 → h 6 s = nI (fs R E s)) ∧
  (∀ s, s ≤ E 0 1 → h 7 s = nI (tr R E s).length) ∧
  (∀ b, b < 40 → h 8 b = oI (E 0 1) (sch (fun s => E 2 s = b) (E 0 1))) ∧
  (∀ p w, (trA R E)[p]? = some w → h 9 p = nI w) ∧
  (∀ w, w < 40 → h 10 w = oI (trA R E).length (sch (fun p => (trA R E)[p]? = some w) (trA R E).length))
theorem CL.fr {h : Hp} {R : Nat → Nat → Nat} {E : Nat → Nat → Nat} (q : CL h R E) : h 3 2 = nI (fs R E (E 0 1)) := q.1
theorem CL.pls {h : Hp} {R : Nat → Nat → Nat} {E : Nat → Nat → Nat} (q : CL h R E) : h 3 8 = nI (trA R E).length := q.2.1
theorem CL.first {h : Hp} {R : Nat → Nat → Nat} {E : Nat → Nat → Nat} (q : CL h R E) : ∀ s, s < E 0 1 → h 4 s = nI (pf R E (E 2 s)) := q.2.2.1
theorem CL.behind {h : Hp} {R : Nat → Nat → Nat} {E : Nat → Nat → Nat} (q : CL h R E) : ∀ s, s < E 0 1 → h 5 s = nI (pt R E (E 2 s)) := q.2.2.2.1
theorem CL.start {h : Hp} {R : Nat → Nat → Nat} {E : Nat → Nat → Nat} (q : CL h R E) : ∀ s, s < E 0 1 → h 6 s = nI (fs R E s) := q.2.2.2.2.1
theorem CL.place {h : Hp} {R : Nat → Nat → Nat} {E : Nat → Nat → Nat} (q : CL h R E) : ∀ s, s ≤ E 0 1 → h 7 s = nI (tr R E s).length := q.2.2.2.2.2.1
theorem CL.bs {h : Hp} {R : Nat → Nat → Nat} {E : Nat → Nat → Nat} (q : CL h R E) : ∀ b, b < 40 → h 8 b = oI (E 0 1) (sch (fun s => E 2 s = b) (E 0 1)) := q.2.2.2.2.2.2.1
theorem CL.tr {h : Hp} {R : Nat → Nat → Nat} {E : Nat → Nat → Nat} (q : CL h R E) : ∀ p w, (trA R E)[p]? = some w → h 9 p = nI w := q.2.2.2.2.2.2.2.1
theorem CL.wp {h : Hp} {R : Nat → Nat → Nat} {E : Nat → Nat → Nat} (q : CL h R E) : ∀ w, w < 40 → h 10 w = oI (trA R E).length (sch (fun p => (trA R E)[p]? = some w) (trA R E).length) := q.2.2.2.2.2.2.2.2
section
variable {h : Hp} {c : Nat} {R E : Nat → Nat → Nat}
theorem cnt_lt {p : Nat → Prop} {s i : Nat} (hs : s < i) (hp : p s) : cnt p s < cnt p i := by
  have h1 := cnt_y hp
  have h2 := cnt_mono (p := p) (i - (s + 1)) (s + 1)
  rw [show s + 1 + (i - (s + 1)) = i by omega] at h2
  omega
theorem c_findClips (hW : WR R) (hE : WE R E) (hD : CE h E) (hL : CL h R E) : Wp (f_X1_findClips h) (fun u => u 3 11 = nI (cnt (bcl R E) (E 0 1)) ∧ (∀ s, s < E 0 1 → bcl R E s → u 11 (cnt (bcl R E) s) = nI s) ∧ u 11 (cnt (bcl R E) (E 0 1)) = nI (E 0 1) ∧ (∀ k, ¬ k = 3 → ¬ k = 11 → u k = h k) ∧ (∀ j, ¬ j = 11 → u 3 j = h 3 j)) := by
  have h1 := hE.n
  have h2 := hW.bw
  have h3 := hW.w40
  unfold f_X1_findClips
  simp (disch := omega) only [li, nI_add, pk_mul, ix_n, lt_n, le_n, eq_n, sub_n, dec_n, inb_t, neg_n, neg_n', ck_true, stp_eq, bnd_some, wp_some, wp_stp, Nat.add_zero, Nat.lt_irrefl, Nat.reduceEqDiff, Nat.reduceAdd, Nat.reduceSub, Nat.reduceMul, Nat.reduceLT, Nat.reduceLeDiff, up_o, up_ss, up_sn, zb_n1, true_and, and_true, ↓reduceIte]
  refine wp_for (i := 0) (E 0 1) (fun i x => ∃ h1, x = (nI i, h1) ∧ h1 3 11 = nI (cnt (bcl R E) i) ∧ (∀ s, s < i → bcl R E s → h1 11 (cnt (bcl R E) s) = nI s) ∧ (∀ k, ¬ k = 3 → ¬ k = 11 → h1 k = h k) ∧ (∀ j, ¬ j = 11 → h1 3 j = h 3 j)) (by omega) (by omega) ⟨_, rfl, up_ss, fun s hs => absurd hs (Nat.not_lt_zero _), fun k a b => up_o a, fun j a => up_sn a⟩ ?_
  rintro i x r hi ⟨h1, rfl, a1, a2, a3, a4⟩ k
  have hc := cnt_le (bcl R E) i
  have e18 := a3 18 (by decide) (by decide)
  have e4 := a3 4 (by decide) (by decide)
  have e5 := a3 5 (by decide) (by decide)
  unfold F_X1_findClips_7
  by_cases hl : i < E 0 1
  · have yes : bcl R E i → Wp (J_X1_findClips_39 h1 r (nI i)) (fun u => u 3 11 = nI (cnt (bcl R E) (E 0 1)) ∧ (∀ s, s < E 0 1 → bcl R E s → u 11 (cnt (bcl R E) s) = nI s) ∧ u 11 (cnt (bcl R E) (E 0 1)) = nI (E 0 1) ∧ (∀ k, ¬ k = 3 → ¬ k = 11 → u k = h k) ∧ (∀ j, ¬ j = 11 → u 3 j = h 3 j)) := by
      intro hb
      unfold J_X1_findClips_39 J_X1_findClips_59
      simp (disch := omega) only [li, nI_add, pk_mul, ix_n, lt_n, le_n, eq_n, sub_n, dec_n, inb_t, neg_n, neg_n', ck_true, stp_eq, bnd_some, wp_some, wp_stp, Nat.add_zero, Nat.lt_irrefl, Nat.reduceEqDiff, Nat.reduceAdd, Nat.reduceSub, Nat.reduceMul, Nat.reduceLT, Nat.reduceLeDiff, up_o, up_ss, up_sn, zb_n1, true_and, and_true, ↓reduceIte, a1]
      refine k _ hl ⟨_, rfl, ?_, fun s hs hbs => ?_, fun k b1 b2 => ?_, fun j b1 => ?_⟩
      · rw [up_ss, cnt_y hb]
      · rw [up_o (by decide)]
        by_cases e : s = i
        · subst e; exact up_ss
        · have := cnt_lt (p := bcl R E) (s := s) (i := i) (by omega) hbs
          rw [up_sn (by omega)]
          exact a2 s (by omega) hbs
      · rw [up_o b1, up_o b2]
        exact a3 k b1 b2
      · rw [up_sn b1, up_o (by decide)]
        exact a4 j b1
    have no : ¬ bcl R E i → Wp (J_X1_findClips_59 h1 r (nI i)) (fun u => u 3 11 = nI (cnt (bcl R E) (E 0 1)) ∧ (∀ s, s < E 0 1 → bcl R E s → u 11 (cnt (bcl R E) s) = nI s) ∧ u 11 (cnt (bcl R E) (E 0 1)) = nI (E 0 1) ∧ (∀ k, ¬ k = 3 → ¬ k = 11 → u k = h k) ∧ (∀ j, ¬ j = 11 → u 3 j = h 3 j)) := by
      intro hb
      unfold J_X1_findClips_59
      simp (disch := omega) only [li, nI_add, pk_mul, ix_n, lt_n, le_n, eq_n, sub_n, dec_n, inb_t, neg_n, neg_n', ck_true, stp_eq, bnd_some, wp_some, wp_stp, Nat.add_zero, Nat.lt_irrefl, Nat.reduceEqDiff, Nat.reduceAdd, Nat.reduceSub, Nat.reduceMul, Nat.reduceLT, Nat.reduceLeDiff, up_o, up_ss, up_sn, zb_n1, true_and, and_true, ↓reduceIte]
      refine k _ hl ⟨_, rfl, ?_, fun s hs hbs => ?_, a3, a4⟩
      · rw [cnt_n hb]; exact a1
      · by_cases e : s = i
        · subst e; exact absurd hbs hb
        · exact a2 s (by omega) hbs
    by_cases z : i = 0
    · subst z
      simp (disch := omega) only [li, nI_add, pk_mul, ix_n, lt_n, le_n, eq_n, sub_n, dec_n, inb_t, neg_n, neg_n', ck_true, stp_eq, bnd_some, wp_some, wp_stp, Nat.add_zero, Nat.lt_irrefl, Nat.reduceEqDiff, Nat.reduceAdd, Nat.reduceSub, Nat.reduceMul, Nat.reduceLT, Nat.reduceLeDiff, up_o, up_ss, up_sn, zb_n1, true_and, and_true, ↓reduceIte, e18, hD.z, hl]
      exact yes (Or.inl rfl)
    · have q1 := p_facts hW hE (hE.lt i hl)
      have q2 := p_facts hW hE (hE.lt (i - 1) (by omega))
      simp (disch := omega) only [li, nI_add, pk_mul, ix_n, lt_n, le_n, eq_n, sub_n, dec_n, inb_t, neg_n, neg_n', ck_true, stp_eq, bnd_some, wp_some, wp_stp, Nat.add_zero, Nat.lt_irrefl, Nat.reduceEqDiff, Nat.reduceAdd, Nat.reduceSub, Nat.reduceMul, Nat.reduceLT, Nat.reduceLeDiff, up_o, up_ss, up_sn, zb_n1, true_and, and_true, ↓reduceIte, e18, hD.z, hl, z, e4, e5, hL.first, hL.behind]
      refine wp_if (fun y => ?_) (fun y => ?_)
      · exact no (fun k => k.elim z (fun k => k y))
      · exact yes (Or.inr y)
  · have e : i = E 0 1 := by omega
    unfold J_X1_findClips_65
    simp (disch := omega) only [li, nI_add, pk_mul, ix_n, lt_n, le_n, eq_n, sub_n, dec_n, inb_t, neg_n, neg_n', ck_true, stp_eq, bnd_some, wp_some, wp_stp, Nat.add_zero, Nat.lt_irrefl, Nat.reduceEqDiff, Nat.reduceAdd, Nat.reduceSub, Nat.reduceMul, Nat.reduceLT, Nat.reduceLeDiff, up_o, up_ss, up_sn, zb_n1, true_and, and_true, ↓reduceIte, e18, hD.z, hl, a1]
    subst e
    refine ⟨?_, fun s hs hbs => ?_, up_ss, fun k b1 b2 => ?_, fun j b1 => ?_⟩
    · first | rfl | assumption | (simp (disch := omega) only [up_o, up_ss, up_sn] <;> first | rfl | assumption)
    · have := cnt_lt (p := bcl R E) hs hbs
      rw [up_sn (by omega)]
      exact a2 s hs hbs
    · rw [up_o b2]; exact a3 k b1 b2
    · have := a4 j b1
      first | rfl | assumption | (simp (disch := omega) only [up_o, up_ss, up_sn] <;> first | rfl | assumption)
theorem sF_sil {b f : Nat} {t : Nat × Nat × Nat} {k0 : Nat} : ∀ d, (∀ k, k < d → ¬ hdF R E b (f + k0 + k)) → (sF R E b f t k0).2.2 ≤ (sF R E b f t k0).2.1 → sF R E b f t (k0 + d) = ((sF R E b f t k0).1 + d, max (sF R E b f t k0).2.1 ((sF R E b f t k0).2.2 + d), (sF R E b f t k0).2.2 + d) := by
  intro d
  induction d with
  | zero =>
    intro _ h
    rw [Nat.add_zero, Nat.add_zero, Nat.add_zero, Nat.max_eq_left h]
  | succ d ih =>
    intro h1 h2
    have e := ih (fun k hk => h1 k (by omega)) h2
    have h3 := h1 d (by omega)
    rw [show k0 + (d + 1) = k0 + d + 1 by omega, sF_s, ← Nat.add_assoc, stF_n h3, e]
    refine Prod.ext ?_ (Prod.ext ?_ ?_)
    · show (sF R E b f t k0).1 + d + 1 = (sF R E b f t k0).1 + (d + 1); omega
    · show max (max (sF R E b f t k0).2.1 ((sF R E b f t k0).2.2 + d)) ((sF R E b f t k0).2.2 + d + 1) = max (sF R E b f t k0).2.1 ((sF R E b f t k0).2.2 + (d + 1)); omega
    · show (sF R E b f t k0).2.2 + d + 1 = (sF R E b f t k0).2.2 + (d + 1); omega
theorem sF_hrd {b f : Nat} {t : Nat × Nat × Nat} {k0 : Nat} : ∀ d, (∀ k, k < d + 1 → hdF R E b (f + k0 + k)) → sF R E b f t (k0 + (d + 1)) = ((sF R E b f t k0).1, (sF R E b f t k0).2.1, 0) := by
  intro d
  induction d with
  | zero =>
    intro h1
    have h3 := h1 0 (by omega)
    rw [Nat.add_zero] at h3
    show sF R E b f t (k0 + 1) = _
    rw [sF_s, stF_y h3]
  | succ d ih =>
    intro h1
    have e := ih (fun k hk => h1 k (by omega))
    have h3 := h1 (d + 1) (by omega)
    rw [show k0 + (d + 1 + 1) = k0 + (d + 1) + 1 by omega, sF_s, ← Nat.add_assoc, stF_y h3, e]
theorem st_mono (hW : WR R) : ∀ d v, v + d < R 0 4 → R 4 v ≤ R 4 (v + d) := by
  intro d
  induction d with
  | zero => intro v _; exact Nat.le_refl _
  | succ d ih =>
    intro v hv
    have h1 := ih v (by omega)
    have h2 := hW.srt (v + d) (by omega)
    rw [show v + (d + 1) = v + d + 1 by omega]
    omega
theorem kw_st (hW : WR R) {b w i j u v : Nat} (hi : (kw R E b w)[i]? = some u) (hj : (kw R E b w)[j]? = some v) (hij : i ≤ j) (hv : v < R 0 4) : R 4 u ≤ R 4 v := by
  by_cases e : u ≤ v
  · have := st_mono hW (v - u) u (by omega)
    rw [show u + (v - u) = v by omega] at this
    exact this
  · have := kw_srt hj hi (by omega)
    omega
theorem hd_kw {b f : Nat} : hdF R E b f ↔ ∃ j w : Nat, (kw R E b (R 9 (b + 1)))[j]? = some w ∧ R 4 w ≤ f ∧ f < R 5 w := by
  constructor
  · rintro ⟨w, h1, h2, h3, h4, h5⟩
    have hm : w ∈ kw R E b (R 9 (b + 1)) := kw_mem.mpr ⟨h1, h2, h3⟩
    obtain ⟨m, hm1, hm2⟩ := List.getElem_of_mem hm
    exact ⟨m, w, by rw [List.getElem?_eq_getElem hm1, hm2], h4, h5⟩
  · rintro ⟨j, w, h1, h2, h3⟩
    obtain ⟨a, b, c⟩ := kw_mem.mp (List.mem_of_getElem? h1)
    exact ⟨w, a, b, c, h2, h3⟩
theorem c_measureSilence (hW : WR R) (hE : WE R E) (hC : CR h c R) (hD : CE h E) (hp : h 3 0 = nI c) (hk : knd c = 4 ∧ (c = 83 ∨ c = 97)) (hL : CL h R E) : Wp (f_X1_measureSilence h) (fun u => u 3 13 = nI (sS R E (E 0 1)).1 ∧ u 3 14 = nI (sS R E (E 0 1)).2.1 ∧ (∀ k, ¬ k = 3 → u k = h k) ∧ (∀ j, ¬ j = 13 → ¬ j = 14 → u 3 j = h 3 j)) := by
  have h1 := hE.n
  have h2 := hW.bw
  have h3 := hW.w40
  unfold f_X1_measureSilence
  simp (disch := omega) only [li, nI_add, pk_mul, ix_n, lt_n, le_n, eq_n, sub_n, dec_n, inb_t, neg_n, neg_n', ck_true, stp_eq, bnd_some, wp_some, wp_stp, Nat.add_zero, Nat.lt_irrefl, Nat.reduceEqDiff, Nat.reduceAdd, Nat.reduceSub, Nat.reduceMul, Nat.reduceLT, Nat.reduceLeDiff, up_o, up_ss, up_sn, zb_n1, true_and, and_true, ↓reduceIte]
  refine wp_for (i := 0) (E 0 1) (fun i x => ∃ (h1 : Hp) (lo r : Nat), x = (nI r, nI i, h1) ∧ h1 3 13 = nI (sS R E i).1 ∧ h1 3 14 = nI lo ∧ (sS R E i).2 = (max lo r, r) ∧ (∀ k, ¬ k = 3 → h1 k = h k) ∧ (∀ j, ¬ j = 13 → ¬ j = 14 → h1 3 j = h 3 j)) (by omega) (by omega) ⟨_, 0, 0, rfl, by rw [up_sn (by decide), up_ss]; rfl, up_ss, rfl, fun k a => by rw [up_o a, up_o a], fun j a b => by rw [up_sn b, up_sn a]⟩ ?_
  rintro i x rc hi ⟨h1, lo, r, rfl, a1, a2, a3, a4, a5⟩ k
  have hsl := sS_le (R := R) (E := E) i
  rw [a3] at hsl
  obtain ⟨hs1, hs2, hs3⟩ := hsl
  have hs2 : max lo r ≤ fs R E i := hs2
  have hs3 : r ≤ fs R E i := hs3
  have hfl := fs_le hW hE (s := i) hi
  have e18 := a4 18 (by decide)
  have e4 := a4 4 (by decide)
  have e5 := a4 5 (by decide)
  have e7 := a4 7 (by decide)
  unfold F_X1_measureSilence_14
  by_cases hl : i < E 0 1
  · have hlt := hE.lt i hl
    have pfs := p_facts hW hE hlt
    have hbw := hW.wlt _ hlt
    have hbl := bw_le hW (b := E 2 i + 1) (by omega)
    have hln := tr_le hW hE (s := i + 1) (by omega)
    have hpl2 := hL.place (i + 1) (by omega)
    rw [tr_s, List.length_append] at hpl2 hln
    have hpp : ∀ q : Nat, q ≤ pt R E (E 2 i) → q ≤ 99999 := fun q hq => by omega
    simp (disch := omega) only [li, nI_add, pk_mul, ix_n, lt_n, le_n, eq_n, sub_n, dec_n, inb_t, neg_n, neg_n', ck_true, stp_eq, bnd_some, wp_some, wp_stp, Nat.add_zero, Nat.lt_irrefl, Nat.reduceEqDiff, Nat.reduceAdd, Nat.reduceSub, Nat.reduceMul, Nat.reduceLT, Nat.reduceLeDiff, up_o, up_ss, up_sn, zb_n1, true_and, and_true, ↓reduceIte, e18, hD.z, hl, e4, e7, hL.first, hL.place]
    refine wp_for (i := 0) (kw R E (E 2 i) (R 9 (E 2 i + 1))).length (fun m x => ∃ (h2 : Hp) (lo r u : Nat), x = (nI r, nI u, nI ((tr R E i).length + m), h2) ∧ h2 3 13 = nI (sF R E (E 2 i) (pf R E (E 2 i)) (sS R E i) (u - pf R E (E 2 i))).1 ∧ h2 3 14 = nI lo ∧ (sF R E (E 2 i) (pf R E (E 2 i)) (sS R E i) (u - pf R E (E 2 i))).2 = (max lo r, r) ∧ pf R E (E 2 i) ≤ u ∧ u ≤ pt R E (E 2 i) ∧ (u = pf R E (E 2 i) ∨ r = 0) ∧ (∀ j w, j < m → (kw R E (E 2 i) (R 9 (E 2 i + 1)))[j]? = some w → R 5 w ≤ u) ∧ (∀ k, ¬ k = 3 → h2 k = h k) ∧ (∀ j, ¬ j = 13 → ¬ j = 14 → h2 3 j = h 3 j)) (by omega) (by omega) ⟨h1, lo, r, pf R E (E 2 i), rfl, by rw [Nat.sub_self]; exact a1, a2, by rw [Nat.sub_self]; exact a3, Nat.le_refl _, by omega, Or.inl rfl, fun j w hj => absurd hj (Nat.not_lt_zero _), a4, a5⟩ ?_
    rintro m x rc2 hm ⟨h2, lo2, r2, u, rfl, b1, b2, b3, b4, b5, b6, b7, b8, b9⟩ k2
    have hsf := sF_le (R := R) (E := E) (b := E 2 i) (f := pf R E (E 2 i)) (t := sS R E i) (m := fs R E i) (by rw [a3]; exact ⟨hs1, hs2, hs3⟩) (u - pf R E (E 2 i))
    rw [b3] at hsf
    obtain ⟨c1, c2, c3⟩ := hsf
    have c2 : max lo2 r2 ≤ fs R E i + (u - pf R E (E 2 i)) := c2
    have c3 : r2 ≤ fs R E i + (u - pf R E (E 2 i)) := c3
    have g5 := b8 5 (by decide)
    have g7 := b8 7 (by decide)
    have g9 := b8 9 (by decide)
    have g0 : h2 3 0 = nI c := by rw [b9 0 (by decide) (by decide)]; exact hp
    have hCo : ∀ o j, o < 14 → h2 (c + o) j = nI (R o j) := fun o j ho => by rw [b8 (c + o) (by omega)]; exact hC.o o j ho
    unfold F_X1_measureSilence_40 J_X1_measureSilence_129
    by_cases hml : m < (kw R E (E 2 i) (R 9 (E 2 i + 1))).length
    · obtain ⟨w, hw⟩ := lget hml
      have hw0 := trA_kw hl hw
      have hw2 := trA_get hW hE hw0
      have hwm := kw_mem.mp (List.mem_of_getElem? hw)
      obtain ⟨f1, f2, f3, f4, f5, f6⟩ := w_facts hW hw2.1
      have hblk := hW.blk _ w hlt hwm.1 hwm.2.1
      have hl3 : (tr R E i).length + m < (tr R E i).length + (kw R E (E 2 i) (R 9 (E 2 i + 1))).length := by omega
      -- the pause ahead of the word
      have hsil : ∀ q, q < R 4 w - u → ¬ hdF R E (E 2 i) (pf R E (E 2 i) + (u - pf R E (E 2 i)) + q) := by
        intro q hq hh
        obtain ⟨j, v, d1, d2, d3⟩ := hd_kw.mp hh
        by_cases hj : j < m
        · have := b7 j v hj d1
          omega
        · have := kw_st hW hw d1 (by omega) (trA_get hW hE (trA_kw hl d1)).1
          omega
      have hS := sF_sil (R := R) (E := E) (b := E 2 i) (f := pf R E (E 2 i)) (t := sS R E i) (k0 := u - pf R E (E 2 i)) (R 4 w - u) hsil (by rw [b3]; show r2 ≤ max lo2 r2; omega)
      rw [b3] at hS
      have hS : sF R E (E 2 i) (pf R E (E 2 i)) (sS R E i) (u - pf R E (E 2 i) + (R 4 w - u)) = ((sF R E (E 2 i) (pf R E (E 2 i)) (sS R E i) (u - pf R E (E 2 i))).1 + (R 4 w - u), max (max lo2 r2) (r2 + (R 4 w - u)), r2 + (R 4 w - u)) := hS
      have him : imax (nI 0) (nI (R 4 w) - nI u) = nI (R 4 w - u) := by
        by_cases y : u ≤ R 4 w
        · rw [sub_n y, imax_n (by omega) (by omega), Nat.max_eq_right (by omega)]
        · have y2 : nI (R 4 w) - nI u < nI 0 := pk_sneg (by omega) (by omega)
          unfold imax
          rw [if_neg (fun z => Int32.lt_irrefl (Int32.lt_trans z y2)), show R 4 w - u = 0 by omega]
      simp (disch := omega) only [li, nI_add, pk_mul, ix_n, lt_n, le_n, eq_n, sub_n, dec_n, inb_t, neg_n, neg_n', ck_true, stp_eq, bnd_some, wp_some, wp_stp, Nat.add_zero, Nat.lt_irrefl, Nat.reduceEqDiff, Nat.reduceAdd, Nat.reduceSub, Nat.reduceMul, Nat.reduceLT, Nat.reduceLeDiff, up_o, up_ss, up_sn, zb_n1, true_and, and_true, ↓reduceIte, g7, hpl2, hl3, g9, hL.tr _ _ hw0, ckp_of g0 hk.1, hCo, him, b1, b2, imax_n]
      have hT : sF R E (E 2 i) (pf R E (E 2 i)) (sS R E i) (max u (R 5 w) - pf R E (E 2 i)) = ((sF R E (E 2 i) (pf R E (E 2 i)) (sS R E i) (u - pf R E (E 2 i))).1 + (R 4 w - u), max lo2 (r2 + (R 4 w - u)), 0) := by
        by_cases y : R 5 w ≤ u
        · have y0 : r2 = 0 := by
            rcases b6 with b6 | b6
            · omega
            · exact b6
          rw [Nat.max_eq_left y]
          refine Prod.ext ?_ (b3.trans (Prod.ext ?_ y0))
          · show _ = _ + (R 4 w - u); omega
          · show max lo2 r2 = max lo2 (r2 + (R 4 w - u)); omega
        · have hH := sF_hrd (R := R) (E := E) (b := E 2 i) (f := pf R E (E 2 i)) (t := sS R E i) (k0 := u - pf R E (E 2 i) + (R 4 w - u)) (R 5 w - max u (R 4 w) - 1) (fun q hq => ⟨w, hwm.1, hwm.2.1, hwm.2.2, by omega, by omega⟩)
          rw [show max u (R 5 w) - pf R E (E 2 i) = u - pf R E (E 2 i) + (R 4 w - u) + (R 5 w - max u (R 4 w) - 1 + 1) by omega, hH, hS]
          refine Prod.ext rfl (Prod.ext ?_ rfl)
          show max (max lo2 r2) (r2 + (R 4 w - u)) = max lo2 (r2 + (R 4 w - u))
          omega
      refine k2 _ hml ⟨_, max lo2 (r2 + (R 4 w - u)), 0, max u (R 5 w), rfl, ?_, up_ss, ?_, by omega, by omega, Or.inr rfl, ?_, fun q d1 => by rw [up_o d1, up_o d1]; exact b8 q d1, fun j d1 d2 => by rw [up_sn d2, up_sn d1]; exact b9 j d1 d2⟩
      · rw [up_sn (by decide), up_ss, hT]
      · rw [hT]
        exact Prod.ext (Nat.max_eq_left (Nat.zero_le _)).symm rfl
      · intro j v hj hv
        by_cases e : j = m
        · subst e
          rw [hw] at hv
          obtain rfl := Option.some.inj hv
          omega
        · have := b7 j v (by omega) hv
          omega
    · have hl3 : ¬ (tr R E i).length + m < (tr R E i).length + (kw R E (E 2 i) (R 9 (E 2 i + 1))).length := by omega
      have hsil : ∀ q, q < pt R E (E 2 i) - u → ¬ hdF R E (E 2 i) (pf R E (E 2 i) + (u - pf R E (E 2 i)) + q) := by
        intro q hq hh
        obtain ⟨j, v, d1, d2, d3⟩ := hd_kw.mp hh
        have hj : j < (kw R E (E 2 i) (R 9 (E 2 i + 1))).length := by
          apply Classical.byContradiction
          intro z
          rw [List.getElem?_eq_none (by omega)] at d1
          cases d1
        have := b7 j v (by omega) d1
        omega
      have hS := sF_sil (R := R) (E := E) (b := E 2 i) (f := pf R E (E 2 i)) (t := sS R E i) (k0 := u - pf R E (E 2 i)) (pt R E (E 2 i) - u) hsil (by rw [b3]; show r2 ≤ max lo2 r2; omega)
      rw [b3, show u - pf R E (E 2 i) + (pt R E (E 2 i) - u) = plE R E (E 2 i) by unfold plE; omega] at hS
      simp (disch := omega) only [li, nI_add, pk_mul, ix_n, lt_n, le_n, eq_n, sub_n, dec_n, inb_t, neg_n, neg_n', ck_true, stp_eq, bnd_some, wp_some, wp_stp, Nat.add_zero, Nat.lt_irrefl, Nat.reduceEqDiff, Nat.reduceAdd, Nat.reduceSub, Nat.reduceMul, Nat.reduceLT, Nat.reduceLeDiff, up_o, up_ss, up_sn, zb_n1, true_and, and_true, ↓reduceIte, g7, hpl2, hl3, g5, hL.behind, b1]
      refine k _ hl ⟨_, lo2, r2 + (pt R E (E 2 i) - u), rfl, ?_, ?_, ?_, fun q d1 => by rw [up_o d1]; exact b8 q d1, fun j d1 d2 => by rw [up_sn d1]; exact b9 j d1 d2⟩
      · rw [up_ss, sS_s, hS]
      · rw [up_sn (by decide)]; exact b2
      · rw [sS_s, hS]
        refine Prod.ext ?_ rfl
        show max (max lo2 r2) (r2 + (pt R E (E 2 i) - u)) = max lo2 (r2 + (pt R E (E 2 i) - u))
        omega
  · have e : i = E 0 1 := by omega
    unfold J_X1_measureSilence_163
    simp (disch := omega) only [li, nI_add, pk_mul, ix_n, lt_n, le_n, eq_n, sub_n, dec_n, inb_t, neg_n, neg_n', ck_true, stp_eq, bnd_some, wp_some, wp_stp, Nat.add_zero, Nat.lt_irrefl, Nat.reduceEqDiff, Nat.reduceAdd, Nat.reduceSub, Nat.reduceMul, Nat.reduceLT, Nat.reduceLeDiff, up_o, up_ss, up_sn, zb_n1, true_and, and_true, ↓reduceIte, e18, hD.z, hl, a2, imax_n]
    subst e
    refine ⟨?_, ?_, fun k b => ?_, fun j b1 b2 => ?_⟩
    · first | rfl | assumption | (simp (disch := omega) only [up_o, up_ss, up_sn] <;> first | rfl | assumption)
    · rw [a3]
    · rw [up_o b]; exact a4 k b
    · rw [up_sn b2]; exact a5 j b1 b2
end
