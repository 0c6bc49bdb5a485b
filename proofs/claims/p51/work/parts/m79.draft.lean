/-! a recording as it is read: R the class's numbers -/
def WD (R : Nat → Nat → Nat) : Prop :=
  (1 ≤ R 0 0) ∧
  (R 0 0 ≤ 99999) ∧
  (R 0 1 ≤ 999) ∧
  (R 0 2 ≤ 4) ∧
  (R 0 4 ≤ 40) ∧
  (R 0 10 ≤ 12) ∧
  (∀ s, s < R 0 2 → isName (R 1 s)) ∧
  (∀ w, w < R 0 4 → isName (R 2 w)) ∧
  (∀ w, w < R 0 4 → R 4 w < R 5 w ∧ R 5 w ≤ 99999 ∧ R 3 w < R 0 2) ∧
  (∀ w, w + 1 < R 0 4 → R 4 w ≤ R 4 (w + 1)) ∧
  (∀ i, i < R 0 10 → R 7 i < R 8 i ∧ R 8 i ≤ 99999) ∧
  (R 0 13 = 0)
theorem WD.len0 {R : Nat → Nat → Nat} (q : WD R) : 1 ≤ R 0 0 := q.1
theorem WD.len {R : Nat → Nat → Nat} (q : WD R) : R 0 0 ≤ 99999 := q.2.1
theorem WD.han {R : Nat → Nat → Nat} (q : WD R) : R 0 1 ≤ 999 := q.2.2.1
theorem WD.s4 {R : Nat → Nat → Nat} (q : WD R) : R 0 2 ≤ 4 := q.2.2.2.1
theorem WD.w40 {R : Nat → Nat → Nat} (q : WD R) : R 0 4 ≤ 40 := q.2.2.2.2.1
theorem WD.br {R : Nat → Nat → Nat} (q : WD R) : R 0 10 ≤ 12 := q.2.2.2.2.2.1
theorem WD.nm {R : Nat → Nat → Nat} (q : WD R) : ∀ s, s < R 0 2 → isName (R 1 s) := q.2.2.2.2.2.2.1
theorem WD.tx {R : Nat → Nat → Nat} (q : WD R) : ∀ w, w < R 0 4 → isName (R 2 w) := q.2.2.2.2.2.2.2.1
theorem WD.wd {R : Nat → Nat → Nat} (q : WD R) : ∀ w, w < R 0 4 → R 4 w < R 5 w ∧ R 5 w ≤ 99999 ∧ R 3 w < R 0 2 := q.2.2.2.2.2.2.2.2.1
theorem WD.srt {R : Nat → Nat → Nat} (q : WD R) : ∀ w, w + 1 < R 0 4 → R 4 w ≤ R 4 (w + 1) := q.2.2.2.2.2.2.2.2.2.1
theorem WD.bb {R : Nat → Nat → Nat} (q : WD R) : ∀ i, i < R 0 10 → R 7 i < R 8 i ∧ R 8 i ≤ 99999 := q.2.2.2.2.2.2.2.2.2.2.1
theorem WD.b0 {R : Nat → Nat → Nat} (q : WD R) : R 0 13 = 0 := q.2.2.2.2.2.2.2.2.2.2.2
def GD (g : Hp) (R : Nat → Nat → Nat) : Prop :=
  (g 127 0 = nI (R 0 0)) ∧
  (g 127 1 = nI (R 0 1)) ∧
  (g 127 2 = nI (R 0 2)) ∧
  (g 127 3 = nI (R 0 4)) ∧
  (g 127 4 = nI (R 0 10)) ∧
  (∀ s, s < R 0 2 → g 127 (5 + s) = nI (n27 (R 1 s))) ∧
  (∀ w, w < R 0 4 → g 127 (9 + 4 * w) = nI (R 3 w)) ∧
  (∀ w, w < R 0 4 → g 127 (9 + 4 * w + 1) = nI (n27 (R 2 w))) ∧
  (∀ w, w < R 0 4 → g 127 (9 + 4 * w + 2) = nI (R 4 w)) ∧
  (∀ w, w < R 0 4 → g 127 (9 + 4 * w + 3) = nI (R 5 w)) ∧
  (∀ i, i < R 0 10 → g 127 (169 + 2 * i) = nI (R 7 i)) ∧
  (∀ i, i < R 0 10 → g 127 (169 + 2 * i + 1) = nI (R 8 i))
theorem GD.len {g : Hp} {R : Nat → Nat → Nat} (q : GD g R) : g 127 0 = nI (R 0 0) := q.1
theorem GD.han {g : Hp} {R : Nat → Nat → Nat} (q : GD g R) : g 127 1 = nI (R 0 1) := q.2.1
theorem GD.sc {g : Hp} {R : Nat → Nat → Nat} (q : GD g R) : g 127 2 = nI (R 0 2) := q.2.2.1
theorem GD.wc {g : Hp} {R : Nat → Nat → Nat} (q : GD g R) : g 127 3 = nI (R 0 4) := q.2.2.2.1
theorem GD.brc {g : Hp} {R : Nat → Nat → Nat} (q : GD g R) : g 127 4 = nI (R 0 10) := q.2.2.2.2.1
theorem GD.nm {g : Hp} {R : Nat → Nat → Nat} (q : GD g R) : ∀ s, s < R 0 2 → g 127 (5 + s) = nI (n27 (R 1 s)) := q.2.2.2.2.2.1
theorem GD.who {g : Hp} {R : Nat → Nat → Nat} (q : GD g R) : ∀ w, w < R 0 4 → g 127 (9 + 4 * w) = nI (R 3 w) := q.2.2.2.2.2.2.1
theorem GD.txt {g : Hp} {R : Nat → Nat → Nat} (q : GD g R) : ∀ w, w < R 0 4 → g 127 (9 + 4 * w + 1) = nI (n27 (R 2 w)) := q.2.2.2.2.2.2.2.1
theorem GD.st {g : Hp} {R : Nat → Nat → Nat} (q : GD g R) : ∀ w, w < R 0 4 → g 127 (9 + 4 * w + 2) = nI (R 4 w) := q.2.2.2.2.2.2.2.2.1
theorem GD.en {g : Hp} {R : Nat → Nat → Nat} (q : GD g R) : ∀ w, w < R 0 4 → g 127 (9 + 4 * w + 3) = nI (R 5 w) := q.2.2.2.2.2.2.2.2.2.1
theorem GD.b1 {g : Hp} {R : Nat → Nat → Nat} (q : GD g R) : ∀ i, i < R 0 10 → g 127 (169 + 2 * i) = nI (R 7 i) := q.2.2.2.2.2.2.2.2.2.2.1
theorem GD.b2 {g : Hp} {R : Nat → Nat → Nat} (q : GD g R) : ∀ i, i < R 0 10 → g 127 (169 + 2 * i + 1) = nI (R 8 i) := q.2.2.2.2.2.2.2.2.2.2.2
theorem GD.fr {g g' : Hp} {R : Nat → Nat → Nat} (q : GD g R) (e : g' 127 = g 127) : GD g' R := by
  unfold GD
  rw [e]
  exact q
theorem CR.put {h : Hp} {c o j v : Nat} {R : Nat → Nat → Nat} (q : CR h c R) (ho : o < 14) : CR (up h (c + o) j (nI v)) c (setE R o j v) := by
  have key : ∀ a i, a < 14 → up h (c + o) j (nI v) (c + a) i = nI (setE R o j v a i) := by
    intro a i ha
    unfold setE
    by_cases e : a = o
    · subst e
      by_cases e2 : i = j
      · subst e2
        rw [up_ss]
        simp
      · rw [up_sn e2, q.o a i ha]
        simp [e2]
    · rw [up_o (by omega), q.o a i ha]
      simp [e]
  exact ⟨fun i => key 0 i (by decide), fun a i ha => key a i ha⟩
theorem setE_s (R : Nat → Nat → Nat) (o j v : Nat) : setE R o j v o j = v := by unfold setE; simp
theorem setE_o {R : Nat → Nat → Nat} {o j v a i : Nat} (h : ¬ a = o) : setE R o j v a i = R a i := by unfold setE; simp [h]
theorem setE_n {R : Nat → Nat → Nat} {o j v a i : Nat} (h : ¬ i = j) : setE R o j v a i = R a i := by unfold setE; simp [h]
def bef (R : Nat → Nat → Nat) (st sp w : Nat) : Prop := st < R 4 w ∨ (st = R 4 w ∧ sp < R 3 w)
def shR (R : Nat → Nat → Nat) (i n : Nat) : Nat → Nat → Nat := fun o j => if 2 ≤ o ∧ o ≤ 5 ∧ i < j ∧ j ≤ n then R o (j - 1) else R o j
def insR (R : Nat → Nat → Nat) (t tx sp st en : Nat) : Nat → Nat → Nat := setE (setE (setE (setE (setE (shR R t (R 0 4)) 2 t tx) 3 t sp) 4 t st) 5 t en) 0 4 (R 0 4 + 1)
section
variable {h g : Hp} {c : Nat} {R : Nat → Nat → Nat}
theorem c_spkN (hC : CR h c R) (hD : WD R) {a : Nat} (ha : isName a) : f_X4_speakerNamed h c (nI a) = some (oI (R 0 2) (sch (fun s => R 1 s = a) (R 0 2))) := by
  have h4 := hD.s4
  have b0 := nm_lt ha
  refine wp_eq.mp ?_
  unfold f_X4_speakerNamed
  refine wp_for (i := 0) (R 0 2) (fun i st => st = nI i ∧ ∀ s, s < i → ¬ R 1 s = a) (by omega) (by omega) ⟨rfl, fun s hs => absurd hs (Nat.not_lt_zero _)⟩ ?_
  rintro i st r hi ⟨rfl, hno⟩ k
  unfold F_X4_speakerNamed_2
  by_cases x : i < R 0 2
  · have b1 := nm_lt (hD.nm i x)
    have e1 : h (c + 1) i = nI (R 1 i) := hC.o 1 i (by omega)
    simp (disch := omega) only [li, nI_add, pk_mul, ix_n, lt_n, le_n, eq_n, sub_n, dec_n, inb_t, neg_n, neg_n', ck_true, stp_eq, bnd_some, wp_some, wp_stp, Nat.add_zero, Nat.lt_irrefl, Nat.reduceEqDiff, Nat.reduceAdd, Nat.reduceSub, Nat.reduceMul, Nat.reduceLT, Nat.reduceLeDiff, up_o, up_ss, up_sn, zb_n1, true_and, and_true, ↓reduceIte, hC.z, x, e1]
    refine wp_if (fun y => ?_) (fun y => ?_)
    · rw [wp_some, sch_u hi hno (fun _ => y), oI, if_pos x]
    · exact k _ x ⟨rfl, fun s hs => by
        by_cases e : s = i
        · subst e; exact y
        · exact hno s (by omega)⟩
  · simp (disch := omega) only [li, nI_add, pk_mul, ix_n, lt_n, le_n, eq_n, sub_n, dec_n, inb_t, neg_n, neg_n', ck_true, stp_eq, bnd_some, wp_some, wp_stp, Nat.add_zero, Nat.lt_irrefl, Nat.reduceEqDiff, Nat.reduceAdd, Nat.reduceSub, Nat.reduceMul, Nat.reduceLT, Nat.reduceLeDiff, up_o, up_ss, up_sn, zb_n1, true_and, and_true, ↓reduceIte, hC.z, x]
    rw [sch_u hi hno (fun y => absurd y x), oI, if_neg x]
theorem m_spkN (hG : GD g R) (hD : WD R) {a : Nat} (ha : isName a) : f_X11_speakerNamed g (nI (n27 a)) = some (oI (R 0 2) (sch (fun s => R 1 s = a) (R 0 2))) := by
  have h4 := hD.s4
  have b0 := n27_lt ha
  refine wp_eq.mp ?_
  unfold f_X11_speakerNamed
  refine wp_for (i := 0) (R 0 2) (fun i st => st = nI i ∧ ∀ s, s < i → ¬ R 1 s = a) (by omega) (by omega) ⟨rfl, fun s hs => absurd hs (Nat.not_lt_zero _)⟩ ?_
  rintro i st r hi ⟨rfl, hno⟩ k
  unfold F_X11_speakerNamed_2
  by_cases x : i < R 0 2
  · have b1 := n27_lt (hD.nm i x)
    simp (disch := omega) only [li, nI_add, pk_mul, ix_n, lt_n, le_n, eq_n, sub_n, dec_n, inb_t, neg_n, neg_n', ck_true, stp_eq, bnd_some, wp_some, wp_stp, Nat.add_zero, Nat.lt_irrefl, Nat.reduceEqDiff, Nat.reduceAdd, Nat.reduceSub, Nat.reduceMul, Nat.reduceLT, Nat.reduceLeDiff, up_o, up_ss, up_sn, zb_n1, true_and, and_true, ↓reduceIte, hG.sc, x, hG.nm]
    refine wp_if (fun y => ?_) (fun y => ?_)
    · rw [wp_some, sch_u hi hno (fun _ => (n27_inj (hD.nm i x) ha).mp y), oI, if_pos x]
    · exact k _ x ⟨rfl, fun s hs => by
        by_cases e : s = i
        · subst e; exact fun z => y ((n27_inj (hD.nm s x) ha).mpr z)
        · exact hno s (by omega)⟩
  · simp (disch := omega) only [li, nI_add, pk_mul, ix_n, lt_n, le_n, eq_n, sub_n, dec_n, inb_t, neg_n, neg_n', ck_true, stp_eq, bnd_some, wp_some, wp_stp, Nat.add_zero, Nat.lt_irrefl, Nat.reduceEqDiff, Nat.reduceAdd, Nat.reduceSub, Nat.reduceMul, Nat.reduceLT, Nat.reduceLeDiff, up_o, up_ss, up_sn, zb_n1, true_and, and_true, ↓reduceIte, hG.sc, x]
    rw [sch_u hi hno (fun y => absurd y x), oI, if_neg x]
def spkB (R : Nat → Nat → Nat) (sp st en : Nat) : Prop := ∃ w, w < R 0 4 ∧ R 3 w = sp ∧ R 4 w < en ∧ st < R 5 w
theorem c_speaksB (hC : CR h c R) (hD : WD R) {sp st en : Nat} (h1 : sp < 1000000) (h2 : st < 1000000) (h3 : en < 1000000) : f_X4_speaksBetween h c (nI sp) (nI st) (nI en) = some (nI (bo (spkB R sp st en))) := by
  have h4 := hD.w40
  have hs4 := hD.s4
  refine wp_eq.mp ?_
  unfold f_X4_speaksBetween
  refine wp_for (i := 0) (R 0 4) (fun i s => s = nI i ∧ ∀ w, w < i → ¬ (R 3 w = sp ∧ R 4 w < en ∧ st < R 5 w)) (by omega) (by omega) ⟨rfl, fun s hs => absurd hs (Nat.not_lt_zero _)⟩ ?_
  rintro i s r hi ⟨rfl, hno⟩ k
  unfold F_X4_speaksBetween_3
  by_cases x : i < R 0 4
  · have wd := hD.wd i x
    have e3 : h (c + 3) i = nI (R 3 i) := hC.o 3 i (by omega)
    have e4 : h (c + 4) i = nI (R 4 i) := hC.o 4 i (by omega)
    have e5 : h (c + 5) i = nI (R 5 i) := hC.o 5 i (by omega)
    have next : ¬ (R 3 i = sp ∧ R 4 i < en ∧ st < R 5 i) → Wp (J_X4_speaksBetween_47 h c (nI sp) (nI st) (nI en) r (nI i)) (fun a => a = nI (bo (spkB R sp st en))) := by
      intro hn
      unfold J_X4_speaksBetween_47
      rw [stp_eq, show nI i + 1 = nI (i + 1) from nI_add i 1]
      exact k _ x ⟨rfl, fun w hw => by
        by_cases e : w = i
        · subst e; exact hn
        · exact hno w (by omega)⟩
    simp (disch := omega) only [li, nI_add, pk_mul, ix_n, lt_n, le_n, eq_n, sub_n, dec_n, inb_t, neg_n, neg_n', ck_true, stp_eq, bnd_some, wp_some, wp_stp, Nat.add_zero, Nat.lt_irrefl, Nat.reduceEqDiff, Nat.reduceAdd, Nat.reduceSub, Nat.reduceMul, Nat.reduceLT, Nat.reduceLeDiff, up_o, up_ss, up_sn, zb_n1, true_and, and_true, ↓reduceIte, hC.z, x, e3, e4, e5]
    refine wp_if (fun y1 => ?_) (fun y1 => next (fun z => y1 z.1))
    refine wp_if (fun y2 => ?_) (fun y2 => next (fun z => y2 z.2.1))
    refine wp_if (fun y3 => ?_) (fun y3 => next (fun z => y3 z.2.2))
    rw [wp_some, bo_y ⟨i, x, y1, y2, y3⟩]
  · simp (disch := omega) only [li, nI_add, pk_mul, ix_n, lt_n, le_n, eq_n, sub_n, dec_n, inb_t, neg_n, neg_n', ck_true, stp_eq, bnd_some, wp_some, wp_stp, Nat.add_zero, Nat.lt_irrefl, Nat.reduceEqDiff, Nat.reduceAdd, Nat.reduceSub, Nat.reduceMul, Nat.reduceLT, Nat.reduceLeDiff, up_o, up_ss, up_sn, zb_n1, true_and, and_true, ↓reduceIte, hC.z, x]
    rw [bo_n (fun ⟨w, z1, z2⟩ => hno w (by omega) z2)]
theorem m_speaksB (hG : GD g R) (hD : WD R) {sp st en : Nat} (h1 : sp < 1000000) (h2 : st < 1000000) (h3 : en < 1000000) : f_X11_speaks g (nI sp) (nI st) (nI en) = some (nI (bo (spkB R sp st en))) := by
  have h4 := hD.w40
  have hs4 := hD.s4
  refine wp_eq.mp ?_
  unfold f_X11_speaks
  refine wp_for (i := 0) (R 0 4) (fun i s => s = nI i ∧ ∀ w, w < i → ¬ (R 3 w = sp ∧ R 4 w < en ∧ st < R 5 w)) (by omega) (by omega) ⟨rfl, fun s hs => absurd hs (Nat.not_lt_zero _)⟩ ?_
  rintro i s r hi ⟨rfl, hno⟩ k
  unfold F_X11_speaks_3
  by_cases x : i < R 0 4
  · have wd := hD.wd i x
    have next : ¬ (R 3 i = sp ∧ R 4 i < en ∧ st < R 5 i) → Wp (J_X11_speaks_64 g (nI sp) (nI st) (nI en) r (nI i)) (fun a => a = nI (bo (spkB R sp st en))) := by
      intro hn
      unfold J_X11_speaks_64
      rw [stp_eq, show nI i + 1 = nI (i + 1) from nI_add i 1]
      exact k _ x ⟨rfl, fun w hw => by
        by_cases e : w = i
        · subst e; exact hn
        · exact hno w (by omega)⟩
    simp (disch := omega) only [li, nI_add, pk_mul, ix_n, lt_n, le_n, eq_n, sub_n, dec_n, inb_t, neg_n, neg_n', ck_true, stp_eq, bnd_some, wp_some, wp_stp, Nat.add_zero, Nat.lt_irrefl, Nat.reduceEqDiff, Nat.reduceAdd, Nat.reduceSub, Nat.reduceMul, Nat.reduceLT, Nat.reduceLeDiff, up_o, up_ss, up_sn, zb_n1, true_and, and_true, ↓reduceIte, hG.wc, x, hG.who, hG.st, hG.en]
    refine wp_if (fun y1 => ?_) (fun y1 => next (fun z => y1 z.1))
    refine wp_if (fun y2 => ?_) (fun y2 => next (fun z => y2 z.2.1))
    refine wp_if (fun y3 => ?_) (fun y3 => next (fun z => y3 z.2.2))
    rw [wp_some, bo_y ⟨i, x, y1, y2, y3⟩]
  · simp (disch := omega) only [li, nI_add, pk_mul, ix_n, lt_n, le_n, eq_n, sub_n, dec_n, inb_t, neg_n, neg_n', ck_true, stp_eq, bnd_some, wp_some, wp_stp, Nat.add_zero, Nat.lt_irrefl, Nat.reduceEqDiff, Nat.reduceAdd, Nat.reduceSub, Nat.reduceMul, Nat.reduceLT, Nat.reduceLeDiff, up_o, up_ss, up_sn, zb_n1, true_and, and_true, ↓reduceIte, hG.wc, x]
    rw [bo_n (fun ⟨w, z1, z2⟩ => hno w (by omega) z2)]
end
