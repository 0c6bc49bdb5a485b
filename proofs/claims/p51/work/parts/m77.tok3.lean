/-! the text as tokens, the model's side -/
def MT (g : Hp) (B : Nat → Int32) (L : Nat) (i : Nat) (b : Nat) : Prop :=
  (g 125 19 = nI L) ∧
  (L ≤ 900) ∧
  (∀ j, j < L → g 137 j = B j) ∧
  (i ≤ L) ∧
  (g 125 17 = nI i) ∧
  (g 125 18 = nI b) ∧
  (b ≤ L) ∧
  (g 125 20 = -nI 1) ∧
  (g 125 21 = nI 0)
theorem MT.n {g : Hp} {B : Nat → Int32} {L : Nat} {i : Nat} {b : Nat} (q : MT g B L i b) : g 125 19 = nI L := q.1
theorem MT.l {g : Hp} {B : Nat → Int32} {L : Nat} {i : Nat} {b : Nat} (q : MT g B L i b) : L ≤ 900 := q.2.1
theorem MT.t {g : Hp} {B : Nat → Int32} {L : Nat} {i : Nat} {b : Nat} (q : MT g B L i b) : ∀ j, j < L → g 137 j = B j := q.2.2.1
theorem MT.i {g : Hp} {B : Nat → Int32} {L : Nat} {i : Nat} {b : Nat} (q : MT g B L i b) : i ≤ L := q.2.2.2.1
theorem MT.p {g : Hp} {B : Nat → Int32} {L : Nat} {i : Nat} {b : Nat} (q : MT g B L i b) : g 125 17 = nI i := q.2.2.2.2.1
theorem MT.s {g : Hp} {B : Nat → Int32} {L : Nat} {i : Nat} {b : Nat} (q : MT g B L i b) : g 125 18 = nI b := q.2.2.2.2.2.1
theorem MT.bl {g : Hp} {B : Nat → Int32} {L : Nat} {i : Nat} {b : Nat} (q : MT g B L i b) : b ≤ L := q.2.2.2.2.2.2.1
theorem MT.f {g : Hp} {B : Nat → Int32} {L : Nat} {i : Nat} {b : Nat} (q : MT g B L i b) : g 125 20 = -nI 1 := q.2.2.2.2.2.2.2.1
theorem MT.k {g : Hp} {B : Nat → Int32} {L : Nat} {i : Nat} {b : Nat} (q : MT g B L i b) : g 125 21 = nI 0 := q.2.2.2.2.2.2.2.2
def MF (g : Hp) (B : Nat → Int32) (L : Nat) (o : Nat) (k : Nat) : Prop :=
  (g 125 19 = nI L) ∧
  (L ≤ 900) ∧
  (∀ j, j < L → g 137 j = B j) ∧
  (∃ i, i ≤ L ∧ g 125 17 = nI i) ∧
  (o ≤ L) ∧
  (g 125 20 = nI o) ∧
  (g 125 21 = nI k)
theorem MF.n {g : Hp} {B : Nat → Int32} {L : Nat} {o : Nat} {k : Nat} (q : MF g B L o k) : g 125 19 = nI L := q.1
theorem MF.l {g : Hp} {B : Nat → Int32} {L : Nat} {o : Nat} {k : Nat} (q : MF g B L o k) : L ≤ 900 := q.2.1
theorem MF.t {g : Hp} {B : Nat → Int32} {L : Nat} {o : Nat} {k : Nat} (q : MF g B L o k) : ∀ j, j < L → g 137 j = B j := q.2.2.1
theorem MF.p {g : Hp} {B : Nat → Int32} {L : Nat} {o : Nat} {k : Nat} (q : MF g B L o k) : ∃ i, i ≤ L ∧ g 125 17 = nI i := q.2.2.2.1
theorem MF.ol {g : Hp} {B : Nat → Int32} {L : Nat} {o : Nat} {k : Nat} (q : MF g B L o k) : o ≤ L := q.2.2.2.2.1
theorem MF.f {g : Hp} {B : Nat → Int32} {L : Nat} {o : Nat} {k : Nat} (q : MF g B L o k) : g 125 20 = nI o := q.2.2.2.2.2.1
theorem MF.k {g : Hp} {B : Nat → Int32} {L : Nat} {o : Nat} {k : Nat} (q : MF g B L o k) : g 125 21 = nI k := q.2.2.2.2.2.2
def MFr (g g' : Hp) : Prop := (∀ k, ¬ k = 125 → g' k = g k) ∧ ∀ j, ¬ (j = 17 ∨ j = 18 ∨ j = 20 ∨ j = 21) → g' 125 j = g 125 j
theorem MFr.rf (g : Hp) : MFr g g := ⟨fun _ _ => rfl, fun _ _ => rfl⟩
theorem MFr.tr {a b c : Hp} (h1 : MFr a b) (h2 : MFr b c) : MFr a c := ⟨fun k p => (h2.1 k p).trans (h1.1 k p), fun j p => (h2.2 j p).trans (h1.2 j p)⟩
theorem MFr.up (g : Hp) {j : Nat} {v : Int32} (hj : j = 17 ∨ j = 18 ∨ j = 20 ∨ j = 21) : MFr g (up g 125 j v) := ⟨fun k e => up_o e, fun i e => up_sn (fun y => by subst y; exact e hj)⟩
theorem le2_eq {b c : Int32} : (¬ b < c ∧ ¬ c < b) ↔ b = c := by
  constructor
  · rintro ⟨h1, h2⟩
    apply Int32.toInt_inj.mp
    have a1 : ¬ b.toInt < c.toInt := fun z => h1 (Int32.lt_iff_toInt_lt.mpr z)
    have a2 : ¬ c.toInt < b.toInt := fun z => h2 (Int32.lt_iff_toInt_lt.mpr z)
    omega
  · intro e
    subst e
    exact ⟨Int32.lt_irrefl, Int32.lt_irrefl⟩
theorem ws_at {b : Int32} : wsB b ↔ ((¬ b < nI 9 ∧ ¬ nI 10 < b) ∨ (¬ b < nI 32 ∧ ¬ nI 32 < b)) := by
  rw [le2_eq]
  unfold wsB
  constructor
  · rintro (h | h | h)
    · exact Or.inr h
    · subst h; exact Or.inl (by decide)
    · subst h; exact Or.inl (by decide)
  · rintro (⟨h1, h2⟩ | h)
    · have a1 : ¬ b.toInt < (nI 9).toInt := fun z => h1 (Int32.lt_iff_toInt_lt.mpr z)
      have a2 : ¬ (nI 10).toInt < b.toInt := fun z => h2 (Int32.lt_iff_toInt_lt.mpr z)
      rw [nI_toInt (by omega)] at a1 a2
      have : b.toInt = 9 ∨ b.toInt = 10 := by omega
      rcases this with e | e
      · exact Or.inr (Or.inl (Int32.toInt_inj.mp (by rw [e, nI_toInt (by omega)]; rfl)))
      · exact Or.inr (Or.inr (Int32.toInt_inj.mp (by rw [e, nI_toInt (by omega)]; rfl)))
    · exact Or.inl h
section
variable {h g : Hp} {B : Nat → Int32} {L q p b o k : Nat}
theorem hf0 (w : MT g B L p b) : f_X11_hasFailed g = some (nI 0) := by
  unfold f_X11_hasFailed
  rw [w.f, if_pos (show (-nI 1 : Int32) = -1 from rfl)]
  rfl
theorem hf1 (w : MF g B L o k) : f_X11_hasFailed g = some (nI 1) := by
  have := w.l
  have := w.ol
  unfold f_X11_hasFailed
  rw [w.f, if_neg (show ¬ nI o = (-1 : Int32) from ng1 (by omega))]
  rfl
theorem m_at (hn : g 125 19 = nI L) (hl : L ≤ 900) (ht : ∀ j, j < L → g 137 j = B j) (hi : p ≤ L) (hp : g 125 17 = nI p) (c1 c2 : Int32) : f_X11_isAt g c1 c2 = some (nI (bo (p < L ∧ ¬ B p < c1 ∧ ¬ c2 < B p))) := by
  unfold f_X11_isAt
  rw [hp, hn]
  by_cases x : p < L
  · rw [if_pos ((nI_ltI (by omega) (by omega)).mpr x), inb_t (by omega) (by omega), ck_true, ix_n (by omega), ht p x]
    by_cases y1 : B p < c1
    · rw [if_pos y1, bo_n (fun z => z.2.1 y1)]; rfl
    · rw [if_neg y1, ck_true]
      by_cases y2 : c2 < B p
      · rw [if_pos y2, bo_n (fun z => z.2.2 y2)]; rfl
      · rw [if_neg y2, bo_y ⟨x, y1, y2⟩]; rfl
  · rw [if_neg (fun y => x ((nI_ltI (by omega) (by omega)).mp y)), bo_n (fun z => x z.1)]; rfl
theorem MT.at (w : MT g B L p b) (c1 c2 : Int32) : f_X11_isAt g c1 c2 = some (nI (bo (p < L ∧ ¬ B p < c1 ∧ ¬ c2 < B p))) := m_at w.n w.l w.t w.i w.p c1 c2
theorem MF.at (w : MF g B L o k) (c1 c2 : Int32) : ∃ v, v ≤ 1 ∧ f_X11_isAt g c1 c2 = some (nI v) := by
  obtain ⟨i, h1, h2⟩ := w.p
  exact ⟨_, bo_1 _, m_at w.n w.l w.t h1 h2 c1 c2⟩
theorem MT.pt (w : MT g B L p b) (hi : q ≤ L) : MT (up g 125 17 (nI q)) B L q b := ⟨by rw [up_sn (by decide)]; exact w.n, w.l, fun j hj => by rw [up_o (by decide)]; exact w.t j hj, hi, up_ss, by rw [up_sn (by decide)]; exact w.s, w.bl, by rw [up_sn (by decide)]; exact w.f, by rw [up_sn (by decide)]; exact w.k⟩
theorem MT.bg (w : MT g B L p b) (hi : q ≤ L) : MT (up g 125 18 (nI q)) B L p q := ⟨by rw [up_sn (by decide)]; exact w.n, w.l, fun j hj => by rw [up_o (by decide)]; exact w.t j hj, w.i, by rw [up_sn (by decide)]; exact w.p, up_ss, hi, by rw [up_sn (by decide)]; exact w.f, by rw [up_sn (by decide)]; exact w.k⟩
theorem bl1 (w : MF g B L o k) : f_X11_blanks g = some g := by
  unfold f_X11_blanks
  rw [hf1 w, bnd_some, if_neg (show ¬ (nI 1 : Int32) = 0 by decide)]
theorem bl0 (w : MT g B L p b) : Wp (f_X11_blanks g) (fun u => MT u B L (rn wsB B L p) (rn wsB B L p) ∧ MFr g u) := by
  have hl := w.l
  unfold f_X11_blanks
  rw [hf0 w, bnd_some, if_pos (show (nI 0 : Int32) = 0 from rfl)]
  refine wp_for (i := p) L (fun i st => MT st B L i b ∧ MFr g st ∧ p ≤ i ∧ ∀ j, p ≤ j → j < i → wsB (B j)) (by omega) w.i ⟨w, MFr.rf g, Nat.le_refl _, fun j h1 h2 => by omega⟩ ?_
  rintro i g1 r hi ⟨w1, f1, hpi, hall⟩ k
  have next : i < L → wsB (B i) → Wp (J_X11_blanks_30 g1 r) (fun u => MT u B L (rn wsB B L p) (rn wsB B L p) ∧ MFr g u) := by
    intro x hx
    unfold J_X11_blanks_30
    rw [w1.p, stp_eq, show nI i + 1 = nI (i + 1) from nI_add i 1]
    exact k _ x ⟨w1.pt (by omega), f1.tr (MFr.up _ (by omega)), by omega, fun j h1 h2 => by
      by_cases e : j = i
      · subst e; exact hx
      · exact hall j h1 (by omega)⟩
  unfold F_X11_blanks_8
  rw [show f_X11_isAt g1 9 10 = _ from w1.at (nI 9) (nI 10), bnd_some]
  by_cases y1 : i < L ∧ ¬ B i < nI 9 ∧ ¬ nI 10 < B i
  · rw [bo_y y1, if_neg (show ¬ (nI 1 : Int32) = 0 by decide)]
    exact next y1.1 (ws_at.mpr (Or.inl y1.2))
  · rw [bo_n y1, if_pos (show (nI 0 : Int32) = 0 from rfl), show f_X11_isAt g1 32 32 = _ from w1.at (nI 32) (nI 32), bnd_some]
    by_cases y2 : i < L ∧ ¬ B i < nI 32 ∧ ¬ nI 32 < B i
    · rw [bo_y y2, if_neg (show ¬ (nI 1 : Int32) = 0 by decide)]
      exact next y2.1 (ws_at.mpr (Or.inr y2.2))
    · rw [bo_n y2, if_pos (show (nI 0 : Int32) = 0 from rfl)]
      have e : rn wsB B L p = i := rn_u hpi hi hall (fun x hx => by
        rcases ws_at.mp hx with z | z
        · exact y1 ⟨x, z⟩
        · exact y2 ⟨x, z⟩)
      unfold J_X11_blanks_43
      rw [w1.p, stp_eq, e]
      exact wp_some.mpr ⟨w1.bg hi, f1.tr (MFr.up _ (by omega))⟩
theorem mu1 (w : MF g B L o k) (x : Nat) (hx : x ≤ 1) (y : Int32) : f_X11_must g (nI x) y = some g := by
  unfold f_X11_must
  rcases Nat.le_one_iff_eq_zero_or_eq_one.mp hx with rfl | rfl
  · rw [if_pos (show (nI 0 : Int32) = 0 from rfl), hf1 w, bnd_some, if_neg (show ¬ (nI 1 : Int32) = 0 by decide)]
  · rw [if_neg (show ¬ (nI 1 : Int32) = 0 by decide)]
theorem mu_ok (y : Int32) : f_X11_must g (nI 1) y = some g := by
  unfold f_X11_must
  rw [if_neg (show ¬ (nI 1 : Int32) = 0 by decide)]
theorem mu_no (w : MT g B L p b) (x : Nat) : ∃ g', f_X11_must g (nI 0) (nI x) = some g' ∧ MF g' B L b x ∧ MFr g g' := by
  refine ⟨up (up g 125 20 (nI b)) 125 21 (nI x), ?_, ⟨?_, w.l, fun j hj => ?_, ⟨p, w.i, ?_⟩, w.bl, ?_, up_ss⟩, (MFr.up g (by omega)).tr (MFr.up _ (by omega))⟩
  · unfold f_X11_must
    rw [if_pos (show (nI 0 : Int32) = 0 from rfl), hf0 w, bnd_some, if_pos (show (nI 0 : Int32) = 0 from rfl), stp_eq, stp_eq, w.s]
  · rw [up_sn (by decide), up_sn (by decide)]; exact w.n
  · rw [up_o (by decide), up_o (by decide)]; exact w.t j hj
  · rw [up_sn (by decide), up_sn (by decide)]; exact w.p
  · rw [up_sn (by decide), up_ss]
theorem le_run (hn : g 125 19 = nI L) (hl : L ≤ 900) (ht : ∀ j, j < L → g 137 j = B j) (hi : p ≤ L) (hp : g 125 17 = nI p) : Lp (F_X11_letters_9 g) FU (nI p) = some (nI (lz B L p), g) := by
  refine wp_eq.mp (wp_for (i := p) L (fun i st => st = nI i ∧ p ≤ i ∧ ∀ j, p ≤ j → j < i → ltB (B j)) (by omega) hi ⟨rfl, Nat.le_refl _, fun j a b => by omega⟩ ?_)
  rintro i st r hi2 ⟨rfl, hpi, hall⟩ k
  have out : (i < L → ¬ ltB (B i)) → (nI (i - p), g) = (nI (lz B L p), g) := by
    intro hx
    unfold lz
    rw [rn_u hpi hi2 hall hx]
  unfold F_X11_letters_9
  by_cases x : i < L
  · have eb := ht i x
    by_cases y1 : B i < nI 97
    · simp (disch := omega) only [li, nI_add, pk_mul, ix_n, lt_n, le_n, eq_n, sub_n, dec_n, inb_t, neg_n, neg_n', ck_true, stp_eq, bnd_some, wp_some, wp_stp, Nat.add_zero, Nat.lt_irrefl, Nat.reduceEqDiff, Nat.reduceAdd, Nat.reduceSub, Nat.reduceMul, Nat.reduceLT, Nat.reduceLeDiff, up_o, up_ss, up_sn, zb_n1, true_and, and_true, ↓reduceIte, hn, x, eb, y1, hp]
      exact out (fun _ z => z.1 y1)
    · by_cases y2 : nI 122 < B i
      · simp (disch := omega) only [li, nI_add, pk_mul, ix_n, lt_n, le_n, eq_n, sub_n, dec_n, inb_t, neg_n, neg_n', ck_true, stp_eq, bnd_some, wp_some, wp_stp, Nat.add_zero, Nat.lt_irrefl, Nat.reduceEqDiff, Nat.reduceAdd, Nat.reduceSub, Nat.reduceMul, Nat.reduceLT, Nat.reduceLeDiff, up_o, up_ss, up_sn, zb_n1, true_and, and_true, ↓reduceIte, hn, x, eb, y1, y2, hp]
        exact out (fun _ z => z.2 y2)
      · simp (disch := omega) only [li, nI_add, pk_mul, ix_n, lt_n, le_n, eq_n, sub_n, dec_n, inb_t, neg_n, neg_n', ck_true, stp_eq, bnd_some, wp_some, wp_stp, Nat.add_zero, Nat.lt_irrefl, Nat.reduceEqDiff, Nat.reduceAdd, Nat.reduceSub, Nat.reduceMul, Nat.reduceLT, Nat.reduceLeDiff, up_o, up_ss, up_sn, zb_n1, true_and, and_true, ↓reduceIte, hn, x, eb, y1, y2, hp]
        exact k _ x ⟨rfl, by omega, fun j a b => by
          by_cases e : j = i
          · subst e; exact ⟨y1, y2⟩
          · exact hall j a (by omega)⟩
  · simp (disch := omega) only [li, nI_add, pk_mul, ix_n, lt_n, le_n, eq_n, sub_n, dec_n, inb_t, neg_n, neg_n', ck_true, stp_eq, bnd_some, wp_some, wp_stp, Nat.add_zero, Nat.lt_irrefl, Nat.reduceEqDiff, Nat.reduceAdd, Nat.reduceSub, Nat.reduceMul, Nat.reduceLT, Nat.reduceLeDiff, up_o, up_ss, up_sn, zb_n1, true_and, and_true, ↓reduceIte, hn, x, hp]
    exact out (fun z => absurd z x)
theorem le0 (w : MT g B L p b) (hq : rn wsB B L p = q) : Wp (f_X11_letters g) (fun u => u.1 = nI (lz B L q) ∧ MT u.2 B L q q ∧ MFr g u.2) := by
  unfold f_X11_letters
  refine wp_bnd_of (bl0 w) (fun g1 k1 => ?_)
  obtain ⟨w1, f1⟩ := k1
  rw [hq] at w1
  rw [w1.p, stp_eq, le_run w1.n w1.l w1.t w1.i w1.p]
  exact wp_some.mpr ⟨rfl, w1, f1⟩
theorem le1 (w : MF g B L o k) : ∃ v, v ≤ 900 ∧ f_X11_letters g = some (nI v, g) := by
  obtain ⟨i, h1, h2⟩ := w.p
  have hl := w.l
  refine ⟨lz B L i, by have := (lz_f (B := B) h1).1; omega, ?_⟩
  unfold f_X11_letters
  rw [bl1 w, bnd_some, h2, stp_eq, le_run w.n w.l w.t h1 h2]
theorem iw_run (w : MT g B L p b) {t : Nat} (h0 : 0 < tl t) (h9 : tl t ≤ 9) (hz : lz B L p = tl t) : Lp (F_X11_isWord_26 t g) FU (nI 1, nI 0) = some (nI (bo (isK B L p t)), g) := by
  obtain ⟨b1, b2⟩ := lz_f (B := B) w.i
  have hl := w.l
  refine wp_eq.mp (wp_for (i := 0) (tl t + 1) (fun i st => (st = (nI 1, nI i) ∧ i ≤ tl t ∧ ∀ j, j < i → B (p + j) = tb t j) ∨ (∃ v, st = (nI 0, v) ∧ ¬ isK B L p t)) (by omega) (by omega) (Or.inl ⟨rfl, by omega, fun j hj => absurd hj (Nat.not_lt_zero _)⟩) ?_)
  rintro i st r hi hst k
  unfold F_X11_isWord_26
  rcases hst with ⟨rfl, hle, hall⟩ | ⟨v, rfl, hnot⟩
  · by_cases x : i < tl t
    · have eb := w.t (p + i) (by omega)
      simp (disch := omega) only [li, nI_add, pk_mul, ix_n, lt_n, le_n, eq_n, sub_n, dec_n, inb_t, neg_n, neg_n', ck_true, stp_eq, bnd_some, wp_some, wp_stp, Nat.add_zero, Nat.lt_irrefl, Nat.reduceEqDiff, Nat.reduceAdd, Nat.reduceSub, Nat.reduceMul, Nat.reduceLT, Nat.reduceLeDiff, up_o, up_ss, up_sn, zb_n1, true_and, and_true, ↓reduceIte, x, w.p, eb]
      refine wp_if (fun y => ?_) (fun y => ?_)
      · unfold J_X11_isWord_62
        simp (disch := omega) only [li, nI_add, pk_mul, ix_n, lt_n, le_n, eq_n, sub_n, dec_n, inb_t, neg_n, neg_n', ck_true, stp_eq, bnd_some, wp_some, wp_stp, Nat.add_zero, Nat.lt_irrefl, Nat.reduceEqDiff, Nat.reduceAdd, Nat.reduceSub, Nat.reduceMul, Nat.reduceLT, Nat.reduceLeDiff, up_o, up_ss, up_sn, zb_n1, true_and, and_true, ↓reduceIte]
        exact k _ (by omega) (Or.inl ⟨rfl, by omega, fun j hj => by
          by_cases e : j = i
          · subst e; exact y
          · exact hall j (by omega)⟩)
      · unfold J_X11_isWord_62
        simp (disch := omega) only [li, nI_add, pk_mul, ix_n, lt_n, le_n, eq_n, sub_n, dec_n, inb_t, neg_n, neg_n', ck_true, stp_eq, bnd_some, wp_some, wp_stp, Nat.add_zero, Nat.lt_irrefl, Nat.reduceEqDiff, Nat.reduceAdd, Nat.reduceSub, Nat.reduceMul, Nat.reduceLT, Nat.reduceLeDiff, up_o, up_ss, up_sn, zb_n1, true_and, and_true, ↓reduceIte]
        exact k _ (by omega) (Or.inr ⟨_, rfl, fun z => y (z.2 i x)⟩)
    · have e : i = tl t := by omega
      subst e
      simp (disch := omega) only [li, nI_add, pk_mul, ix_n, lt_n, le_n, eq_n, sub_n, dec_n, inb_t, neg_n, neg_n', ck_true, stp_eq, bnd_some, wp_some, wp_stp, Nat.add_zero, Nat.lt_irrefl, Nat.reduceEqDiff, Nat.reduceAdd, Nat.reduceSub, Nat.reduceMul, Nat.reduceLT, Nat.reduceLeDiff, up_o, up_ss, up_sn, zb_n1, true_and, and_true, ↓reduceIte]
      rw [bo_y ⟨hz, hall⟩]
  · simp (disch := omega) only [li, nI_add, pk_mul, ix_n, lt_n, le_n, eq_n, sub_n, dec_n, inb_t, neg_n, neg_n', ck_true, stp_eq, bnd_some, wp_some, wp_stp, Nat.add_zero, Nat.lt_irrefl, Nat.reduceEqDiff, Nat.reduceAdd, Nat.reduceSub, Nat.reduceMul, Nat.reduceLT, Nat.reduceLeDiff, up_o, up_ss, up_sn, zb_n1, true_and, and_true, ↓reduceIte]
    rw [bo_n hnot]
theorem iw1 (w : MF g B L o k) (t : Nat) : f_X11_isWord g t = some (nI 0, g) := by
  unfold f_X11_isWord
  rw [hf1 w, bnd_some, if_neg (show ¬ (nI 1 : Int32) = 0 by decide)]
  unfold J_X11_isWord_22 J_X11_isWord_23
  show F_X11_isWord_26 t g _ (nI 0, nI 0) = _
  unfold F_X11_isWord_26
  show (if (nI 0 : Int32) = 0 then ck (zb (nI 0)) (some (nI 0, g)) else _) = _
  rw [if_pos (show (nI 0 : Int32) = 0 from rfl), zb_n1 (by omega), ck_true]
theorem iw0 (w : MT g B L p b) (hq : rn wsB B L p = q) {t : Nat} (h0 : 0 < tl t) (h9 : tl t ≤ 9) : Wp (f_X11_isWord g t) (fun u => u.1 = nI (bo (isK B L q t)) ∧ MT u.2 B L q q ∧ MFr g u.2) := by
  have hl := w.l
  unfold f_X11_isWord
  rw [hf0 w, bnd_some, if_pos (show (nI 0 : Int32) = 0 from rfl)]
  refine wp_bnd_of (le0 w hq) (fun u k1 => ?_)
  obtain ⟨e1, w1, f1⟩ := k1
  obtain ⟨b1, b2⟩ := lz_f (B := B) w1.i
  rw [e1]
  by_cases z : lz B L q = tl t
  · rw [if_pos (congrArg nI z)]
    unfold J_X11_isWord_23
    rw [show (0 : Int32) = nI 0 from rfl, show (1 : Int32) = nI 1 from rfl, iw_run w1 h0 h9 z]
    exact wp_some.mpr ⟨rfl, w1, f1⟩
  · rw [if_neg (show ¬ nI (lz B L q) = nI (tl t) from fun y => z ((nI_eq (by omega) (by omega)).mp y))]
    unfold J_X11_isWord_22 J_X11_isWord_23
    show Wp (F_X11_isWord_26 t u.2 _ (nI 0, nI 0)) _
    unfold F_X11_isWord_26
    show Wp (if (nI 0 : Int32) = 0 then ck (zb (nI 0)) (some (nI 0, u.2)) else _) _
    rw [if_pos (show (nI 0 : Int32) = 0 from rfl), zb_n1 (by omega), ck_true, bo_n (fun y => z y.1)]
    exact wp_some.mpr ⟨rfl, w1, f1⟩
theorem ta1 (w : MF g B L o k) (t : Nat) : f_X11_takes g t = some (nI 0, g) := by
  unfold f_X11_takes
  rw [iw1 w, bnd_some]
  show (if (nI 0 : Int32) = 0 then ck (zb (nI 0)) (some (nI 0, g)) else _) = _
  rw [if_pos (show (nI 0 : Int32) = 0 from rfl), zb_n1 (by omega), ck_true]
theorem ta0 (w : MT g B L p b) (hq : rn wsB B L p = q) {t : Nat} (h0 : 0 < tl t) (h9 : tl t ≤ 9) : Wp (f_X11_takes g t) (fun u => MFr g u.2 ∧ ((isK B L q t ∧ u.1 = nI 1 ∧ MT u.2 B L (q + tl t) q) ∨ (¬ isK B L q t ∧ u.1 = nI 0 ∧ MT u.2 B L q q))) := by
  have hl := w.l
  unfold f_X11_takes
  refine wp_bnd_of (iw0 w hq h0 h9) (fun u k1 => ?_)
  obtain ⟨e1, w1, f1⟩ := k1
  obtain ⟨b1, b2⟩ := lz_f (B := B) w1.i
  rw [e1]
  by_cases z : isK B L q t
  · rw [bo_y z, if_neg (show ¬ (nI 1 : Int32) = 0 by decide), w1.p, stp_eq, nI_add, zb_n1 (by omega), ck_true]
    have := z.1
    exact wp_some.mpr ⟨f1.tr (MFr.up _ (by omega)), Or.inl ⟨z, rfl, w1.pt (by omega)⟩⟩
  · rw [bo_n z, if_pos (show (nI 0 : Int32) = 0 from rfl), zb_n1 (by omega), ck_true]
    exact wp_some.mpr ⟨f1, Or.inr ⟨z, rfl, w1⟩⟩
theorem ts1 (w : MF g B L o k) (c : Int32) : f_X11_takesSign g c = some (nI 0, g) := by
  unfold f_X11_takesSign
  rw [bl1 w, bnd_some, hf1 w, bnd_some, if_neg (show ¬ (nI 1 : Int32) = 0 by decide)]
  unfold J_X11_takesSign_24 J_X11_takesSign_25
  rw [if_pos (show (0 : Int32) = 0 from rfl), show (0 : Int32) = nI 0 from rfl, zb_n1 (by omega), ck_true]
theorem ts0 (w : MT g B L p b) (hq : rn wsB B L p = q) (c : Int32) : Wp (f_X11_takesSign g c) (fun u => MFr g u.2 ∧ ((isS B L q c ∧ u.1 = nI 1 ∧ MT u.2 B L (q + 1) q) ∨ (¬ isS B L q c ∧ u.1 = nI 0 ∧ MT u.2 B L q q))) := by
  have hl := w.l
  unfold f_X11_takesSign
  refine wp_bnd_of (bl0 w) (fun g1 k1 => ?_)
  obtain ⟨w1, f1⟩ := k1
  rw [hq] at w1
  rw [hf0 w1, bnd_some, if_pos (show (nI 0 : Int32) = 0 from rfl), w1.at, bnd_some]
  have hs : (q < L ∧ ¬ B q < c ∧ ¬ c < B q) ↔ isS B L q c := ⟨fun y => ⟨y.1, le2_eq.mp y.2⟩, fun y => ⟨y.1, le2_eq.mpr y.2⟩⟩
  by_cases z : isS B L q c
  · rw [bo_y (hs.mpr z), if_neg (show ¬ (nI 1 : Int32) = 0 by decide)]
    unfold J_X11_takesSign_25
    rw [if_neg (show ¬ (1 : Int32) = 0 by decide), w1.p, stp_eq, show nI q + 1 = nI (q + 1) from nI_add q 1, show (1 : Int32) = nI 1 from rfl, zb_n1 (by omega), ck_true]
    exact wp_some.mpr ⟨f1.tr (MFr.up _ (by omega)), Or.inl ⟨z, rfl, w1.pt z.1⟩⟩
  · rw [bo_n (fun y => z (hs.mp y)), if_pos (show (nI 0 : Int32) = 0 from rfl)]
    unfold J_X11_takesSign_24 J_X11_takesSign_25
    rw [if_pos (show (0 : Int32) = 0 from rfl), show (0 : Int32) = nI 0 from rfl, zb_n1 (by omega), ck_true]
    exact wp_some.mpr ⟨f1, Or.inr ⟨z, rfl, w1⟩⟩
theorem ne1 (w : MF g B L o k) (c : Int32) : f_X11_needs g c = some g := by
  unfold f_X11_needs
  rw [ts1 w, bnd_some]
  show bnd (f_X11_must g (nI 0) 1) _ = _
  rw [mu1 w 0 (by omega), bnd_some]
theorem ne0 (w : MT g B L p b) (hq : rn wsB B L p = q) (c : Int32) : Wp (f_X11_needs g c) (fun u => MFr g u ∧ ((isS B L q c ∧ MT u B L (q + 1) q) ∨ (¬ isS B L q c ∧ MF u B L q 1))) := by
  unfold f_X11_needs
  refine wp_bnd_of (ts0 w hq c) (fun u k1 => ?_)
  obtain ⟨f1, ⟨z, e1, w1⟩ | ⟨z, e1, w1⟩⟩ := k1
  · rw [e1, mu_ok, bnd_some]
    exact wp_some.mpr ⟨f1, Or.inl ⟨z, w1⟩⟩
  · obtain ⟨g2, e2, w2, f2⟩ := mu_no w1 1
    rw [e1, show f_X11_must u.2 (nI 0) 1 = _ from e2, bnd_some]
    exact wp_some.mpr ⟨f1.tr f2, Or.inr ⟨z, w2⟩⟩
end
