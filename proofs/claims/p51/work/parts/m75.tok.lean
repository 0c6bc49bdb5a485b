/-! the text as tokens, class side -/
def wsB (b : Int32) : Prop := b = nI 32 ∨ b = nI 9 ∨ b = nI 10
def ltB (b : Int32) : Prop := ¬ b < nI 97 ∧ ¬ nI 122 < b
def dgB (b : Int32) : Prop := ¬ b < nI 48 ∧ ¬ nI 57 < b
/-- the end of the run of X that begins at p -/
noncomputable def rn (X : Int32 → Prop) (B : Nat → Int32) (L p : Nat) : Nat := sch (fun j => p ≤ j ∧ ¬ X (B j)) L
theorem rn_u {X : Int32 → Prop} {B : Nat → Int32} {L p i : Nat} (h0 : p ≤ i) (h1 : i ≤ L) (h2 : ∀ j, p ≤ j → j < i → X (B j)) (h3 : i < L → ¬ X (B i)) : rn X B L p = i := by
  refine sch_u h1 (fun j hj y => ?_) (fun hl => ⟨h0, h3 hl⟩)
  exact y.2 (h2 j y.1 hj)
theorem rn_s (X : Int32 → Prop) (B : Nat → Int32) {L p : Nat} (hp : p ≤ L) : p ≤ rn X B L p ∧ rn X B L p ≤ L ∧ (∀ j, p ≤ j → j < rn X B L p → X (B j)) ∧ (rn X B L p < L → ¬ X (B (rn X B L p))) := by
  obtain ⟨a, b, c⟩ := sch_spec (fun j => p ≤ j ∧ ¬ X (B j)) L
  refine ⟨?_, a, fun j hj hl => ?_, fun hl => (c hl).2⟩
  · by_cases z : rn X B L p < L
    · exact (c z).1
    · have : rn X B L p ≤ L := a
      omega
  · apply Classical.byContradiction
    intro y
    exact b j hl ⟨hj, y⟩
theorem rn_0 {X : Int32 → Prop} {B : Nat → Int32} {L p : Nat} (hp : p ≤ L) (hx : p < L → ¬ X (B p)) : rn X B L p = p := rn_u (Nat.le_refl _) hp (fun j h1 h2 => by omega) hx
theorem rn_pos {X : Int32 → Prop} {B : Nat → Int32} {L p : Nat} (hp : p < L) (hx : X (B p)) : p < rn X B L p := by
  obtain ⟨a, b, c, d⟩ := rn_s X B (Nat.le_of_lt hp)
  apply Classical.byContradiction
  intro y
  have e : rn X B L p = p := by omega
  rw [e] at d
  exact d hp hx
noncomputable def tK (B : Nat → Int32) (L q : Nat) : Nat := if q < L then @ite _ (ltB (B q)) (Classical.propDecidable _) 1 (@ite _ (dgB (B q)) (Classical.propDecidable _) 2 3) else 0
noncomputable def tZ (B : Nat → Int32) (L q : Nat) : Nat := if q < L then @ite _ (ltB (B q)) (Classical.propDecidable _) (rn ltB B L q - q) (@ite _ (dgB (B q)) (Classical.propDecidable _) (rn dgB B L q - q) 1) else 0
def TS (h : Hp) (B : Nat → Int32) (L : Nat) (i : Nat) : Prop :=
  (h 1 1 = nI L) ∧
  (L ≤ 900) ∧
  (∀ j, j < L → h 2 j = B j) ∧
  (i ≤ L) ∧
  (h 1 5 = nI i) ∧
  (h 1 4 = nI (tK B L i)) ∧
  (h 1 6 = nI (tZ B L i))
theorem TS.n {h : Hp} {B : Nat → Int32} {L : Nat} {i : Nat} (q : TS h B L i) : h 1 1 = nI L := q.1
theorem TS.l {h : Hp} {B : Nat → Int32} {L : Nat} {i : Nat} (q : TS h B L i) : L ≤ 900 := q.2.1
theorem TS.b {h : Hp} {B : Nat → Int32} {L : Nat} {i : Nat} (q : TS h B L i) : ∀ j, j < L → h 2 j = B j := q.2.2.1
theorem TS.i {h : Hp} {B : Nat → Int32} {L : Nat} {i : Nat} (q : TS h B L i) : i ≤ L := q.2.2.2.1
theorem TS.s {h : Hp} {B : Nat → Int32} {L : Nat} {i : Nat} (q : TS h B L i) : h 1 5 = nI i := q.2.2.2.2.1
theorem TS.k {h : Hp} {B : Nat → Int32} {L : Nat} {i : Nat} (q : TS h B L i) : h 1 4 = nI (tK B L i) := q.2.2.2.2.2.1
theorem TS.z {h : Hp} {B : Nat → Int32} {L : Nat} {i : Nat} (q : TS h B L i) : h 1 6 = nI (tZ B L i) := q.2.2.2.2.2.2
def TFr (h h' : Hp) : Prop := (∀ k, ¬ k = 1 → h' k = h k) ∧ ∀ j, ¬ (2 ≤ j ∧ j ≤ 6) → h' 1 j = h 1 j
theorem TFr.rf (h : Hp) : TFr h h := ⟨fun _ _ => rfl, fun _ _ => rfl⟩
theorem TFr.tr {a b c : Hp} (h1 : TFr a b) (h2 : TFr b c) : TFr a c := ⟨fun k p => (h2.1 k p).trans (h1.1 k p), fun j p => (h2.2 j p).trans (h1.2 j p)⟩
theorem TFr.up (h : Hp) {j : Nat} {v : Int32} (hj : 2 ≤ j ∧ j ≤ 6) : TFr h (up h 1 j v) := ⟨fun k e => up_o e, fun i e => up_sn (fun y => by subst y; exact e hj)⟩
/-- the errors told so far, and whether a call has only moved on -/
def TAd (h h' : Hp) : Prop := TFr h h' ∧ h' 1 2 = h 1 2 ∧ h' 1 3 = h 1 3
section
variable {h g : Hp} {B : Nat → Int32} {L q p : Nat}
theorem tZ_le (hq : q ≤ L) : q + tZ B L q ≤ L := by
  unfold tZ
  obtain ⟨a1, a2, -⟩ := rn_s ltB B hq
  obtain ⟨b1, b2, -⟩ := rn_s dgB B hq
  split
  · split
    · omega
    · split <;> omega
  · omega
theorem lt_dg {b : Int32} (h : dgB b) : ¬ ltB b := by
  intro y
  have a1 : ¬ b.toInt < (nI 97).toInt := fun z => y.1 (Int32.lt_iff_toInt_lt.mpr z)
  have a2 : ¬ (nI 57).toInt < b.toInt := fun z => h.2 (Int32.lt_iff_toInt_lt.mpr z)
  rw [nI_toInt (by omega)] at a1 a2
  omega
/-- from the start of a token on -/
theorem c_tok (hn : h 1 1 = nI L) (hl : L ≤ 900) (hb : ∀ j, j < L → h 2 j = B j) (hq : q ≤ L) : Wp (J_X9_advance_57 h (nI q)) (fun u => TS u B L q ∧ TAd h u) := by
  unfold J_X9_advance_57
  have t0 : TFr h (up (up h 1 5 (nI q)) 1 4 1) := (TFr.up h (by decide)).tr (TFr.up _ (by decide))
  rw [stp_eq, stp_eq]
  have fin : ∀ (h1 : Hp) (e kd : Nat), h1 1 1 = nI L → (∀ j, j < L → h1 2 j = B j) → h1 1 5 = nI q → h1 1 4 = nI kd → TAd h h1 → kd = tK B L q → e = q + tZ B L q → Wp (J_X9_advance_188 h1 (nI e)) (fun u => TS u B L q ∧ TAd h u) := by
    intro h1 e kd e1 e2 e3 e4 e5 e6 e7
    have hz := tZ_le (B := B) hq
    unfold J_X9_advance_188
    rw [e3, stp_eq, sub_n (by omega)]
    refine wp_some.mpr ⟨⟨by rw [up_sn (by decide)]; exact e1, hl, fun j hj => by rw [up_o (by decide)]; exact e2 j hj, hq, by rw [up_sn (by decide)]; exact e3, by rw [up_sn (by decide), e4, e6], by rw [up_ss]; exact congrArg nI (by omega)⟩, e5.1.tr (TFr.up _ (by decide)), by rw [up_sn (by decide)]; exact e5.2.1, by rw [up_sn (by decide)]; exact e5.2.2⟩
  have c0 : (up (up h 1 5 (nI q)) 1 4 1) 1 1 = nI L := by rw [up_sn (by decide), up_sn (by decide)]; exact hn
  have cb : ∀ j, j < L → (up (up h 1 5 (nI q)) 1 4 1) 2 j = B j := fun j hj => by rw [up_o (by decide), up_o (by decide)]; exact hb j hj
  have c5 : (up (up h 1 5 (nI q)) 1 4 1) 1 5 = nI q := by rw [up_sn (by decide), up_ss]
  have c4 : (up (up h 1 5 (nI q)) 1 4 1) 1 4 = nI 1 := up_ss
  have ca : TAd h (up (up h 1 5 (nI q)) 1 4 1) := ⟨t0, by rw [up_sn (by decide), up_sn (by decide)], by rw [up_sn (by decide), up_sn (by decide)]⟩
  generalize (up (up h 1 5 (nI q)) 1 4 1) = h8 at *
  -- behind the letters
  have dig : ∀ e, e = rn ltB B L q → Wp (J_X9_advance_103 h8 (nI e)) (fun u => TS u B L q ∧ TAd h u) := by
    intro e he
    obtain ⟨r1, r2, r3, r4⟩ := rn_s ltB B hq
    rw [← he] at r1 r2 r3 r4
    unfold J_X9_advance_103
    by_cases z : e = q
    · have hnl : q < L → ¬ ltB (B q) := fun hl2 => by rw [z] at r4; exact r4 hl2
      rw [z, c5, if_pos rfl, stp_eq]
      have k1 : (up h8 1 4 2) 1 1 = nI L := by rw [up_sn (by decide)]; exact c0
      have kb : ∀ j, j < L → (up h8 1 4 2) 2 j = B j := fun j hj => by rw [up_o (by decide)]; exact cb j hj
      have k5 : (up h8 1 4 2) 1 5 = nI q := by rw [up_sn (by decide)]; exact c5
      have k4 : (up h8 1 4 2) 1 4 = nI 2 := up_ss
      have ka : TAd h (up h8 1 4 2) := ⟨ca.1.tr (TFr.up _ (by decide)), by rw [up_sn (by decide)]; exact ca.2.1, by rw [up_sn (by decide)]; exact ca.2.2⟩
      generalize (up h8 1 4 2) = h9 at *
      have las : ∀ e, e = rn dgB B L q → Wp (J_X9_advance_152 h9 (nI e)) (fun u => TS u B L q ∧ TAd h u) := by
        intro e he
        obtain ⟨s1, s2, s3, s4⟩ := rn_s dgB B hq
        rw [← he] at s1 s2 s3 s4
        have more : ∀ (e kd : Nat) (v : Int32), e = q → v = nI kd → kd = tK B L q → q + tZ B L q = min (q + 1) L → Wp (J_X9_advance_174 h9 (nI e) v) (fun u => TS u B L q ∧ TAd h u) := by
          intro e kd v e0 ev e1 e2
          unfold J_X9_advance_174
          have k1' : (up h9 1 4 v) 1 1 = nI L := by rw [up_sn (by decide)]; exact k1
          rw [stp_eq, k1', stp_eq, e0, show nI q + 1 = nI (q + 1) from nI_add q 1, imin_n (by omega) (by omega)]
          refine fin (up h9 1 4 v) _ kd k1' (fun j hj => by rw [up_o (by decide)]; exact kb j hj) (by rw [up_sn (by decide)]; exact k5) (by rw [up_ss, ev]) ⟨ka.1.tr (TFr.up _ (by decide)), by rw [up_sn (by decide)]; exact ka.2.1, by rw [up_sn (by decide)]; exact ka.2.2⟩ e1 e2.symm
        unfold J_X9_advance_152
        by_cases y : e = q
        · rw [if_pos (show nI e = h9 1 5 by rw [k5, y]), k1]
          have hnd : q < L → ¬ dgB (B q) := fun hl2 => by rw [y] at s4; exact s4 hl2
          by_cases x : q < L
          · rw [if_pos (show nI e < nI L from (nI_ltI (by omega) (by omega)).mpr (by omega))]
            refine more e 3 3 y rfl ?_ ?_
            · unfold tK
              rw [if_pos x, if_neg (hnl x), if_neg (hnd x)]
            · unfold tZ
              rw [if_pos x, if_neg (hnl x), if_neg (hnd x)]
              omega
          · rw [if_neg (show ¬ nI e < nI L from fun w => by have := (nI_ltI (by omega) (by omega)).mp w; omega)]
            refine more e 0 0 y rfl ?_ ?_
            · unfold tK
              rw [if_neg x]
            · unfold tZ
              rw [if_neg x]
              omega
        · rw [if_neg (show ¬ nI e = h9 1 5 by rw [k5]; exact fun w => y ((nI_eq (by omega) (by omega)).mp w))]
          have x : q < L := by omega
          have hd : dgB (B q) := s3 q (Nat.le_refl _) (by omega)
          refine fin h9 e 2 k1 kb k5 k4 ka ?_ ?_
          · unfold tK
            rw [if_pos x, if_neg (hnl x), if_pos hd]
          · unfold tZ
            rw [if_pos x, if_neg (hnl x), if_pos hd]
            omega
      refine wp_for (i := q) L (fun i st => st = nI i ∧ q ≤ i ∧ ∀ j, q ≤ j → j < i → dgB (B j)) (by omega) hq ⟨rfl, Nat.le_refl _, fun j a b => by omega⟩ ?_
      rintro i st r hi ⟨rfl, hqi, hall⟩ k
      unfold F_X9_advance_116
      by_cases x : i < L
      · have eb := kb i x
        by_cases y : B i < nI 48
        · simp (disch := omega) only [li, nI_add, pk_mul, ix_n, lt_n, le_n, eq_n, sub_n, dec_n, inb_t, neg_n, neg_n', ck_true, stp_eq, bnd_some, wp_some, wp_stp, Nat.add_zero, Nat.lt_irrefl, Nat.reduceEqDiff, Nat.reduceAdd, Nat.reduceSub, Nat.reduceMul, Nat.reduceLT, Nat.reduceLeDiff, up_o, up_ss, up_sn, zb_n1, true_and, and_true, ↓reduceIte, k1, x, eb, y]
          exact las i (rn_u hqi hi hall (fun _ w => w.1 y)).symm
        · by_cases y2 : nI 57 < B i
          · simp (disch := omega) only [li, nI_add, pk_mul, ix_n, lt_n, le_n, eq_n, sub_n, dec_n, inb_t, neg_n, neg_n', ck_true, stp_eq, bnd_some, wp_some, wp_stp, Nat.add_zero, Nat.lt_irrefl, Nat.reduceEqDiff, Nat.reduceAdd, Nat.reduceSub, Nat.reduceMul, Nat.reduceLT, Nat.reduceLeDiff, up_o, up_ss, up_sn, zb_n1, true_and, and_true, ↓reduceIte, k1, x, eb, y, y2]
            exact las i (rn_u hqi hi hall (fun _ w => w.2 y2)).symm
          · simp (disch := omega) only [li, nI_add, pk_mul, ix_n, lt_n, le_n, eq_n, sub_n, dec_n, inb_t, neg_n, neg_n', ck_true, stp_eq, bnd_some, wp_some, wp_stp, Nat.add_zero, Nat.lt_irrefl, Nat.reduceEqDiff, Nat.reduceAdd, Nat.reduceSub, Nat.reduceMul, Nat.reduceLT, Nat.reduceLeDiff, up_o, up_ss, up_sn, zb_n1, true_and, and_true, ↓reduceIte, k1, x, eb, y, y2]
            exact k _ x ⟨rfl, by omega, fun j a b => by
              by_cases e : j = i
              · subst e; exact ⟨y, y2⟩
              · exact hall j a (by omega)⟩
      · simp (disch := omega) only [li, nI_add, pk_mul, ix_n, lt_n, le_n, eq_n, sub_n, dec_n, inb_t, neg_n, neg_n', ck_true, stp_eq, bnd_some, wp_some, wp_stp, Nat.add_zero, Nat.lt_irrefl, Nat.reduceEqDiff, Nat.reduceAdd, Nat.reduceSub, Nat.reduceMul, Nat.reduceLT, Nat.reduceLeDiff, up_o, up_ss, up_sn, zb_n1, true_and, and_true, ↓reduceIte, k1, x]
        exact las i (rn_u hqi hi hall (fun w => absurd w x)).symm
    · have x : q < L := by omega
      have hlt : ltB (B q) := r3 q (Nat.le_refl _) (by omega)
      rw [if_neg (show ¬ nI e = h8 1 5 by rw [c5]; exact fun w => z ((nI_eq (by omega) (by omega)).mp w))]
      unfold J_X9_advance_152
      rw [if_neg (show ¬ nI e = h8 1 5 by rw [c5]; exact fun w => z ((nI_eq (by omega) (by omega)).mp w))]
      refine fin h8 e 1 c0 cb c5 c4 ca ?_ ?_
      · unfold tK
        rw [if_pos x, if_pos hlt]
      · unfold tZ
        rw [if_pos x, if_pos hlt]
        omega
  refine wp_for (i := q) L (fun i st => st = nI i ∧ q ≤ i ∧ ∀ j, q ≤ j → j < i → ltB (B j)) (by omega) hq ⟨rfl, Nat.le_refl _, fun j a b => by omega⟩ ?_
  rintro i st r hi ⟨rfl, hqi, hall⟩ k
  unfold F_X9_advance_67
  by_cases x : i < L
  · have eb := cb i x
    by_cases y : B i < nI 97
    · simp (disch := omega) only [li, nI_add, pk_mul, ix_n, lt_n, le_n, eq_n, sub_n, dec_n, inb_t, neg_n, neg_n', ck_true, stp_eq, bnd_some, wp_some, wp_stp, Nat.add_zero, Nat.lt_irrefl, Nat.reduceEqDiff, Nat.reduceAdd, Nat.reduceSub, Nat.reduceMul, Nat.reduceLT, Nat.reduceLeDiff, up_o, up_ss, up_sn, zb_n1, true_and, and_true, ↓reduceIte, c0, x, eb, y]
      exact dig i (rn_u hqi hi hall (fun _ w => w.1 y)).symm
    · by_cases y2 : nI 122 < B i
      · simp (disch := omega) only [li, nI_add, pk_mul, ix_n, lt_n, le_n, eq_n, sub_n, dec_n, inb_t, neg_n, neg_n', ck_true, stp_eq, bnd_some, wp_some, wp_stp, Nat.add_zero, Nat.lt_irrefl, Nat.reduceEqDiff, Nat.reduceAdd, Nat.reduceSub, Nat.reduceMul, Nat.reduceLT, Nat.reduceLeDiff, up_o, up_ss, up_sn, zb_n1, true_and, and_true, ↓reduceIte, c0, x, eb, y, y2]
        exact dig i (rn_u hqi hi hall (fun _ w => w.2 y2)).symm
      · simp (disch := omega) only [li, nI_add, pk_mul, ix_n, lt_n, le_n, eq_n, sub_n, dec_n, inb_t, neg_n, neg_n', ck_true, stp_eq, bnd_some, wp_some, wp_stp, Nat.add_zero, Nat.lt_irrefl, Nat.reduceEqDiff, Nat.reduceAdd, Nat.reduceSub, Nat.reduceMul, Nat.reduceLT, Nat.reduceLeDiff, up_o, up_ss, up_sn, zb_n1, true_and, and_true, ↓reduceIte, c0, x, eb, y, y2]
        exact k _ x ⟨rfl, by omega, fun j a b => by
          by_cases e : j = i
          · subst e; exact ⟨y, y2⟩
          · exact hall j a (by omega)⟩
  · simp (disch := omega) only [li, nI_add, pk_mul, ix_n, lt_n, le_n, eq_n, sub_n, dec_n, inb_t, neg_n, neg_n', ck_true, stp_eq, bnd_some, wp_some, wp_stp, Nat.add_zero, Nat.lt_irrefl, Nat.reduceEqDiff, Nat.reduceAdd, Nat.reduceSub, Nat.reduceMul, Nat.reduceLT, Nat.reduceLeDiff, up_o, up_ss, up_sn, zb_n1, true_and, and_true, ↓reduceIte, c0, x]
    exact dig i (rn_u hqi hi hall (fun w => absurd w x)).symm
theorem c_adv' (hn : h 1 1 = nI L) (hl : L ≤ 900) (hb : ∀ j, j < L → h 2 j = B j) (hp : p ≤ L) (h56 : h 1 5 + h 1 6 = nI p) : Wp (f_X9_advance h) (fun u => TS u B L (rn wsB B L p) ∧ TAd h u) := by
  unfold f_X9_advance
  rw [h56, stp_eq]
  refine wp_for (i := p) L (fun i st => st = nI i ∧ p ≤ i ∧ ∀ j, p ≤ j → j < i → wsB (B j)) (by omega) hp ⟨rfl, Nat.le_refl _, fun j a b => by omega⟩ ?_
  rintro i st r hi ⟨rfl, hqi, hall⟩ k
  have go : ∀ (_ : i < L → ¬ wsB (B i)), Wp (J_X9_advance_57 h (nI i)) (fun u => TS u B L (rn wsB B L p) ∧ TAd h u) := by
    intro hx
    rw [rn_u hqi hi hall hx]
    exact c_tok hn hl hb hi
  unfold F_X9_advance_10
  by_cases x : i < L
  · have eb := hb i x
    have next : wsB (B i) → Wp (J_X9_advance_51 h r (nI i)) (fun u => TS u B L (rn wsB B L p) ∧ TAd h u) := by
      intro hw
      unfold J_X9_advance_51
      rw [stp_eq, show nI i + 1 = nI (i + 1) from nI_add i 1]
      exact k _ x ⟨rfl, by omega, fun j a b => by
        by_cases e : j = i
        · subst e; exact hw
        · exact hall j a (by omega)⟩
    by_cases y : B i = nI 32
    · simp (disch := omega) only [li, nI_add, pk_mul, ix_n, lt_n, le_n, eq_n, sub_n, dec_n, inb_t, neg_n, neg_n', ck_true, stp_eq, bnd_some, wp_some, wp_stp, Nat.add_zero, Nat.lt_irrefl, Nat.reduceEqDiff, Nat.reduceAdd, Nat.reduceSub, Nat.reduceMul, Nat.reduceLT, Nat.reduceLeDiff, up_o, up_ss, up_sn, zb_n1, true_and, and_true, ↓reduceIte, hn, x, eb, y]
      exact next (Or.inl y)
    · by_cases y2 : B i = nI 9
      · have e1 : ¬ nI 9 = nI 32 := by decide
        simp (disch := omega) only [li, nI_add, pk_mul, ix_n, lt_n, le_n, eq_n, sub_n, dec_n, inb_t, neg_n, neg_n', ck_true, stp_eq, bnd_some, wp_some, wp_stp, Nat.add_zero, Nat.lt_irrefl, Nat.reduceEqDiff, Nat.reduceAdd, Nat.reduceSub, Nat.reduceMul, Nat.reduceLT, Nat.reduceLeDiff, up_o, up_ss, up_sn, zb_n1, true_and, and_true, ↓reduceIte, hn, x, eb, y2, e1]
        exact next (Or.inr (Or.inl y2))
      · by_cases y3 : B i = nI 10
        · have e1 : ¬ nI 10 = nI 32 := by decide
          have e2 : ¬ nI 10 = nI 9 := by decide
          simp (disch := omega) only [li, nI_add, pk_mul, ix_n, lt_n, le_n, eq_n, sub_n, dec_n, inb_t, neg_n, neg_n', ck_true, stp_eq, bnd_some, wp_some, wp_stp, Nat.add_zero, Nat.lt_irrefl, Nat.reduceEqDiff, Nat.reduceAdd, Nat.reduceSub, Nat.reduceMul, Nat.reduceLT, Nat.reduceLeDiff, up_o, up_ss, up_sn, zb_n1, true_and, and_true, ↓reduceIte, hn, x, eb, y3, e1, e2]
          exact next (Or.inr (Or.inr y3))
        · simp (disch := omega) only [li, nI_add, pk_mul, ix_n, lt_n, le_n, eq_n, sub_n, dec_n, inb_t, neg_n, neg_n', ck_true, stp_eq, bnd_some, wp_some, wp_stp, Nat.add_zero, Nat.lt_irrefl, Nat.reduceEqDiff, Nat.reduceAdd, Nat.reduceSub, Nat.reduceMul, Nat.reduceLT, Nat.reduceLeDiff, up_o, up_ss, up_sn, zb_n1, true_and, and_true, ↓reduceIte, hn, x, eb, y, y2, y3]
          exact go (fun _ w => by rcases w with w | w | w; exact y w; exact y2 w; exact y3 w)
  · simp (disch := omega) only [li, nI_add, pk_mul, ix_n, lt_n, le_n, eq_n, sub_n, dec_n, inb_t, neg_n, neg_n', ck_true, stp_eq, bnd_some, wp_some, wp_stp, Nat.add_zero, Nat.lt_irrefl, Nat.reduceEqDiff, Nat.reduceAdd, Nat.reduceSub, Nat.reduceMul, Nat.reduceLT, Nat.reduceLeDiff, up_o, up_ss, up_sn, zb_n1, true_and, and_true, ↓reduceIte, hn, x]
    exact go (fun w => absurd w x)
theorem c_advance (w : TS h B L q) : Wp (f_X9_advance h) (fun u => TS u B L (rn wsB B L (q + tZ B L q)) ∧ TAd h u) :=
  c_adv' w.n w.l w.b (tZ_le w.i) (by rw [w.s, w.z, nI_add])
theorem c_begin (hn : h 1 1 = nI L) (hl : L ≤ 900) (hb : ∀ j, j < L → h 2 j = B j) : Wp (f_X9_begin h) (fun u => TS u B L (rn wsB B L 0) ∧ TFr h u ∧ u 1 2 = -nI 1 ∧ u 1 3 = nI 0) := by
  unfold f_X9_begin
  rw [stp_eq, stp_eq, stp_eq, stp_eq]
  have t : TFr h (up (up (up (up h 1 2 (-1)) 1 3 0) 1 5 0) 1 6 0) := (((TFr.up h (by decide)).tr (TFr.up _ (by decide))).tr (TFr.up _ (by decide))).tr (TFr.up _ (by decide))
  refine wp_bnd_of (c_adv' (B := B) (L := L) (p := 0) ?_ hl ?_ (Nat.zero_le _) ?_) (fun u k => wp_some.mpr ⟨k.1, t.tr k.2.1, ?_, ?_⟩)
  · rw [t.2 1 (by omega)]; exact hn
  · intro j hj; rw [t.1 2 (by decide)]; exact hb j hj
  · rw [up_ss, up_sn (by decide), up_ss]; rfl
  · rw [k.2.2.1, up_sn (by decide), up_sn (by decide), up_sn (by decide), up_ss]; rfl
  · rw [k.2.2.2, up_sn (by decide), up_sn (by decide), up_ss]; rfl
end
