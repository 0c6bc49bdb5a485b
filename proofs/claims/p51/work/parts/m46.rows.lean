/-! the transcript as a row -/
def Arr (a : Nat → Int32) (l : List Nat) : Prop := ∀ p w, l[p]? = some w → a p = nI w
theorem Arr.nil (a : Nat → Int32) : Arr a [] := fun p w h => by cases h
theorem Arr.push {g : Hp} {k : Nat} {l : List Nat} {x : Nat} (h : Arr (g k) l) : Arr (up g k l.length (nI x) k) (l ++ [x]) := by
  intro p w hp
  by_cases q : p = l.length
  · subst q
    rw [List.getElem?_append_right (Nat.le_refl _), Nat.sub_self] at hp
    have e : x = w := Option.some.inj hp
    rw [up_ss, e]
  · rw [up_sn q]
    by_cases z : p < l.length
    · rw [List.getElem?_append_left z] at hp
      exact h p w hp
    · rw [List.getElem?_eq_none (by rw [List.length_append]; show l.length + 1 ≤ p; omega)] at hp
      cases hp
theorem Arr.o {a b : Nat → Int32} {l : List Nat} (h : Arr a l) (e : b = a) : Arr b l := by rw [e]; exact h
theorem lget {l : List Nat} {p : Nat} (h : p < l.length) : ∃ w, l[p]? = some w := ⟨l[p], List.getElem?_eq_getElem h⟩
theorem nodup_len : ∀ (n : Nat) (l : List Nat), l.Nodup → (∀ x ∈ l, x < n) → l.length ≤ n := by
  intro n
  induction n with
  | zero =>
    intro l _ h
    cases l with
    | nil => exact Nat.le_refl _
    | cons a t => exact absurd (h a List.mem_cons_self) (Nat.not_lt_zero _)
  | succ n ih =>
    intro l hn h
    have h1 := ih (l.erase n) (hn.erase n) (fun x hx => by
      have h2 := (List.Nodup.mem_erase_iff hn).mp hx
      have h3 := h x h2.2
      have h4 := h2.1
      omega)
    rw [List.length_erase] at h1
    split at h1 <;> omega
/-- the shots of the transcript's places -/
def so (R E : Nat → Nat → Nat) (s : Nat) : List Nat := Nat.rec (motive := fun _ => List Nat) [] (fun k r => r ++ List.replicate (kw R E (E 2 k) (R 9 (E 2 k + 1))).length k) s
theorem so_s (R E : Nat → Nat → Nat) (s : Nat) : so R E (s + 1) = so R E s ++ List.replicate (kw R E (E 2 s) (R 9 (E 2 s + 1))).length s := rfl
def soA (R E : Nat → Nat → Nat) : List Nat := so R E (E 0 1)
theorem so_len (R E : Nat → Nat → Nat) : ∀ s, (so R E s).length = (tr R E s).length := by
  intro s
  induction s with
  | zero => rfl
  | succ s ih => rw [so_s, tr_s, List.length_append, List.length_append, List.length_replicate, ih]
theorem mem_tr {R E : Nat → Nat → Nat} {w : Nat} : ∀ s, w ∈ tr R E s ↔ ∃ k, k < s ∧ R 9 (E 2 k) ≤ w ∧ w < R 9 (E 2 k + 1) ∧ E 1 w = 1 := by
  intro s
  induction s with
  | zero =>
    constructor
    · intro h
      exact absurd h List.not_mem_nil
    · rintro ⟨k, h, _⟩
      exact absurd h (Nat.not_lt_zero _)
  | succ s ih =>
    rw [tr_s, List.mem_append, ih, kw_mem]
    constructor
    · rintro (⟨k, h1, h2⟩ | h)
      · exact ⟨k, by omega, h2⟩
      · exact ⟨s, by omega, h⟩
    · rintro ⟨k, h1, h2⟩
      by_cases z : k = s
      · subst z; exact Or.inr h2
      · exact Or.inl ⟨k, by omega, h2⟩
theorem kw_nodup {R E : Nat → Nat → Nat} {b w : Nat} : (kw R E b w).Nodup := by
  unfold kw
  exact List.Pairwise.filter _ List.nodup_range'
theorem tr_nodup {R E : Nat → Nat → Nat} (hW : WR R) (hE : WE R E) : ∀ s, s ≤ E 0 1 → (tr R E s).Nodup := by
  intro s
  induction s with
  | zero => intro _; exact List.nodup_nil
  | succ s ih =>
    intro hs
    rw [tr_s, List.nodup_append]
    refine ⟨ih (by omega), kw_nodup, fun a ha b hb e => ?_⟩
    subst e
    obtain ⟨k, h1, h2, h3, h4⟩ := (mem_tr s).mp ha
    obtain ⟨h5, h6, h7⟩ := kw_mem.mp hb
    have e1 := (hW.blk _ a (hE.lt k (by omega)) h2 h3).1
    have e2 := (hW.blk _ a (hE.lt s (by omega)) h5 h6).1
    have := hE.inj k s (by omega) (by omega) (e1.symm.trans e2)
    omega
theorem tr_lt {R E : Nat → Nat → Nat} (hW : WR R) (hE : WE R E) {s : Nat} (hs : s ≤ E 0 1) {w : Nat} (h : w ∈ tr R E s) : w < R 0 4 ∧ E 1 w = 1 := by
  obtain ⟨k, h1, h2, h3, h4⟩ := (mem_tr s).mp h
  have h5 := hE.lt k (by omega)
  have h6 := bw_le hW (b := E 2 k + 1) (by omega)
  exact ⟨by omega, h4⟩
theorem tr_le {R E : Nat → Nat → Nat} (hW : WR R) (hE : WE R E) {s : Nat} (hs : s ≤ E 0 1) : (tr R E s).length ≤ R 0 4 :=
  nodup_len _ _ (tr_nodup hW hE s hs) (fun x hx => (tr_lt hW hE hs hx).1)
theorem tr_mono {R E : Nat → Nat → Nat} : ∀ d s, (tr R E s).length ≤ (tr R E (s + d)).length := by
  intro d
  induction d with
  | zero => intro s; exact Nat.le_refl _
  | succ d ih =>
    intro s
    rw [show s + (d + 1) = (s + d) + 1 by omega, tr_s, List.length_append]
    have := ih s
    omega
theorem kw_sub {R E : Nat → Nat → Nat} {b : Nat} : ∀ d w, R 9 b ≤ w → (kw R E b w).length ≤ (kw R E b (w + d)).length := by
  intro d
  induction d with
  | zero => intro w _; exact Nat.le_refl _
  | succ d ih =>
    intro w hw
    have h1 := ih w hw
    rw [show w + (d + 1) = (w + d) + 1 by omega]
    by_cases q : E 1 (w + d) = 1
    · rw [kw_y (by omega) q, List.length_append]; omega
    · rw [kw_n (by omega) q]; exact h1
def RowOK (g : Hp) (g' : Hp) (R : Nat → Nat → Nat) (E : Nat → Nat → Nat) : Prop :=
  (Arr (g' 141) (trA R E)) ∧
  (Arr (g' 142) (soA R E)) ∧
  (g' 125 36 = nI (trA R E).length) ∧
  (∀ k, ¬ k = 125 → ¬ k = 141 → ¬ k = 142 → g' k = g k) ∧
  (∀ j, ¬ j = 36 → g' 125 j = g 125 j)
theorem RowOK.row {g : Hp} {g' : Hp} {R : Nat → Nat → Nat} {E : Nat → Nat → Nat} (q : RowOK g g' R E) : Arr (g' 141) (trA R E) := q.1
theorem RowOK.sho {g : Hp} {g' : Hp} {R : Nat → Nat → Nat} {E : Nat → Nat → Nat} (q : RowOK g g' R E) : Arr (g' 142) (soA R E) := q.2.1
theorem RowOK.n {g : Hp} {g' : Hp} {R : Nat → Nat → Nat} {E : Nat → Nat → Nat} (q : RowOK g g' R E) : g' 125 36 = nI (trA R E).length := q.2.2.1
theorem RowOK.o {g : Hp} {g' : Hp} {R : Nat → Nat → Nat} {E : Nat → Nat → Nat} (q : RowOK g g' R E) : ∀ k, ¬ k = 125 → ¬ k = 141 → ¬ k = 142 → g' k = g k := q.2.2.2.1
theorem RowOK.f {g : Hp} {g' : Hp} {R : Nat → Nat → Nat} {E : Nat → Nat → Nat} (q : RowOK g g' R E) : ∀ j, ¬ j = 36 → g' 125 j = g 125 j := q.2.2.2.2
theorem RowOK.gw {g g' : Hp} {R E : Nat → Nat → Nat} (q : RowOK g g' R E) : GW g g' := by
  refine ⟨fun k h => q.o k ?_ ?_ ?_, fun j h => q.f j ?_⟩
  all_goals
    intro z
    subst z
    revert h
    decide
theorem m_laysRow {g : Hp} {R E : Nat → Nat → Nat} (hW : WR R) (hE : WE R E) (hG : GR g R) (hM : GE g E) : Wp (f_X11_laysRow g) (fun g' => RowOK g g' R E) := by
  have h40 := hW.w40
  have hb := hW.bw
  have hn := hE.n
  unfold f_X11_laysRow
  simp (disch := omega) only [li, nI_add, pk_mul, ix_n, lt_n, le_n, eq_n, sub_n, dec_n, inb_t, neg_n, neg_n', ck_true, stp_eq, bnd_some, wp_some, wp_stp, Nat.add_zero, Nat.lt_irrefl, Nat.reduceEqDiff, Nat.reduceAdd, Nat.reduceSub, Nat.reduceMul, Nat.reduceLT, Nat.reduceLeDiff, up_o, up_ss, up_sn, zb_n1, true_and, and_true, ↓reduceIte]
  refine wp_for (i := 0) (E 0 1) (fun i x => ∃ g1, x = (nI i, g1) ∧ GW g g1 ∧ Arr (g1 141) (tr R E i) ∧ Arr (g1 142) (so R E i) ∧ g1 125 36 = nI (tr R E i).length ∧ (∀ k, ¬ k = 125 → ¬ k = 141 → ¬ k = 142 → g1 k = g k) ∧ (∀ j, ¬ j = 36 → g1 125 j = g 125 j)) (by omega) (by omega) ⟨_, rfl, GW.upF g (by decide), Arr.nil _, Arr.nil _, up_ss, fun k h1 h2 h3 => up_o h1, fun j h => up_sn h⟩ ?_
  rintro i x r hi ⟨g1, rfl, w1, a1, a2, a3, a4, a5⟩ k
  have hM1 := hM.fr w1
  have hG1 := hG.fr w1
  unfold F_X11_laysRow_7
  by_cases hl : i < E 0 1
  · have hlt := hE.lt i hl
    have hbw := hW.wlt _ hlt
    have hbl := bw_le hW (b := E 2 i + 1) (by omega)
    have hbl0 := bw_le hW (b := E 2 i) (by omega)
    have hln := tr_le hW hE (s := i + 1) (by omega)
    rw [tr_s, List.length_append] at hln
    simp (disch := omega) only [li, nI_add, pk_mul, ix_n, lt_n, le_n, eq_n, sub_n, dec_n, inb_t, neg_n, neg_n', ck_true, stp_eq, bnd_some, wp_some, wp_stp, Nat.add_zero, Nat.lt_irrefl, Nat.reduceEqDiff, Nat.reduceAdd, Nat.reduceSub, Nat.reduceMul, Nat.reduceLT, Nat.reduceLeDiff, up_o, up_ss, up_sn, zb_n1, true_and, and_true, ↓reduceIte, hM1.n, hl, m_shotBlock hW hE hM1 hl, hG1.bw]
    refine wp_for (i := R 9 (E 2 i)) (R 9 (E 2 i + 1)) (fun w x => ∃ g2, x = (nI w, g2) ∧ R 9 (E 2 i) ≤ w ∧ GW g g2 ∧ Arr (g2 141) (tr R E i ++ kw R E (E 2 i) w) ∧ Arr (g2 142) (so R E i ++ List.replicate (kw R E (E 2 i) w).length i) ∧ g2 125 36 = nI ((tr R E i).length + (kw R E (E 2 i) w).length) ∧ (∀ k, ¬ k = 125 → ¬ k = 141 → ¬ k = 142 → g2 k = g k) ∧ (∀ j, ¬ j = 36 → g2 125 j = g 125 j)) (by omega) (by omega) ?_ ?_
    · refine ⟨g1, rfl, Nat.le_refl _, w1, ?_, ?_, ?_, a4, a5⟩
      · rw [kw_0, List.append_nil]; exact a1
      · rw [kw_0, List.length_nil, List.replicate_zero, List.append_nil]; exact a2
      · rw [kw_0]; exact a3
    · rintro w x r2 hw ⟨g2, rfl, hwb, w2, b1, b2, b3, b4, b5⟩ k2
      have hM2 := hM.fr w2
      have hG2 := hG.fr w2
      unfold F_X11_laysRow_31 J_X11_laysRow_84 J_X11_laysRow_90
      by_cases hwl : w < R 9 (E 2 i + 1)
      · have hk1 := hE.k1 w (by omega)
        have hsub := kw_sub (E := E) (R := R) (b := E 2 i) (R 9 (E 2 i + 1) - (w + 1)) (w + 1) (by omega)
        rw [show w + 1 + (R 9 (E 2 i + 1) - (w + 1)) = R 9 (E 2 i + 1) by omega] at hsub
        by_cases hkq : E 1 w = 1
        · have hkl : (kw R E (E 2 i) (w + 1)).length = (kw R E (E 2 i) w).length + 1 := by rw [kw_y hwb hkq, List.length_append]; rfl
          simp (disch := omega) only [li, nI_add, pk_mul, ix_n, lt_n, le_n, eq_n, sub_n, dec_n, inb_t, neg_n, neg_n', ck_true, stp_eq, bnd_some, wp_some, wp_stp, Nat.add_zero, Nat.lt_irrefl, Nat.reduceEqDiff, Nat.reduceAdd, Nat.reduceSub, Nat.reduceMul, Nat.reduceLT, Nat.reduceLeDiff, up_o, up_ss, up_sn, zb_n1, true_and, and_true, ↓reduceIte, hG2.bw, hwl, m_isKept hM2 (hE.zz (by omega)) (w := w) (by omega) hk1, hkq, b3]
          refine k2 _ hwl ⟨_, rfl, by omega, ?_, ?_, ?_, ?_, ?_, ?_⟩
          · exact ((w2.tr (GW.upO _ (by decide) (by decide))).tr (GW.upO _ (by decide) (by decide))).tr (GW.upF _ (by decide))
          · rw [up_o (by decide), up_o (by decide), kw_y hwb hkq, ← List.append_assoc]
            have z := Arr.push (x := w) b1
            rw [List.length_append] at z
            exact z
          · rw [up_o (by decide), kw_y hwb hkq, List.length_append, show [w].length = 1 from rfl, List.replicate_succ', ← List.append_assoc]
            have hb2 : Arr (up g2 141 ((tr R E i).length + (kw R E (E 2 i) w).length) (nI w) 142) (so R E i ++ List.replicate (kw R E (E 2 i) w).length i) := by rw [up_o (by decide)]; exact b2
            have z := Arr.push (x := i) hb2
            rw [List.length_append, List.length_replicate, so_len] at z
            exact z
          · rw [up_ss, hkl]
            rfl
          · intro q h1 h2 h3
            rw [up_o h1, up_o h3, up_o h2]
            exact b4 q h1 h2 h3
          · intro j hj
            rw [up_sn hj, up_o (by decide), up_o (by decide)]
            exact b5 j hj
        · have hk0 : E 1 w = 0 := by omega
          simp (disch := omega) only [li, nI_add, pk_mul, ix_n, lt_n, le_n, eq_n, sub_n, dec_n, inb_t, neg_n, neg_n', ck_true, stp_eq, bnd_some, wp_some, wp_stp, Nat.add_zero, Nat.lt_irrefl, Nat.reduceEqDiff, Nat.reduceAdd, Nat.reduceSub, Nat.reduceMul, Nat.reduceLT, Nat.reduceLeDiff, up_o, up_ss, up_sn, zb_n1, true_and, and_true, ↓reduceIte, hG2.bw, hwl, m_isKept hM2 (hE.zz (by omega)) (w := w) (by omega) hk1, hk0]
          rw [← kw_n hwb hkq] at b1 b2 b3
          exact k2 _ hwl ⟨_, rfl, by omega, w2, b1, b2, b3, b4, b5⟩
      · have e : w = R 9 (E 2 i + 1) := by omega
        simp (disch := omega) only [li, nI_add, pk_mul, ix_n, lt_n, le_n, eq_n, sub_n, dec_n, inb_t, neg_n, neg_n', ck_true, stp_eq, bnd_some, wp_some, wp_stp, Nat.add_zero, Nat.lt_irrefl, Nat.reduceEqDiff, Nat.reduceAdd, Nat.reduceSub, Nat.reduceMul, Nat.reduceLT, Nat.reduceLeDiff, up_o, up_ss, up_sn, zb_n1, true_and, and_true, ↓reduceIte, hG2.bw, hwl]
        subst e
        refine k _ hl ⟨_, rfl, w2, ?_, ?_, ?_, b4, b5⟩
        · rw [tr_s]; exact b1
        · rw [so_s]; exact b2
        · rw [tr_s, List.length_append]; exact b3
  · have e : i = E 0 1 := by omega
    simp (disch := omega) only [li, nI_add, pk_mul, ix_n, lt_n, le_n, eq_n, sub_n, dec_n, inb_t, neg_n, neg_n', ck_true, stp_eq, bnd_some, wp_some, wp_stp, Nat.add_zero, Nat.lt_irrefl, Nat.reduceEqDiff, Nat.reduceAdd, Nat.reduceSub, Nat.reduceMul, Nat.reduceLT, Nat.reduceLeDiff, up_o, up_ss, up_sn, zb_n1, true_and, and_true, ↓reduceIte, hM1.n, hl]
    subst e
    exact ⟨a1, a2, a3, a4, a5⟩
