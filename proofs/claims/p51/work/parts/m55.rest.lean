/-! words are restored, on both sides -/
/-- behind which shot a block comes in: one more than the number of the shot with the greatest block below b -/
def insN (E : Nat → Nat → Nat) (b s : Nat) : Nat := Nat.rec (motive := fun _ => Nat) 0 (fun k p => if E 2 k < b ∧ (p = 0 ∨ E 2 (p - 1) < E 2 k) then k + 1 else p) s
theorem insN_s (E : Nat → Nat → Nat) (b s : Nat) : insN E b (s + 1) = if E 2 s < b ∧ (insN E b s = 0 ∨ E 2 (insN E b s - 1) < E 2 s) then s + 1 else insN E b s := rfl
theorem insN_y {E : Nat → Nat → Nat} {b s : Nat} (q : E 2 s < b ∧ (insN E b s = 0 ∨ E 2 (insN E b s - 1) < E 2 s)) : insN E b (s + 1) = s + 1 := if_pos q
theorem insN_n {E : Nat → Nat → Nat} {b s : Nat} (q : ¬ (E 2 s < b ∧ (insN E b s = 0 ∨ E 2 (insN E b s - 1) < E 2 s))) : insN E b (s + 1) = insN E b s := if_neg q
theorem insN_le (E : Nat → Nat → Nat) (b : Nat) : ∀ s, insN E b s ≤ s := by
  intro s
  induction s with
  | zero => exact Nat.le_refl _
  | succ s ih => rw [insN_s]; split <;> omega
theorem insN_lt {R E : Nat → Nat → Nat} (hE : WE R E) (b : Nat) {s : Nat} (hs : s ≤ E 0 1) : insN E b s = 0 ∨ (insN E b s - 1 < s ∧ E 2 (insN E b s - 1) < b) := by
  induction s with
  | zero => exact Or.inl rfl
  | succ s ih =>
    rw [insN_s]
    by_cases q : E 2 s < b ∧ (insN E b s = 0 ∨ E 2 (insN E b s - 1) < E 2 s)
    · rw [if_pos q]
      right
      rw [Nat.add_sub_cancel]
      exact ⟨by omega, q.1⟩
    · rw [if_neg q]
      rcases ih (by omega) with z | z
      · exact Or.inl z
      · exact Or.inr ⟨by omega, z.2⟩
noncomputable def resE (R E : Nat → Nat → Nat) (w : Nat) : Nat → Nat → Nat := @ite _ (∃ s, s < E 0 1 ∧ E 2 s = R 6 w) (Classical.propDecidable _) (setE E 1 w 1) (setE (setE (putE (setE E 1 w 1) (insN E (R 6 w) (E 0 1)) (R 6 w)) 3 (R 6 w) 0) 4 (R 6 w) 0)
noncomputable def rA (R E : Nat → Nat → Nat) (a i : Nat) : (Nat → Nat → Nat) × Nat := Nat.rec (motive := fun _ => (Nat → Nat → Nat) × Nat) (E, 0) (fun k t => if t.1 1 (a + k) = 1 then t else (resE R t.1 (a + k), t.2 + 1)) i
theorem rA_s (R E : Nat → Nat → Nat) (a i : Nat) : rA R E a (i + 1) = if (rA R E a i).1 1 (a + i) = 1 then rA R E a i else (resE R (rA R E a i).1 (a + i), (rA R E a i).2 + 1) := rfl
theorem rA_c (R E : Nat → Nat → Nat) (a : Nat) : ∀ i, (rA R E a i).2 ≤ i := by
  intro i
  induction i with
  | zero => exact Nat.le_refl _
  | succ i ih =>
    rw [rA_s]
    split
    · omega
    · show (rA R E a i).2 + 1 ≤ _; omega
section
variable {h g : Hp} {c : Nat} {R E : Nat → Nat → Nat}
theorem resE_y {w : Nat} (q : ∃ s, s < E 0 1 ∧ E 2 s = R 6 w) : resE R E w = setE E 1 w 1 := if_pos q
theorem resE_n {w : Nat} (q : ¬ ∃ s, s < E 0 1 ∧ E 2 s = R 6 w) : resE R E w = setE (setE (putE (setE E 1 w 1) (insN E (R 6 w) (E 0 1)) (R 6 w)) 3 (R 6 w) 0) 4 (R 6 w) 0 := if_neg q
theorem room_in (hE : WE R E) {b : Nat} (hb : b < R 0 13) (q : ¬ ∃ s, s < E 0 1 ∧ E 2 s = b) : E 0 1 + 1 ≤ R 0 13 := by
  have hnm : b ∉ ordL E := fun hm => q (ordL_mem.mp hm)
  have := nodup_len (R 0 13) (b :: ordL E) (List.nodup_cons.mpr ⟨hnm, ordL_nodup hE⟩) (fun x hx => by
    rcases List.mem_cons.mp hx with rfl | hx
    · exact hb
    · obtain ⟨s, h1, h2⟩ := ordL_mem.mp hx
      rw [← h2]
      exact hE.lt s h1)
  rw [List.length_cons, ordL_len] at this
  exact this
theorem setK_WE (hE : WE R E) {w v : Nat} (hv : v ≤ 1) : WE R (setE E 1 w v) := by
  refine ⟨hE.n, hE.lt, hE.inj, fun u hu => ?_, hE.hd, hE.tl, hE.fl⟩
  show (if u = w then v else E 1 u) ≤ 1
  split
  · exact hv
  · exact hE.k1 u hu
theorem resE_WE (hW : WR R) (hE : WE R E) {w : Nat} (hw : w < R 0 4) : WE R (resE R E w) := by
  obtain ⟨f1, f2, f3, f4, f5, f6⟩ := w_facts hW hw
  by_cases q : ∃ s, s < E 0 1 ∧ E 2 s = R 6 w
  · rw [resE_y q]; exact setK_WE hE (by omega)
  · rw [resE_n q]
    have hr := room_in hE f6 q
    have hp := insN_le E (R 6 w) (E 0 1)
    have q2 : ∀ s, s < E 0 1 → E 2 s ≠ R 6 w := fun s hs e => q ⟨s, hs, e⟩
    generalize hpp : insN E (R 6 w) (E 0 1) = p at hp ⊢
    have val : ∀ s, (setE (setE (putE (setE E 1 w 1) p (R 6 w)) 3 (R 6 w) 0) 4 (R 6 w) 0) 2 s = if s < p then E 2 s else if s = p then R 6 w else E 2 (s - 1) := fun s => rfl
    refine ⟨hr, fun s hs => ?_, fun s t hs ht e => ?_, fun u hu => ?_, fun b hb => ?_, fun b hb => ?_, hE.fl⟩
    · have hs : s < E 0 1 + 1 := hs
      rw [val]
      by_cases y1 : s < p
      · rw [if_pos y1]; exact hE.lt s (by omega)
      · rw [if_neg y1]
        by_cases y2 : s = p
        · rw [if_pos y2]; exact f6
        · rw [if_neg y2]; exact hE.lt _ (by omega)
    · have hs : s < E 0 1 + 1 := hs
      have ht : t < E 0 1 + 1 := ht
      rw [val, val] at e
      by_cases y1 : s < p
      · rw [if_pos y1] at e
        by_cases z1 : t < p
        · rw [if_pos z1] at e; exact hE.inj s t (by omega) (by omega) e
        · rw [if_neg z1] at e
          by_cases z2 : t = p
          · rw [if_pos z2] at e; exact absurd e (q2 s (by omega))
          · rw [if_neg z2] at e
            have := hE.inj s (t - 1) (by omega) (by omega) e
            omega
      · rw [if_neg y1] at e
        by_cases y2 : s = p
        · rw [if_pos y2] at e
          by_cases z1 : t < p
          · rw [if_pos z1] at e; exact absurd e.symm (q2 t (by omega))
          · rw [if_neg z1] at e
            by_cases z2 : t = p
            · omega
            · rw [if_neg z2] at e
              exact absurd e.symm (q2 (t - 1) (by omega))
        · rw [if_neg y2] at e
          by_cases z1 : t < p
          · rw [if_pos z1] at e
            have := hE.inj (s - 1) t (by omega) (by omega) e
            omega
          · rw [if_neg z1] at e
            by_cases z2 : t = p
            · rw [if_pos z2] at e; exact absurd e (q2 (s - 1) (by omega))
            · rw [if_neg z2] at e
              have := hE.inj (s - 1) (t - 1) (by omega) (by omega) e
              omega
    · show (if u = w then 1 else E 1 u) ≤ 1
      split
      · omega
      · exact hE.k1 u hu
    · show (if b = R 6 w then 0 else E 3 b) ≤ 999
      split
      · omega
      · exact hE.hd b hb
    · show (if b = R 6 w then 0 else E 4 b) ≤ 999
      split
      · omega
      · exact hE.tl b hb
theorem resE_k {w v : Nat} : resE R E w 1 v = if v = w then 1 else E 1 v := by
  by_cases q : ∃ s, s < E 0 1 ∧ E 2 s = R 6 w
  · rw [resE_y q]; rfl
  · rw [resE_n q]; rfl
theorem resE_in {w b : Nat} : (∃ s, s < resE R E w 0 1 ∧ resE R E w 2 s = b) ↔ (b = R 6 w ∨ ∃ s, s < E 0 1 ∧ E 2 s = b) := by
  by_cases q : ∃ s, s < E 0 1 ∧ E 2 s = R 6 w
  · rw [resE_y q]
    constructor
    · rintro ⟨s, h1, h2⟩; exact Or.inr ⟨s, h1, h2⟩
    · rintro (h1 | h1)
      · rw [h1]; exact q
      · exact h1
  · rw [resE_n q]
    have hp := insN_le E (R 6 w) (E 0 1)
    generalize hpp : insN E (R 6 w) (E 0 1) = p at hp ⊢
    have val : ∀ s, (setE (setE (putE (setE E 1 w 1) p (R 6 w)) 3 (R 6 w) 0) 4 (R 6 w) 0) 2 s = if s < p then E 2 s else if s = p then R 6 w else E 2 (s - 1) := fun s => rfl
    constructor
    · rintro ⟨s, h1, h2⟩
      have h1 : s < E 0 1 + 1 := h1
      rw [val] at h2
      by_cases y1 : s < p
      · rw [if_pos y1] at h2; exact Or.inr ⟨s, by omega, h2⟩
      · rw [if_neg y1] at h2
        by_cases y2 : s = p
        · rw [if_pos y2] at h2; exact Or.inl h2.symm
        · rw [if_neg y2] at h2; exact Or.inr ⟨s - 1, by omega, h2⟩
    · rintro (h1 | ⟨s, h1, h2⟩)
      · refine ⟨p, show p < E 0 1 + 1 by omega, ?_⟩
        rw [val, if_neg (by omega), if_pos rfl, h1]
      · by_cases y : s < p
        · refine ⟨s, show s < E 0 1 + 1 by omega, ?_⟩
          rw [val, if_pos y, h2]
        · refine ⟨s + 1, show s + 1 < E 0 1 + 1 by omega, ?_⟩
          rw [val, if_neg (by omega), if_neg (by omega), Nat.add_sub_cancel, h2]
theorem resE_WX (hW : WR R) (hX : WX R E) {w : Nat} (hw : w < R 0 4) : WX R (resE R E w) := by
  have hblk := hW.wb w hw
  refine ⟨fun s hs => ?_, fun v hv hk => ?_⟩
  · rcases resE_in.mp ⟨s, hs, rfl⟩ with e | ⟨t, h1, h2⟩
    · rw [e]
      exact ⟨w, hblk.2.1, hblk.2.2, by rw [resE_k, if_pos rfl]⟩
    · obtain ⟨u, d1, d2, d3⟩ := hX.film t h1
      rw [← h2]
      refine ⟨u, d1, d2, ?_⟩
      rw [resE_k]
      split
      · rfl
      · exact d3
  · rw [resE_k] at hk
    refine resE_in.mpr ?_
    by_cases e : v = w
    · left; rw [e]
    · rw [if_neg e] at hk
      exact Or.inr (hX.kept v hv hk)
theorem rA_W (hW : WR R) (hE : WE R E) (hX : WX R E) {a : Nat} : ∀ i, a + i ≤ R 0 4 → WE R (rA R E a i).1 ∧ WX R (rA R E a i).1 := by
  intro i
  induction i with
  | zero => intro _; exact ⟨hE, hX⟩
  | succ i ih =>
    intro hi
    obtain ⟨h1, h2⟩ := ih (by omega)
    rw [rA_s]
    split
    · exact ⟨h1, h2⟩
    · exact ⟨resE_WE hW h1 (by omega), resE_WX hW h2 (by omega)⟩
/-! the model -/
theorem m_restoresWord (hW : WR R) (hE : WE R E) (hG : GR g R) (hM : GE g E) {w : Nat} (hw : w < R 0 4) : Wp (f_X11_restoresWord g (nI w)) (fun g' => GE g' (resE R E w) ∧ ∀ k, ¬ k = 134 → g' k = g k) := by
  obtain ⟨f1, f2, f3, f4, f5, f6⟩ := w_facts hW hw
  have hn := hE.n
  have hbw := hW.bw
  have h40 := hW.w40
  have hM1 := hM.setK (w := w) (v := 1) f1
  have hE1 := setK_WE hE (w := w) (v := 1) (by omega)
  have hso := m_shotOf hW hE1 hM1 (b := R 6 w) (by omega)
  unfold f_X11_restoresWord
  simp (disch := omega) only [li, nI_add, pk_mul, ix_n, lt_n, le_n, eq_n, sub_n, dec_n, inb_t, neg_n, neg_n', ck_true, stp_eq, bnd_some, wp_some, wp_stp, Nat.add_zero, Nat.lt_irrefl, Nat.reduceEqDiff, Nat.reduceAdd, Nat.reduceSub, Nat.reduceMul, Nat.reduceLT, Nat.reduceLeDiff, up_o, up_ss, up_sn, zb_n1, true_and, and_true, ↓reduceIte, Nat.zero_add]
  simp (disch := omega) only [li, nI_add, pk_mul, ix_n, lt_n, le_n, eq_n, sub_n, dec_n, inb_t, neg_n, neg_n', ck_true, stp_eq, bnd_some, wp_some, wp_stp, Nat.add_zero, Nat.lt_irrefl, Nat.reduceEqDiff, Nat.reduceAdd, Nat.reduceSub, Nat.reduceMul, Nat.reduceLT, Nat.reduceLeDiff, up_o, up_ss, up_sn, zb_n1, true_and, and_true, ↓reduceIte, hG.blk]
  rw [show f_X11_shotOf (up g 134 w (nI 0)) (nI (R 6 w)) = _ from hso, bnd_some]
  refine wp_if (fun z => ?_) (fun z => ?_)
  · have q : ¬ ∃ s, s < E 0 1 ∧ E 2 s = R 6 w := by
      have z2 := (oI_m (show E 0 1 < 2147483648 by omega) (i := sch (fun s => E 2 s = R 6 w) (E 0 1))).mp z
      rw [sch_lt] at z2
      exact z2
    have hr := room_in hE f6 q
    rw [resE_n q]
    refine wp_for (i := 0) (E 0 1) (fun i x => x = (if insN E (R 6 w) i = 0 then -nI 1 else nI (insN E (R 6 w) i - 1), nI i)) (by omega) (by omega) rfl ?_
    rintro i x r hi rfl k
    have hil := insN_lt hE (R 6 w) hi
    have hile := insN_le E (R 6 w) i
    unfold F_X11_restoresWord_31 J_X11_restoresWord_72 J_X11_restoresWord_75
    have hn1 : up g 134 w (nI 0) 134 40 = nI (E 0 1) := hM1.n
    by_cases hl : i < E 0 1
    · have hlt := hE.lt i hl
      have sb := m_shotBlock hW hE1 hM1 (s := i) hl
      have sb : f_X11_shotBlock (up g 134 w (nI 0)) (nI i) = some (nI (E 2 i)) := sb
      simp (disch := omega) only [li, nI_add, pk_mul, ix_n, lt_n, le_n, eq_n, sub_n, dec_n, inb_t, neg_n, neg_n', ck_true, stp_eq, bnd_some, wp_some, wp_stp, Nat.add_zero, Nat.lt_irrefl, Nat.reduceEqDiff, Nat.reduceAdd, Nat.reduceSub, Nat.reduceMul, Nat.reduceLT, Nat.reduceLeDiff, up_o, up_ss, up_sn, zb_n1, true_and, and_true, ↓reduceIte, hM.n, hl, sb]
      by_cases y : E 2 i < R 6 w
      · by_cases z0 : insN E (R 6 w) i = 0
        · simp (disch := omega) only [li, nI_add, pk_mul, ix_n, lt_n, le_n, eq_n, sub_n, dec_n, inb_t, neg_n, neg_n', ck_true, stp_eq, bnd_some, wp_some, wp_stp, Nat.add_zero, Nat.lt_irrefl, Nat.reduceEqDiff, Nat.reduceAdd, Nat.reduceSub, Nat.reduceMul, Nat.reduceLT, Nat.reduceLeDiff, up_o, up_ss, up_sn, zb_n1, true_and, and_true, ↓reduceIte, y, z0]
          refine k _ hl ?_
          rw [insN_y ⟨y, Or.inl z0⟩, if_neg (by omega), Nat.add_sub_cancel]
        · have sb2 := m_shotBlock hW hE1 hM1 (s := insN E (R 6 w) i - 1) (show _ < E 0 1 by omega)
          have sb2 : f_X11_shotBlock (up g 134 w (nI 0)) (nI (insN E (R 6 w) i - 1)) = some (nI (E 2 (insN E (R 6 w) i - 1))) := sb2
          have hl2 := hE.lt (insN E (R 6 w) i - 1) (by omega)
          simp (disch := omega) only [li, nI_add, pk_mul, ix_n, lt_n, le_n, eq_n, sub_n, dec_n, inb_t, neg_n, neg_n', ck_true, stp_eq, bnd_some, wp_some, wp_stp, Nat.add_zero, Nat.lt_irrefl, Nat.reduceEqDiff, Nat.reduceAdd, Nat.reduceSub, Nat.reduceMul, Nat.reduceLT, Nat.reduceLeDiff, up_o, up_ss, up_sn, zb_n1, true_and, and_true, ↓reduceIte, y, z0, sb2]
          by_cases x : E 2 (insN E (R 6 w) i - 1) < E 2 i
          · simp (disch := omega) only [li, nI_add, pk_mul, ix_n, lt_n, le_n, eq_n, sub_n, dec_n, inb_t, neg_n, neg_n', ck_true, stp_eq, bnd_some, wp_some, wp_stp, Nat.add_zero, Nat.lt_irrefl, Nat.reduceEqDiff, Nat.reduceAdd, Nat.reduceSub, Nat.reduceMul, Nat.reduceLT, Nat.reduceLeDiff, up_o, up_ss, up_sn, zb_n1, true_and, and_true, ↓reduceIte, x]
            refine k _ hl ?_
            rw [insN_y ⟨y, Or.inr x⟩, if_neg (by omega), Nat.add_sub_cancel]
          · simp (disch := omega) only [li, nI_add, pk_mul, ix_n, lt_n, le_n, eq_n, sub_n, dec_n, inb_t, neg_n, neg_n', ck_true, stp_eq, bnd_some, wp_some, wp_stp, Nat.add_zero, Nat.lt_irrefl, Nat.reduceEqDiff, Nat.reduceAdd, Nat.reduceSub, Nat.reduceMul, Nat.reduceLT, Nat.reduceLeDiff, up_o, up_ss, up_sn, zb_n1, true_and, and_true, ↓reduceIte, x]
            refine k _ hl ?_
            rw [insN_n (fun u => u.2.elim z0 x), if_neg z0]
      · simp (disch := omega) only [li, nI_add, pk_mul, ix_n, lt_n, le_n, eq_n, sub_n, dec_n, inb_t, neg_n, neg_n', ck_true, stp_eq, bnd_some, wp_some, wp_stp, Nat.add_zero, Nat.lt_irrefl, Nat.reduceEqDiff, Nat.reduceAdd, Nat.reduceSub, Nat.reduceMul, Nat.reduceLT, Nat.reduceLeDiff, up_o, up_ss, up_sn, zb_n1, true_and, and_true, ↓reduceIte, y]
        refine k _ hl ?_
        rw [insN_n (fun u => y u.1)]
    · have e : i = E 0 1 := by omega
      unfold J_X11_restoresWord_81
      have ex : ((if insN E (R 6 w) i = 0 then -nI 1 else nI (insN E (R 6 w) i - 1)) : Int32) + nI 1 = nI (insN E (R 6 w) (E 0 1)) := by
        rw [← e]
        by_cases z0 : insN E (R 6 w) i = 0
        · rw [if_pos z0, z0]; decide
        · rw [if_neg z0, nI_add, show insN E (R 6 w) i - 1 + 1 = insN E (R 6 w) i by omega]
      simp (disch := omega) only [li, nI_add, pk_mul, ix_n, lt_n, le_n, eq_n, sub_n, dec_n, inb_t, neg_n, neg_n', ck_true, stp_eq, bnd_some, wp_some, wp_stp, Nat.add_zero, Nat.lt_irrefl, Nat.reduceEqDiff, Nat.reduceAdd, Nat.reduceSub, Nat.reduceMul, Nat.reduceLT, Nat.reduceLeDiff, up_o, up_ss, up_sn, zb_n1, true_and, and_true, ↓reduceIte, hM.n, hl, ex]
      have hpp := m_putsIn hM1 (show E 0 1 < 40 by omega) (s := insN E (R 6 w) (E 0 1)) (b := R 6 w) (show insN E (R 6 w) (E 0 1) ≤ E 0 1 from insN_le E _ _)
      refine wp_bnd_of hpp (fun g2 k2 => ?_)
      obtain ⟨k3, k4⟩ := k2
      refine wp_some.mpr ⟨⟨fun u hu hz => ?_, ?_, fun s hs => ?_, fun b hb => ?_, fun b hb => ?_⟩, fun k hk => ?_⟩
      · rw [up_sn (by omega), up_sn (by omega)]; exact k3.k u hu hz
      · rw [up_sn (by omega), up_sn (by omega)]; exact k3.n
      · have hs : s < E 0 1 + 1 := hs
        rw [up_sn (by omega), up_sn (by omega)]; exact k3.o s hs
      · show _ = nI (if b = R 6 w then 0 else E 3 b)
        rw [up_sn (by omega)]
        by_cases e2 : b = R 6 w
        · rw [e2, up_ss, if_pos rfl]
        · rw [up_sn (by omega), if_neg e2]; exact k3.hd b hb
      · show _ = nI (if b = R 6 w then 0 else E 4 b)
        by_cases e2 : b = R 6 w
        · rw [e2, up_ss, if_pos rfl]
        · rw [up_sn (by omega), up_sn (by omega), if_neg e2]; exact k3.tl b hb
      · rw [up_o hk, up_o hk, k4 k hk, up_o hk]
  · have q : ∃ s, s < E 0 1 ∧ E 2 s = R 6 w := by
      have z2 : ¬ ¬ sch (fun s => E 2 s = R 6 w) (E 0 1) < E 0 1 := fun y => z ((oI_m (show E 0 1 < 2147483648 by omega)).mpr y)
      rw [sch_lt] at z2
      exact Classical.not_not.mp z2
    rw [resE_y q]
    exact wp_some.mpr ⟨hM1, fun k hk => up_o hk⟩
theorem m_restoresAll (hW : WR R) (hE : WE R E) (hX : WX R E) (hG : GR g R) (hM : GE g E) {a b : Nat} (hab : a ≤ b + 1) (hb : b < R 0 4) : Wp (f_X11_restoresAll g (nI a) (nI b)) (fun u => u.1 = nI (rA R E a (b + 1 - a)).2 ∧ GE u.2 (rA R E a (b + 1 - a)).1 ∧ AW g u.2) := by
  have h40 := hW.w40
  unfold f_X11_restoresAll
  refine wp_for (i := 0) (b + 1 - a) (fun i x => ∃ g1, x = (nI (rA R E a i).2, nI (a + i), g1) ∧ GE g1 (rA R E a i).1 ∧ AW g g1) (by omega) (by omega) ⟨g, rfl, hM, AW.rf g⟩ ?_
  rintro i x r hi ⟨g1, rfl, a1, a2⟩ k
  have hWW := rA_W hW hE hX (a := a) i (by omega)
  unfold F_X11_restoresAll_5 J_X11_restoresAll_32
  by_cases hl : i < b + 1 - a
  · have hl2 : ¬ b < a + i := by omega
    have hk1 := hWW.1.k1 (a + i) (by omega)
    by_cases y : (rA R E a i).1 1 (a + i) = 1
    · simp (disch := omega) only [li, nI_add, pk_mul, ix_n, lt_n, le_n, eq_n, sub_n, dec_n, inb_t, neg_n, neg_n', ck_true, stp_eq, bnd_some, wp_some, wp_stp, Nat.add_zero, Nat.lt_irrefl, Nat.reduceEqDiff, Nat.reduceAdd, Nat.reduceSub, Nat.reduceMul, Nat.reduceLT, Nat.reduceLeDiff, up_o, up_ss, up_sn, zb_n1, true_and, and_true, ↓reduceIte, hl2, m_isKept a1 (hWW.1.zz (by omega)) (w := a + i) (by omega) hk1, y]
      refine k _ hl ⟨g1, ?_, ?_, a2⟩
      · rw [rA_s, if_pos y, Nat.add_assoc]
      · rw [rA_s, if_pos y]; exact a1
    · have y0 : (rA R E a i).1 1 (a + i) = 0 := by omega
      simp (disch := omega) only [li, nI_add, pk_mul, ix_n, lt_n, le_n, eq_n, sub_n, dec_n, inb_t, neg_n, neg_n', ck_true, stp_eq, bnd_some, wp_some, wp_stp, Nat.add_zero, Nat.lt_irrefl, Nat.reduceEqDiff, Nat.reduceAdd, Nat.reduceSub, Nat.reduceMul, Nat.reduceLT, Nat.reduceLeDiff, up_o, up_ss, up_sn, zb_n1, true_and, and_true, ↓reduceIte, hl2, m_isKept a1 (hWW.1.zz (by omega)) (w := a + i) (by omega) hk1, y0]
      refine wp_bnd_of (m_restoresWord hW hWW.1 (hG.fa a2) a1 (w := a + i) (by omega)) (fun g2 k2 => ?_)
      refine k _ hl ⟨g2, ?_, ?_, a2.tr (AW.of k2.2)⟩
      · rw [rA_s, if_neg y, Nat.add_assoc]
      · rw [rA_s, if_neg y]; exact k2.1
  · have hl2 : b < a + i := by omega
    have e : i = b + 1 - a := by omega
    simp (disch := omega) only [li, nI_add, pk_mul, ix_n, lt_n, le_n, eq_n, sub_n, dec_n, inb_t, neg_n, neg_n', ck_true, stp_eq, bnd_some, wp_some, wp_stp, Nat.add_zero, Nat.lt_irrefl, Nat.reduceEqDiff, Nat.reduceAdd, Nat.reduceSub, Nat.reduceMul, Nat.reduceLT, Nat.reduceLeDiff, up_o, up_ss, up_sn, zb_n1, true_and, and_true, ↓reduceIte, hl2]
    subst e
    exact ⟨rfl, a1, a2⟩
/-! the class -/
theorem c_holdsBlock (hW : WR R) (hE : WE R E) (hD : CE h E) {b : Nat} (hb : b < 40) : f_X0_holdsBlock h 18 (nI b) = some (nI (@ite _ (∃ s, s < E 0 1 ∧ E 2 s = b) (Classical.propDecidable _) 1 0)) := by
  have hn := hE.n
  have hbw := hW.bw
  have h40 := hW.w40
  refine wp_eq.mp ?_
  unfold f_X0_holdsBlock
  refine wp_for (i := 0) (E 0 1) (fun i x => x = nI i ∧ ∀ s, s < i → ¬ E 2 s = b) (by omega) (by omega) ⟨rfl, fun s hs => absurd hs (Nat.not_lt_zero _)⟩ ?_
  rintro i x r hi ⟨rfl, hp⟩ k
  unfold F_X0_holdsBlock_2
  by_cases hl : i < E 0 1
  · have hlt := hE.lt i hl
    simp (disch := omega) only [li, nI_add, pk_mul, ix_n, lt_n, le_n, eq_n, sub_n, dec_n, inb_t, neg_n, neg_n', ck_true, stp_eq, bnd_some, wp_some, wp_stp, Nat.add_zero, Nat.lt_irrefl, Nat.reduceEqDiff, Nat.reduceAdd, Nat.reduceSub, Nat.reduceMul, Nat.reduceLT, Nat.reduceLeDiff, up_o, up_ss, up_sn, zb_n1, true_and, and_true, ↓reduceIte, hD.z, hl, hD.o]
    by_cases y : E 2 i = b
    · simp (disch := omega) only [li, nI_add, pk_mul, ix_n, lt_n, le_n, eq_n, sub_n, dec_n, inb_t, neg_n, neg_n', ck_true, stp_eq, bnd_some, wp_some, wp_stp, Nat.add_zero, Nat.lt_irrefl, Nat.reduceEqDiff, Nat.reduceAdd, Nat.reduceSub, Nat.reduceMul, Nat.reduceLT, Nat.reduceLeDiff, up_o, up_ss, up_sn, zb_n1, true_and, and_true, ↓reduceIte, y]
      rw [if_pos ⟨i, hl, y⟩]
    · simp (disch := omega) only [li, nI_add, pk_mul, ix_n, lt_n, le_n, eq_n, sub_n, dec_n, inb_t, neg_n, neg_n', ck_true, stp_eq, bnd_some, wp_some, wp_stp, Nat.add_zero, Nat.lt_irrefl, Nat.reduceEqDiff, Nat.reduceAdd, Nat.reduceSub, Nat.reduceMul, Nat.reduceLT, Nat.reduceLeDiff, up_o, up_ss, up_sn, zb_n1, true_and, and_true, ↓reduceIte, y]
      refine k _ hl ⟨rfl, fun s hs => ?_⟩
      by_cases e : s = i
      · rw [e]; exact y
      · exact hp s (by omega)
  · simp (disch := omega) only [li, nI_add, pk_mul, ix_n, lt_n, le_n, eq_n, sub_n, dec_n, inb_t, neg_n, neg_n', ck_true, stp_eq, bnd_some, wp_some, wp_stp, Nat.add_zero, Nat.lt_irrefl, Nat.reduceEqDiff, Nat.reduceAdd, Nat.reduceSub, Nat.reduceMul, Nat.reduceLT, Nat.reduceLeDiff, up_o, up_ss, up_sn, zb_n1, true_and, and_true, ↓reduceIte, hD.z, hl]
    rw [if_neg]
    rintro ⟨s, h1, h2⟩
    exact hp s (by omega) h2
theorem c_shotBehind (hW : WR R) (hE : WE R E) (hD : CE h E) {b : Nat} (hb : b < 40) : f_X0_shotBehindLowerBlocks h 18 (nI b) = some (nI (insN E b (E 0 1))) := by
  have hn := hE.n
  have hbw := hW.bw
  have h40 := hW.w40
  refine wp_eq.mp ?_
  unfold f_X0_shotBehindLowerBlocks
  refine wp_for (i := 0) (E 0 1) (fun i x => x = (if insN E b i = 0 then -nI 1 else nI (E 2 (insN E b i - 1)), nI (insN E b i), nI i)) (by omega) (by omega) rfl ?_
  rintro i x r hi rfl k
  have hil := insN_lt hE b hi
  unfold F_X0_shotBehindLowerBlocks_7 J_X0_shotBehindLowerBlocks_51
  by_cases hl : i < E 0 1
  · have hlt := hE.lt i hl
    simp (disch := omega) only [li, nI_add, pk_mul, ix_n, lt_n, le_n, eq_n, sub_n, dec_n, inb_t, neg_n, neg_n', ck_true, stp_eq, bnd_some, wp_some, wp_stp, Nat.add_zero, Nat.lt_irrefl, Nat.reduceEqDiff, Nat.reduceAdd, Nat.reduceSub, Nat.reduceMul, Nat.reduceLT, Nat.reduceLeDiff, up_o, up_ss, up_sn, zb_n1, true_and, and_true, ↓reduceIte, hD.z, hl, hD.o]
    by_cases y : E 2 i < b
    · by_cases z0 : insN E b i = 0
      · have e : (-nI 1 < nI (E 2 i)) = True := by
          refine eq_true ?_
          rw [Int32.lt_iff_toInt_lt, nI_toInt (by omega), show (-nI 1).toInt = -1 by decide]
          omega
        simp (disch := omega) only [li, nI_add, pk_mul, ix_n, lt_n, le_n, eq_n, sub_n, dec_n, inb_t, neg_n, neg_n', ck_true, stp_eq, bnd_some, wp_some, wp_stp, Nat.add_zero, Nat.lt_irrefl, Nat.reduceEqDiff, Nat.reduceAdd, Nat.reduceSub, Nat.reduceMul, Nat.reduceLT, Nat.reduceLeDiff, up_o, up_ss, up_sn, zb_n1, true_and, and_true, ↓reduceIte, y, z0, e]
        refine k _ hl ?_
        rw [insN_y ⟨y, Or.inl z0⟩, if_neg (by omega), Nat.add_sub_cancel]
      · have hl2 := hE.lt (insN E b i - 1) (by omega)
        by_cases x : E 2 (insN E b i - 1) < E 2 i
        · simp (disch := omega) only [li, nI_add, pk_mul, ix_n, lt_n, le_n, eq_n, sub_n, dec_n, inb_t, neg_n, neg_n', ck_true, stp_eq, bnd_some, wp_some, wp_stp, Nat.add_zero, Nat.lt_irrefl, Nat.reduceEqDiff, Nat.reduceAdd, Nat.reduceSub, Nat.reduceMul, Nat.reduceLT, Nat.reduceLeDiff, up_o, up_ss, up_sn, zb_n1, true_and, and_true, ↓reduceIte, y, z0, x]
          refine k _ hl ?_
          rw [insN_y ⟨y, Or.inr x⟩, if_neg (by omega), Nat.add_sub_cancel]
        · simp (disch := omega) only [li, nI_add, pk_mul, ix_n, lt_n, le_n, eq_n, sub_n, dec_n, inb_t, neg_n, neg_n', ck_true, stp_eq, bnd_some, wp_some, wp_stp, Nat.add_zero, Nat.lt_irrefl, Nat.reduceEqDiff, Nat.reduceAdd, Nat.reduceSub, Nat.reduceMul, Nat.reduceLT, Nat.reduceLeDiff, up_o, up_ss, up_sn, zb_n1, true_and, and_true, ↓reduceIte, y, z0, x]
          refine k _ hl ?_
          rw [insN_n (fun u => u.2.elim z0 x), if_neg z0]
    · simp (disch := omega) only [li, nI_add, pk_mul, ix_n, lt_n, le_n, eq_n, sub_n, dec_n, inb_t, neg_n, neg_n', ck_true, stp_eq, bnd_some, wp_some, wp_stp, Nat.add_zero, Nat.lt_irrefl, Nat.reduceEqDiff, Nat.reduceAdd, Nat.reduceSub, Nat.reduceMul, Nat.reduceLT, Nat.reduceLeDiff, up_o, up_ss, up_sn, zb_n1, true_and, and_true, ↓reduceIte, y]
      refine k _ hl ?_
      rw [insN_n (fun u => y u.1)]
  · have e : i = E 0 1 := by omega
    simp (disch := omega) only [li, nI_add, pk_mul, ix_n, lt_n, le_n, eq_n, sub_n, dec_n, inb_t, neg_n, neg_n', ck_true, stp_eq, bnd_some, wp_some, wp_stp, Nat.add_zero, Nat.lt_irrefl, Nat.reduceEqDiff, Nat.reduceAdd, Nat.reduceSub, Nat.reduceMul, Nat.reduceLT, Nat.reduceLeDiff, up_o, up_ss, up_sn, zb_n1, true_and, and_true, ↓reduceIte, hD.z, hl]
    rw [e]
theorem c_bringBack (hW : WR R) (hE : WE R E) (hD : CE h E) {b : Nat} (hb : b < R 0 13) (q : ¬ ∃ s, s < E 0 1 ∧ E 2 s = b) : Wp (f_X0_bringBackBlock h 18 (nI b)) (fun u => CE u (setE (setE (putE E (insN E b (E 0 1)) b) 3 b 0) 4 b 0) ∧ ∀ k, ¬ (18 ≤ k ∧ k ≤ 22) → u k = h k) := by
  have hr := room_in hE hb q
  have hbw := hW.bw
  have h40 := hW.w40
  have hn : E 0 1 < 40 := by omega
  have hp := insN_le E b (E 0 1)
  unfold f_X0_bringBackBlock
  simp (disch := omega) only [li, nI_add, pk_mul, ix_n, lt_n, le_n, eq_n, sub_n, dec_n, inb_t, neg_n, neg_n', ck_true, stp_eq, bnd_some, wp_some, wp_stp, Nat.add_zero, Nat.lt_irrefl, Nat.reduceEqDiff, Nat.reduceAdd, Nat.reduceSub, Nat.reduceMul, Nat.reduceLT, Nat.reduceLeDiff, up_o, up_ss, up_sn, zb_n1, true_and, and_true, ↓reduceIte, hD.z, hn, c_shotBehind hW hE hD (b := b) (by omega)]
  generalize insN E b (E 0 1) = p at hp ⊢
  refine wp_for (i := 0) (E 0 1 - p) (fun i x => ∃ h1, x = (nI (E 0 1 - i), h1) ∧ (∀ j, j < E 0 1 + 1 → ¬ (j = E 0 1 - i) → h1 20 j = nI (if E 0 1 - i < j then E 2 (j - 1) else E 2 j)) ∧ (∀ k, ¬ k = 20 → h1 k = h k) ∧ (i < E 0 1 → h1 20 (E 0 1 - i - 1) = nI (E 2 (E 0 1 - i - 1)))) (by omega) (by omega) ⟨h, rfl, fun j hj hne => by rw [if_neg (by omega)]; exact hD.o j (by omega), fun k hk => rfl, fun z => hD.o _ (by omega)⟩ ?_
  rintro i x r hi ⟨h1, rfl, a2, a4, a5⟩ k
  unfold F_X0_bringBackBlock_21 J_X0_bringBackBlock_46
  by_cases hl : i < E 0 1 - p
  · have hl2 : p < E 0 1 - i := by omega
    have e1 := a5 (by omega)
    simp (disch := omega) only [li, nI_add, pk_mul, ix_n, lt_n, le_n, eq_n, sub_n, dec_n, inb_t, neg_n, neg_n', ck_true, stp_eq, bnd_some, wp_some, wp_stp, Nat.add_zero, Nat.lt_irrefl, Nat.reduceEqDiff, Nat.reduceAdd, Nat.reduceSub, Nat.reduceMul, Nat.reduceLT, Nat.reduceLeDiff, up_o, up_ss, up_sn, zb_n1, true_and, and_true, ↓reduceIte, hl2, e1]
    refine k _ hl ⟨_, by rw [Nat.sub_sub], fun j hj hne => ?_, fun q hq => ?_, fun z => ?_⟩
    · by_cases e : j = E 0 1 - i
      · subst e
        rw [up_ss, if_pos (by omega), Nat.sub_sub]
      · rw [up_sn (by omega), a2 j hj e]
        by_cases z : E 0 1 - i < j
        · rw [if_pos z, if_pos (by omega)]
        · rw [if_neg z, if_neg (by omega)]
    · rw [up_o hq]; exact a4 q hq
    · rw [up_sn (by omega)]
      have := a2 (E 0 1 - (i + 1) - 1) (by omega) (by omega)
      rw [if_neg (by omega)] at this
      exact this
  · have e : E 0 1 - i = p := by omega
    rw [e] at a2 a5
    rw [e]
    have e18 := a4 18 (by decide)
    simp (disch := omega) only [li, nI_add, pk_mul, ix_n, lt_n, le_n, eq_n, sub_n, dec_n, inb_t, neg_n, neg_n', ck_true, stp_eq, bnd_some, wp_some, wp_stp, Nat.add_zero, Nat.lt_irrefl, Nat.reduceEqDiff, Nat.reduceAdd, Nat.reduceSub, Nat.reduceMul, Nat.reduceLT, Nat.reduceLeDiff, up_o, up_ss, up_sn, zb_n1, true_and, and_true, ↓reduceIte, e18, hD.z]
    refine ⟨⟨?_, fun w hw => ?_, fun j hj => ?_, fun d hd => ?_, fun d hd => ?_⟩, fun q hq => ?_⟩
    · first | rfl | assumption | (simp (disch := omega) only [up_o, up_ss, up_sn] <;> first | rfl | assumption)
    · simp (disch := omega) only [up_o, up_ss, up_sn]
      rw [a4 19 (by decide)]
      exact hD.k w hw
    · have hj : j < E 0 1 + 1 := hj
      show _ = nI (if j < p then E 2 j else if j = p then _ else E 2 (j - 1))
      rw [up_o (by decide), up_o (by decide), up_o (by decide)]
      by_cases z : j = p
      · subst z
        rw [up_ss, if_neg (by omega), if_pos rfl]
      · rw [up_sn (by omega), a2 j hj z]
        by_cases y : j < p
        · rw [if_neg (by omega), if_pos y]
        · rw [if_pos (by omega), if_neg y, if_neg z]
    · show _ = nI (if d = b then 0 else E 3 d)
      rw [up_o (by decide)]
      by_cases e2 : d = b
      · rw [e2, up_ss, if_pos rfl]
      · rw [up_sn (by omega), if_neg e2, up_o (by decide), up_o (by decide), a4 21 (by decide)]; exact hD.hd d hd
    · show _ = nI (if d = b then 0 else E 4 d)
      by_cases e2 : d = b
      · rw [e2, up_ss, if_pos rfl]
      · rw [up_sn (by omega), if_neg e2, up_o (by decide), up_o (by decide), up_o (by decide), a4 22 (by decide)]; exact hD.tl d hd
    · rw [up_o (by omega), up_o (by omega), up_o (by omega), up_o (by omega), a4 q (by omega)]
theorem c_keepAgain (hW : WR R) (hE : WE R E) (hX : WX R E) (hC : CR h c R) (hD : CE h E) (hp : h 3 0 = nI c) (hk : knd c = 4 ∧ (c = 83 ∨ c = 97)) {a b : Nat} (hab : a ≤ b + 1) (hb : b < R 0 4) : Wp (f_X1_keepAgain h (nI a) (nI b)) (fun u => u.1 = nI (rA R E a (b + 1 - a)).2 ∧ CE u.2 (rA R E a (b + 1 - a)).1 ∧ CF u.2 R (rA R E a (b + 1 - a)).1 ∧ HF h u.2) := by
  have h40 := hW.w40
  unfold f_X1_keepAgain
  refine wp_for (i := 0) (b + 1 - a) (fun i x => ∃ h1, x = (nI (rA R E a i).2, nI (a + i), h1) ∧ CE h1 (rA R E a i).1 ∧ (∀ k, ¬ (18 ≤ k ∧ k ≤ 22) → h1 k = h k)) (by omega) (by omega) ⟨h, rfl, hD, fun _ _ => rfl⟩ ?_
  rintro i x r hi ⟨h1, rfl, a1, a2⟩ k
  have hWW := rA_W hW hE hX (a := a) i (by omega)
  have hp1 : h1 3 0 = nI c := by rw [a2 3 (by omega)]; exact hp
  have hC1 : CR h1 c R := hC.fr (fun o ho => a2 _ (by omega))
  unfold F_X1_keepAgain_5 J_X1_keepAgain_83 J_X1_keepAgain_89
  by_cases hl : i < b + 1 - a
  · have hl2 : ¬ b < a + i := by omega
    have hl3 : a + i < R 0 4 := by omega
    have hk1 := hWW.1.k1 (a + i) (by omega)
    obtain ⟨f1, f2, f3, f4, f5, f6⟩ := w_facts hW hl3
    by_cases y : (rA R E a i).1 1 (a + i) = 1
    · simp (disch := omega) only [li, nI_add, pk_mul, ix_n, lt_n, le_n, eq_n, sub_n, dec_n, inb_t, neg_n, neg_n', ck_true, stp_eq, bnd_some, wp_some, wp_stp, Nat.add_zero, Nat.lt_irrefl, Nat.reduceEqDiff, Nat.reduceAdd, Nat.reduceSub, Nat.reduceMul, Nat.reduceLT, Nat.reduceLeDiff, up_o, up_ss, up_sn, zb_n1, true_and, and_true, ↓reduceIte, hl2, ckp_of hp1 hk.1, hC1.z, hl3, a1.k, y]
      refine k _ hl ⟨h1, ?_, ?_, a2⟩
      · rw [rA_s, if_pos y, Nat.add_assoc]
      · rw [rA_s, if_pos y]; exact a1
    · have y0 : (rA R E a i).1 1 (a + i) = 0 := by omega
      have hD2 : CE (up h1 19 (a + i) (nI 1)) (setE (rA R E a i).1 1 (a + i) 1) := by
        refine ⟨?_, fun w hw => ?_, fun j hj => ?_, fun d hd => ?_, fun d hd => ?_⟩
        · rw [up_o (by decide)]; exact a1.z
        · show _ = nI (if w = a + i then 1 else (rA R E a i).1 1 w)
          by_cases e : w = a + i
          · rw [e, up_ss, if_pos rfl]
          · rw [up_sn e, if_neg e]; exact a1.k w hw
        · rw [up_o (by decide)]; exact a1.o j hj
        · rw [up_o (by decide)]; exact a1.hd d hd
        · rw [up_o (by decide)]; exact a1.tl d hd
      have hE2 := setK_WE hWW.1 (w := a + i) (v := 1) (by omega)
      have hhb := c_holdsBlock hW hE2 hD2 (b := R 6 (a + i)) f5
      simp (disch := omega) only [li, nI_add, pk_mul, ix_n, lt_n, le_n, eq_n, sub_n, dec_n, inb_t, neg_n, neg_n', ck_true, stp_eq, bnd_some, wp_some, wp_stp, Nat.add_zero, Nat.lt_irrefl, Nat.reduceEqDiff, Nat.reduceAdd, Nat.reduceSub, Nat.reduceMul, Nat.reduceLT, Nat.reduceLeDiff, up_o, up_ss, up_sn, zb_n1, true_and, and_true, ↓reduceIte, hl2, ckp_of hp1 hk.1, hC1.z, hl3, a1.k, y0, hC1.o]
      rw [hhb, bnd_some]
      by_cases q : ∃ s, s < (rA R E a i).1 0 1 ∧ (rA R E a i).1 2 s = R 6 (a + i)
      · rw [if_pos (show ∃ s, s < setE (rA R E a i).1 1 (a + i) 1 0 1 ∧ setE (rA R E a i).1 1 (a + i) 1 2 s = R 6 (a + i) from q), if_neg (show ¬ nI 1 = nI 0 by decide)]
        refine k _ hl ⟨up h1 19 (a + i) (nI 1), ?_, ?_, fun z hz => by rw [up_o (by omega)]; exact a2 z hz⟩
        · rw [rA_s, if_neg y, Nat.add_assoc]
        · rw [rA_s, if_neg y, resE_y q]; exact hD2
      · rw [if_neg (show ¬ ∃ s, s < setE (rA R E a i).1 1 (a + i) 1 0 1 ∧ setE (rA R E a i).1 1 (a + i) 1 2 s = R 6 (a + i) from q), if_pos rfl]
        refine wp_bnd_of (c_bringBack hW hE2 hD2 f6 q) (fun h3 k3 => ?_)
        refine k _ hl ⟨h3, ?_, ?_, fun z hz => by rw [k3.2 z hz, up_o (by omega)]; exact a2 z hz⟩
        · rw [rA_s, if_neg y, Nat.add_assoc]
        · rw [rA_s, if_neg y, resE_n q]
          exact k3.1
  · have hl2 : b < a + i := by omega
    have e : i = b + 1 - a := by omega
    simp (disch := omega) only [li, nI_add, pk_mul, ix_n, lt_n, le_n, eq_n, sub_n, dec_n, inb_t, neg_n, neg_n', ck_true, stp_eq, bnd_some, wp_some, wp_stp, Nat.add_zero, Nat.lt_irrefl, Nat.reduceEqDiff, Nat.reduceAdd, Nat.reduceSub, Nat.reduceMul, Nat.reduceLT, Nat.reduceLeDiff, up_o, up_ss, up_sn, zb_n1, true_and, and_true, ↓reduceIte, hl2]
    subst e
    have hf := HF.of a2
    refine wp_bnd_of (c_layOut hW hWW.1 hC1 a1 hp1 hk) (fun u ku => wp_some.mpr ⟨rfl, ku.2.ce a1, ku.1, hf.tr ku.2.hf⟩)
end
