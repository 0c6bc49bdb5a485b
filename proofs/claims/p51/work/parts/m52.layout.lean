/-! the class lays its film out -/
def LO (h h' : Hp) : Prop := (∀ k, ¬ (3 ≤ k ∧ k ≤ 11) → h' k = h k) ∧ h' 3 0 = h 3 0
theorem LO.rf (h : Hp) : LO h h := ⟨fun _ _ => rfl, rfl⟩
theorem LO.tr {a b c : Hp} (h1 : LO a b) (h2 : LO b c) : LO a c := ⟨fun k q => (h2.1 k q).trans (h1.1 k q), h2.2.trans h1.2⟩
theorem LO.up {h : Hp} {k j : Nat} {v : Int32} (hk : 3 ≤ k ∧ k ≤ 11) (hj : ¬ (k = 3 ∧ j = 0)) : LO h (up h k j v) := by
  refine ⟨fun q hq => up_o (fun e => hq (by rw [e]; exact hk)), ?_⟩
  by_cases e : 3 = k
  · subst e
    exact up_sn (fun z => hj ⟨rfl, z.symm⟩)
  · rw [up_o e]
theorem CR.fr {h h' : Hp} {c : Nat} {R : Nat → Nat → Nat} (hC : CR h c R) (e : ∀ o, o < 14 → h' (c + o) = h (c + o)) : CR h' c R := by
  refine ⟨fun j => ?_, fun o j ho => ?_⟩
  · have := e 0 (by omega)
    rw [Nat.add_zero] at this
    rw [this]
    exact hC.z j
  · rw [e o ho]
    exact hC.o o j ho
theorem CE.fr {h h' : Hp} {E : Nat → Nat → Nat} (hD : CE h E) (e : ∀ k, 18 ≤ k → k ≤ 22 → h' k = h k) : CE h' E := by
  unfold CE
  rw [e 18 (by decide) (by decide), e 19 (by decide) (by decide), e 20 (by decide) (by decide), e 21 (by decide) (by decide), e 22 (by decide) (by decide)]
  exact hD
theorem LO.cr {h h' : Hp} {c : Nat} {R : Nat → Nat → Nat} (q : LO h h') (hk : knd c = 4 ∧ (c = 83 ∨ c = 97)) (hC : CR h c R) : CR h' c R := hC.fr (fun o ho => q.1 _ (by omega))
theorem LO.ce {h h' : Hp} {E : Nat → Nat → Nat} (q : LO h h') (hD : CE h E) : CE h' E := hD.fr (fun k h1 h2 => q.1 _ (by omega))
/-- a word's place in a row of words -/
noncomputable def PO (l : List Nat) (v : Nat) : Int32 := oI l.length (sch (fun p => l[p]? = some v) l.length)
noncomputable def BO (E : Nat → Nat → Nat) (i b : Nat) : Int32 := oI i (sch (fun s => E 2 s = b) i)
theorem PO_nil (v : Nat) : PO [] v = -nI 1 := by
  unfold PO oI
  exact if_neg (Nat.not_lt_zero _)
theorem BO_0 (E : Nat → Nat → Nat) (v : Nat) : BO E 0 v = -nI 1 := by
  unfold BO oI
  exact if_neg (Nat.not_lt_zero _)
theorem PO_eq {l : List Nat} {v w : Nat} (h : w ∉ l) : PO (l ++ [w]) v = if v = w then nI l.length else PO l v := by
  have hlen : (l ++ [w]).length = l.length + 1 := by rw [List.length_append]; rfl
  obtain ⟨a1, a2, a3⟩ := sch_spec (fun p => l[p]? = some v) l.length
  have hap : ∀ p, p < l.length → (l ++ [w])[p]? = l[p]? := fun p hp => List.getElem?_append_left hp
  have hat : (l ++ [w])[l.length]? = some w := by rw [List.getElem?_append_right (Nat.le_refl _), Nat.sub_self]; rfl
  unfold PO
  rw [hlen]
  by_cases e : v = w
  · subst e
    rw [if_pos rfl, sch_u (i := l.length) (by omega) (fun j hj z => ?_) (fun _ => hat), oI, if_pos (by omega)]
    rw [hap j hj] at z
    exact h (List.mem_of_getElem? z)
  · rw [if_neg e]
    by_cases q : sch (fun p => l[p]? = some v) l.length < l.length
    · rw [sch_u (i := sch (fun p => l[p]? = some v) l.length) (by omega) (fun j hj z => ?_) (fun _ => ?_), oI, if_pos (by omega), oI, if_pos q]
      · rw [hap j (by omega)] at z
        exact a2 j hj z
      · rw [hap _ q]; exact a3 q
    · rw [sch_u (i := l.length + 1) (by omega) (fun j hj z => ?_) (fun y => by omega), oI, if_neg (by omega), oI, if_neg q]
      by_cases y : j = l.length
      · rw [y, hat] at z
        exact e (Option.some.inj z).symm
      · rw [hap j (by omega)] at z
        exact a2 j (by omega) z
theorem BO_eq {E : Nat → Nat → Nat} {i b : Nat} (h : ∀ s, s < i → ¬ E 2 s = E 2 i) : BO E (i + 1) b = if b = E 2 i then nI i else BO E i b := by
  obtain ⟨a1, a2, a3⟩ := sch_spec (fun s => E 2 s = b) i
  unfold BO
  by_cases e : b = E 2 i
  · subst e
    rw [if_pos rfl, sch_u (i := i) (by omega) (fun j hj z => h j hj z) (fun _ => rfl), oI, if_pos (by omega)]
  · rw [if_neg e]
    by_cases q : sch (fun s => E 2 s = b) i < i
    · rw [sch_u (i := sch (fun s => E 2 s = b) i) (by omega) (fun j hj z => a2 j hj z) (fun _ => a3 q), oI, if_pos (by omega), oI, if_pos q]
    · rw [sch_u (i := i + 1) (by omega) (fun j hj z => ?_) (fun y => by omega), oI, if_neg (by omega), oI, if_neg q]
      by_cases y : j = i
      · rw [y] at z; exact e z.symm
      · exact a2 j (by omega) z
section
variable {h : Hp} {c : Nat} {R E : Nat → Nat → Nat}
theorem c_firstFrame (hW : WR R) (hE : WE R E) (hC : CR h c R) {b : Nat} (hb : b < R 0 13) : f_X4_firstFrame h c (nI b) (nI (E 3 b)) = some (nI (pf R E b)) := by
  have h1 := hW.w40
  have h2 := hW.bw
  have q0 := p_facts hW hE hb
  refine wp_eq.mp ?_
  unfold f_X4_firstFrame pf
  by_cases hz : b = 0
  · subst hz
    simp (disch := omega) only [li, nI_add, pk_mul, ix_n, lt_n, le_n, eq_n, sub_n, dec_n, inb_t, neg_n, neg_n', ck_true, stp_eq, bnd_some, wp_some, wp_stp, Nat.add_zero, Nat.lt_irrefl, Nat.reduceEqDiff, Nat.reduceAdd, Nat.reduceSub, Nat.reduceMul, Nat.reduceLT, Nat.reduceLeDiff, up_o, up_ss, up_sn, zb_n1, true_and, and_true, ↓reduceIte]
  · have h0 : 0 < b := by omega
    have q1 := p_facts hW hE (b := b - 1) (by omega)
    simp (disch := omega) only [li, nI_add, pk_mul, ix_n, lt_n, le_n, eq_n, sub_n, dec_n, inb_t, neg_n, neg_n', ck_true, stp_eq, bnd_some, wp_some, wp_stp, Nat.add_zero, Nat.lt_irrefl, Nat.reduceEqDiff, Nat.reduceAdd, Nat.reduceSub, Nat.reduceMul, Nat.reduceLT, Nat.reduceLeDiff, up_o, up_ss, up_sn, zb_n1, true_and, and_true, ↓reduceIte, h0, hz, hC.o]
    rw [imax_s (by omega) (by omega) (by omega)]
theorem c_frameBehind (hW : WR R) (hE : WE R E) (hC : CR h c R) {b : Nat} (hb : b < R 0 13) : f_X4_frameBehind h c (nI b) (nI (E 4 b)) = some (nI (pt R E b)) := by
  have h1 := hW.w40
  have h2 := hW.bw
  have q0 := p_facts hW hE hb
  refine wp_eq.mp ?_
  unfold f_X4_frameBehind pt
  by_cases hz : b + 1 = R 0 13
  · have hz2 : ¬ b + 1 < R 0 13 := by omega
    simp (disch := omega) only [li, nI_add, pk_mul, ix_n, lt_n, le_n, eq_n, sub_n, dec_n, inb_t, neg_n, neg_n', ck_true, stp_eq, bnd_some, wp_some, wp_stp, Nat.add_zero, Nat.lt_irrefl, Nat.reduceEqDiff, Nat.reduceAdd, Nat.reduceSub, Nat.reduceMul, Nat.reduceLT, Nat.reduceLeDiff, up_o, up_ss, up_sn, zb_n1, true_and, and_true, ↓reduceIte, hz, hC.z]
  · have hz2 : b + 1 < R 0 13 := by omega
    have q1 := p_facts hW hE hz2
    simp (disch := omega) only [li, nI_add, pk_mul, ix_n, lt_n, le_n, eq_n, sub_n, dec_n, inb_t, neg_n, neg_n', ck_true, stp_eq, bnd_some, wp_some, wp_stp, Nat.add_zero, Nat.lt_irrefl, Nat.reduceEqDiff, Nat.reduceAdd, Nat.reduceSub, Nat.reduceMul, Nat.reduceLT, Nat.reduceLeDiff, up_o, up_ss, up_sn, zb_n1, true_and, and_true, ↓reduceIte, hz, hz2, hC.z, hC.o]
    rw [imin_n (by omega) (by omega)]
theorem c_layOut (hW : WR R) (hE : WE R E) (hC : CR h c R) (hD : CE h E) (hp : h 3 0 = nI c) (hk : knd c = 4 ∧ (c = 83 ∨ c = 97)) : Wp (f_X1_layOut h) (fun u => CF u R E ∧ LO h u) := by
  have hn := hE.n
  have hbw := hW.bw
  have h40 := hW.w40
  unfold f_X1_layOut
  simp (disch := omega) only [li, nI_add, pk_mul, ix_n, lt_n, le_n, eq_n, sub_n, dec_n, inb_t, neg_n, neg_n', ck_true, stp_eq, bnd_some, wp_some, wp_stp, Nat.add_zero, Nat.lt_irrefl, Nat.reduceEqDiff, Nat.reduceAdd, Nat.reduceSub, Nat.reduceMul, Nat.reduceLT, Nat.reduceLeDiff, up_o, up_ss, up_sn, zb_n1, true_and, and_true, ↓reduceIte]
  refine wp_for (i := 0) 40 (fun i x => ∃ h1, x = (nI i, h1) ∧ LO h h1 ∧ h1 3 2 = nI 0 ∧ h1 3 8 = nI 0 ∧ (∀ b, b < i → h1 8 b = -nI 1) ∧ (∀ w, w < i → h1 10 w = -nI 1)) (by omega) (by omega) ⟨_, rfl, (LO.up (by omega) (by omega)).tr (LO.up (by omega) (by omega)), by simp (disch := omega) only [up_o, up_ss, up_sn], by simp (disch := omega) only [up_o, up_ss, up_sn], fun b hb => absurd hb (Nat.not_lt_zero _), fun b hb => absurd hb (Nat.not_lt_zero _)⟩ ?_
  rintro i x r hi ⟨h1, rfl, a1, a2, a3, a4, a5⟩ k
  unfold F_X1_layOut_12
  by_cases hl : i < 40
  · simp (disch := omega) only [li, nI_add, pk_mul, ix_n, lt_n, le_n, eq_n, sub_n, dec_n, inb_t, neg_n, neg_n', ck_true, stp_eq, bnd_some, wp_some, wp_stp, Nat.add_zero, Nat.lt_irrefl, Nat.reduceEqDiff, Nat.reduceAdd, Nat.reduceSub, Nat.reduceMul, Nat.reduceLT, Nat.reduceLeDiff, up_o, up_ss, up_sn, zb_n1, true_and, and_true, ↓reduceIte, hl]
    refine k _ hl ⟨_, rfl, (a1.tr (LO.up (by omega) (by omega))).tr (LO.up (by omega) (by omega)), ?_, ?_, fun b hb => ?_, fun b hb => ?_⟩
    · simp (disch := omega) only [up_o, up_ss, up_sn]; exact a2
    · simp (disch := omega) only [up_o, up_ss, up_sn]; exact a3
    · rw [up_o (by decide)]
      by_cases e : b = i
      · rw [e, up_ss]
      · rw [up_sn e]; exact a4 b (by omega)
    · by_cases e : b = i
      · rw [e, up_ss]
      · rw [up_sn e, up_o (by decide)]; exact a5 b (by omega)
  · have e : i = 40 := by omega
    subst e
    unfold J_X1_layOut_38
    simp (disch := omega) only [li, nI_add, pk_mul, ix_n, lt_n, le_n, eq_n, sub_n, dec_n, inb_t, neg_n, neg_n', ck_true, stp_eq, bnd_some, wp_some, wp_stp, Nat.add_zero, Nat.lt_irrefl, Nat.reduceEqDiff, Nat.reduceAdd, Nat.reduceSub, Nat.reduceMul, Nat.reduceLT, Nat.reduceLeDiff, up_o, up_ss, up_sn, zb_n1, true_and, and_true, ↓reduceIte]
    clear k r
    refine wp_for (i := 0) (E 0 1) (fun i x => ∃ h1, x = (nI i, h1) ∧ LO h h1 ∧ h1 3 2 = nI (fs R E i) ∧ h1 3 8 = nI (tr R E i).length ∧ (∀ s, s < i → h1 4 s = nI (pf R E (E 2 s)) ∧ h1 5 s = nI (pt R E (E 2 s)) ∧ h1 6 s = nI (fs R E s) ∧ h1 7 s = nI (tr R E s).length) ∧ (∀ b, b < 40 → h1 8 b = BO E i b) ∧ Arr (h1 9) (tr R E i) ∧ (∀ w, w < 40 → h1 10 w = PO (tr R E i) w)) (by omega) (by omega) ⟨_, rfl, a1, a2, a3, fun s hs => absurd hs (Nat.not_lt_zero _), fun b hb => by rw [BO_0]; exact a4 b hb, Arr.nil _, fun w hw => by rw [a5 w hw]; exact (PO_nil w).symm⟩ ?_
    clear a1 a2 a3 a4 a5 h1
    rintro i x r hi ⟨h1, rfl, a1, a2, a3, a4, a5, a6, a7⟩ k
    have hC1 := a1.cr hk hC
    have hD1 := a1.ce hD
    have hp1 : h1 3 0 = nI c := a1.2.trans hp
    unfold F_X1_layOut_40
    by_cases hl : i < E 0 1
    · have hlt := hE.lt i hl
      have pfs := p_facts hW hE hlt
      have hbw2 := hW.wlt _ hlt
      have hbl := bw_le hW (b := E 2 i + 1) (by omega)
      have hln := tr_le hW hE (s := i + 1) (by omega)
      have hfl := fs_le hW hE (s := i + 1) (by omega)
      rw [fs_s] at hfl
      rw [tr_s, List.length_append] at hln
      have w8 : LO h (up h1 8 (E 2 i) (nI i)) := a1.tr (LO.up (by omega) (by omega))
      have e8 := c_firstFrame hW hE (w8.cr hk hC) hlt
      have w4 : LO h (up (up h1 8 (E 2 i) (nI i)) 4 i (nI (pf R E (E 2 i)))) := w8.tr (LO.up (by omega) (by omega))
      have e4 := c_frameBehind hW hE (w4.cr hk hC) hlt
      have np : (plE R E (E 2 i)) = pt R E (E 2 i) - pf R E (E 2 i) := rfl
      simp (disch := omega) only [li, nI_add, pk_mul, ix_n, lt_n, le_n, eq_n, sub_n, dec_n, inb_t, neg_n, neg_n', ck_true, stp_eq, bnd_some, wp_some, wp_stp, Nat.add_zero, Nat.lt_irrefl, Nat.reduceEqDiff, Nat.reduceAdd, Nat.reduceSub, Nat.reduceMul, Nat.reduceLT, Nat.reduceLeDiff, up_o, up_ss, up_sn, zb_n1, true_and, and_true, ↓reduceIte, hD1.z, hl, hD1.o, hD1.hd, hD1.tl, ckp_of hp1 hk.1, e8, e4, a2, a3, f_X1_framesOfShot, hC1.o]
      rw [← np, ← fs_s]
      refine wp_for (i := R 9 (E 2 i)) (R 9 (E 2 i + 1)) (fun w x => ∃ h2, x = (nI w, h2) ∧ R 9 (E 2 i) ≤ w ∧ LO h h2 ∧ h2 3 2 = nI (fs R E (i + 1)) ∧ h2 3 8 = nI (tr R E i ++ kw R E (E 2 i) w).length ∧ (∀ s, s < i + 1 → h2 4 s = nI (pf R E (E 2 s)) ∧ h2 5 s = nI (pt R E (E 2 s)) ∧ h2 6 s = nI (fs R E s) ∧ h2 7 s = nI (tr R E s).length) ∧ (∀ b, b < 40 → h2 8 b = BO E (i + 1) b) ∧ Arr (h2 9) (tr R E i ++ kw R E (E 2 i) w) ∧ (∀ v, v < 40 → h2 10 v = PO (tr R E i ++ kw R E (E 2 i) w) v)) (by omega) (by omega) ?_ ?_
      · refine ⟨_, rfl, Nat.le_refl _, ?_, ?_, ?_, fun s hs => ?_, fun b hb => ?_, ?_, fun v hv => ?_⟩
        · exact (((w4.tr (LO.up (by omega) (by omega))).tr (LO.up (by omega) (by omega))).tr (LO.up (by omega) (by omega))).tr (LO.up (by omega) (by omega))
        · simp (disch := omega) only [up_o, up_ss, up_sn]
        · rw [kw_0, List.append_nil]
          simp (disch := omega) only [up_o, up_ss, up_sn]; exact a3
        · by_cases e : s = i
          · subst e
            simp (disch := omega) only [up_o, up_ss, up_sn]
            exact ⟨trivial, trivial, trivial, trivial⟩
          · have := a4 s (by omega)
            simp (disch := omega) only [up_o, up_ss, up_sn]
            exact this
        · rw [BO_eq (fun s hs z => by have := hE.inj s i (by omega) hl z; omega)]
          by_cases e : b = E 2 i
          · rw [if_pos e, e]
            simp (disch := omega) only [up_o, up_ss, up_sn]
          · rw [if_neg e]
            simp (disch := omega) only [up_o, up_ss, up_sn]
            exact a5 b hb
        · rw [kw_0, List.append_nil]
          simp (disch := omega) only [up_o, up_ss, up_sn]; exact a6
        · rw [kw_0, List.append_nil]
          simp (disch := omega) only [up_o, up_ss, up_sn]; exact a7 v hv
      · rintro w x r2 hw ⟨h2, rfl, hwb, b1, b2, b3, b4, b5, b6, b7⟩ k2
        have hC2 := b1.cr hk hC
        have hD2 := b1.ce hD
        have hp2 : h2 3 0 = nI c := b1.2.trans hp
        unfold F_X1_layOut_158 J_X1_layOut_215 J_X1_layOut_221
        by_cases hwl : w < R 9 (E 2 i + 1)
        · have hk1 := hE.k1 w (by omega)
          have hsub := kw_sub (E := E) (R := R) (b := E 2 i) (R 9 (E 2 i + 1) - (w + 1)) (w + 1) (by omega)
          rw [show w + 1 + (R 9 (E 2 i + 1) - (w + 1)) = R 9 (E 2 i + 1) by omega] at hsub
          by_cases hkq : E 1 w = 1
          · have hkl : (kw R E (E 2 i) (w + 1)).length = (kw R E (E 2 i) w).length + 1 := by rw [kw_y hwb hkq, List.length_append]; rfl
            have hll : (tr R E i ++ kw R E (E 2 i) w).length < 40 := by rw [List.length_append]; omega
            have hnm : w ∉ tr R E i ++ kw R E (E 2 i) w := by
              intro hm
              rcases List.mem_append.mp hm with hm | hm
              · obtain ⟨q, d1, d2, d3, d4⟩ := (mem_tr i).mp hm
                have e1 := (hW.blk _ w (hE.lt q (by omega)) d2 d3).1
                have e2 := (hW.blk _ w hlt hwb hwl).1
                have := hE.inj q i (by omega) hl (e1.symm.trans e2)
                omega
              · have := (kw_mem.mp hm).2.1
                omega
            simp (disch := omega) only [li, nI_add, pk_mul, ix_n, lt_n, le_n, eq_n, sub_n, dec_n, inb_t, neg_n, neg_n', ck_true, stp_eq, bnd_some, wp_some, wp_stp, Nat.add_zero, Nat.lt_irrefl, Nat.reduceEqDiff, Nat.reduceAdd, Nat.reduceSub, Nat.reduceMul, Nat.reduceLT, Nat.reduceLeDiff, up_o, up_ss, up_sn, zb_n1, true_and, and_true, ↓reduceIte, ckp_of hp2 hk.1, hC2.o, hwl, hD2.k, hkq, b3]
            refine k2 _ hwl ⟨_, rfl, by omega, ?_, ?_, ?_, ?_, ?_, ?_, ?_⟩
            · exact ((b1.tr (LO.up (by omega) (by omega))).tr (LO.up (by omega) (by omega))).tr (LO.up (by omega) (by omega))
            · simp (disch := omega) only [up_o, up_ss, up_sn]; exact b2
            · simp (disch := omega) only [up_o, up_ss, up_sn]
              refine congrArg nI ?_
              rw [List.length_append, List.length_append, hkl]
              omega
            · intro s hs
              have := b4 s hs
              simp (disch := omega) only [up_o, up_ss, up_sn]
              exact this
            · intro b hb
              have := b5 b hb
              simp (disch := omega) only [up_o, up_ss, up_sn]
              exact this
            · rw [up_o (by decide), kw_y hwb hkq, ← List.append_assoc]
              have hb6 : Arr (up h2 10 w (nI (tr R E i ++ kw R E (E 2 i) w).length) 9) (tr R E i ++ kw R E (E 2 i) w) := by rw [up_o (by decide)]; exact b6
              exact Arr.push (x := w) hb6
            · intro v hv
              rw [kw_y hwb hkq, ← List.append_assoc, PO_eq hnm]
              have := b7 v hv
              by_cases e : v = w
              · subst e
                rw [if_pos rfl]
                simp (disch := omega) only [up_o, up_ss, up_sn]
              · rw [if_neg e]
                simp (disch := omega) only [up_o, up_ss, up_sn]
                exact this
          · have hk0 : E 1 w = 0 := by omega
            simp (disch := omega) only [li, nI_add, pk_mul, ix_n, lt_n, le_n, eq_n, sub_n, dec_n, inb_t, neg_n, neg_n', ck_true, stp_eq, bnd_some, wp_some, wp_stp, Nat.add_zero, Nat.lt_irrefl, Nat.reduceEqDiff, Nat.reduceAdd, Nat.reduceSub, Nat.reduceMul, Nat.reduceLT, Nat.reduceLeDiff, up_o, up_ss, up_sn, zb_n1, true_and, and_true, ↓reduceIte, ckp_of hp2 hk.1, hC2.o, hwl, hD2.k, hk0]
            rw [← kw_n hwb hkq] at b3 b6 b7
            exact k2 _ hwl ⟨_, rfl, by omega, b1, b2, b3, b4, b5, b6, b7⟩
        · have e : w = R 9 (E 2 i + 1) := by omega
          simp (disch := omega) only [li, nI_add, pk_mul, ix_n, lt_n, le_n, eq_n, sub_n, dec_n, inb_t, neg_n, neg_n', ck_true, stp_eq, bnd_some, wp_some, wp_stp, Nat.add_zero, Nat.lt_irrefl, Nat.reduceEqDiff, Nat.reduceAdd, Nat.reduceSub, Nat.reduceMul, Nat.reduceLT, Nat.reduceLeDiff, up_o, up_ss, up_sn, zb_n1, true_and, and_true, ↓reduceIte, ckp_of hp2 hk.1, hC2.o, hwl]
          subst e
          exact k _ hl ⟨h2, rfl, b1, b2, b3, b4, b5, b6, b7⟩
    · have e : i = E 0 1 := by omega
      have hln := tr_le hW hE (s := i) (by omega)
      unfold J_X1_layOut_227
      simp (disch := omega) only [li, nI_add, pk_mul, ix_n, lt_n, le_n, eq_n, sub_n, dec_n, inb_t, neg_n, neg_n', ck_true, stp_eq, bnd_some, wp_some, wp_stp, Nat.add_zero, Nat.lt_irrefl, Nat.reduceEqDiff, Nat.reduceAdd, Nat.reduceSub, Nat.reduceMul, Nat.reduceLT, Nat.reduceLeDiff, up_o, up_ss, up_sn, zb_n1, true_and, and_true, ↓reduceIte, hD1.z, hl, a3]
      subst e
      have w7 : LO h (up h1 7 (E 0 1) (nI (tr R E (E 0 1)).length)) := a1.tr (LO.up (by omega) (by omega))
      have hL : CL (up h1 7 (E 0 1) (nI (tr R E (E 0 1)).length)) R E := by
        refine ⟨?_, ?_, fun s hs => ?_, fun s hs => ?_, fun s hs => ?_, fun s hs => ?_, fun b hb => ?_, fun p w hw => ?_, fun w hw => ?_⟩
        · simp (disch := omega) only [up_o, up_ss, up_sn]; exact a2
        · simp (disch := omega) only [up_o, up_ss, up_sn]; exact a3
        · simp (disch := omega) only [up_o, up_ss, up_sn]; exact (a4 s hs).1
        · simp (disch := omega) only [up_o, up_ss, up_sn]; exact (a4 s hs).2.1
        · simp (disch := omega) only [up_o, up_ss, up_sn]; exact (a4 s hs).2.2.1
        · by_cases e : s = E 0 1
          · subst e; exact up_ss
          · rw [up_sn e]; exact (a4 s (by omega)).2.2.2
        · simp (disch := omega) only [up_o, up_ss, up_sn]; exact a5 b hb
        · simp (disch := omega) only [up_o, up_ss, up_sn]; exact a6 p w hw
        · simp (disch := omega) only [up_o, up_ss, up_sn]; exact a7 w hw
      refine wp_bnd_of (c_findClips hW hE (w7.ce hD) hL) (fun u2 k2 => ?_)
      obtain ⟨d1, d2, d3, d4, d5⟩ := k2
      have w9 : LO h u2 := w7.tr ⟨fun q hq => d4 q (fun e => hq (by omega)) (fun e => hq (by omega)), d5 0 (by decide)⟩
      have hL2 : CL u2 R E := by
        refine ⟨?_, ?_, fun s hs => ?_, fun s hs => ?_, fun s hs => ?_, fun s hs => ?_, fun b hb => ?_, fun p w hw => ?_, fun w hw => ?_⟩
        · rw [d5 2 (by decide)]; exact hL.fr
        · rw [d5 8 (by decide)]; exact hL.pls
        · rw [d4 4 (by decide) (by decide)]; exact hL.first s hs
        · rw [d4 5 (by decide) (by decide)]; exact hL.behind s hs
        · rw [d4 6 (by decide) (by decide)]; exact hL.start s hs
        · rw [d4 7 (by decide) (by decide)]; exact hL.place s hs
        · rw [d4 8 (by decide) (by decide)]; exact hL.bs b (by have := hW.bw; have := hW.w40; omega)
        · rw [d4 9 (by decide) (by decide)]; exact hL.tr p w hw
        · rw [d4 10 (by decide) (by decide)]; exact hL.wp w (by have := hW.w40; omega)
      refine wp_bnd_of (c_measureSilence hW hE (w9.cr hk hC) (w9.ce hD) (w9.2.trans hp) hk hL2) (fun u3 k3 => ?_)
      obtain ⟨g1, g2, g3, g4⟩ := k3
      refine wp_some.mpr ⟨⟨?_, ?_, fun s hs => ?_, fun s hs => ?_, fun s hs => ?_, fun s hs => ?_, fun b hb => ?_, fun p w hw => ?_, fun w hw => ?_, ?_, fun s hs hb => ?_, ?_, g1, g2⟩, w9.tr ⟨fun q hq => g3 q (fun e => hq (by omega)), g4 0 (by decide) (by decide)⟩⟩
      · rw [g4 2 (by decide) (by decide)]; exact hL2.fr
      · rw [g4 8 (by decide) (by decide)]; exact hL2.pls
      · rw [g3 4 (by decide)]; exact hL2.first s hs
      · rw [g3 5 (by decide)]; exact hL2.behind s hs
      · rw [g3 6 (by decide)]; exact hL2.start s hs
      · rw [g3 7 (by decide)]; exact hL2.place s hs
      · rw [g3 8 (by decide)]; exact hL2.bs b (by have := hW.bw; have := hW.w40; omega)
      · rw [g3 9 (by decide)]; exact hL2.tr p w hw
      · rw [g3 10 (by decide)]; exact hL2.wp w (by have := hW.w40; omega)
      · rw [g4 11 (by decide) (by decide)]; exact d1
      · rw [g3 11 (by decide)]; exact d2 s hs hb
      · rw [g3 11 (by decide)]; exact d3
end
