/-! places are cut, on both sides -/
def AW (g g' : Hp) : Prop := (∀ k, relO k = true → ¬ k = 134 → g' k = g k) ∧ (∀ j, relF j = true → g' 125 j = g 125 j) ∧ g' 145 = g 145 ∧ g' 125 0 = g 125 0 ∧ g' 136 = g 136
theorem AW.rf (g : Hp) : AW g g := ⟨fun _ _ _ => rfl, fun _ _ => rfl, rfl, rfl, rfl⟩
theorem AW.tr {a b c : Hp} (h1 : AW a b) (h2 : AW b c) : AW a c := ⟨fun k q z => (h2.1 k q z).trans (h1.1 k q z), fun j q => (h2.2.1 j q).trans (h1.2.1 j q), h2.2.2.1.trans h1.2.2.1, h2.2.2.2.1.trans h1.2.2.2.1, h2.2.2.2.2.trans h1.2.2.2.2⟩
theorem AW.of {g g' : Hp} (h : ∀ k, ¬ k = 134 → g' k = g k) : AW g g' := ⟨fun k _ z => h k z, fun j _ => by rw [h 125 (by decide)], h 145 (by decide), by rw [h 125 (by decide)], h 136 (by decide)⟩
theorem AW.up {g : Hp} {j : Nat} {v : Int32} : AW g (up g 134 j v) := AW.of (fun k hk => up_o hk)
theorem AW.ofO {g g' : Hp} {m : Nat} (hm : relO m = false) (hm2 : ¬ m = 125) (hm3 : ¬ m = 145 ∧ ¬ m = 136) (h : ∀ k, ¬ k = 134 → ¬ k = m → g' k = g k) : AW g g' :=
  ⟨fun k hk z => h k z (fun e => by subst e; rw [hm] at hk; cases hk), fun j _ => by rw [h 125 (by decide) (fun e => hm2 e.symm)], h 145 (by decide) (fun e => hm3.1 e.symm), by rw [h 125 (by decide) (fun e => hm2 e.symm)], h 136 (by decide) (fun e => hm3.2 e.symm)⟩
theorem RowOK.aw {g g' : Hp} {R E : Nat → Nat → Nat} (q : RowOK g g' R E) : AW g g' :=
  ⟨fun k hk _ => q.gw.1 k hk, fun j hj => q.gw.2 j hj, q.o 145 (by decide) (by decide) (by decide), q.f 0 (by decide), q.o 136 (by decide) (by decide) (by decide)⟩
theorem RowOK.ge {g g' : Hp} {R E E' : Nat → Nat → Nat} (q : RowOK g g' R E) (hM : GE g E') : GE g' E' := hM.fr q.gw
theorem GR.fa {g g' : Hp} {R : Nat → Nat → Nat} (hG : GR g R) (w : AW g g') : GR g' R := by
  obtain ⟨h1, h2, -⟩ := w
  unfold GR
  rw [h1 126 (by decide) (by decide), h1 128 (by decide) (by decide), h1 129 (by decide) (by decide), h1 130 (by decide) (by decide), h1 131 (by decide) (by decide), h1 132 (by decide) (by decide), h1 133 (by decide) (by decide), h2 3 (by decide)]
  exact hG
/-- what is kept when the places from a up to b are cut -/
noncomputable def KC (R E : Nat → Nat → Nat) (a b w : Nat) : Nat := @ite _ (∃ p, a ≤ p ∧ p < b ∧ (trA R E)[p]? = some w) (Classical.propDecidable _) 0 (E 1 w)
theorem KC_0 (R E : Nat → Nat → Nat) (a : Nat) : KC R E a a = E 1 := by
  funext w
  unfold KC
  rw [if_neg]
  rintro ⟨p, h1, h2, _⟩
  omega
theorem KC_s {R E : Nat → Nat → Nat} {a b w : Nat} (hab : a ≤ b) (hw : (trA R E)[b]? = some w) : KC R E a (b + 1) = fun v => if v = w then 0 else KC R E a b v := by
  funext v
  by_cases e : v = w
  · subst e
    rw [if_pos rfl]
    unfold KC
    rw [if_pos ⟨b, hab, by omega, hw⟩]
  · rw [if_neg e]
    unfold KC
    by_cases q : ∃ p, a ≤ p ∧ p < b ∧ (trA R E)[p]? = some v
    · obtain ⟨p, h1, h2, h3⟩ := q
      rw [if_pos ⟨p, h1, by omega, h3⟩, if_pos ⟨p, h1, h2, h3⟩]
    · rw [if_neg q, if_neg]
      rintro ⟨p, h1, h2, h3⟩
      by_cases z : p = b
      · subst z
        rw [hw] at h3
        exact e (Option.some.inj h3).symm
      · exact q ⟨p, h1, by omega, h3⟩
section
variable {h g : Hp} {c : Nat} {R E : Nat → Nat → Nat}
theorem KC_le (hE : WE R E) {a b w : Nat} (hw : w < 40) : KC R E a b w ≤ 1 := by
  unfold KC
  split
  · omega
  · exact hE.k1 w hw
theorem KC_1 {a b w : Nat} (h : KC R E a b w = 1) : E 1 w = 1 := by
  unfold KC at h
  split at h
  · cases h
  · exact h
theorem KC_n (hW : WR R) (hE : WE R E) {a b w : Nat} (hw : (trA R E)[b]? = some w) : KC R E a b w = 1 := by
  unfold KC
  rw [if_neg]
  · exact (trA_get hW hE hw).2
  · rintro ⟨p, h1, h2, h3⟩
    have := nodup_get (tr_nodup hW hE _ (Nat.le_refl _)) h3 hw
    omega
theorem m_cutsPlaces (hW : WR R) (hE : WE R E) (hX : WX R E) (hG : GR g R) (hM : GE g E) {a b : Nat} (hab : a ≤ b + 1) (hb : b < (trA R E).length) : Wp (f_X11_cutsPlaces g (nI a) (nI b)) (fun g' => GE g' (cutK R E (KC R E a (b + 1))) ∧ AW g g') := by
  have h40 := trA_le hW hE
  unfold f_X11_cutsPlaces
  refine wp_bnd_of (m_laysRow hW hE hG hM) (fun g0 k0 => ?_)
  refine wp_for (i := a) (b + 1) (fun i x => ∃ g1, x = (nI i, g1) ∧ a ≤ i ∧ GE g1 (cutK R E (KC R E a i)) ∧ AW g g1 ∧ Arr (g1 141) (trA R E)) (by omega) (by omega) ⟨g0, rfl, Nat.le_refl _, by rw [KC_0]; exact GE.cut0 hE hX (k0.ge hM), k0.aw, k0.row⟩ ?_
  rintro i x r hi ⟨g1, rfl, hai, a1, a2, a3⟩ k
  unfold F_X11_cutsPlaces_6
  by_cases hl : i < b + 1
  · have hl2 : ¬ b < i := by omega
    obtain ⟨w, hw⟩ := lget (show i < (trA R E).length by omega)
    have hw2 := trA_get hW hE hw
    simp (disch := omega) only [li, nI_add, pk_mul, ix_n, lt_n, le_n, eq_n, sub_n, dec_n, inb_t, neg_n, neg_n', ck_true, stp_eq, bnd_some, wp_some, wp_stp, Nat.add_zero, Nat.lt_irrefl, Nat.reduceEqDiff, Nat.reduceAdd, Nat.reduceSub, Nat.reduceMul, Nat.reduceLT, Nat.reduceLeDiff, up_o, up_ss, up_sn, zb_n1, true_and, and_true, ↓reduceIte, hl2, a3 _ _ hw]
    refine wp_bnd_of (m_cutsWord hW hE (hG.fa a2) a1 (fun v hv => KC_le hE hv) (cutK_WX hW hE hX (fun v _ hv => KC_1 hv)) hw2.1 (KC_n hW hE hw)) (fun g2 k2 => ?_)
    refine k _ hl ⟨g2, rfl, by omega, ?_, a2.tr (AW.of k2.2), a3.o (k2.2 141 (by decide))⟩
    rw [KC_s hai hw]
    exact k2.1
  · have hl2 : b < i := by omega
    have e : i = b + 1 := by omega
    simp (disch := omega) only [li, nI_add, pk_mul, ix_n, lt_n, le_n, eq_n, sub_n, dec_n, inb_t, neg_n, neg_n', ck_true, stp_eq, bnd_some, wp_some, wp_stp, Nat.add_zero, Nat.lt_irrefl, Nat.reduceEqDiff, Nat.reduceAdd, Nat.reduceSub, Nat.reduceMul, Nat.reduceLT, Nat.reduceLeDiff, up_o, up_ss, up_sn, zb_n1, true_and, and_true, ↓reduceIte, hl2]
    subst e
    exact ⟨a1, a2⟩
/-! the class -/
def HF (h h' : Hp) : Prop := (∀ k, ¬ (3 ≤ k ∧ k ≤ 12) → ¬ (18 ≤ k ∧ k ≤ 22) → h' k = h k) ∧ h' 3 0 = h 3 0
theorem HF.tr {a b c : Hp} (h1 : HF a b) (h2 : HF b c) : HF a c := ⟨fun k q z => (h2.1 k q z).trans (h1.1 k q z), h2.2.trans h1.2⟩
theorem HF.rf (h : Hp) : HF h h := ⟨fun _ _ _ => rfl, rfl⟩
theorem LO.hf {h h' : Hp} (q : LO h h') : HF h h' := ⟨fun k a _ => q.1 k (by omega), q.2⟩
theorem HF.cr {h h' : Hp} {c : Nat} {R : Nat → Nat → Nat} (q : HF h h') (hk : knd c = 4 ∧ (c = 83 ∨ c = 97)) (hC : CR h c R) : CR h' c R := hC.fr (fun o ho => q.1 _ (by omega) (by omega))
theorem HF.of {h h' : Hp} (e : ∀ k, ¬ (18 ≤ k ∧ k ≤ 22) → h' k = h k) : HF h h' := ⟨fun k _ b => e k b, by rw [e 3 (by decide)]⟩
theorem place_P (hW : WR R) (hE : WE R E) (hX : WX R E) {a b s : Nat} (hs : s < E 0 1) : ((tr R E s).length < a ∨ b < (tr R E (s + 1)).length - 1) ↔ hasB R (KC R E a (b + 1)) (E 2 s) = true := by
  have hpos : 0 < (kw R E (E 2 s) (R 9 (E 2 s + 1))).length := by
    obtain ⟨w, h1, h2, h3⟩ := hX.film s hs
    have hm : w ∈ kw R E (E 2 s) (R 9 (E 2 s + 1)) := kw_mem.mpr ⟨h1, h2, h3⟩
    exact List.length_pos_of_mem hm
  rw [tr_s, List.length_append, hasB_iff]
  constructor
  · intro hh
    have hj : ∃ j, j < (kw R E (E 2 s) (R 9 (E 2 s + 1))).length ∧ ¬ (a ≤ (tr R E s).length + j ∧ (tr R E s).length + j < b + 1) := by
      rcases hh with hh | hh
      · exact ⟨0, hpos, by omega⟩
      · exact ⟨(kw R E (E 2 s) (R 9 (E 2 s + 1))).length - 1, by omega, by omega⟩
    obtain ⟨j, h1, h2⟩ := hj
    obtain ⟨w, hw⟩ := lget h1
    have hm := kw_mem.mp (List.mem_of_getElem? hw)
    refine ⟨w, hm.1, hm.2.1, ?_⟩
    unfold KC
    rw [if_neg]
    · exact hm.2.2
    · rintro ⟨p, h3, h4, h5⟩
      have := nodup_get (tr_nodup hW hE _ (Nat.le_refl _)) h5 (trA_kw hs hw)
      omega
  · rintro ⟨w, h1, h2, h3⟩
    have hm : w ∈ kw R E (E 2 s) (R 9 (E 2 s + 1)) := kw_mem.mpr ⟨h1, h2, KC_1 h3⟩
    obtain ⟨m, hm1, hm2⟩ := List.getElem_of_mem hm
    have hm3 : (kw R E (E 2 s) (R 9 (E 2 s + 1)))[m]? = some w := by rw [List.getElem?_eq_getElem hm1, hm2]
    have h4 := trA_kw hs hm3
    apply Classical.byContradiction
    intro z
    unfold KC at h3
    rw [if_pos ⟨(tr R E s).length + m, by omega, by omega, h4⟩] at h3
    cases h3
theorem c_cutPlaces (hW : WR R) (hE : WE R E) (hX : WX R E) (hC : CR h c R) (hD : CE h E) (hF : CF h R E) (hp : h 3 0 = nI c) (hk : knd c = 4 ∧ (c = 83 ∨ c = 97)) {a b : Nat} (hab : a ≤ b + 1) (hb : b < (trA R E).length) : Wp (f_X1_cutPlaces h (nI a) (nI b)) (fun u => CE u (cutK R E (KC R E a (b + 1))) ∧ CF u R (cutK R E (KC R E a (b + 1))) ∧ HF h u) := by
  have h40 := trA_le hW hE
  have hn := hE.n
  have hbw := hW.bw
  have hw40 := hW.w40
  unfold f_X1_cutPlaces
  refine wp_for (i := a) (b + 1) (fun i x => ∃ h1, x = (nI i, h1) ∧ a ≤ i ∧ (∀ v, v < 40 → h1 19 v = nI (KC R E a i v)) ∧ (∀ k, ¬ k = 19 → h1 k = h k)) (by omega) (by omega) ⟨h, rfl, Nat.le_refl _, fun v hv => by rw [KC_0]; exact hD.k v hv, fun _ _ => rfl⟩ ?_
  rintro i x r hi ⟨h1, rfl, hai, a1, a2⟩ k
  unfold F_X1_cutPlaces_2
  by_cases hl : i < b + 1
  · have hl2 : ¬ b < i := by omega
    have hl3 : i < (trA R E).length := by omega
    obtain ⟨w, hw⟩ := lget hl3
    have hw2 := trA_get hW hE hw
    have e3 := a2 3 (by decide)
    have e9 := a2 9 (by decide)
    simp (disch := omega) only [li, nI_add, pk_mul, ix_n, lt_n, le_n, eq_n, sub_n, dec_n, inb_t, neg_n, neg_n', ck_true, stp_eq, bnd_some, wp_some, wp_stp, Nat.add_zero, Nat.lt_irrefl, Nat.reduceEqDiff, Nat.reduceAdd, Nat.reduceSub, Nat.reduceMul, Nat.reduceLT, Nat.reduceLeDiff, up_o, up_ss, up_sn, zb_n1, true_and, and_true, ↓reduceIte, hl2, e3, hF.pls, hl3, e9, hF.tr _ _ hw]
    refine k _ hl ⟨_, rfl, by omega, fun v hv => ?_, fun q hq => by rw [up_o hq]; exact a2 q hq⟩
    rw [KC_s hai hw]
    show _ = nI (if v = w then 0 else KC R E a i v)
    by_cases e : v = w
    · rw [e, up_ss, if_pos rfl]
    · rw [up_sn e, if_neg e]; exact a1 v hv
  · have hl2 : b < i := by omega
    have e : i = b + 1 := by omega
    subst e
    unfold J_X1_cutPlaces_36
    simp (disch := omega) only [li, nI_add, pk_mul, ix_n, lt_n, le_n, eq_n, sub_n, dec_n, inb_t, neg_n, neg_n', ck_true, stp_eq, bnd_some, wp_some, wp_stp, Nat.add_zero, Nat.lt_irrefl, Nat.reduceEqDiff, Nat.reduceAdd, Nat.reduceSub, Nat.reduceMul, Nat.reduceLT, Nat.reduceLeDiff, up_o, up_ss, up_sn, zb_n1, true_and, and_true, ↓reduceIte, hl2]
    clear k r
    have e18 := a2 18 (by decide)
    have e20 := a2 20 (by decide)
    refine wp_for (i := 0) (E 0 1) (fun s x => ∃ h2, x = (nI (((ordL E).take s).filter (hasB R (KC R E a (b + 1)))).length, nI s, h2) ∧ Arr (h2 20) (((ordL E).take s).filter (hasB R (KC R E a (b + 1)))) ∧ (∀ j, s ≤ j → j < E 0 1 → h2 20 j = nI (E 2 j)) ∧ (∀ k, ¬ k = 20 → h2 k = h1 k)) (by omega) (by omega) ⟨h1, rfl, Arr.nil _, fun j _ hj => by rw [e20]; exact hD.o j hj, fun _ _ => rfl⟩ ?_
    rintro s x r hs ⟨h2, rfl, b1, b2, b3⟩ k
    have g18 := (b3 18 (by decide)).trans e18
    have g7 := (b3 7 (by decide)).trans (a2 7 (by decide))
    have hfl : (((ordL E).take s).filter (hasB R (KC R E a (b + 1)))).length ≤ s := by
      refine Nat.le_trans (List.length_filter_le _ _) ?_
      rw [List.length_take]
      omega
    unfold F_X1_cutPlaces_41
    by_cases hsl : s < E 0 1
    · have hpp := place_P hW hE hX (a := a) (b := b) hsl
      have hln := tr_le hW hE (s := s + 1) (by omega)
      have hln0 := tr_le hW hE (s := s) (by omega)
      have hpos : (tr R E s).length < (tr R E (s + 1)).length := by
        obtain ⟨w, d1, d2, d3⟩ := hX.film s hsl
        have hm : w ∈ kw R E (E 2 s) (R 9 (E 2 s + 1)) := kw_mem.mpr ⟨d1, d2, d3⟩
        have := List.length_pos_of_mem hm
        rw [tr_s, List.length_append]
        omega
      have htk : (ordL E).take (s + 1) = (ordL E).take s ++ [E 2 s] := by
        rw [List.take_add_one, ordL_get hsl]
        rfl
      have hlt := hE.lt s hsl
      have yes : hasB R (KC R E a (b + 1)) (E 2 s) = true → Wp (J_X1_cutPlaces_79 (nI a) (nI b) h2 r (nI (((ordL E).take s).filter (hasB R (KC R E a (b + 1)))).length) (nI s)) (fun u => CE u (cutK R E (KC R E a (b + 1))) ∧ CF u R (cutK R E (KC R E a (b + 1))) ∧ HF h u) := by
        intro hy
        have hf2 : ((ordL E).take (s + 1)).filter (hasB R (KC R E a (b + 1))) = ((ordL E).take s).filter (hasB R (KC R E a (b + 1))) ++ [E 2 s] := by
          rw [htk, List.filter_append, List.filter_cons_of_pos hy, List.filter_nil]
        unfold J_X1_cutPlaces_79 J_X1_cutPlaces_101
        have e2 := b2 s (Nat.le_refl _) hsl
        simp (disch := omega) only [li, nI_add, pk_mul, ix_n, lt_n, le_n, eq_n, sub_n, dec_n, inb_t, neg_n, neg_n', ck_true, stp_eq, bnd_some, wp_some, wp_stp, Nat.add_zero, Nat.lt_irrefl, Nat.reduceEqDiff, Nat.reduceAdd, Nat.reduceSub, Nat.reduceMul, Nat.reduceLT, Nat.reduceLeDiff, up_o, up_ss, up_sn, zb_n1, true_and, and_true, ↓reduceIte, e2]
        refine k _ hsl ⟨up h2 20 (((ordL E).take s).filter (hasB R (KC R E a (b + 1)))).length (nI (E 2 s)), ?_, ?_, fun j hj hj2 => ?_, fun q hq => ?_⟩
        · rw [hf2, List.length_append]; rfl
        · rw [hf2]; exact Arr.push (x := E 2 s) b1
        · rw [up_sn (by omega)]; exact b2 j (by omega) hj2
        · rw [up_o hq]; exact b3 q hq
      have no : ¬ hasB R (KC R E a (b + 1)) (E 2 s) = true → Wp (J_X1_cutPlaces_101 (nI a) (nI b) h2 r (nI (((ordL E).take s).filter (hasB R (KC R E a (b + 1)))).length) (nI s)) (fun u => CE u (cutK R E (KC R E a (b + 1))) ∧ CF u R (cutK R E (KC R E a (b + 1))) ∧ HF h u) := by
        intro hy
        have hf2 : ((ordL E).take (s + 1)).filter (hasB R (KC R E a (b + 1))) = ((ordL E).take s).filter (hasB R (KC R E a (b + 1))) := by
          rw [htk, List.filter_append, List.filter_cons_of_neg hy, List.filter_nil, List.append_nil]
        unfold J_X1_cutPlaces_101
        simp (disch := omega) only [li, nI_add, pk_mul, ix_n, lt_n, le_n, eq_n, sub_n, dec_n, inb_t, neg_n, neg_n', ck_true, stp_eq, bnd_some, wp_some, wp_stp, Nat.add_zero, Nat.lt_irrefl, Nat.reduceEqDiff, Nat.reduceAdd, Nat.reduceSub, Nat.reduceMul, Nat.reduceLT, Nat.reduceLeDiff, up_o, up_ss, up_sn, zb_n1, true_and, and_true, ↓reduceIte]
        refine k _ hsl ⟨h2, ?_, ?_, fun j hj hj2 => b2 j (by omega) hj2, b3⟩
        · rw [hf2]
        · rw [hf2]; exact b1
      by_cases q1 : (tr R E s).length < a
      · simp (disch := omega) only [li, nI_add, pk_mul, ix_n, lt_n, le_n, eq_n, sub_n, dec_n, inb_t, neg_n, neg_n', ck_true, stp_eq, bnd_some, wp_some, wp_stp, Nat.add_zero, Nat.lt_irrefl, Nat.reduceEqDiff, Nat.reduceAdd, Nat.reduceSub, Nat.reduceMul, Nat.reduceLT, Nat.reduceLeDiff, up_o, up_ss, up_sn, zb_n1, true_and, and_true, ↓reduceIte, g18, hD.z, hsl, g7, hF.place, q1]
        exact yes (hpp.mp (Or.inl q1))
      · by_cases q2 : b < (tr R E (s + 1)).length - 1
        · simp (disch := omega) only [li, nI_add, pk_mul, ix_n, lt_n, le_n, eq_n, sub_n, dec_n, inb_t, neg_n, neg_n', ck_true, stp_eq, bnd_some, wp_some, wp_stp, Nat.add_zero, Nat.lt_irrefl, Nat.reduceEqDiff, Nat.reduceAdd, Nat.reduceSub, Nat.reduceMul, Nat.reduceLT, Nat.reduceLeDiff, up_o, up_ss, up_sn, zb_n1, true_and, and_true, ↓reduceIte, g18, hD.z, hsl, g7, hF.place, q1, q2]
          exact yes (hpp.mp (Or.inr q2))
        · simp (disch := omega) only [li, nI_add, pk_mul, ix_n, lt_n, le_n, eq_n, sub_n, dec_n, inb_t, neg_n, neg_n', ck_true, stp_eq, bnd_some, wp_some, wp_stp, Nat.add_zero, Nat.lt_irrefl, Nat.reduceEqDiff, Nat.reduceAdd, Nat.reduceSub, Nat.reduceMul, Nat.reduceLT, Nat.reduceLeDiff, up_o, up_ss, up_sn, zb_n1, true_and, and_true, ↓reduceIte, g18, hD.z, hsl, g7, hF.place, q1, q2]
          exact no (fun y => (hpp.mpr y).elim q1 q2)
    · have e : s = E 0 1 := by omega
      subst e
      have htk : (ordL E).take (E 0 1) = ordL E := List.take_of_length_le (by rw [ordL_len]; exact Nat.le_refl _)
      rw [htk] at b1 hfl
      unfold J_X1_cutPlaces_107
      rw [htk]
      simp (disch := omega) only [li, nI_add, pk_mul, ix_n, lt_n, le_n, eq_n, sub_n, dec_n, inb_t, neg_n, neg_n', ck_true, stp_eq, bnd_some, wp_some, wp_stp, Nat.add_zero, Nat.lt_irrefl, Nat.reduceEqDiff, Nat.reduceAdd, Nat.reduceSub, Nat.reduceMul, Nat.reduceLT, Nat.reduceLeDiff, up_o, up_ss, up_sn, zb_n1, true_and, and_true, ↓reduceIte, g18, hD.z, hsl]
      have hE2 := cutK_WE hW hE (K := KC R E a (b + 1)) (fun v hv => KC_le hE hv)
      have hD2 : CE (up h2 18 1 (nI ((ordL E).filter (hasB R (KC R E a (b + 1)))).length)) (cutK R E (KC R E a (b + 1))) := by
        refine ⟨up_ss, fun v hv => ?_, fun s hs => ?_, fun v hv => ?_, fun v hv => ?_⟩
        · rw [up_o (by decide), b3 19 (by decide)]; exact a1 v hv
        · obtain ⟨y, hy⟩ := lget (show s < ((ordL E).filter (hasB R (KC R E a (b + 1)))).length from hs)
          rw [up_o (by decide), cutK_get hy]
          exact b1 s y hy
        · rw [up_o (by decide), b3 21 (by decide), a2 21 (by decide)]; exact hD.hd v hv
        · rw [up_o (by decide), b3 22 (by decide), a2 22 (by decide)]; exact hD.tl v hv
      have hf : HF h (up h2 18 1 (nI ((ordL E).filter (hasB R (KC R E a (b + 1)))).length)) := HF.of (fun k hk => by rw [up_o (by omega), b3 k (by omega), a2 k (by omega)])
      refine wp_bnd_of (c_layOut hW hE2 (hf.cr hk hC) hD2 (hf.2.trans hp) hk) (fun u ku => wp_some.mpr ⟨ku.2.ce hD2, ku.1, hf.tr ku.2.hf⟩)
end
