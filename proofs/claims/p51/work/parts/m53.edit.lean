/-! what the actions do to an edit -/
def ordL (E : Nat → Nat → Nat) : List Nat := (List.range (E 0 1)).map (E 2)
theorem ordL_len (E : Nat → Nat → Nat) : (ordL E).length = E 0 1 := by unfold ordL; rw [List.length_map, List.length_range]
theorem ordL_get {E : Nat → Nat → Nat} {s : Nat} (h : s < E 0 1) : (ordL E)[s]? = some (E 2 s) := by
  unfold ordL
  rw [List.getElem?_map, List.getElem?_range h]
  rfl
theorem ordL_mem {E : Nat → Nat → Nat} {b : Nat} : b ∈ ordL E ↔ ∃ s, s < E 0 1 ∧ E 2 s = b := by
  unfold ordL
  rw [List.mem_map]
  constructor
  · rintro ⟨s, h1, h2⟩; exact ⟨s, List.mem_range.mp h1, h2⟩
  · rintro ⟨s, h1, h2⟩; exact ⟨s, List.mem_range.mpr h1, h2⟩
theorem nodup_get {l : List Nat} (hn : l.Nodup) {i j x : Nat} (hi : l[i]? = some x) (hj : l[j]? = some x) : i = j := by
  have hp : l.Pairwise (fun a b => a ≠ b) := hn
  rw [List.pairwise_iff_getElem] at hp
  obtain ⟨hi1, hi2⟩ := List.getElem?_eq_some_iff.mp hi
  obtain ⟨hj1, hj2⟩ := List.getElem?_eq_some_iff.mp hj
  rcases Nat.lt_trichotomy i j with q | q | q
  · exact absurd (hi2.trans hj2.symm) (hp i j hi1 hj1 q)
  · exact q
  · exact absurd (hj2.trans hi2.symm) (hp j i hj1 hi1 q)
theorem ordL_nodup {R E : Nat → Nat → Nat} (hE : WE R E) : (ordL E).Nodup := by
  have hp : (ordL E).Pairwise (fun a b => a ≠ b) := by
    rw [List.pairwise_iff_getElem]
    intro i j hi hj hij e
    rw [ordL_len] at hi hj
    have e1 := ordL_get hi
    have e2 := ordL_get hj
    rw [List.getElem?_eq_getElem (by rw [ordL_len]; exact hi)] at e1
    rw [List.getElem?_eq_getElem (by rw [ordL_len]; exact hj)] at e2
    have := hE.inj i j hi hj (by rw [← Option.some.inj e1, ← Option.some.inj e2]; exact e)
    omega
  exact hp
theorem filter_erase {b : Nat} : ∀ (l : List Nat) (s : Nat), l.Nodup → l[s]? = some b → l.filter (fun x => x != b) = l.eraseIdx s := by
  intro l
  induction l with
  | nil => intro s _ h; cases h
  | cons a t ih =>
    intro s hn h
    rw [List.nodup_cons] at hn
    cases s with
    | zero =>
      have e : a = b := Option.some.inj h
      subst e
      rw [List.filter_cons_of_neg (by simp)]
      show _ = t
      rw [List.filter_eq_self]
      intro x hx
      have : x ≠ a := fun e => hn.1 (by rw [← e]; exact hx)
      simp [this]
    | succ s =>
      have h2 : t[s]? = some b := h
      have hb : a ≠ b := fun e => hn.1 (by rw [e]; exact List.mem_of_getElem? h2)
      rw [List.filter_cons_of_pos (by simp [hb]), ih s hn.2 h2]
      rfl
def setE (E : Nat → Nat → Nat) (o w v : Nat) : Nat → Nat → Nat := fun a j => if a = o then (if j = w then v else E a j) else E a j
def outE (E : Nat → Nat → Nat) (s : Nat) : Nat → Nat → Nat := fun a j => if a = 0 then E 0 1 - 1 else if a = 2 then (if j < s then E 2 j else E 2 (j + 1)) else E a j
def putE (E : Nat → Nat → Nat) (s b : Nat) : Nat → Nat → Nat := fun a j => if a = 0 then E 0 1 + 1 else if a = 2 then (if j < s then E 2 j else if j = s then b else E 2 (j - 1)) else E a j
/-- whether a block has a kept word -/
def hasB (R : Nat → Nat → Nat) (K : Nat → Nat) (b : Nat) : Bool := (List.range' (R 9 b) (R 9 (b + 1) - R 9 b)).any (fun w => K w == 1)
theorem hasB_iff {R : Nat → Nat → Nat} {K : Nat → Nat} {b : Nat} : hasB R K b = true ↔ ∃ w, R 9 b ≤ w ∧ w < R 9 (b + 1) ∧ K w = 1 := by
  unfold hasB
  rw [List.any_eq_true]
  constructor
  · rintro ⟨w, h1, h2⟩
    rw [List.mem_range'_1] at h1
    exact ⟨w, by omega, by omega, by simpa using h2⟩
  · rintro ⟨w, h1, h2, h3⟩
    exact ⟨w, List.mem_range'_1.mpr (by omega), by simp [h3]⟩
/-- the edit with the words K kept, and the shots of blocks that have one -/
def cutK (R E : Nat → Nat → Nat) (K : Nat → Nat) : Nat → Nat → Nat := fun a j => if a = 0 then ((ordL E).filter (hasB R K)).length else if a = 1 then K j else if a = 2 then ((ordL E).filter (hasB R K)).getD j 0 else E a j
theorem GE.congr {g : Hp} {E E' : Nat → Nat → Nat} (q : GE g E) (e0 : E' 0 1 = E 0 1) (e2 : ∀ s, s < E 0 1 → E' 2 s = E 2 s) (e1 : ∀ w, w < 40 → E' 1 w = E 1 w) (e3 : ∀ b, b < 40 → E' 3 b = E 3 b) (e4 : ∀ b, b < 40 → E' 4 b = E 4 b) (e5 : E' 5 0 = E 5 0 := by rfl) : GE g E' :=
  ⟨fun w hw hz => by rw [e1 w hw]; exact q.k w hw (e5.symm.trans hz), by rw [e0]; exact q.n, fun s hs => by rw [e0] at hs; rw [e2 s hs]; exact q.o s hs, fun b hb => by rw [e3 b hb]; exact q.hd b hb, fun b hb => by rw [e4 b hb]; exact q.tl b hb⟩
theorem CE.congr {h : Hp} {E E' : Nat → Nat → Nat} (q : CE h E) (e0 : E' 0 1 = E 0 1) (e2 : ∀ s, s < E 0 1 → E' 2 s = E 2 s) (e1 : ∀ w, w < 40 → E' 1 w = E 1 w) (e3 : ∀ b, b < 40 → E' 3 b = E 3 b) (e4 : ∀ b, b < 40 → E' 4 b = E 4 b) : CE h E' :=
  ⟨by rw [e0]; exact q.z, fun w hw => by rw [e1 w hw]; exact q.k w hw, fun s hs => by rw [e0] at hs; rw [e2 s hs]; exact q.o s hs, fun b hb => by rw [e3 b hb]; exact q.hd b hb, fun b hb => by rw [e4 b hb]; exact q.tl b hb⟩
section
variable {h g : Hp} {c : Nat} {R E : Nat → Nat → Nat} {K K' : Nat → Nat}
theorem cutK_get {s x : Nat} (hs : ((ordL E).filter (hasB R K))[s]? = some x) : cutK R E K 2 s = x := by
  show ((ordL E).filter (hasB R K)).getD s 0 = x
  rw [List.getD_eq_getElem?_getD, hs]
  rfl
theorem ordL_cut : ordL (cutK R E K) = (ordL E).filter (hasB R K) := by
  apply List.ext_getElem?
  intro i
  by_cases hi : i < ((ordL E).filter (hasB R K)).length
  · obtain ⟨x, hx⟩ := lget hi
    have e : (ordL (cutK R E K))[i]? = some (cutK R E K 2 i) := ordL_get hi
    rw [e, cutK_get hx, hx]
  · rw [List.getElem?_eq_none (by rw [ordL_len]; show ((ordL E).filter (hasB R K)).length ≤ i; omega), List.getElem?_eq_none (by omega)]
theorem cutK_WE (hW : WR R) (hE : WE R E) (hk1 : ∀ w, w < 40 → K w ≤ 1) : WE R (cutK R E K) := by
  have hmem : ∀ s, s < ((ordL E).filter (hasB R K)).length → cutK R E K 2 s ∈ ordL E := by
    intro s hs
    obtain ⟨x, hx⟩ := lget hs
    rw [cutK_get hx]
    exact (List.mem_filter.mp (List.mem_of_getElem? hx)).1
  refine ⟨?_, fun s hs => ?_, fun s t hs ht e => ?_, hk1, fun b hb => hE.hd b hb, fun b hb => hE.tl b hb, hE.fl⟩
  · show ((ordL E).filter (hasB R K)).length ≤ _
    have := List.length_filter_le (hasB R K) (ordL E)
    rw [ordL_len] at this
    have := hE.n
    omega
  · obtain ⟨t, h1, h2⟩ := ordL_mem.mp (hmem s hs)
    rw [← h2]
    exact hE.lt t h1
  · obtain ⟨x, hx⟩ := lget (show s < ((ordL E).filter (hasB R K)).length from hs)
    obtain ⟨y, hy⟩ := lget (show t < ((ordL E).filter (hasB R K)).length from ht)
    rw [cutK_get hx, cutK_get hy] at e
    subst e
    exact nodup_get (List.Pairwise.filter _ (ordL_nodup hE)) hx hy
theorem cutK_WX (hW : WR R) (hE : WE R E) (hX : WX R E) (hk2 : ∀ w, w < R 0 4 → K w = 1 → E 1 w = 1) : WX R (cutK R E K) := by
  refine ⟨fun s hs => ?_, fun w hw hk => ?_⟩
  · obtain ⟨x, hx⟩ := lget (show s < ((ordL E).filter (hasB R K)).length from hs)
    rw [cutK_get hx]
    exact hasB_iff.mp (List.mem_filter.mp (List.mem_of_getElem? hx)).2
  · have hk : K w = 1 := hk
    obtain ⟨s, h1, h2⟩ := hX.kept w hw (hk2 w hw hk)
    have hb := hW.wb w hw
    have hm : R 6 w ∈ (ordL E).filter (hasB R K) := List.mem_filter.mpr ⟨ordL_mem.mpr ⟨s, h1, h2⟩, hasB_iff.mpr ⟨w, hb.2.1, hb.2.2, hk⟩⟩
    obtain ⟨t, ht1, ht2⟩ := List.getElem_of_mem hm
    exact ⟨t, ht1, cutK_get (by rw [List.getElem?_eq_getElem ht1, ht2])⟩
theorem cutK_id (hE : WE R E) (hX : WX R E) : (ordL E).filter (hasB R (E 1)) = ordL E := by
  rw [List.filter_eq_self]
  intro b hb
  obtain ⟨s, h1, h2⟩ := ordL_mem.mp hb
  obtain ⟨w, h3, h4, h5⟩ := hX.film s h1
  rw [h2] at h3 h4
  exact hasB_iff.mpr ⟨w, h3, h4, h5⟩
theorem GE.cut0 (hE : WE R E) (hX : WX R E) (hM : GE g E) : GE g (cutK R E (E 1)) := by
  have e := cutK_id hE hX
  refine hM.congr ?_ (fun s hs => cutK_get ?_) (fun _ _ => rfl) (fun _ _ => rfl) (fun _ _ => rfl)
  · show ((ordL E).filter (hasB R (E 1))).length = _
    rw [e, ordL_len]
  · rw [e]; exact ordL_get hs
/-! the model's changes of the row of shots -/
theorem m_takesOut (hM : GE g E) (hn : E 0 1 ≤ 40) (hb : ∀ s, s < E 0 1 → E 2 s < 40) {s : Nat} (hs : s < E 0 1) : Wp (f_X11_takesOut g (nI s)) (fun g' => GE g' (outE E s) ∧ ∀ k, ¬ k = 134 → g' k = g k) := by
  unfold f_X11_takesOut
  simp (disch := omega) only [li, nI_add, pk_mul, ix_n, lt_n, le_n, eq_n, sub_n, dec_n, inb_t, neg_n, neg_n', ck_true, stp_eq, bnd_some, wp_some, wp_stp, Nat.add_zero, Nat.lt_irrefl, Nat.reduceEqDiff, Nat.reduceAdd, Nat.reduceSub, Nat.reduceMul, Nat.reduceLT, Nat.reduceLeDiff, up_o, up_ss, up_sn, zb_n1, true_and, and_true, ↓reduceIte, hM.n]
  refine wp_for (i := s) (E 0 1 - 1) (fun i x => ∃ g1, x = (nI i, g1) ∧ s ≤ i ∧ g1 134 40 = nI (E 0 1 - 1) ∧ (∀ j, j < E 0 1 → g1 134 (41 + j) = nI (if s ≤ j ∧ j < i then E 2 (j + 1) else E 2 j)) ∧ (∀ q, ¬ (40 ≤ q ∧ q < 81) → g1 134 q = g 134 q) ∧ (∀ k, ¬ k = 134 → g1 k = g k)) (by omega) (by omega) ⟨_, rfl, Nat.le_refl _, up_ss, fun j hj => by rw [up_sn (by omega), if_neg (by omega)]; exact hM.o j hj, fun q hq => up_sn (by omega), fun k hk => up_o hk⟩ ?_
  rintro i x r hi ⟨g1, rfl, hsi, a1, a2, a3, a4⟩ k
  unfold F_X11_takesOut_19
  by_cases hl : i < E 0 1 - 1
  · have e1 := a2 (i + 1) (by omega)
    rw [if_neg (by omega)] at e1
    have e1' : g1 134 (41 + i + 1) = nI (E 2 (i + 1)) := e1
    have hbb := hb (i + 1) (by omega)
    simp (disch := omega) only [li, nI_add, pk_mul, ix_n, lt_n, le_n, eq_n, sub_n, dec_n, inb_t, neg_n, neg_n', ck_true, stp_eq, bnd_some, wp_some, wp_stp, Nat.add_zero, Nat.lt_irrefl, Nat.reduceEqDiff, Nat.reduceAdd, Nat.reduceSub, Nat.reduceMul, Nat.reduceLT, Nat.reduceLeDiff, up_o, up_ss, up_sn, zb_n1, true_and, and_true, ↓reduceIte, a1, hl, e1']
    refine k _ hl ⟨_, rfl, by omega, ?_, fun j hj => ?_, fun q hq => ?_, fun q hq => ?_⟩
    · rw [up_sn (by omega)]; exact a1
    · by_cases e : j = i
      · subst e
        rw [up_ss, if_pos (by omega)]
      · rw [up_sn (by omega), a2 j hj]
        by_cases z : s ≤ j ∧ j < i
        · rw [if_pos z, if_pos (by omega)]
        · rw [if_neg z, if_neg (by omega)]
    · rw [up_sn (by omega)]; exact a3 q hq
    · rw [up_o hq]; exact a4 q hq
  · have e : i = E 0 1 - 1 := by omega
    simp (disch := omega) only [li, nI_add, pk_mul, ix_n, lt_n, le_n, eq_n, sub_n, dec_n, inb_t, neg_n, neg_n', ck_true, stp_eq, bnd_some, wp_some, wp_stp, Nat.add_zero, Nat.lt_irrefl, Nat.reduceEqDiff, Nat.reduceAdd, Nat.reduceSub, Nat.reduceMul, Nat.reduceLT, Nat.reduceLeDiff, up_o, up_ss, up_sn, zb_n1, true_and, and_true, ↓reduceIte, a1, hl]
    refine ⟨⟨fun w hw hz => ?_, ?_, fun j hj => ?_, fun b hb => ?_, fun b hb => ?_⟩, a4⟩
    · rw [a3 w (by omega)]; exact hM.k w hw hz
    · exact a1
    · have hj : j < E 0 1 - 1 := hj
      rw [a2 j (by omega)]
      show _ = nI (if j < s then E 2 j else E 2 (j + 1))
      by_cases z : j < s
      · rw [if_neg (by omega), if_pos z]
      · rw [if_pos (by omega), if_neg z]
    · rw [a3 _ (by omega)]; exact hM.hd b hb
    · rw [a3 _ (by omega)]; exact hM.tl b hb
theorem m_putsIn (hM : GE g E) (hn : E 0 1 < 40) {s b : Nat} (hs : s ≤ E 0 1) : Wp (f_X11_putsIn g (nI s) (nI b)) (fun g' => GE g' (putE E s b) ∧ ∀ k, ¬ k = 134 → g' k = g k) := by
  unfold f_X11_putsIn
  simp (disch := omega) only [li, nI_add, pk_mul, ix_n, lt_n, le_n, eq_n, sub_n, dec_n, inb_t, neg_n, neg_n', ck_true, stp_eq, bnd_some, wp_some, wp_stp, Nat.add_zero, Nat.lt_irrefl, Nat.reduceEqDiff, Nat.reduceAdd, Nat.reduceSub, Nat.reduceMul, Nat.reduceLT, Nat.reduceLeDiff, up_o, up_ss, up_sn, zb_n1, true_and, and_true, ↓reduceIte, hM.n]
  refine wp_for (i := 0) (E 0 1 - s) (fun i x => ∃ g1, x = (nI (E 0 1 - i), g1) ∧ g1 134 40 = nI (E 0 1) ∧ (∀ j, j < E 0 1 + 1 → ¬ (j = E 0 1 - i) → g1 134 (41 + j) = nI (if E 0 1 - i < j then E 2 (j - 1) else E 2 j)) ∧ (∀ q, ¬ (40 ≤ q ∧ q < 81) → g1 134 q = g 134 q) ∧ (∀ k, ¬ k = 134 → g1 k = g k)  ∧ (i < E 0 1 → g1 134 (41 + (E 0 1 - i - 1)) = nI (E 2 (E 0 1 - i - 1)))) (by omega) (by omega) ⟨g, rfl, hM.n, fun j hj h => by rw [if_neg (by omega)]; exact hM.o j (by omega), fun q hq => rfl, fun k hk => rfl, fun z => hM.o _ (by omega)⟩ ?_
  rintro i x r hi ⟨g1, rfl, a1, a2, a3, a4, a5⟩ k
  unfold F_X11_putsIn_8 J_X11_putsIn_39
  by_cases hl : i < E 0 1 - s
  · have hl2 : s < E 0 1 - i := by omega
    have e1 := a5 (by omega)
    have e1' : g1 134 (41 + (E 0 1 - i) - 1) = nI (E 2 (E 0 1 - i - 1)) := by rw [show 41 + (E 0 1 - i) - 1 = 41 + (E 0 1 - i - 1) by omega]; exact e1
    simp (disch := omega) only [li, nI_add, pk_mul, ix_n, lt_n, le_n, eq_n, sub_n, dec_n, inb_t, neg_n, neg_n', ck_true, stp_eq, bnd_some, wp_some, wp_stp, Nat.add_zero, Nat.lt_irrefl, Nat.reduceEqDiff, Nat.reduceAdd, Nat.reduceSub, Nat.reduceMul, Nat.reduceLT, Nat.reduceLeDiff, up_o, up_ss, up_sn, zb_n1, true_and, and_true, ↓reduceIte, hl2, e1']
    refine k _ hl ⟨_, by rw [Nat.sub_sub], ?_, fun j hj hne => ?_, fun q hq => ?_, fun q hq => ?_, fun z => ?_⟩
    · rw [up_sn (by omega)]; exact a1
    · by_cases e : j = E 0 1 - i
      · subst e
        rw [up_ss, if_pos (by omega), Nat.sub_sub]
      · rw [up_sn (by omega), a2 j hj e]
        by_cases z : E 0 1 - i < j
        · rw [if_pos z, if_pos (by omega)]
        · rw [if_neg z, if_neg (by omega)]
    · rw [up_sn (by omega)]; exact a3 q hq
    · rw [up_o hq]; exact a4 q hq
    · rw [up_sn (by omega)]
      have := a2 (E 0 1 - (i + 1) - 1) (by omega) (by omega)
      rw [if_neg (by omega)] at this
      exact this
  · have e : E 0 1 - i = s := by omega
    rw [e] at a2 a5
    rw [e]
    simp (disch := omega) only [li, nI_add, pk_mul, ix_n, lt_n, le_n, eq_n, sub_n, dec_n, inb_t, neg_n, neg_n', ck_true, stp_eq, bnd_some, wp_some, wp_stp, Nat.add_zero, Nat.lt_irrefl, Nat.reduceEqDiff, Nat.reduceAdd, Nat.reduceSub, Nat.reduceMul, Nat.reduceLT, Nat.reduceLeDiff, up_o, up_ss, up_sn, zb_n1, true_and, and_true, ↓reduceIte, a1]
    refine ⟨⟨fun w hw hz => ?_, up_ss, fun j hj => ?_, fun b hb => ?_, fun b hb => ?_⟩, fun q hq => by rw [up_o hq, up_o hq]; exact a4 q hq⟩
    · rw [up_sn (by omega), up_sn (by omega), a3 w (by omega)]; exact hM.k w hw hz
    · have hj : j < E 0 1 + 1 := hj
      show _ = nI (if j < s then E 2 j else if j = s then _ else E 2 (j - 1))
      rw [up_sn (by omega)]
      by_cases z : j = s
      · subst z
        rw [up_ss, if_neg (by omega), if_pos rfl]
      · rw [up_sn (by omega), a2 j hj z]
        by_cases y : j < s
        · rw [if_neg (by omega), if_pos y]
        · rw [if_pos (by omega), if_neg y, if_neg z]
    · rw [up_sn (by omega), up_sn (by omega), a3 _ (by omega)]; exact hM.hd b hb
    · rw [up_sn (by omega), up_sn (by omega), a3 _ (by omega)]; exact hM.tl b hb
theorem GE.setK (hM : GE g E) {w v : Nat} (hw : w < 40) : GE (up g 134 w (nI (1 - v))) (setE E 1 w v) := by
  refine ⟨fun u hu hz => ?_, ?_, fun s hs => ?_, fun b hb => ?_, fun b hb => ?_⟩
  · show _ = nI (1 - if u = w then v else E 1 u)
    by_cases e : u = w
    · rw [e, up_ss, if_pos rfl]
    · rw [up_sn e, if_neg e]; exact hM.k u hu hz
  · rw [up_sn (by omega)]; exact hM.n
  · rw [up_sn (by omega)]; exact hM.o s hs
  · rw [up_sn (by omega)]; exact hM.hd b hb
  · rw [up_sn (by omega)]; exact hM.tl b hb
theorem kw_nil {b : Nat} : ((kw R E b (R 9 (b + 1))).length = 0) = ¬ hasB R (E 1) b = true := by
  rw [hasB_iff]
  refine propext ⟨fun z => ?_, fun z => ?_⟩
  · rintro ⟨w, h1, h2, h3⟩
    have hm : w ∈ kw R E b (R 9 (b + 1)) := kw_mem.mpr ⟨h1, h2, h3⟩
    rw [List.length_eq_zero_iff.mp z] at hm
    exact absurd hm List.not_mem_nil
  · rw [List.length_eq_zero_iff]
    refine List.eq_nil_iff_forall_not_mem.mpr (fun w hw => ?_)
    have := kw_mem.mp hw
    exact z ⟨w, this⟩
/-- a word is cut: the model -/
theorem m_cutsWord (hW : WR R) (hE : WE R E) (hG : GR g R) (hM : GE g (cutK R E K)) (hk1 : ∀ w, w < 40 → K w ≤ 1) (hX : WX R (cutK R E K)) {w : Nat} (hw : w < R 0 4) (hkw : K w = 1) : Wp (f_X11_cutsWord g (nI w)) (fun g' => GE g' (cutK R E (fun v => if v = w then 0 else K v)) ∧ ∀ k, ¬ k = 134 → g' k = g k) := by
  obtain ⟨f1, f2, f3, f4, f5, f6⟩ := w_facts hW hw
  have hblk := hW.wb w hw
  have hE1 := cutK_WE hW hE hk1
  have hk1' : ∀ v, v < 40 → (fun v => if v = w then 0 else K v) v ≤ 1 := fun v hv => by
    show (if v = w then 0 else K v) ≤ 1
    split
    · omega
    · exact hk1 v hv
  have hM1 := hM.setK (w := w) (v := 0) f1
  have hE2 : WE R (setE (cutK R E K) 1 w 0) := by
    refine ⟨hE1.n, hE1.lt, hE1.inj, fun v hv => ?_, hE1.hd, hE1.tl, hE1.fl⟩
    show (if v = w then 0 else K v) ≤ 1
    exact hk1' v hv
  have w1 : GR (up g 134 w (nI 1)) R := by
    have : ∀ k, ¬ k = 134 → (up g 134 w (nI 1)) k = g k := fun k hk => up_o hk
    unfold GR
    rw [this 126 (by decide), this 125 (by decide), this 128 (by decide), this 129 (by decide), this 130 (by decide), this 131 (by decide), this 132 (by decide), this 133 (by decide)]
    exact hG
  have hkn := kw_nil (R := R) (E := setE (cutK R E K) 1 w 0) (b := R 6 w)
  have hkin := m_keptIn hW hE2 w1 hM1 f6
  have hso := m_shotOf hW hE2 hM1 (b := R 6 w) (by omega)
  obtain ⟨s, hs, es⟩ := hX.kept w hw hkw
  have hss : sch (fun s => setE (cutK R E K) 1 w 0 2 s = R 6 w) (setE (cutK R E K) 1 w 0 0 1) = s := sch_u (Nat.le_of_lt hs) (fun j hj e => by have := hE1.inj j s (Nat.lt_trans hj hs) hs (e.trans es.symm); omega) (fun _ => es)
  have hsb : ((ordL E).filter (hasB R K))[s]? = some (R 6 w) := by
    have : (ordL (cutK R E K))[s]? = some (cutK R E K 2 s) := ordL_get hs
    rw [ordL_cut, es] at this
    exact this
  have hother : ∀ b, b < R 0 13 → b ≠ R 6 w → hasB R (fun v => if v = w then 0 else K v) b = hasB R K b := by
    intro b hb hne
    have key : ∀ v, R 9 b ≤ v → v < R 9 (b + 1) → ¬ v = w := by
      intro v h1 h2 e
      subst e
      exact hne (hW.blk b v hb h1 h2).1.symm
    rw [Bool.eq_iff_iff, hasB_iff, hasB_iff]
    constructor
    · rintro ⟨v, h1, h2, h3⟩
      rw [if_neg (key v h1 h2)] at h3
      exact ⟨v, h1, h2, h3⟩
    · rintro ⟨v, h1, h2, h3⟩
      exact ⟨v, h1, h2, by rw [if_neg (key v h1 h2)]; exact h3⟩
  have hlt2 : ∀ b ∈ ordL E, b < R 0 13 := fun b hb => by
    obtain ⟨t, h1, h2⟩ := ordL_mem.mp hb
    rw [← h2]
    exact hE.lt t h1
  unfold f_X11_cutsWord
  simp (disch := omega) only [li, nI_add, pk_mul, ix_n, lt_n, le_n, eq_n, sub_n, dec_n, inb_t, neg_n, neg_n', ck_true, stp_eq, bnd_some, wp_some, wp_stp, Nat.add_zero, Nat.lt_irrefl, Nat.reduceEqDiff, Nat.reduceAdd, Nat.reduceSub, Nat.reduceMul, Nat.reduceLT, Nat.reduceLeDiff, up_o, up_ss, up_sn, zb_n1, true_and, and_true, ↓reduceIte, Nat.zero_add]
  have e128 : up g 134 w (nI 1) 128 w = nI (R 6 w) := by rw [up_o (by decide)]; exact hG.blk w hw
  simp (disch := omega) only [li, nI_add, pk_mul, ix_n, lt_n, le_n, eq_n, sub_n, dec_n, inb_t, neg_n, neg_n', ck_true, stp_eq, bnd_some, wp_some, wp_stp, Nat.add_zero, Nat.lt_irrefl, Nat.reduceEqDiff, Nat.reduceAdd, Nat.reduceSub, Nat.reduceMul, Nat.reduceLT, Nat.reduceLeDiff, up_o, up_ss, up_sn, zb_n1, true_and, and_true, ↓reduceIte, hG.blk]
  rw [hkin, bnd_some]
  refine wp_if (fun z => ?_) (fun z => ?_)
  · have z0 : (kw R (setE (cutK R E K) 1 w 0) (R 6 w) (R 9 (R 6 w + 1))).length = 0 := by
      have hll := kw_len (R := R) (E := setE (cutK R E K) 1 w 0) (b := R 6 w) (w := R 9 (R 6 w + 1))
      have hbl := bw_le hW (b := R 6 w + 1) (by omega)
      have h40 := hW.w40
      rw [eq_n (by omega) (by omega)] at z
      exact z
    have z1 : ¬ hasB R (fun v => if v = w then 0 else K v) (R 6 w) = true := by
      have := hkn.mp z0
      exact this
    rw [hso, bnd_some, hss, oI, if_pos (show s < setE (cutK R E K) 1 w 0 0 1 from hs)]
    have h40 := hW.w40
    have hbw := hW.bw
    have hn2 := hE2.n
    refine wp_bnd_of (m_takesOut hM1 (by omega) (fun t ht => by have := hE2.lt t ht; omega) hs) (fun g' kg => wp_some.mpr ⟨?_, fun k hk => by rw [kg.2 k hk, up_o hk]⟩)
    have ef : (ordL E).filter (hasB R (fun v => if v = w then 0 else K v)) = ((ordL E).filter (hasB R K)).eraseIdx s := by
      rw [← filter_erase _ s (List.Pairwise.filter _ (ordL_nodup hE)) hsb, List.filter_filter]
      refine List.filter_congr (fun b hb => ?_)
      by_cases e : b = R 6 w
      · rw [e, Bool.eq_false_iff.mpr z1]
        simp
      · rw [hother b (hlt2 b hb) e]
        simp [e]
    refine kg.1.congr ?_ (fun t ht => ?_) (fun v hv => rfl) (fun _ _ => rfl) (fun _ _ => rfl)
    · show ((ordL E).filter (hasB R (fun v => if v = w then 0 else K v))).length = ((ordL E).filter (hasB R K)).length - 1
      rw [ef, List.length_eraseIdx, if_pos (show s < ((ordL E).filter (hasB R K)).length from hs)]
    · refine cutK_get ?_
      have ht : t < ((ordL E).filter (hasB R K)).length - 1 := ht
      rw [ef, List.getElem?_eraseIdx]
      show _ = some (if t < s then cutK R E K 2 t else cutK R E K 2 (t + 1))
      by_cases y : t < s
      · rw [if_pos y, if_pos y]
        obtain ⟨x, hx⟩ := lget (show t < ((ordL E).filter (hasB R K)).length by omega)
        rw [cutK_get hx, hx]
      · rw [if_neg y, if_neg y]
        obtain ⟨x, hx⟩ := lget (show t + 1 < ((ordL E).filter (hasB R K)).length by omega)
        rw [cutK_get hx, hx]
  · have z1 : hasB R (fun v => if v = w then 0 else K v) (R 6 w) = true := by
      apply Classical.byContradiction
      intro y
      have z0 : (kw R (setE (cutK R E K) 1 w 0) (R 6 w) (R 9 (R 6 w + 1))).length = 0 := hkn.mpr y
      rw [z0] at z
      exact z rfl
    refine wp_some.mpr ⟨?_, fun k hk => by rw [up_o hk]⟩
    have ef : (ordL E).filter (hasB R (fun v => if v = w then 0 else K v)) = (ordL E).filter (hasB R K) := by
      refine List.filter_congr (fun b hb => ?_)
      by_cases e : b = R 6 w
      · rw [e, z1]
        exact (hasB_iff.mpr ⟨w, hblk.2.1, hblk.2.2, hkw⟩).symm
      · exact hother b (hlt2 b hb) e
    refine hM1.congr ?_ (fun t ht => ?_) (fun v hv => rfl) (fun _ _ => rfl) (fun _ _ => rfl)
    · show ((ordL E).filter (hasB R (fun v => if v = w then 0 else K v))).length = ((ordL E).filter (hasB R K)).length
      rw [ef]
    · refine cutK_get ?_
      rw [ef]
      obtain ⟨x, hx⟩ := lget (show t < ((ordL E).filter (hasB R K)).length from ht)
      show _ = some (cutK R E K 2 t)
      rw [cutK_get hx, hx]
end
