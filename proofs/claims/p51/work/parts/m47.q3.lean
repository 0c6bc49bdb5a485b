/-! calls that ask of the transcript -/
theorem sm_add (f k : Nat → Nat) : ∀ n, sm (fun w => f w + k w) n = sm f n + sm k n := by
  intro n
  induction n with
  | zero => rfl
  | succ n ih => rw [sm_s, sm_s, sm_s, ih]; omega
theorem sm_one (a c : Nat) : ∀ n, sm (fun w => if w = a then c else 0) n = if a < n then c else 0 := by
  intro n
  induction n with
  | zero => rfl
  | succ n ih =>
    rw [sm_s, ih]
    by_cases h : a < n
    · rw [if_pos h, if_neg (by omega), if_pos (by omega), Nat.add_zero]
    · rw [if_neg h]
      by_cases e : n = a
      · rw [if_pos e, if_pos (by omega)]; omega
      · rw [if_neg e, if_neg (by omega)]
theorem sum_sm (f : Nat → Nat) (n : Nat) : ∀ l : List Nat, l.Nodup → (∀ x ∈ l, x < n) → (l.map f).sum = sm (fun w => if w ∈ l then f w else 0) n := by
  intro l
  induction l with
  | nil =>
    intro _ _
    have e : ∀ n, sm (fun w => if w ∈ ([] : List Nat) then f w else 0) n = 0 := by
      intro n
      induction n with
      | zero => rfl
      | succ n ih => rw [sm_s, ih, if_neg List.not_mem_nil]
    rw [e]
    rfl
  | cons a t ih =>
    intro hn hl
    rw [List.nodup_cons] at hn
    have h1 := ih hn.2 (fun x hx => hl x (List.mem_cons_of_mem _ hx))
    have h2 := sm_one a (f a) n
    rw [if_pos (hl a List.mem_cons_self)] at h2
    rw [List.map_cons, List.sum_cons, h1]
    have h3 := sm_add (fun w => if w ∈ t then f w else 0) (fun w => if w = a then f a else 0) n
    rw [h2] at h3
    rw [Nat.add_comm, ← h3]
    refine sm_c (fun j _ => ?_)
    by_cases e : j = a
    · subst e
      rw [if_neg hn.1, if_pos rfl, if_pos List.mem_cons_self]
      omega
    · rw [if_neg e]
      by_cases z : j ∈ t
      · rw [if_pos z, if_pos (List.mem_cons_of_mem _ z)]; omega
      · rw [if_neg z, if_neg (fun y => (List.mem_cons.mp y).elim e z)]
section
variable {h g : Hp} {c : Nat} {R E : Nat → Nat → Nat}
theorem trA_get (hW : WR R) (hE : WE R E) {p w : Nat} (h : (trA R E)[p]? = some w) : w < R 0 4 ∧ E 1 w = 1 := tr_lt hW hE (Nat.le_refl _) (List.mem_of_getElem? h)
theorem trA_le (hW : WR R) (hE : WE R E) : (trA R E).length ≤ 40 := Nat.le_trans (tr_le hW hE (Nat.le_refl _)) hW.w40
theorem qa26 (q : QQ h g c R E) : QA (A_26 h g) h g := by
  have z := q.z0
  refine QA.of (v := nI (trA R E).length) ?_ ?_
  · unfold f_X10_transcriptSize
    rw [q.F.pls]
  · unfold f_X11_transcriptSize
    rw [stp_eq]
    refine wp_bnd_of (m_laysRow z.W z.E z.G z.M) (fun u k => wp_some.mpr ⟨k.n, (GW.upF g (by decide)).tr k.gw⟩)
theorem RowOK.in {g g' : Hp} {x : Int32} (hW : WR R) (hE : WE R E) (q : RowOK g g' R E) : f_X11_in g' x (nI 0) (g' 125 36 - nI 1) = some (if x < nI 0 then nI 0 else if x < nI (trA R E).length then nI 1 else nI 0) := by
  have h1 := trA_le hW hE
  rw [q.n, m_in (by omega)]
theorem qa27 (q : QQ h g c R E) (x : Int32) : QA (A_27 h g x) h g := by
  have z := q.z0
  have h1 := trA_le q.W q.E
  have key : ∃ v, f_X10_transcriptWord h x = some v ∧ Wp (f_X11_transcriptWord g x) (fun u => u.1 = v ∧ GW g u.2) := by
    rcases idb x (n := (trA R E).length) (by omega) with hx | ⟨p, hp, rfl⟩
    · refine ⟨-nI 1, ?_, ?_⟩
      · unfold f_X10_transcriptWord
        rcases hx with hx | ⟨hx, hy⟩
        · simp (disch := omega) only [li, nI_add, pk_mul, ix_n, lt_n, le_n, eq_n, sub_n, dec_n, inb_t, neg_n, neg_n', ck_true, stp_eq, bnd_some, wp_some, wp_stp, Nat.add_zero, Nat.lt_irrefl, Nat.reduceEqDiff, Nat.reduceAdd, Nat.reduceSub, Nat.reduceMul, Nat.reduceLT, Nat.reduceLeDiff, up_o, up_ss, up_sn, zb_n1, true_and, and_true, ↓reduceIte, hx]
        · simp (disch := omega) only [li, nI_add, pk_mul, ix_n, lt_n, le_n, eq_n, sub_n, dec_n, inb_t, neg_n, neg_n', ck_true, stp_eq, bnd_some, wp_some, wp_stp, Nat.add_zero, Nat.lt_irrefl, Nat.reduceEqDiff, Nat.reduceAdd, Nat.reduceSub, Nat.reduceMul, Nat.reduceLT, Nat.reduceLeDiff, up_o, up_ss, up_sn, zb_n1, true_and, and_true, ↓reduceIte, hx, q.F.pls, hy]
      · unfold f_X11_transcriptWord
        rw [stp_eq]
        refine wp_bnd_of (m_laysRow z.W z.E z.G z.M) (fun u k => ?_)
        rw [show f_X11_in u x 0 (u 125 36 - 1) = _ from k.in z.W z.E, bnd_some]
        have e : (if x < nI 0 then nI 0 else if x < nI (trA R E).length then nI 1 else nI 0) = nI 0 := by
          rcases hx with hx | ⟨hx, hy⟩
          · rw [if_pos hx]
          · rw [if_neg hx, if_neg hy]
        rw [e]
        simp (disch := omega) only [li, nI_add, pk_mul, ix_n, lt_n, le_n, eq_n, sub_n, dec_n, inb_t, neg_n, neg_n', ck_true, stp_eq, bnd_some, wp_some, wp_stp, Nat.add_zero, Nat.lt_irrefl, Nat.reduceEqDiff, Nat.reduceAdd, Nat.reduceSub, Nat.reduceMul, Nat.reduceLT, Nat.reduceLeDiff, up_o, up_ss, up_sn, zb_n1, true_and, and_true, ↓reduceIte]
        exact (GW.upF g (by decide)).tr k.gw
    · obtain ⟨w, hw⟩ := lget hp
      refine ⟨nI w, ?_, ?_⟩
      · unfold f_X10_transcriptWord
        simp (disch := omega) only [li, nI_add, pk_mul, ix_n, lt_n, le_n, eq_n, sub_n, dec_n, inb_t, neg_n, neg_n', ck_true, stp_eq, bnd_some, wp_some, wp_stp, Nat.add_zero, Nat.lt_irrefl, Nat.reduceEqDiff, Nat.reduceAdd, Nat.reduceSub, Nat.reduceMul, Nat.reduceLT, Nat.reduceLeDiff, up_o, up_ss, up_sn, zb_n1, true_and, and_true, ↓reduceIte, q.F.pls, Nat.not_lt_zero, hp, q.F.tr _ _ hw]
      · unfold f_X11_transcriptWord
        rw [stp_eq]
        refine wp_bnd_of (m_laysRow z.W z.E z.G z.M) (fun u k => ?_)
        rw [show f_X11_in u (nI p) 0 (u 125 36 - 1) = _ from k.in z.W z.E, bnd_some]
        simp (disch := omega) only [li, nI_add, pk_mul, ix_n, lt_n, le_n, eq_n, sub_n, dec_n, inb_t, neg_n, neg_n', ck_true, stp_eq, bnd_some, wp_some, wp_stp, Nat.add_zero, Nat.lt_irrefl, Nat.reduceEqDiff, Nat.reduceAdd, Nat.reduceSub, Nat.reduceMul, Nat.reduceLT, Nat.reduceLeDiff, up_o, up_ss, up_sn, zb_n1, true_and, and_true, ↓reduceIte, Nat.not_lt_zero, hp, k.row _ _ hw]
        exact (GW.upF g (by decide)).tr k.gw
  obtain ⟨v, e1, e2⟩ := key
  exact QA.of e1 e2
theorem MA.ok {g : Hp} {v : Int32} {Y : Option (Int32 × Hp)} (hY : Wp Y (fun u => u.1 = v ∧ ∃ g', (∀ k, ¬ k = 125 → ¬ k = 141 → ¬ k = 142 → u.2 k = g' k) ∧ (∀ j, ¬ j = 36 → ¬ j = 30 → ¬ j = 31 → ¬ j = 32 → ¬ j = 33 → u.2 125 j = g' 125 j) ∧ g' = up g 125 0 (nI 0))) : MA Y g 0 v := by
  refine hY.mono (fun u hu => ?_)
  obtain ⟨h1, g', h2, h3, rfl⟩ := hu
  refine ⟨⟨fun k hk => ?_, fun j hj => ?_⟩, ?_, ?_, fun _ => h1⟩
  · have h4 : ¬ k = 125 := fun e => by subst e; revert hk; decide
    rw [h2 k h4 (fun e => by subst e; revert hk; decide) (fun e => by subst e; revert hk; decide), up_o h4]
  · rw [h3 j (fun e => by subst e; revert hj; decide) (fun e => by subst e; revert hj; decide) (fun e => by subst e; revert hj; decide) (fun e => by subst e; revert hj; decide) (fun e => by subst e; revert hj; decide), up_sn (fun e => by subst e; revert hj; decide)]
  · rw [h2 145 (by decide) (by decide) (by decide), up_o (by decide)]
  · rw [h3 0 (by decide) (by decide) (by decide) (by decide) (by decide), up_ss]
    rfl
theorem qa28 (q : QQ h g c R E) (x : Int32) : QA (A_28 h g x) h g := by
  have h4 := q.W.w40
  have h1 := trA_le q.W q.E
  unfold A_28 f_L_placeOf
  rcases idb x (n := R 0 4) (by omega) with hx | ⟨w, hw, rfl⟩
  · refine QA.thr (Y := fun g => f_X11_placeOf g x) (t := 1) (v := nI 0) (w := 0) ?_ (by simp) (fun z => absurd z (by decide)) (fun _ => ?_) 1 rfl
    · unfold f_X10_placeOf
      rw [c_rW' q hx, bnd_some, if_neg (by decide)]
      rfl
    · have z := q.z0
      unfold f_X11_placeOf
      simp (disch := omega) only [li, nI_add, pk_mul, ix_n, lt_n, le_n, eq_n, sub_n, dec_n, inb_t, neg_n, neg_n', ck_true, stp_eq, bnd_some, wp_some, wp_stp, Nat.add_zero, Nat.lt_irrefl, Nat.reduceEqDiff, Nat.reduceAdd, Nat.reduceSub, Nat.reduceMul, Nat.reduceLT, Nat.reduceLeDiff, up_o, up_ss, up_sn, zb_n1, true_and, and_true, ↓reduceIte, m_noWord' z.W z.G hx]
      exact MA.fail (by decide)
  · refine QA.thr (Y := fun g => f_X11_placeOf g (nI w)) (t := 0) (v := oI (trA R E).length (sch (fun p => (trA R E)[p]? = some w) (trA R E).length)) (w := 0) ?_ (by simp) (fun _ => ?_) (fun z => absurd rfl z) 1 rfl
    · unfold f_X10_placeOf
      simp (disch := omega) only [li, nI_add, pk_mul, ix_n, lt_n, le_n, eq_n, sub_n, dec_n, inb_t, neg_n, neg_n', ck_true, stp_eq, bnd_some, wp_some, wp_stp, Nat.add_zero, Nat.lt_irrefl, Nat.reduceEqDiff, Nat.reduceAdd, Nat.reduceSub, Nat.reduceMul, Nat.reduceLT, Nat.reduceLeDiff, up_o, up_ss, up_sn, zb_n1, true_and, and_true, ↓reduceIte, c_rW q hw, q.F.wp]
    · have z := (q.zo (oI (trA R E).length (sch (fun p => (trA R E)[p]? = some w) (trA R E).length))).z0
      refine MA.ok ?_
      unfold f_X11_placeOf
      simp (disch := omega) only [li, nI_add, pk_mul, ix_n, lt_n, le_n, eq_n, sub_n, dec_n, inb_t, neg_n, neg_n', ck_true, stp_eq, bnd_some, wp_some, wp_stp, Nat.add_zero, Nat.lt_irrefl, Nat.reduceEqDiff, Nat.reduceAdd, Nat.reduceSub, Nat.reduceMul, Nat.reduceLT, Nat.reduceLeDiff, up_o, up_ss, up_sn, zb_n1, true_and, and_true, ↓reduceIte, m_noWord z.W z.G hw]
      refine wp_bnd_of (m_laysRow z.W z.E z.G z.M) (fun u k => ?_)
      refine wp_for (i := 0) (trA R E).length (fun i x => x = nI i ∧ ∀ p, p < i → ¬ (trA R E)[p]? = some w) (by omega) (by omega) ⟨rfl, fun s hs => absurd hs (Nat.not_lt_zero _)⟩ ?_
      rintro i x r hi ⟨rfl, hp⟩ k2
      unfold F_X11_placeOf_21
      by_cases hl : i < (trA R E).length
      · obtain ⟨v, hv⟩ := lget hl
        have hv2 := (trA_get q.W q.E hv).1
        simp (disch := omega) only [li, nI_add, pk_mul, ix_n, lt_n, le_n, eq_n, sub_n, dec_n, inb_t, neg_n, neg_n', ck_true, stp_eq, bnd_some, wp_some, wp_stp, Nat.add_zero, Nat.lt_irrefl, Nat.reduceEqDiff, Nat.reduceAdd, Nat.reduceSub, Nat.reduceMul, Nat.reduceLT, Nat.reduceLeDiff, up_o, up_ss, up_sn, zb_n1, true_and, and_true, ↓reduceIte, k.n, hl, k.row _ _ hv]
        by_cases e : v = w
        · subst e
          simp (disch := omega) only [li, nI_add, pk_mul, ix_n, lt_n, le_n, eq_n, sub_n, dec_n, inb_t, neg_n, neg_n', ck_true, stp_eq, bnd_some, wp_some, wp_stp, Nat.add_zero, Nat.lt_irrefl, Nat.reduceEqDiff, Nat.reduceAdd, Nat.reduceSub, Nat.reduceMul, Nat.reduceLT, Nat.reduceLeDiff, up_o, up_ss, up_sn, zb_n1, true_and, and_true, ↓reduceIte]
          exact ⟨by rw [sch_u (i := i) hi hp (fun _ => hv), oI, if_pos hl], _, k.o, fun j h1 h2 h3 h4 h5 => k.f j h1, rfl⟩
        · simp (disch := omega) only [li, nI_add, pk_mul, ix_n, lt_n, le_n, eq_n, sub_n, dec_n, inb_t, neg_n, neg_n', ck_true, stp_eq, bnd_some, wp_some, wp_stp, Nat.add_zero, Nat.lt_irrefl, Nat.reduceEqDiff, Nat.reduceAdd, Nat.reduceSub, Nat.reduceMul, Nat.reduceLT, Nat.reduceLeDiff, up_o, up_ss, up_sn, zb_n1, true_and, and_true, ↓reduceIte, e]
          refine k2 _ hl ⟨rfl, fun p hp2 y => ?_⟩
          by_cases e2 : p = i
          · subst e2
            exact e (Option.some.inj (hv.symm.trans y))
          · exact hp p (by omega) y
      · simp (disch := omega) only [li, nI_add, pk_mul, ix_n, lt_n, le_n, eq_n, sub_n, dec_n, inb_t, neg_n, neg_n', ck_true, stp_eq, bnd_some, wp_some, wp_stp, Nat.add_zero, Nat.lt_irrefl, Nat.reduceEqDiff, Nat.reduceAdd, Nat.reduceSub, Nat.reduceMul, Nat.reduceLT, Nat.reduceLeDiff, up_o, up_ss, up_sn, zb_n1, true_and, and_true, ↓reduceIte, k.n, hl]
        exact ⟨by rw [sch_u (i := i) hi hp (fun y => absurd y hl), oI, if_neg hl], _, k.o, fun j h1 h2 h3 h4 h5 => k.f j h1, rfl⟩
/-- the words of the transcript that have w's text -/
def like (R E : Nat → Nat → Nat) (w p : Nat) : Prop := ∃ v, (trA R E)[p]? = some v ∧ R 2 v = R 2 w
theorem qa30 (q : QQ h g c R E) (x : Int32) : QA (A_30 h g x) h g := by
  have h4 := q.W.w40
  have h1 := trA_le q.W q.E
  unfold A_30 f_L_occurrences
  rcases idb x (n := R 0 4) (by omega) with hx | ⟨w, hw, rfl⟩
  · refine QA.thr (Y := fun g => f_X11_occurrences g x) (t := 1) (v := nI 0) (w := 0) ?_ (by simp) (fun z => absurd z (by decide)) (fun _ => ?_) 1 rfl
    · unfold f_X10_occurrences
      rw [c_rW' q hx, bnd_some, if_neg (by decide)]
      rfl
    · have z := q.z0
      unfold f_X11_occurrences
      simp (disch := omega) only [li, nI_add, pk_mul, ix_n, lt_n, le_n, eq_n, sub_n, dec_n, inb_t, neg_n, neg_n', ck_true, stp_eq, bnd_some, wp_some, wp_stp, Nat.add_zero, Nat.lt_irrefl, Nat.reduceEqDiff, Nat.reduceAdd, Nat.reduceSub, Nat.reduceMul, Nat.reduceLT, Nat.reduceLeDiff, up_o, up_ss, up_sn, zb_n1, true_and, and_true, ↓reduceIte, m_noWord' z.W z.G hx]
      exact MA.fail (by decide)
  · refine QA.thr (Y := fun g => f_X11_occurrences g (nI w)) (t := 0) (v := nI (cnt (like R E w) (trA R E).length)) (w := 0) ?_ (by simp) (fun _ => ?_) (fun z => absurd rfl z) 1 rfl
    · unfold f_X10_occurrences
      rw [c_rW q hw, bnd_some, if_pos rfl]
      have e : f_X1_countPlacesLike h (nI w) = some (nI (cnt (like R E w) (trA R E).length)) := by
        refine wp_eq.mp ?_
        unfold f_X1_countPlacesLike
        refine wp_for (i := 0) (trA R E).length (fun i x => x = (nI (cnt (like R E w) i), nI i)) (by omega) (by omega) rfl ?_
        rintro i x r hi rfl k2
        unfold F_X1_countPlacesLike_4 J_X1_countPlacesLike_41
        by_cases hl : i < (trA R E).length
        · obtain ⟨v, hv⟩ := lget hl
          have hv2 := (trA_get q.W q.E hv).1
          have n1 := nm_lt (q.W.tx w hw)
          have n2 := nm_lt (q.W.tx v hv2)
          simp (disch := omega) only [li, nI_add, pk_mul, ix_n, lt_n, le_n, eq_n, sub_n, dec_n, inb_t, neg_n, neg_n', ck_true, stp_eq, bnd_some, wp_some, wp_stp, Nat.add_zero, Nat.lt_irrefl, Nat.reduceEqDiff, Nat.reduceAdd, Nat.reduceSub, Nat.reduceMul, Nat.reduceLT, Nat.reduceLeDiff, up_o, up_ss, up_sn, zb_n1, true_and, and_true, ↓reduceIte, q.F.pls, hl, q.ck, q.F.tr _ _ hv, q.C.o]
          by_cases e : R 2 v = R 2 w
          · simp (disch := omega) only [li, nI_add, pk_mul, ix_n, lt_n, le_n, eq_n, sub_n, dec_n, inb_t, neg_n, neg_n', ck_true, stp_eq, bnd_some, wp_some, wp_stp, Nat.add_zero, Nat.lt_irrefl, Nat.reduceEqDiff, Nat.reduceAdd, Nat.reduceSub, Nat.reduceMul, Nat.reduceLT, Nat.reduceLeDiff, up_o, up_ss, up_sn, zb_n1, true_and, and_true, ↓reduceIte, e]
            refine k2 _ hl ?_
            rw [cnt_y ⟨v, hv, e⟩]
          · simp (disch := omega) only [li, nI_add, pk_mul, ix_n, lt_n, le_n, eq_n, sub_n, dec_n, inb_t, neg_n, neg_n', ck_true, stp_eq, bnd_some, wp_some, wp_stp, Nat.add_zero, Nat.lt_irrefl, Nat.reduceEqDiff, Nat.reduceAdd, Nat.reduceSub, Nat.reduceMul, Nat.reduceLT, Nat.reduceLeDiff, up_o, up_ss, up_sn, zb_n1, true_and, and_true, ↓reduceIte, e]
            refine k2 _ hl ?_
            rw [cnt_n]
            rintro ⟨v2, y1, y2⟩
            rw [hv] at y1
            obtain rfl := Option.some.inj y1
            exact e y2
        · have e : i = (trA R E).length := by omega
          simp (disch := omega) only [li, nI_add, pk_mul, ix_n, lt_n, le_n, eq_n, sub_n, dec_n, inb_t, neg_n, neg_n', ck_true, stp_eq, bnd_some, wp_some, wp_stp, Nat.add_zero, Nat.lt_irrefl, Nat.reduceEqDiff, Nat.reduceAdd, Nat.reduceSub, Nat.reduceMul, Nat.reduceLT, Nat.reduceLeDiff, up_o, up_ss, up_sn, zb_n1, true_and, and_true, ↓reduceIte, q.F.pls, hl]
          rw [e]
      rw [e, bnd_some]
    · have z := (q.zo (nI (cnt (like R E w) (trA R E).length))).z0
      refine MA.ok ?_
      unfold f_X11_occurrences
      simp (disch := omega) only [li, nI_add, pk_mul, ix_n, lt_n, le_n, eq_n, sub_n, dec_n, inb_t, neg_n, neg_n', ck_true, stp_eq, bnd_some, wp_some, wp_stp, Nat.add_zero, Nat.lt_irrefl, Nat.reduceEqDiff, Nat.reduceAdd, Nat.reduceSub, Nat.reduceMul, Nat.reduceLT, Nat.reduceLeDiff, up_o, up_ss, up_sn, zb_n1, true_and, and_true, ↓reduceIte, m_noWord z.W z.G hw]
      refine wp_bnd_of (m_laysRow z.W z.E z.G z.M) (fun u k => ?_)
      have zG := z.G.fr k.gw
      refine wp_for (i := 0) (trA R E).length (fun i x => x = (nI (cnt (like R E w) i), nI i)) (by omega) (by omega) rfl ?_
      rintro i x r hi rfl k2
      unfold F_X11_occurrences_23 J_X11_occurrences_57
      by_cases hl : i < (trA R E).length
      · obtain ⟨v, hv⟩ := lget hl
        have hv2 := (trA_get q.W q.E hv).1
        have n1 := n27_lt (q.W.tx w hw)
        have n2 := n27_lt (q.W.tx v hv2)
        simp (disch := omega) only [li, nI_add, pk_mul, ix_n, lt_n, le_n, eq_n, sub_n, dec_n, inb_t, neg_n, neg_n', ck_true, stp_eq, bnd_some, wp_some, wp_stp, Nat.add_zero, Nat.lt_irrefl, Nat.reduceEqDiff, Nat.reduceAdd, Nat.reduceSub, Nat.reduceMul, Nat.reduceLT, Nat.reduceLeDiff, up_o, up_ss, up_sn, zb_n1, true_and, and_true, ↓reduceIte, k.n, hl, k.row _ _ hv, m_of1 q.W zG hw, m_of1 q.W zG hv2, n27_inj (q.W.tx v hv2) (q.W.tx w hw)]
        by_cases e : R 2 v = R 2 w
        · simp (disch := omega) only [li, nI_add, pk_mul, ix_n, lt_n, le_n, eq_n, sub_n, dec_n, inb_t, neg_n, neg_n', ck_true, stp_eq, bnd_some, wp_some, wp_stp, Nat.add_zero, Nat.lt_irrefl, Nat.reduceEqDiff, Nat.reduceAdd, Nat.reduceSub, Nat.reduceMul, Nat.reduceLT, Nat.reduceLeDiff, up_o, up_ss, up_sn, zb_n1, true_and, and_true, ↓reduceIte, e]
          refine k2 _ hl ?_
          rw [cnt_y ⟨v, hv, e⟩]
        · simp (disch := omega) only [li, nI_add, pk_mul, ix_n, lt_n, le_n, eq_n, sub_n, dec_n, inb_t, neg_n, neg_n', ck_true, stp_eq, bnd_some, wp_some, wp_stp, Nat.add_zero, Nat.lt_irrefl, Nat.reduceEqDiff, Nat.reduceAdd, Nat.reduceSub, Nat.reduceMul, Nat.reduceLT, Nat.reduceLeDiff, up_o, up_ss, up_sn, zb_n1, true_and, and_true, ↓reduceIte, e]
          refine k2 _ hl ?_
          rw [cnt_n]
          rintro ⟨v2, y1, y2⟩
          rw [hv] at y1
          obtain rfl := Option.some.inj y1
          exact e y2
      · have e : i = (trA R E).length := by omega
        simp (disch := omega) only [li, nI_add, pk_mul, ix_n, lt_n, le_n, eq_n, sub_n, dec_n, inb_t, neg_n, neg_n', ck_true, stp_eq, bnd_some, wp_some, wp_stp, Nat.add_zero, Nat.lt_irrefl, Nat.reduceEqDiff, Nat.reduceAdd, Nat.reduceSub, Nat.reduceMul, Nat.reduceLT, Nat.reduceLeDiff, up_o, up_ss, up_sn, zb_n1, true_and, and_true, ↓reduceIte, k.n, hl]
        exact ⟨by rw [e], _, k.o, fun j h1 h2 h3 h4 h5 => k.f j h1, rfl⟩
/-- a place whose word has the text of the next one -/
def stut (R E : Nat → Nat → Nat) (p : Nat) : Prop := ∃ u v, (trA R E)[p]? = some u ∧ (trA R E)[p + 1]? = some v ∧ R 2 u = R 2 v
theorem qa31 (q : QQ h g c R E) : QA (A_31 h g) h g := by
  have h4 := q.W.w40
  have h1 := trA_le q.W q.E
  refine QA.of (v := nI (cnt (stut R E) ((trA R E).length - 1))) ?_ ?_
  · unfold f_X10_stutters
    have e : f_X1_countStutters h = some (nI (cnt (stut R E) ((trA R E).length - 1))) := by
      refine wp_eq.mp ?_
      unfold f_X1_countStutters
      refine wp_for (i := 0) ((trA R E).length - 1) (fun i x => x = (nI (cnt (stut R E) i), nI (i + 1))) (by omega) (by omega) rfl ?_
      rintro i x r hi rfl k2
      unfold F_X1_countStutters_4 J_X1_countStutters_50
      by_cases hl : i < (trA R E).length - 1
      · obtain ⟨v, hv⟩ := lget (l := trA R E) (p := i) (by omega)
        obtain ⟨w, hw⟩ := lget (l := trA R E) (p := i + 1) (by omega)
        have hv2 := (trA_get q.W q.E hv).1
        have hw2 := (trA_get q.W q.E hw).1
        have n1 := nm_lt (q.W.tx w hw2)
        have n2 := nm_lt (q.W.tx v hv2)
        have hl2 : i + 1 < (trA R E).length := by omega
        simp (disch := omega) only [li, nI_add, pk_mul, ix_n, lt_n, le_n, eq_n, sub_n, dec_n, inb_t, neg_n, neg_n', ck_true, stp_eq, bnd_some, wp_some, wp_stp, Nat.add_zero, Nat.lt_irrefl, Nat.reduceEqDiff, Nat.reduceAdd, Nat.reduceSub, Nat.reduceMul, Nat.reduceLT, Nat.reduceLeDiff, up_o, up_ss, up_sn, zb_n1, true_and, and_true, ↓reduceIte, q.F.pls, hl2, q.ck, Nat.add_sub_cancel, q.F.tr _ _ hv, q.F.tr _ _ hw, q.C.o]
        by_cases e : R 2 v = R 2 w
        · simp (disch := omega) only [li, nI_add, pk_mul, ix_n, lt_n, le_n, eq_n, sub_n, dec_n, inb_t, neg_n, neg_n', ck_true, stp_eq, bnd_some, wp_some, wp_stp, Nat.add_zero, Nat.lt_irrefl, Nat.reduceEqDiff, Nat.reduceAdd, Nat.reduceSub, Nat.reduceMul, Nat.reduceLT, Nat.reduceLeDiff, up_o, up_ss, up_sn, zb_n1, true_and, and_true, ↓reduceIte, e]
          refine k2 _ hl ?_
          rw [cnt_y ⟨v, w, hv, hw, e⟩]
        · simp (disch := omega) only [li, nI_add, pk_mul, ix_n, lt_n, le_n, eq_n, sub_n, dec_n, inb_t, neg_n, neg_n', ck_true, stp_eq, bnd_some, wp_some, wp_stp, Nat.add_zero, Nat.lt_irrefl, Nat.reduceEqDiff, Nat.reduceAdd, Nat.reduceSub, Nat.reduceMul, Nat.reduceLT, Nat.reduceLeDiff, up_o, up_ss, up_sn, zb_n1, true_and, and_true, ↓reduceIte, e]
          refine k2 _ hl ?_
          rw [cnt_n]
          rintro ⟨v2, w2, y1, y3, y2⟩
          rw [hv] at y1
          rw [hw] at y3
          obtain rfl := Option.some.inj y1
          obtain rfl := Option.some.inj y3
          exact e y2
      · have e : i = (trA R E).length - 1 := by omega
        have e2 : ¬ i + 1 < (trA R E).length := by omega
        simp (disch := omega) only [li, nI_add, pk_mul, ix_n, lt_n, le_n, eq_n, sub_n, dec_n, inb_t, neg_n, neg_n', ck_true, stp_eq, bnd_some, wp_some, wp_stp, Nat.add_zero, Nat.lt_irrefl, Nat.reduceEqDiff, Nat.reduceAdd, Nat.reduceSub, Nat.reduceMul, Nat.reduceLT, Nat.reduceLeDiff, up_o, up_ss, up_sn, zb_n1, true_and, and_true, ↓reduceIte, q.F.pls, e2]
        rw [e]
    rw [e, bnd_some]
  · have z := q.z0
    unfold f_X11_stutters
    rw [stp_eq]
    refine wp_bnd_of (m_laysRow z.W z.E z.G z.M) (fun u k => ?_)
    have zG := z.G.fr k.gw
    refine wp_for (i := 0) ((trA R E).length - 1) (fun i x => x = (nI (cnt (stut R E) i), nI i)) (by omega) (by omega) rfl ?_
    rintro i x r hi rfl k2
    unfold F_X11_stutters_13 J_X11_stutters_56
    by_cases hl : i < (trA R E).length - 1
    · obtain ⟨v, hv⟩ := lget (l := trA R E) (p := i) (by omega)
      obtain ⟨w, hw⟩ := lget (l := trA R E) (p := i + 1) (by omega)
      have hv2 := (trA_get q.W q.E hv).1
      have hw2 := (trA_get q.W q.E hw).1
      have n1 := n27_lt (q.W.tx w hw2)
      have n2 := n27_lt (q.W.tx v hv2)
      have hl2 : i + 1 < (trA R E).length := by omega
      simp (disch := omega) only [li, nI_add, pk_mul, ix_n, lt_n, le_n, eq_n, sub_n, dec_n, inb_t, neg_n, neg_n', ck_true, stp_eq, bnd_some, wp_some, wp_stp, Nat.add_zero, Nat.lt_irrefl, Nat.reduceEqDiff, Nat.reduceAdd, Nat.reduceSub, Nat.reduceMul, Nat.reduceLT, Nat.reduceLeDiff, up_o, up_ss, up_sn, zb_n1, true_and, and_true, ↓reduceIte, k.n, hl2, k.row _ _ hv, k.row _ _ hw, m_of1 q.W zG hw2, m_of1 q.W zG hv2, n27_inj (q.W.tx v hv2) (q.W.tx w hw2)]
      by_cases e : R 2 v = R 2 w
      · simp (disch := omega) only [li, nI_add, pk_mul, ix_n, lt_n, le_n, eq_n, sub_n, dec_n, inb_t, neg_n, neg_n', ck_true, stp_eq, bnd_some, wp_some, wp_stp, Nat.add_zero, Nat.lt_irrefl, Nat.reduceEqDiff, Nat.reduceAdd, Nat.reduceSub, Nat.reduceMul, Nat.reduceLT, Nat.reduceLeDiff, up_o, up_ss, up_sn, zb_n1, true_and, and_true, ↓reduceIte, e]
        refine k2 _ hl ?_
        rw [cnt_y ⟨v, w, hv, hw, e⟩]
      · simp (disch := omega) only [li, nI_add, pk_mul, ix_n, lt_n, le_n, eq_n, sub_n, dec_n, inb_t, neg_n, neg_n', ck_true, stp_eq, bnd_some, wp_some, wp_stp, Nat.add_zero, Nat.lt_irrefl, Nat.reduceEqDiff, Nat.reduceAdd, Nat.reduceSub, Nat.reduceMul, Nat.reduceLT, Nat.reduceLeDiff, up_o, up_ss, up_sn, zb_n1, true_and, and_true, ↓reduceIte, e]
        refine k2 _ hl ?_
        rw [cnt_n]
        rintro ⟨v2, w2, y1, y3, y2⟩
        rw [hv] at y1
        rw [hw] at y3
        obtain rfl := Option.some.inj y1
        obtain rfl := Option.some.inj y3
        exact e y2
    · have e : i = (trA R E).length - 1 := by omega
      have e2 : ¬ i + 1 < (trA R E).length := by omega
      simp (disch := omega) only [li, nI_add, pk_mul, ix_n, lt_n, le_n, eq_n, sub_n, dec_n, inb_t, neg_n, neg_n', ck_true, stp_eq, bnd_some, wp_some, wp_stp, Nat.add_zero, Nat.lt_irrefl, Nat.reduceEqDiff, Nat.reduceAdd, Nat.reduceSub, Nat.reduceMul, Nat.reduceLT, Nat.reduceLeDiff, up_o, up_ss, up_sn, zb_n1, true_and, and_true, ↓reduceIte, k.n, e2]
      exact ⟨by rw [e], (GW.upF g (by decide)).tr k.gw⟩
theorem qa29 (q : QQ h g c R E) (x : Int32) : QA (A_29 h g x) h g := by
  have h4 := q.W.w40
  have h5 := q.W.bw
  have h6 := q.E.n
  have h1 := trA_le q.W q.E
  unfold A_29 f_L_startInFilm
  rcases idb x (n := R 0 4) (by omega) with hx | ⟨w, hw, rfl⟩
  · refine QA.thr (Y := fun g => f_X11_startInFilm g x) (t := 1) (v := nI 0) (w := 0) ?_ (by simp) (fun z => absurd z (by decide)) (fun _ => ?_) 1 rfl
    · unfold f_X10_startInFilm
      rw [c_rW' q hx, bnd_some, if_neg (by decide)]
      rfl
    · have z := q.z0
      show MA (bnd (f_X11_noWord (up g 125 0 (nI 0)) x) _) _ _ _
      rw [m_noWord' z.W z.G hx, bnd_some, if_neg (show ¬ nI 1 = 0 by decide)]
      exact MA.fail (by decide)
  · obtain ⟨f1, f2, f3, f4, f5, f6⟩ := w_facts q.W hw
    have hk1 := q.E.k1 w f1
    by_cases hk : E 1 w = 1
    · obtain ⟨s, hs, es⟩ := q.X.kept w hw hk
      have e1 : sch (fun s => E 2 s = R 6 w) (E 0 1) = s := sch_u (by omega) (fun j hj e => by have := q.E.inj j s (by omega) hs (e.trans es.symm); omega) (fun _ => es)
      have hfs := fs_le q.W q.E (s := s) (by omega)
      have pfs := p_facts q.W q.E f6
      have hblk := q.W.wb w hw
      have hb2 := q.W.blk (R 6 w) w f6 hblk.2.1 hblk.2.2
      refine QA.thr (Y := fun g => f_X11_startInFilm g (nI w)) (t := 0) (v := nI (fs R E s + R 4 w - pf R E (R 6 w))) (w := 0) ?_ (by simp) (fun _ => ?_) (fun z => absurd rfl z) 1 rfl
      · unfold f_X10_startInFilm
        rw [c_rW q hw, bnd_some, if_pos rfl]
        have hm : ∃ p, p < (trA R E).length ∧ (trA R E)[p]? = some w := by
          have hmem : w ∈ trA R E := (mem_tr _).mpr ⟨s, hs, by rw [es]; exact hblk.2.1, by rw [es]; exact hblk.2.2, hk⟩
          obtain ⟨p, hp, e⟩ := List.getElem_of_mem hmem
          exact ⟨p, hp, by rw [List.getElem?_eq_getElem hp, e]⟩
        have e2 : ¬ (oI (trA R E).length (sch (fun p => (trA R E)[p]? = some w) (trA R E).length) = -nI 1) := by
          rw [oI_m (by omega), sch_lt]
          exact fun y => y hm
        have e3 := q.F.bs (R 6 w) f6
        rw [e1, oI, if_pos hs] at e3
        unfold f_X1_firstFrameHeard
        simp (disch := omega) only [li, nI_add, pk_mul, ix_n, lt_n, le_n, eq_n, sub_n, dec_n, inb_t, neg_n, neg_n', ck_true, stp_eq, bnd_some, wp_some, wp_stp, Nat.add_zero, Nat.lt_irrefl, Nat.reduceEqDiff, Nat.reduceAdd, Nat.reduceSub, Nat.reduceMul, Nat.reduceLT, Nat.reduceLeDiff, up_o, up_ss, up_sn, zb_n1, true_and, and_true, ↓reduceIte, q.F.wp, e2, q.ck, q.C.o, e3, q.F.start, q.F.first, es]
      · have z := (q.zo (nI (fs R E s + R 4 w - pf R E (R 6 w)))).z0
        have zb := (q.zo (nI (fs R E s + R 4 w - pf R E (R 6 w)))).G.blk w hw
        have zs := m_shotOf z.W z.E z.M (b := R 6 w) (by omega)
        rw [e1, oI, if_pos hs] at zs
        have zf := m_filmStart z.W z.E z.G z.M (s := s) (by omega)
        have zp := m_playsFrom z.W z.E z.G z.M f6
        have zz : f_X11_startInFilm (up g 145 0 (nI (fs R E s + R 4 w - pf R E (R 6 w)))) (nI w) = some (nI (fs R E s + R 4 w - pf R E (R 6 w)), up (up g 145 0 (nI (fs R E s + R 4 w - pf R E (R 6 w)))) 125 0 (nI 0)) := by
          unfold f_X11_startInFilm
          generalize up g 145 0 (nI (fs R E s + R 4 w - pf R E (R 6 w))) = g1 at *
          simp (disch := omega) only [li, nI_add, pk_mul, ix_n, lt_n, le_n, eq_n, sub_n, dec_n, inb_t, neg_n, neg_n', ck_true, stp_eq, bnd_some, wp_some, wp_stp, Nat.add_zero, Nat.lt_irrefl, Nat.reduceEqDiff, Nat.reduceAdd, Nat.reduceSub, Nat.reduceMul, Nat.reduceLT, Nat.reduceLeDiff, up_o, up_ss, up_sn, zb_n1, true_and, and_true, ↓reduceIte, m_noWord z.W z.G hw, m_isKept z.M (z.E.zz (by omega)) f1 hk1, hk, zb, zs, zf, zp, m_of2 z.W z.G hw]
        rw [zz]
        exact MA.ok0
    · have hk0 : E 1 w = 0 := by omega
      refine QA.thr (Y := fun g => f_X11_startInFilm g (nI w)) (t := 0) (v := -nI 1) (w := 0) ?_ (by simp) (fun _ => ?_) (fun z => absurd rfl z) 1 rfl
      · unfold f_X10_startInFilm
        rw [c_rW q hw, bnd_some, if_pos rfl]
        have e2 : (oI (trA R E).length (sch (fun p => (trA R E)[p]? = some w) (trA R E).length) = -nI 1) := by
          rw [oI_m (by omega), sch_lt]
          rintro ⟨p, hp, e⟩
          exact hk (trA_get q.W q.E e).2
        unfold f_X1_firstFrameHeard
        simp (disch := omega) only [li, nI_add, pk_mul, ix_n, lt_n, le_n, eq_n, sub_n, dec_n, inb_t, neg_n, neg_n', ck_true, stp_eq, bnd_some, wp_some, wp_stp, Nat.add_zero, Nat.lt_irrefl, Nat.reduceEqDiff, Nat.reduceAdd, Nat.reduceSub, Nat.reduceMul, Nat.reduceLT, Nat.reduceLeDiff, up_o, up_ss, up_sn, zb_n1, true_and, and_true, ↓reduceIte, q.F.wp, e2]
      · have z := (q.zo (-nI 1)).z0
        have zz : f_X11_startInFilm (up g 145 0 (-nI 1)) (nI w) = some (-nI 1, up (up g 145 0 (-nI 1)) 125 0 (nI 0)) := by
          unfold f_X11_startInFilm
          generalize up g 145 0 (-nI 1) = g1 at *
          simp (disch := omega) only [li, nI_add, pk_mul, ix_n, lt_n, le_n, eq_n, sub_n, dec_n, inb_t, neg_n, neg_n', ck_true, stp_eq, bnd_some, wp_some, wp_stp, Nat.add_zero, Nat.lt_irrefl, Nat.reduceEqDiff, Nat.reduceAdd, Nat.reduceSub, Nat.reduceMul, Nat.reduceLT, Nat.reduceLeDiff, up_o, up_ss, up_sn, zb_n1, true_and, and_true, ↓reduceIte, m_noWord z.W z.G hw, m_isKept z.M (z.E.zz (by omega)) f1 hk1, hk0]
        rw [zz]
        exact MA.ok0
/-- how long a speaker's word is -/
def spt (R : Nat → Nat → Nat) (p w : Nat) : Nat := if R 3 w = p then R 5 w - R 4 w else 0
theorem qa25 (q : QQ h g c R E) (x : Int32) : QA (A_25 h g x) h g := by
  have h4 := q.W.w40
  have h5 := q.W.s4
  have h1 := trA_le q.W q.E
  have hsum : ∀ p i, i ≤ R 0 4 → sm (fun w => if E 1 w = 1 then spt R p w else 0) i ≤ 4000000 := by
    intro p i hi
    refine Nat.le_trans (sm_leN (c := 99999) i (fun j hj => ?_)) (by omega)
    obtain ⟨f1, f2, f3, f4, f5, f6⟩ := w_facts q.W (w := j) (by omega)
    unfold spt
    split
    · split <;> omega
    · omega
  have htot : ∀ p, ((trA R E).map (spt R p)).sum = sm (fun w => if E 1 w = 1 then spt R p w else 0) (R 0 4) := by
    intro p
    rw [sum_sm (spt R p) (R 0 4) (trA R E) (tr_nodup q.W q.E _ (Nat.le_refl _)) (fun x hx => (tr_lt q.W q.E (Nat.le_refl _) hx).1)]
    refine sm_c (fun j hj => ?_)
    by_cases hk : E 1 j = 1
    · obtain ⟨s, hs, es⟩ := q.X.kept j hj hk
      have hblk := q.W.wb j hj
      rw [if_pos hk, if_pos (show j ∈ trA R E from (mem_tr _).mpr ⟨s, hs, by rw [es]; exact hblk.2.1, by rw [es]; exact hblk.2.2, hk⟩)]
    · rw [if_neg hk, if_neg (show ¬ j ∈ trA R E from fun y => hk (tr_lt q.W q.E (Nat.le_refl _) y).2)]
  unfold A_25 f_L_speakingTime
  rcases idb x (n := R 0 2) (by omega) with hx | ⟨p, hp, rfl⟩
  · refine QA.thr (Y := fun g => f_X11_speakingTime g x) (t := 1) (v := nI 0) (w := 0) ?_ (by simp) (fun z => absurd z (by decide)) (fun _ => ?_) 1 rfl
    · unfold f_X10_speakingTime
      rw [c_rP' q hx, bnd_some, if_neg (by decide)]
      rfl
    · have z := q.z0
      show MA (bnd (f_X11_noSpeaker (up g 125 0 (nI 0)) x) _) _ _ _
      rw [m_noSpeaker' z.W z.G hx, bnd_some, if_neg (show ¬ nI 1 = 0 by decide)]
      exact MA.fail (by decide)
  · refine QA.thr (Y := fun g => f_X11_speakingTime g (nI p)) (t := 0) (v := nI ((trA R E).map (spt R p)).sum) (w := 0) ?_ (by simp) (fun _ => ?_) (fun z => absurd rfl z) 1 rfl
    · unfold f_X10_speakingTime
      rw [c_rP q hp, bnd_some, if_pos rfl]
      have e : f_X1_framesOfSpeaker h (nI p) = some (nI ((trA R E).map (spt R p)).sum) := by
        refine wp_eq.mp ?_
        unfold f_X1_framesOfSpeaker
        refine wp_for (i := 0) (trA R E).length (fun i x => x = (nI (((trA R E).take i).map (spt R p)).sum, nI i)) (by omega) (by omega) rfl ?_
        rintro i x r hi rfl k2
        unfold F_X1_framesOfSpeaker_4 J_X1_framesOfSpeaker_58
        by_cases hl : i < (trA R E).length
        · obtain ⟨v, hv⟩ := lget hl
          have hv2 := (trA_get q.W q.E hv).1
          obtain ⟨f1, f2, f3, f4, f5, f6⟩ := w_facts q.W hv2
          have et : (((trA R E).take (i + 1)).map (spt R p)).sum = (((trA R E).take i).map (spt R p)).sum + spt R p v := by
            rw [List.take_succ, hv, List.map_append, List.sum_append]
            simp
          simp (disch := omega) only [li, nI_add, pk_mul, ix_n, lt_n, le_n, eq_n, sub_n, dec_n, inb_t, neg_n, neg_n', ck_true, stp_eq, bnd_some, wp_some, wp_stp, Nat.add_zero, Nat.lt_irrefl, Nat.reduceEqDiff, Nat.reduceAdd, Nat.reduceSub, Nat.reduceMul, Nat.reduceLT, Nat.reduceLeDiff, up_o, up_ss, up_sn, zb_n1, true_and, and_true, ↓reduceIte, q.F.pls, hl, q.ck, q.F.tr _ _ hv, q.C.o]
          by_cases e : R 3 v = p
          · simp (disch := omega) only [li, nI_add, pk_mul, ix_n, lt_n, le_n, eq_n, sub_n, dec_n, inb_t, neg_n, neg_n', ck_true, stp_eq, bnd_some, wp_some, wp_stp, Nat.add_zero, Nat.lt_irrefl, Nat.reduceEqDiff, Nat.reduceAdd, Nat.reduceSub, Nat.reduceMul, Nat.reduceLT, Nat.reduceLeDiff, up_o, up_ss, up_sn, zb_n1, true_and, and_true, ↓reduceIte, e]
            refine k2 _ hl ?_
            rw [et, spt, if_pos e]
          · simp (disch := omega) only [li, nI_add, pk_mul, ix_n, lt_n, le_n, eq_n, sub_n, dec_n, inb_t, neg_n, neg_n', ck_true, stp_eq, bnd_some, wp_some, wp_stp, Nat.add_zero, Nat.lt_irrefl, Nat.reduceEqDiff, Nat.reduceAdd, Nat.reduceSub, Nat.reduceMul, Nat.reduceLT, Nat.reduceLeDiff, up_o, up_ss, up_sn, zb_n1, true_and, and_true, ↓reduceIte, e]
            refine k2 _ hl ?_
            rw [et, spt, if_neg e]
            rfl
        · have e : i = (trA R E).length := by omega
          simp (disch := omega) only [li, nI_add, pk_mul, ix_n, lt_n, le_n, eq_n, sub_n, dec_n, inb_t, neg_n, neg_n', ck_true, stp_eq, bnd_some, wp_some, wp_stp, Nat.add_zero, Nat.lt_irrefl, Nat.reduceEqDiff, Nat.reduceAdd, Nat.reduceSub, Nat.reduceMul, Nat.reduceLT, Nat.reduceLeDiff, up_o, up_ss, up_sn, zb_n1, true_and, and_true, ↓reduceIte, q.F.pls, hl]
          rw [e, List.take_length]
      rw [e, bnd_some]
    · have z := (q.zo (nI ((trA R E).map (spt R p)).sum)).z0
      rw [htot] at *
      refine MA.ok ?_
      unfold f_X11_speakingTime
      simp (disch := omega) only [li, nI_add, pk_mul, ix_n, lt_n, le_n, eq_n, sub_n, dec_n, inb_t, neg_n, neg_n', ck_true, stp_eq, bnd_some, wp_some, wp_stp, Nat.add_zero, Nat.lt_irrefl, Nat.reduceEqDiff, Nat.reduceAdd, Nat.reduceSub, Nat.reduceMul, Nat.reduceLT, Nat.reduceLeDiff, up_o, up_ss, up_sn, zb_n1, true_and, and_true, ↓reduceIte, m_noSpeaker z.W z.G hp]
      generalize ha : up (up g 145 0 (nI (sm (fun w => if E 1 w = 1 then spt R p w else 0) (R 0 4)))) 125 0 (nI 0) = g1 at *
      refine wp_for (i := 0) (R 0 4) (fun i x => x = (nI (sm (fun w => if E 1 w = 1 then spt R p w else 0) i), nI i)) (by omega) (by omega) rfl ?_
      rintro i x r hi rfl k2
      have hsi := hsum p i hi
      unfold F_X11_speakingTime_19 J_X11_speakingTime_62 J_X11_speakingTime_63
      by_cases hl : i < R 0 4
      · obtain ⟨f1, f2, f3, f4, f5, f6⟩ := w_facts q.W hl
        have hk1 := q.E.k1 i f1
        by_cases hk : E 1 i = 1
        · by_cases e : R 3 i = p
          · simp (disch := omega) only [li, nI_add, pk_mul, ix_n, lt_n, le_n, eq_n, sub_n, dec_n, inb_t, neg_n, neg_n', ck_true, stp_eq, bnd_some, wp_some, wp_stp, Nat.add_zero, Nat.lt_irrefl, Nat.reduceEqDiff, Nat.reduceAdd, Nat.reduceSub, Nat.reduceMul, Nat.reduceLT, Nat.reduceLeDiff, up_o, up_ss, up_sn, zb_n1, true_and, and_true, ↓reduceIte, m_words z.G, hl, m_isKept z.M (z.E.zz (by omega)) f1 hk1, hk, m_of0 z.W z.G hl, e, m_of3 z.W z.G hl, m_of2 z.W z.G hl]
            refine k2 _ hl ?_
            rw [sm_s, if_pos hk, spt, if_pos e]
          · simp (disch := omega) only [li, nI_add, pk_mul, ix_n, lt_n, le_n, eq_n, sub_n, dec_n, inb_t, neg_n, neg_n', ck_true, stp_eq, bnd_some, wp_some, wp_stp, Nat.add_zero, Nat.lt_irrefl, Nat.reduceEqDiff, Nat.reduceAdd, Nat.reduceSub, Nat.reduceMul, Nat.reduceLT, Nat.reduceLeDiff, up_o, up_ss, up_sn, zb_n1, true_and, and_true, ↓reduceIte, m_words z.G, hl, m_isKept z.M (z.E.zz (by omega)) f1 hk1, hk, m_of0 z.W z.G hl, e]
            refine k2 _ hl ?_
            rw [sm_s, if_pos hk, spt, if_neg e]
            rfl
        · have hk0 : E 1 i = 0 := by omega
          simp (disch := omega) only [li, nI_add, pk_mul, ix_n, lt_n, le_n, eq_n, sub_n, dec_n, inb_t, neg_n, neg_n', ck_true, stp_eq, bnd_some, wp_some, wp_stp, Nat.add_zero, Nat.lt_irrefl, Nat.reduceEqDiff, Nat.reduceAdd, Nat.reduceSub, Nat.reduceMul, Nat.reduceLT, Nat.reduceLeDiff, up_o, up_ss, up_sn, zb_n1, true_and, and_true, ↓reduceIte, m_words z.G, hl, m_isKept z.M (z.E.zz (by omega)) f1 hk1, hk0]
          refine k2 _ hl ?_
          rw [sm_s, if_neg hk]
          rfl
      · have e : i = R 0 4 := by omega
        simp (disch := omega) only [li, nI_add, pk_mul, ix_n, lt_n, le_n, eq_n, sub_n, dec_n, inb_t, neg_n, neg_n', ck_true, stp_eq, bnd_some, wp_some, wp_stp, Nat.add_zero, Nat.lt_irrefl, Nat.reduceEqDiff, Nat.reduceAdd, Nat.reduceSub, Nat.reduceMul, Nat.reduceLT, Nat.reduceLeDiff, up_o, up_ss, up_sn, zb_n1, true_and, and_true, ↓reduceIte, m_words z.G, hl]
        exact ⟨by rw [e], g1, fun _ _ _ _ => rfl, fun _ _ _ _ _ _ => rfl, rfl⟩
end
