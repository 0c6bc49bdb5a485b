/-! trials -/
theorem sm_range (f : Nat → Nat) : ∀ n, ((List.range n).map f).sum = sm f n := by
  intro n
  induction n with
  | zero => rfl
  | succ n ih => rw [List.range_succ, List.map_append, List.sum_append, ih, sm_s]; simp
theorem sum_filter (f : Nat → Nat) (p : Nat → Bool) : ∀ l : List Nat, ((l.filter p).map f).sum = (l.map (fun b => if p b = true then f b else 0)).sum := by
  intro l
  induction l with
  | nil => rfl
  | cons a t ih =>
    by_cases h : p a = true
    · rw [List.filter_cons_of_pos h, List.map_cons, List.sum_cons, List.map_cons, List.sum_cons, if_pos h, ih]
    · rw [List.filter_cons_of_neg h, List.map_cons, List.sum_cons, if_neg h, ih, Nat.zero_add]
theorem sum_ne (f : Nat → Nat) (x : Nat) : ∀ l : List Nat, l.Nodup → x ∈ l → (l.map f).sum = f x + ((l.filter (fun y => y != x)).map f).sum := by
  intro l
  induction l with
  | nil => intro _ h; exact absurd h List.not_mem_nil
  | cons a t ih =>
    intro hn h
    rw [List.nodup_cons] at hn
    by_cases e : a = x
    · subst e
      rw [List.map_cons, List.sum_cons, List.filter_cons_of_neg (by simp)]
      have : t.filter (fun y => y != a) = t := by
        rw [List.filter_eq_self]
        intro y hy
        have : y ≠ a := fun e => hn.1 (by rw [← e]; exact hy)
        simp [this]
      rw [this]
    · have h2 : x ∈ t := by
        rcases List.mem_cons.mp h with h | h
        · exact absurd h.symm e
        · exact h
      rw [List.map_cons, List.sum_cons, List.filter_cons_of_pos (by simp [e]), List.map_cons, List.sum_cons, ih hn.2 h2]
      omega
section
variable {h g : Hp} {c : Nat} {R E : Nat → Nat → Nat} {d x : Nat} {hi : Nat → Nat → Nat → Nat}
theorem fs_L : fs R E (E 0 1) = ((ordL E).map (plE R E)).sum := by
  unfold ordL
  rw [List.map_map]
  exact (sm_range (fun k => plE R E (E 2 k)) (E 0 1)).symm
theorem fs_cut {K : Nat → Nat} : fs R (cutK R E K) (cutK R E K 0 1) = sm (fun s => if hasB R K (E 2 s) = true then plE R E (E 2 s) else 0) (E 0 1) := by
  rw [fs_L, ordL_cut]
  have : plE R (cutK R E K) = plE R E := rfl
  rw [this, sum_filter]
  unfold ordL
  rw [List.map_map]
  exact sm_range _ _
theorem GE.of134 {g' : Hp} (hM : GE g E) (hn : E 0 1 ≤ 40) (e : ∀ q, q < 161 → g' 134 q = g 134 q) : GE g' E := by
  refine ⟨fun w hw hz => ?_, ?_, fun s hs => ?_, fun b hb => ?_, fun b hb => ?_⟩
  · rw [e w (by omega)]; exact hM.k w hw hz
  · rw [e 40 (by omega)]; exact hM.n
  · rw [e (41 + s) (by omega)]; exact hM.o s hs
  · rw [e (81 + b) (by omega)]; exact hM.hd b hb
  · rw [e (121 + b) (by omega)]; exact hM.tl b hb
theorem c_lengthWithout (hW : WR R) (hE : WE R E) (hX : WX R E) (hD : CE h E) (hF : CF h R E) {a b : Nat} (hb : b < (trA R E).length) : f_X1_lengthWithoutPlaces h (nI a) (nI b) = some (nI (fs R (cutK R E (KC R E a (b + 1))) (cutK R E (KC R E a (b + 1)) 0 1))) ∨ 2147483648 ≤ a := by
  by_cases hab : 2147483648 ≤ a
  · exact Or.inr hab
  left
  have hn := hE.n
  have hbw := hW.bw
  have h40 := hW.w40
  have hlA := trA_le hW hE
  have hsplit : ∀ i, fs R E i = sm (fun s => if hasB R (KC R E a (b + 1)) (E 2 s) = true then plE R E (E 2 s) else 0) i + sm (fun s => if hasB R (KC R E a (b + 1)) (E 2 s) = true then 0 else plE R E (E 2 s)) i := by
    intro i
    rw [← sm_add]
    refine sm_c (fun j _ => ?_)
    split <;> omega
  have hrm : ∀ i, i ≤ E 0 1 → sm (fun s => if hasB R (KC R E a (b + 1)) (E 2 s) = true then 0 else plE R E (E 2 s)) i ≤ fs R E (E 0 1) := by
    intro i hi2
    have := fs_le2 (R := R) (E := E) hi2
    have := hsplit i
    omega
  have hfl := fs_le hW hE (Nat.le_refl (E 0 1))
  rw [fs_cut]
  refine wp_eq.mp ?_
  unfold f_X1_lengthWithoutPlaces
  simp (disch := omega) only [li, nI_add, pk_mul, ix_n, lt_n, le_n, eq_n, sub_n, dec_n, inb_t, neg_n, neg_n', ck_true, stp_eq, bnd_some, wp_some, wp_stp, Nat.add_zero, Nat.lt_irrefl, Nat.reduceEqDiff, Nat.reduceAdd, Nat.reduceSub, Nat.reduceMul, Nat.reduceLT, Nat.reduceLeDiff, up_o, up_ss, up_sn, zb_n1, true_and, and_true, ↓reduceIte, hF.fr]
  refine wp_for (i := 0) (E 0 1) (fun i s => s = (nI (fs R E (E 0 1) - sm (fun s => if hasB R (KC R E a (b + 1)) (E 2 s) = true then 0 else plE R E (E 2 s)) i), nI i)) (by omega) (by omega) rfl ?_
  rintro i s r hi2 rfl k
  unfold F_X1_lengthWithoutPlaces_8 J_X1_lengthWithoutPlaces_55
  by_cases hl : i < E 0 1
  · have hpp := place_P hW hE hX (a := a) (b := b) hl
    have hln := tr_le hW hE (s := i + 1) (by omega)
    have hln0 := tr_le hW hE (s := i) (by omega)
    have hpos : (tr R E i).length < (tr R E (i + 1)).length := by
      obtain ⟨w, d1, d2, d3⟩ := hX.film i hl
      have hm : w ∈ kw R E (E 2 i) (R 9 (E 2 i + 1)) := kw_mem.mpr ⟨d1, d2, d3⟩
      have := List.length_pos_of_mem hm
      rw [tr_s, List.length_append]
      omega
    have hr1 := hrm (i + 1) hl
    rw [sm_s] at hr1
    by_cases q1 : (tr R E i).length < a
    · simp (disch := omega) only [li, nI_add, pk_mul, ix_n, lt_n, le_n, eq_n, sub_n, dec_n, inb_t, neg_n, neg_n', ck_true, stp_eq, bnd_some, wp_some, wp_stp, Nat.add_zero, Nat.lt_irrefl, Nat.reduceEqDiff, Nat.reduceAdd, Nat.reduceSub, Nat.reduceMul, Nat.reduceLT, Nat.reduceLeDiff, up_o, up_ss, up_sn, zb_n1, true_and, and_true, ↓reduceIte, hD.z, hl, hF.place, q1]
      refine k _ hl ?_
      rw [sm_s, if_pos (hpp.mp (Or.inl q1))]
      rfl
    · by_cases q2 : b < (tr R E (i + 1)).length - 1
      · simp (disch := omega) only [li, nI_add, pk_mul, ix_n, lt_n, le_n, eq_n, sub_n, dec_n, inb_t, neg_n, neg_n', ck_true, stp_eq, bnd_some, wp_some, wp_stp, Nat.add_zero, Nat.lt_irrefl, Nat.reduceEqDiff, Nat.reduceAdd, Nat.reduceSub, Nat.reduceMul, Nat.reduceLT, Nat.reduceLeDiff, up_o, up_ss, up_sn, zb_n1, true_and, and_true, ↓reduceIte, hD.z, hl, hF.place, q1, q2]
        refine k _ hl ?_
        rw [sm_s, if_pos (hpp.mp (Or.inr q2))]
        rfl
      · have hno : ¬ hasB R (KC R E a (b + 1)) (E 2 i) = true := fun y => (hpp.mpr y).elim q1 q2
        rw [if_neg hno] at hr1
        have hle : plE R E (E 2 i) ≤ fs R E (E 0 1) - sm (fun s => if hasB R (KC R E a (b + 1)) (E 2 s) = true then 0 else plE R E (E 2 s)) i := by omega
        simp (disch := omega) only [li, nI_add, pk_mul, ix_n, lt_n, le_n, eq_n, sub_n, dec_n, inb_t, neg_n, neg_n', ck_true, stp_eq, bnd_some, wp_some, wp_stp, Nat.add_zero, Nat.lt_irrefl, Nat.reduceEqDiff, Nat.reduceAdd, Nat.reduceSub, Nat.reduceMul, Nat.reduceLT, Nat.reduceLeDiff, up_o, up_ss, up_sn, zb_n1, true_and, and_true, ↓reduceIte, hD.z, hl, hF.place, q1, q2, c_framesOfShot hW hE hF hl]
        refine k _ hl ?_
        rw [sm_s, if_neg hno, Nat.sub_sub]
  · have e : i = E 0 1 := by omega
    subst e
    simp (disch := omega) only [li, nI_add, pk_mul, ix_n, lt_n, le_n, eq_n, sub_n, dec_n, inb_t, neg_n, neg_n', ck_true, stp_eq, bnd_some, wp_some, wp_stp, Nat.add_zero, Nat.lt_irrefl, Nat.reduceEqDiff, Nat.reduceAdd, Nat.reduceSub, Nat.reduceMul, Nat.reduceLT, Nat.reduceLeDiff, up_o, up_ss, up_sn, zb_n1, true_and, and_true, ↓reduceIte, hD.z]
    rw [hsplit (E 0 1), Nat.add_sub_cancel]
theorem qa32 (w : ED h g c R E d x hi) (a1 a2 : Int32) : AA (A_32 h g a1 a2) h g c R := by
  have q := w.Q
  have hl := trA_le q.W q.E
  have hn := q.E.n
  have hbw := q.W.bw
  have h40 := q.W.w40
  unfold A_32 f_L_lengthIfCut
  rcases idP a1 a2 (n := (trA R E).length) (by omega) with hb | ⟨a, b, hab, hb, rfl, rfl⟩
  · refine AA.tn (Y := fun g => f_X11_lengthIfCut g a1 a2) w (t := 2) (v0 := nI 0) (v := 0) (co := 1) ?_ rfl (by decide) (MA.np (R := R) (E := E) ?_)
    · unfold f_X10_lengthIfCut
      rw [c_rPl' q hb, bnd_some, if_neg (by decide)]
      rfl
    · have z := q.z0
      unfold f_X11_lengthIfCut
      rw [stp_eq]
      refine wp_bnd_of (m_noPlaces' z.W z.E z.G z.M hb) (fun u k => ?_)
      obtain ⟨k1, g0, k2, k3⟩ := k
      rw [if_neg (by rw [k1]; decide)]
      exact wp_some.mpr ⟨g0, k2, k3⟩
  · have E2 := cutK_WE q.W q.E (K := KC R E a (b + 1)) (fun v hv => KC_le q.E hv)
    have ec := (c_lengthWithout q.W q.E q.X q.D q.F (a := a) hb).resolve_right (by omega)
    refine AA.tr (Y := fun g => f_X11_lengthIfCut g (nI a) (nI b)) (v := nI (fs R (cutK R E (KC R E a (b + 1))) (cutK R E (KC R E a (b + 1)) 0 1))) ?_ rfl (MK ?_)
    · unfold f_X10_lengthIfCut
      rw [c_rPl q hab hb, bnd_some, if_pos rfl, ec, bnd_some]
    · have z := (w.zo (nI (fs R (cutK R E (KC R E a (b + 1))) (cutK R E (KC R E a (b + 1)) 0 1)))).z0
      unfold f_X11_lengthIfCut
      rw [stp_eq]
      refine wp_bnd_of (m_noPlaces z.Q.W z.Q.E z.Q.G z.Q.M hab hb) (fun u k => ?_)
      obtain ⟨k1, k2⟩ := k
      rw [if_pos (by rw [k1]; rfl)]
      refine wp_bnd_of m_putsAside (fun g3 k3 => ?_)
      obtain ⟨s1, s2⟩ := k3
      have P3 : KP u.2 g3 := ⟨⟨fun k a _ _ => s2 k (fun e => by subst e; revert a; decide), fun j _ _ => by rw [s2 125 (by decide)]⟩, s2 145 (by decide), by rw [s2 125 (by decide)]⟩
      have G3 : GR g3 R := (z.Q.G.fr k2.gw).gf P3.1
      have M3 : GE g3 E := (z.Q.M.fr k2.gw).of134 (by omega) (fun q _ => by rw [s2 134 (by decide)])
      refine wp_bnd_of (m_cutsPlaces z.Q.W z.Q.E z.Q.X G3 M3 (a := a) (b := b) (by omega) hb) (fun g5 k5 => ?_)
      rw [m_film z.Q.W E2 (G3.fa k5.2) k5.1, bnd_some]
      refine wp_bnd_of m_takesBack (fun g6 k6 => ?_)
      obtain ⟨t1, t2⟩ := k6
      have w6 : AW g5 g6 := AW.of t2
      have M6 : GE g6 E := (z.Q.M.fr k2.gw).of134 (by omega) (fun q hq => by rw [t1 q hq, k5.2.2.2.2.2, s1 q hq])
      have H6 : HG g6 d hi := by
        have H0 := k2.aw.hg z.Hg
        have H3 : HG g3 d hi := H0.fr (by rw [s2 125 (by decide)]) (s2 135 (by decide))
        exact w6.hg (k5.2.hg H3)
      exact wp_some.mpr ⟨rfl, ((k2.kp.tr P3).tr k5.2.kp).tr w6.kp, ED.mk2 w q.C q.p q.D q.F ((G3.fa k5.2).fa w6) M6 q.E q.X w.Hc H6 w.Hw⟩
theorem sm_ins (f : Nat → Nat) (y p : Nat) : ∀ n, p ≤ n → sm (fun k => if k < p then f k else if k = p then y else f (k - 1)) (n + 1) = sm f n + y := by
  intro n
  induction n with
  | zero =>
    intro hp
    have : p = 0 := by omega
    subst this
    rw [sm_s, sm_0, sm_0, if_neg (by omega), if_pos rfl]
  | succ n ih =>
    intro hp
    by_cases e : p = n + 1
    · subst e
      rw [sm_s, if_neg (by omega), if_pos rfl]
      congr 1
      exact sm_c (fun j hj => if_pos hj)
    · have := ih (by omega)
      rw [sm_s, this, sm_s, if_neg (by omega), if_neg (by omega), Nat.add_sub_cancel]
      omega
theorem fs_res (hW : WR R) (hE : WE R E) {v : Nat} (hv : v < R 0 4) : fs R (resE R E v) (resE R E v 0 1) = if (∃ s, s < E 0 1 ∧ E 2 s = R 6 v) then fs R E (E 0 1) else fs R E (E 0 1) + (R 12 (R 6 v) - rs R (R 6 v)) := by
  obtain ⟨f1, f2, f3, f4, f5, f6⟩ := w_facts hW hv
  by_cases q : ∃ s, s < E 0 1 ∧ E 2 s = R 6 v
  · rw [if_pos q, resE_y q]
    rfl
  · rw [if_neg q, resE_n q]
    have hp := insN_le E (R 6 v) (E 0 1)
    generalize hpp : insN E (R 6 v) (E 0 1) = p at hp
    have e1 : plE R (setE (setE (putE (setE E 1 v 1) p (R 6 v)) 3 (R 6 v) 0) 4 (R 6 v) 0) (R 6 v) = R 12 (R 6 v) - rs R (R 6 v) := by
      have pfs := p_facts hW hE f6
      have hlast := hW.last (R 6 v)
      unfold plE pt pf rs
      have e3 : (setE (setE (putE (setE E 1 v 1) p (R 6 v)) 3 (R 6 v) 0) 4 (R 6 v) 0) 3 (R 6 v) = 0 := by
        show (if R 6 v = R 6 v then 0 else _) = 0
        rw [if_pos rfl]
      have e4 : (setE (setE (putE (setE E 1 v 1) p (R 6 v)) 3 (R 6 v) 0) 4 (R 6 v) 0) 4 (R 6 v) = 0 := by
        show (if R 6 v = R 6 v then 0 else _) = 0
        rw [if_pos rfl]
      rw [e3, e4]
      have ea : (if R 6 v + 1 = R 0 13 then R 0 0 else min (R 12 (R 6 v) + 0) (R 10 (R 6 v + 1))) = R 12 (R 6 v) := by
        by_cases z : R 6 v + 1 = R 0 13
        · rw [if_pos z]; exact (hlast z).symm
        · rw [if_neg z]
          have := hW.cut (R 6 v) (by omega)
          omega
      have eb : (if R 6 v = 0 then 0 else max (R 12 (R 6 v - 1) - 0) (R 11 (R 6 v - 1))) = (if R 6 v = 0 then 0 else R 12 (R 6 v - 1)) := by
        by_cases z : R 6 v = 0
        · rw [if_pos z, if_pos z]
        · rw [if_neg z, if_neg z]
          have := hW.cut (R 6 v - 1) (by omega)
          omega
      rw [ea, eb]
    have e2 : ∀ b, b ≠ R 6 v → plE R (setE (setE (putE (setE E 1 v 1) p (R 6 v)) 3 (R 6 v) 0) 4 (R 6 v) 0) b = plE R E b := by
      intro b hb
      have e3 : (setE (setE (putE (setE E 1 v 1) p (R 6 v)) 3 (R 6 v) 0) 4 (R 6 v) 0) 3 b = E 3 b := by
        show (if b = R 6 v then 0 else _) = _
        rw [if_neg hb]
        rfl
      have e4 : (setE (setE (putE (setE E 1 v 1) p (R 6 v)) 3 (R 6 v) 0) 4 (R 6 v) 0) 4 b = E 4 b := by
        show (if b = R 6 v then 0 else _) = _
        rw [if_neg hb]
        rfl
      unfold plE pt pf
      rw [e3, e4]
    rw [← e1, show fs R E (E 0 1) = sm (fun k => plE R E (E 2 k)) (E 0 1) from rfl, ← sm_ins (fun k => plE R E (E 2 k)) (plE R (setE (setE (putE (setE E 1 v 1) p (R 6 v)) 3 (R 6 v) 0) 4 (R 6 v) 0) (R 6 v)) p (E 0 1) hp]
    refine sm_c (fun j hj => ?_)
    have hj : j < E 0 1 + 1 := hj
    show plE R _ (if j < p then E 2 j else if j = p then R 6 v else E 2 (j - 1)) = _
    by_cases y1 : j < p
    · rw [if_pos y1, if_pos y1]
      exact e2 _ (fun e => q ⟨j, by omega, e⟩)
    · rw [if_neg y1, if_neg y1]
      by_cases y2 : j = p
      · rw [if_pos y2, if_pos y2]
      · rw [if_neg y2, if_neg y2]
        exact e2 _ (fun e => q ⟨j - 1, by omega, e⟩)
theorem qa33 (w : ED h g c R E d x hi) (a1 : Int32) : AA (A_33 h g a1) h g c R := by
  have q := w.Q
  have hn := q.E.n
  have hbw := q.W.bw
  have h40 := q.W.w40
  unfold A_33 f_L_lengthIfRestored
  rcases idb a1 (n := R 0 4) (by omega) with hb | ⟨v, hv, rfl⟩
  · refine AA.tn (Y := fun g => f_X11_lengthIfRestored g a1) w (t := 1) (v0 := nI 0) (v := 0) (co := 1) ?_ rfl (by decide) ?_
    · unfold f_X10_lengthIfRestored
      rw [c_rW' q hb, bnd_some, if_neg (by decide)]
      rfl
    · have z := q.z0
      show MA (bnd (f_X11_noWord (up g 125 0 (nI 0)) a1) _) _ _ _
      rw [m_noWord' z.W z.G hb, bnd_some, if_neg (show ¬ nI 1 = 0 by decide)]
      exact MA.fail (by decide)
  · obtain ⟨f1, f2, f3, f4, f5, f6⟩ := w_facts q.W hv
    have hWW := rA_W q.W q.E q.X (a := v) 1 (by omega)
    have hk1 := q.E.k1 v f1
    have ev : fs R (rA R E v 1).1 ((rA R E v 1).1 0 1) = if (∃ s, s < E 0 1 ∧ E 2 s = R 6 v) then fs R E (E 0 1) else fs R E (E 0 1) + (R 12 (R 6 v) - rs R (R 6 v)) := by
      rw [rA_s]
      show fs R (if E 1 (v + 0) = 1 then (E, 0) else (resE R E (v + 0), 0 + 1)).1 ((if E 1 (v + 0) = 1 then (E, 0) else (resE R E (v + 0), 0 + 1)).1 0 1) = _
      rw [Nat.add_zero]
      by_cases hk : E 1 v = 1
      · rw [if_pos hk, if_pos (q.X.kept v hv hk)]
      · rw [if_neg hk]
        exact fs_res q.W q.E hv
    have hrl : rs R (R 6 v) ≤ R 12 (R 6 v) := by
      have pfs := p_facts q.W q.E f6
      have hlast := q.W.last (R 6 v)
      have b1 := q.W.bse (R 6 v) f6
      unfold rs
      by_cases z : R 6 v = 0
      · rw [if_pos z]; omega
      · rw [if_neg z]
        have b2 := q.W.cut (R 6 v - 1) (by omega)
        rw [show R 6 v - 1 + 1 = R 6 v by omega] at b2
        by_cases z2 : R 6 v + 1 = R 0 13
        · have := hlast z2; omega
        · have := q.W.cut (R 6 v) (by omega); omega
    have hfl := fs_le q.W q.E (Nat.le_refl (E 0 1))
    have b1 := q.W.bse (R 6 v) f6
    have hlen := q.W.len
    refine AA.tr (Y := fun g => f_X11_lengthIfRestored g (nI v)) (v := nI (fs R (rA R E v 1).1 ((rA R E v 1).1 0 1))) ?_ rfl (MK ?_)
    · unfold f_X10_lengthIfRestored
      rw [c_rW q hv, bnd_some, if_pos rfl]
      have e8 := q.F.bs (R 6 v) f6
      have ec : f_X1_lengthWithWord h (nI v) = some (nI (fs R (rA R E v 1).1 ((rA R E v 1).1 0 1))) := by
        rw [ev]
        unfold f_X1_lengthWithWord
        by_cases z : ∃ s, s < E 0 1 ∧ E 2 s = R 6 v
        · rw [if_pos z]
          have e9 : ¬ h 8 (R 6 v) = -nI 1 := by
            rw [e8, oI_m (by omega), sch_lt]; exact fun y => y z
          simp (disch := omega) only [li, nI_add, pk_mul, ix_n, lt_n, le_n, eq_n, sub_n, dec_n, inb_t, neg_n, neg_n', ck_true, stp_eq, bnd_some, wp_some, wp_stp, Nat.add_zero, Nat.lt_irrefl, Nat.reduceEqDiff, Nat.reduceAdd, Nat.reduceSub, Nat.reduceMul, Nat.reduceLT, Nat.reduceLeDiff, up_o, up_ss, up_sn, zb_n1, true_and, and_true, ↓reduceIte, ckc q.p q.k, q.C.o, e9, q.F.fr]
        · rw [if_neg z]
          have e9 : h 8 (R 6 v) = -nI 1 := by
            rw [e8, oI_m (by omega), sch_lt]; exact z
          simp (disch := omega) only [li, nI_add, pk_mul, ix_n, lt_n, le_n, eq_n, sub_n, dec_n, inb_t, neg_n, neg_n', ck_true, stp_eq, bnd_some, wp_some, wp_stp, Nat.add_zero, Nat.lt_irrefl, Nat.reduceEqDiff, Nat.reduceAdd, Nat.reduceSub, Nat.reduceMul, Nat.reduceLT, Nat.reduceLeDiff, up_o, up_ss, up_sn, zb_n1, true_and, and_true, ↓reduceIte, ckc q.p q.k, q.C.o, e9, q.F.fr, f_X4_rangeLength, c_rangeStart q.W q.C f6]
      rw [ec, bnd_some]
    · have z := (w.zo (nI (fs R (rA R E v 1).1 ((rA R E v 1).1 0 1)))).z0
      unfold f_X11_lengthIfRestored
      rw [stp_eq]
      rw [show f_X11_noWord (up (up g 145 0 (nI (fs R (rA R E v 1).1 ((rA R E v 1).1 0 1)))) 125 0 0) (nI v) = _ from m_noWord z.Q.W z.Q.G hv, bnd_some, if_pos (show nI 0 = (0 : Int32) from rfl)]
      refine wp_bnd_of m_putsAside (fun g3 k3 => ?_)
      obtain ⟨s1, s2⟩ := k3
      have P3 : KP (up (up g 145 0 (nI (fs R (rA R E v 1).1 ((rA R E v 1).1 0 1)))) 125 0 (nI 0)) g3 := ⟨⟨fun k a _ _ => s2 k (fun e => by subst e; revert a; decide), fun j _ _ => by rw [s2 125 (by decide)]⟩, s2 145 (by decide), by rw [s2 125 (by decide)]⟩
      have G3 : GR g3 R := z.Q.G.gf P3.1
      have M3 : GE g3 E := z.Q.M.of134 (by omega) (fun q _ => by rw [s2 134 (by decide)])
      refine wp_bnd_of (m_restoresAll z.Q.W z.Q.E z.Q.X G3 M3 (a := v) (b := v) (by omega) hv) (fun u5 k5 => ?_)
      obtain ⟨e5, M5, w5⟩ := k5
      rw [show v + 1 - v = 1 by omega] at M5
      rw [m_film z.Q.W hWW.1 (G3.fa w5) M5, bnd_some]
      refine wp_bnd_of m_takesBack (fun g6 k6 => ?_)
      obtain ⟨t1, t2⟩ := k6
      have w6 : AW u5.2 g6 := AW.of t2
      have M6 : GE g6 E := z.Q.M.of134 (by omega) (fun q hq => by rw [t1 q hq, w5.2.2.2.2, s1 q hq])
      have H6 : HG g6 d hi := by
        have H3 : HG g3 d hi := z.Hg.fr (by rw [s2 125 (by decide)]) (s2 135 (by decide))
        exact w6.hg (w5.hg H3)
      exact wp_some.mpr ⟨rfl, (P3.tr w5.kp).tr w6.kp, ED.mk2 w q.C q.p q.D q.F ((G3.fa w5).fa w6) M6 q.E q.X w.Hc H6 w.Hw⟩
end
