/-! move, setHandles, undo -/
section
variable {h g : Hp} {c : Nat} {R E : Nat → Nat → Nat} {d x : Nat} {hi : Nat → Nat → Nat → Nat}
theorem lt_predI {y : Int32} {b : Nat} (hb : b < 2147483648) : nI b - nI 1 < y ↔ ¬ (y < nI b) := by
  have := lt_pred (x := y) hb
  rw [this]
theorem m_inR {y a b : Int32} : f_X11_in g y a b = some (if y < a then nI 0 else if b < y then nI 0 else nI 1) := by
  unfold f_X11_in
  by_cases h1 : y < a
  · rw [if_pos h1, if_pos h1]; rfl
  · rw [if_neg h1, if_neg h1]
    by_cases h2 : b < y
    · rw [if_pos h2, if_pos h2]; rfl
    · rw [if_neg h2, if_neg h2]; rfl
/-- where shots go that come behind p3: t, or they can't -/
theorem mvt (p3 : Int32) {f k n : Nat} (hk : 0 < k) (hf : f + k ≤ n) (hn : n ≤ 40) : (p3 < -nI 1 ∨ (¬ p3 < -nI 1 ∧ ¬ p3 < nI n) ∨ (¬ p3 < -nI 1 ∧ p3 < nI n ∧ ¬ p3 < nI f ∧ ¬ nI (f + k - 1) < p3)) ∨ (¬ p3 < -nI 1 ∧ p3 < nI n ∧ (p3 < nI f ∨ (¬ p3 < nI f ∧ nI (f + k - 1) < p3)) ∧ ∃ t, t + k ≤ n ∧ ((p3 < nI f ∧ p3 + nI 1 = nI t) ∨ (¬ p3 < nI f ∧ p3 + nI 1 - nI k = nI t))) := by
  by_cases h1 : p3 < -nI 1
  · exact Or.inl (Or.inl h1)
  by_cases h2 : p3 < nI n
  · by_cases h0 : p3 < 0
    · have e : p3 = -nI 1 := by
        have e1 := Int32.lt_iff_toInt_lt.mp h0
        have e2 : ¬ p3.toInt < (-nI 1).toInt := fun z => h1 (Int32.lt_iff_toInt_lt.mpr z)
        rw [show (-nI 1).toInt = -1 by decide] at e2
        rw [show (0 : Int32).toInt = 0 by decide] at e1
        apply Int32.toInt_inj.mp
        rw [show (-nI 1).toInt = -1 by decide]
        omega
      have h3 : p3 < nI f := by
        rw [e, Int32.lt_iff_toInt_lt, nI_toInt (by omega), show (-nI 1).toInt = -1 by decide]
        omega
      exact Or.inr ⟨h1, h2, Or.inl h3, 0, by omega, Or.inl ⟨h3, by rw [e]; decide⟩⟩
    · obtain ⟨b, hb, rfl⟩ := nI_of h0
      have hb : b < 2147483648 := hb
      have h2' := (nI_ltI hb (by omega)).mp h2
      by_cases h3 : b < f
      · have h3' : nI b < nI f := (nI_ltI hb (by omega)).mpr h3
        exact Or.inr ⟨h1, h2, Or.inl h3', b + 1, by omega, Or.inl ⟨h3', nI_add b 1⟩⟩
      · have h3' : ¬ nI b < nI f := fun z => h3 ((nI_ltI hb (by omega)).mp z)
        by_cases h4 : f + k - 1 < b
        · have h4' : nI (f + k - 1) < nI b := (nI_ltI (by omega) hb).mpr h4
          exact Or.inr ⟨h1, h2, Or.inr ⟨h3', h4'⟩, b + 1 - k, by omega, Or.inr ⟨h3', by rw [nI_add, sub_n (by omega)]⟩⟩
        · have h4' : ¬ nI (f + k - 1) < nI b := fun z => h4 ((nI_ltI (by omega) hb).mp z)
          exact Or.inl (Or.inr (Or.inr ⟨h1, h2, h3', h4'⟩))
  · exact Or.inl (Or.inr (Or.inl ⟨h1, h2⟩))
theorem qa38 (w : ED h g c R E d x hi) (a1 a2 a3 : Int32) : AA (A_38 h g a1 a2 a3) h g c R := by
  have q := w.Q
  have hn := q.E.n
  have hbw := q.W.bw
  have h40 := q.W.w40
  unfold A_38 f_L_move
  rcases idb a1 (n := E 0 1) (by omega) with hb | ⟨f, hf, rfl⟩
  · refine AA.no (Y := fun g => f_X11_move g a1 a2 a3) w (t := 1) (v0 := 0) (v := 0) (co := 1) ?_ rfl (by decide) ?_
    · unfold f_X10_move
      rw [c_rS' q hb, bnd_some, if_neg (by decide)]
    · have z := q.z0
      show MA (bnd (f_X11_noShot (up g 125 0 (nI 0)) a1) _) _ _ _
      rw [m_noShot' z.W z.E z.M hb, bnd_some, if_neg (show ¬ nI 1 = 0 by decide)]
      exact MA.fail (by decide)
  rcases idb a2 (n := E 0 1) (by omega) with hb | ⟨l, hl, rfl⟩
  · refine AA.no (Y := fun g => f_X11_move g (nI f) a2 a3) w (t := 1) (v0 := 0) (v := 0) (co := 1) ?_ rfl (by decide) ?_
    · unfold f_X10_move
      rw [c_rS q hf, bnd_some, if_pos rfl, c_rS' q hb, bnd_some, if_neg (by decide)]
    · have z := q.z0
      show MA (bnd (f_X11_noShot (up g 125 0 (nI 0)) (nI f)) _) _ _ _
      rw [m_noShot z.W z.E z.M hf, bnd_some, if_pos (show nI 0 = (0 : Int32) from rfl)]
      show MA (bnd (f_X11_noShot (up g 125 0 (nI 0)) a2) _) _ _ _
      rw [m_noShot' z.W z.E z.M hb, bnd_some, if_neg (show ¬ nI 1 = 0 by decide)]
      exact MA.fail (by decide)
  -- refusals with code 2
  have no : f_X10_move h (nI f) (nI l) a3 = some (2, (0, h)) → (∀ g1, GE g1 E → Wp (f_X11_move g (nI f) (nI l) a3) (fun u => u = (nI 0, up (up g 125 0 (nI 0)) 125 0 (nI 2)))) → AA (bnd (bnd (f_X10_move h (nI f) (nI l) a3) (fun u => if u.1 = 0 then (some (0, (u.2.2, up g 145 0 u.2.1))) else (if u.1 = 1 then some (1, (u.2.2, g)) else if u.1 = 2 then some (2, (u.2.2, g)) else none))) (fun u0 => bnd (f_X11_move u0.2.2 (nI f) (nI l) a3) (fun u1 => bnd (f_X11_thrown u1.2) (fun u2 => if u2 = u0.1 then (if u0.1 = 0 then (if u1.2 145 0 = u1.1 then (some (u0.2.1, u1.2)) else none) else some (u0.2.1, u1.2)) else none)))) h g c R := by
    intro e1 e2
    refine AA.no (Y := fun g => f_X11_move g (nI f) (nI l) a3) w (t := 2) (v0 := 0) (v := nI 0) (co := nI 2) e1 rfl (by decide) ?_
    obtain ⟨u, e3, e4⟩ := e2 g q.M
    rw [e4] at e3
    rw [e3]
    exact MA.fail (by decide)
  have mpre : ∀ g0, QQ h g0 c R E → f_X11_move g0 (nI f) (nI l) a3 = (if nI l < nI f then J_X11_move_53 (nI f) (nI l) a3 (up g0 125 0 (nI 0)) else bnd (f_X11_in (up g0 125 0 (nI 0)) a3 (-nI 1) (nI (E 0 1) - nI 1)) (fun u7 => if u7 = 0 then J_X11_move_53 (nI f) (nI l) a3 (up g0 125 0 (nI 0)) else bnd (f_X11_in (up g0 125 0 (nI 0)) a3 (nI f) (nI l)) (fun u8 => if u8 = 0 then J_X11_move_58 (nI f) (nI l) a3 (up g0 125 0 (nI 0)) 0 else J_X11_move_53 (nI f) (nI l) a3 (up g0 125 0 (nI 0))))) := by
    intro g0 q0
    have z := q0.z0
    unfold f_X11_move
    rw [stp_eq, show f_X11_noShot (up g0 125 0 0) (nI f) = _ from m_noShot z.W z.E z.M hf, bnd_some, if_pos (show nI 0 = (0 : Int32) from rfl)]
    rw [show f_X11_noShot (up g0 125 0 (nI 0)) (nI l) = _ from m_noShot z.W z.E z.M hl, bnd_some, if_pos (show nI 0 = (0 : Int32) from rfl)]
    show (if nI l < nI f then _ else ck (inb (nI 40) 161) (bnd (f_X11_in (up g0 125 0 (nI 0)) a3 (-1) (up g0 125 0 (nI 0) 134 (ix (nI 40)) - 1)) _)) = _
    rw [inb_t (by omega) (by omega), ck_true, ix_n (by omega), z.M.n]
    rfl
  have thr : ∀ g0, Wp (J_X11_move_53 (nI f) (nI l) a3 (up g0 125 0 (nI 0))) (fun u => u = (nI 0, up (up g0 125 0 (nI 0)) 125 0 (nI 2))) := by
    intro g0
    unfold J_X11_move_53 J_X11_move_58
    rw [show f_X11_throwsIf _ 1 2 = _ from m_throws1, bnd_some, if_neg (show ¬ nI 1 = (0 : Int32) by decide)]
    exact wp_some.mpr rfl
  by_cases hlf : l < f
  · have hlt : nI l < nI f := (nI_ltI (by omega) (by omega)).mpr hlf
    refine no ?_ (fun g1 _ => ?_)
    · unfold f_X10_move
      rw [c_rS q hf, bnd_some, if_pos rfl, c_rS q hl, bnd_some, if_pos rfl, if_pos hlt]
    · rw [mpre g q, if_pos hlt]
      exact thr g
  have hlt : ¬ nI l < nI f := fun y => hlf ((nI_ltI (by omega) (by omega)).mp y)
  rcases mvt a3 (f := f) (k := l - f + 1) (n := E 0 1) (by omega) (by omega) (by omega) with hbad | ⟨m1, m2, m3, t, ht, m4⟩
  · rw [show f + (l - f + 1) - 1 = l by omega] at hbad
    refine no ?_ (fun g1 _ => ?_)
    · unfold f_X10_move J_X10_move_45
      rw [c_rS q hf, bnd_some, if_pos rfl, c_rS q hl, bnd_some, if_pos rfl, if_neg hlt, q.D.z]
      rcases hbad with hbad | ⟨b1, b2⟩ | ⟨b1, b2, b3, b4⟩
      · rw [if_pos (show a3 < -1 from hbad)]
      · rw [if_neg (show ¬ a3 < -1 from b1), if_neg b2]
      · rw [if_neg (show ¬ a3 < -1 from b1), if_pos b2, if_neg b3, if_neg b4]
    · rw [mpre g q, if_neg hlt]
      rcases hbad with hbad | ⟨b1, b2⟩ | ⟨b1, b2, b3, b4⟩
      · rw [m_inR, bnd_some, if_pos hbad, if_pos (show nI 0 = (0 : Int32) from rfl)]
        exact thr g
      · rw [m_inR, bnd_some, if_neg b1, if_pos (show nI (E 0 1) - nI 1 < a3 from (lt_predI (by omega)).mpr b2), if_pos (show nI 0 = (0 : Int32) from rfl)]
        exact thr g
      · rw [m_inR, bnd_some, if_neg b1, if_neg (show ¬ nI (E 0 1) - nI 1 < a3 from fun y => (lt_predI (by omega)).mp y b2), if_neg (show ¬ nI 1 = (0 : Int32) by decide), m_inR, bnd_some, if_neg b3, if_neg b4, if_neg (show ¬ nI 1 = (0 : Int32) by decide)]
        exact thr g
  · rw [show f + (l - f + 1) - 1 = l by omega] at m3
    have hf2 : f + (l - f + 1) ≤ E 0 1 := by omega
    have hl2 : nI l = nI (f + (l - f + 1) - 1) := congrArg nI (by omega)
    obtain ⟨h1, e1, f1, C1, D1, F1, p1, cf1⟩ := c_rec w
    obtain ⟨⟨v2, h2⟩, e2, e3, D2, F2, H2⟩ := c_carryShots q.W q.E C1 D1 p1 q.k (f := f) (k := l - f + 1) (t := t) (by omega) hf2 ht hl2 m4
    have e3 : v2 = nI t := e3
    have D2 : CE h2 (moveE R E f (l - f + 1) t) := D2
    have F2 : CF h2 R (moveE R E f (l - f + 1) t) := F2
    have H2 : HF h1 h2 := H2
    subst e3
    have E2 := moveE_WE q.W q.E hf2 ht
    have X2 := moveE_WX (R := R) q.X (show 0 < l - f + 1 by omega) hf2 ht
    refine AA.ok (Y := fun g => f_X11_move g (nI f) (nI l) a3) (h' := h2) (v := nI t) ?_ rfl (cf1.tr H2.cf) (MK ?_)
    · have fin : J_X10_move_77 (nI f) (nI l) a3 h = some (0, (nI t, h2)) := by
        unfold J_X10_move_77
        rw [e1, bnd_some, e2, bnd_some]
      unfold f_X10_move
      rw [c_rS q hf, bnd_some, if_pos rfl, c_rS q hl, bnd_some, if_pos rfl, if_neg hlt, q.D.z, if_neg (show ¬ a3 < -1 from m1), if_pos m2]
      rcases m3 with m3 | ⟨m3, m5⟩
      · rw [if_pos m3]; exact fin
      · rw [if_neg m3, if_pos m5]; exact fin
    · have z := (w.zo (nI t)).z0
      rw [mpre _ (q.zo (nI t)), if_neg hlt, m_inR, bnd_some, if_neg m1, if_neg (show ¬ nI (E 0 1) - nI 1 < a3 from fun y => (lt_predI (by omega)).mp y m2), if_neg (show ¬ nI 1 = (0 : Int32) by decide), m_inR, bnd_some]
      have e0 : (if a3 < nI f then nI 0 else if nI l < a3 then nI 0 else nI 1) = nI 0 := by
        rcases m3 with m3 | ⟨m3, m5⟩
        · rw [if_pos m3]
        · rw [if_neg m3, if_pos m5]
      rw [e0, if_pos (show nI 0 = (0 : Int32) from rfl)]
      unfold J_X11_move_58
      rw [show f_X11_throwsIf _ 0 2 = _ from m_throws0, bnd_some, if_pos (show nI 0 = (0 : Int32) from rfl)]
      refine wp_bnd_of (m_rec z.Q.W z.Q.E z.Q.G z.Q.M z.Hg z.Hw z.Hc.d12) (fun g3 k3 => ?_)
      obtain ⟨G3, M3, H3, P3⟩ := k3
      refine wp_bnd_of (m_movesAll z.Q.W z.Q.E G3 M3 (f := f) (k := l - f + 1) (t := t) (by omega) hf2 ht hl2 m4) (fun u5 k5 => ?_)
      obtain ⟨e5, M5, w5⟩ := k5
      exact wp_some.mpr ⟨e5, P3.tr w5.kp, ED.mk2 w (H2.cr q.k C1) (H2.2.trans p1) D2 F2 (G3.fa w5) M5 E2 X2 (H2.hc f1) (w5.hg H3) (w.Hw.new w.Hc.d12 q.E q.X)⟩
theorem qa39 (w : ED h g c R E d x hi) (a1 a2 a3 : Int32) : AA (A_39 h g a1 a2 a3) h g c R := by
  have q := w.Q
  have hn := q.E.n
  have hbw := q.W.bw
  have h40 := q.W.w40
  unfold A_39 f_L_setHandles
  rcases idb a1 (n := R 0 13) (by omega) with hb | ⟨b, hb, rfl⟩
  · refine AA.no (Y := fun g => f_X11_setHandles g a1 a2 a3) w (t := 1) (v0 := 0) (v := 0) (co := 1) ?_ rfl (by decide) ?_
    · unfold f_X10_setHandles
      rw [c_rB' q hb, bnd_some, if_neg (by decide)]
    · have z := q.z0
      show MA (bnd (f_X11_noBlock (up g 125 0 (nI 0)) a1) _) _ _ _
      rw [m_noBlock' z.W z.G hb, bnd_some, if_neg (show ¬ nI 1 = 0 by decide)]
      exact MA.fail (by decide)
  have hr : ∀ y : Int32, (y < 0 ∨ (¬ y < 0 ∧ (999 : Int32) < y)) ∨ ∃ v, v ≤ 999 ∧ y = nI v ∧ ¬ y < 0 ∧ ¬ (999 : Int32) < y := by
    intro y
    by_cases y0 : y < 0
    · exact Or.inl (Or.inl y0)
    · by_cases y1 : (999 : Int32) < y
      · exact Or.inl (Or.inr ⟨y0, y1⟩)
      · right
        obtain ⟨v, hv, rfl⟩ := nI_of y0
        have hv : v < 2147483648 := hv
        refine ⟨v, ?_, rfl, y0, y1⟩
        apply Classical.byContradiction
        intro z
        exact y1 ((nI_ltI (a := 999) (by omega) hv).mpr (by omega))
  have mpre : ∀ g0, QQ h g0 c R E → f_X11_setHandles g0 (nI b) a2 a3 = bnd (f_X11_in (up g0 125 0 (nI 0)) a2 0 999) (fun u9 => if u9 = 0 then J_X11_setHandles_36 (nI b) a2 a3 (up g0 125 0 (nI 0)) else bnd (f_X11_in (up g0 125 0 (nI 0)) a3 0 999) (fun u10 => if u10 = 0 then J_X11_setHandles_36 (nI b) a2 a3 (up g0 125 0 (nI 0)) else J_X11_setHandles_41 (nI b) a2 a3 (up g0 125 0 (nI 0)) 0)) := by
    intro g0 q0
    have z := q0.z0
    unfold f_X11_setHandles
    rw [stp_eq, show f_X11_noBlock (up g0 125 0 0) (nI b) = _ from m_noBlock z.W z.G hb, bnd_some, if_pos (show nI 0 = (0 : Int32) from rfl)]
  have thr : ∀ g0, J_X11_setHandles_36 (nI b) a2 a3 (up g0 125 0 (nI 0)) = some (nI 0, up (up g0 125 0 (nI 0)) 125 0 (nI 2)) := by
    intro g0
    unfold J_X11_setHandles_36 J_X11_setHandles_41
    rw [show f_X11_throwsIf _ 1 2 = _ from m_throws1, bnd_some, if_neg (show ¬ nI 1 = (0 : Int32) by decide)]
    rfl
  have no : f_X10_setHandles h (nI b) a2 a3 = some (2, (0, h)) → f_X11_setHandles g (nI b) a2 a3 = some (nI 0, up (up g 125 0 (nI 0)) 125 0 (nI 2)) → AA (bnd (bnd (f_X10_setHandles h (nI b) a2 a3) (fun u => if u.1 = 0 then (some (0, (u.2.2, up g 145 0 u.2.1))) else (if u.1 = 1 then some (1, (u.2.2, g)) else if u.1 = 2 then some (2, (u.2.2, g)) else none))) (fun u0 => bnd (f_X11_setHandles u0.2.2 (nI b) a2 a3) (fun u1 => bnd (f_X11_thrown u1.2) (fun u2 => if u2 = u0.1 then (if u0.1 = 0 then (if u1.2 145 0 = u1.1 then (some (u0.2.1, u1.2)) else none) else some (u0.2.1, u1.2)) else none)))) h g c R := by
    intro e1 e2
    refine AA.no (Y := fun g => f_X11_setHandles g (nI b) a2 a3) w (t := 2) (v0 := 0) (v := nI 0) (co := nI 2) e1 rfl (by decide) ?_
    show MA (f_X11_setHandles g (nI b) a2 a3) g (nI 2) (nI 0)
    rw [e2]
    exact MA.fail (by decide)
  rcases hr a2 with hb2 | ⟨u, hu, rfl, y2, y3⟩
  · refine no ?_ ?_
    · unfold f_X10_setHandles J_X10_setHandles_27
      rw [c_rB q hb, bnd_some, if_pos rfl]
      rcases hb2 with y | ⟨y, y1⟩
      · rw [if_pos y]
      · rw [if_neg y, if_pos y1]
    · rw [mpre g q, m_inR, bnd_some]
      rcases hb2 with y | ⟨y, y1⟩
      · rw [if_pos y, if_pos (show nI 0 = (0 : Int32) from rfl), thr g]
      · rw [if_neg y, if_pos y1, if_pos (show nI 0 = (0 : Int32) from rfl), thr g]
  rcases hr a3 with hb2 | ⟨v, hv, rfl, z2, z3⟩
  · refine no ?_ ?_
    · unfold f_X10_setHandles J_X10_setHandles_27
      rw [c_rB q hb, bnd_some, if_pos rfl, if_neg y2, if_neg y3]
      rcases hb2 with y | ⟨y, y1⟩
      · rw [if_pos y]
      · rw [if_neg y, if_pos y1]
    · rw [mpre g q, m_inR, bnd_some, if_neg y2, if_neg y3, if_neg (show ¬ nI 1 = (0 : Int32) by decide), m_inR, bnd_some]
      rcases hb2 with y | ⟨y, y1⟩
      · rw [if_pos y, if_pos (show nI 0 = (0 : Int32) from rfl), thr g]
      · rw [if_neg y, if_pos y1, if_pos (show nI 0 = (0 : Int32) from rfl), thr g]
  · have E2 : WE R (setE (setE E 3 b u) 4 b v) := by
      refine ⟨q.E.n, q.E.lt, q.E.inj, q.E.k1, fun j hj => ?_, fun j hj => ?_, q.E.fl⟩
      · show (if j = b then u else E 3 j) ≤ 999
        split
        · exact hu
        · exact q.E.hd j hj
      · show (if j = b then v else E 4 j) ≤ 999
        split
        · exact hv
        · exact q.E.tl j hj
    have X2 : WX R (setE (setE E 3 b u) 4 b v) := ⟨q.X.film, q.X.kept⟩
    obtain ⟨h1, e1, f1, C1, D1, F1, p1, cf1⟩ := c_rec w
    have D3 : CE (up (up h1 21 b (nI u)) 22 b (nI v)) (setE (setE E 3 b u) 4 b v) := by
      refine ⟨?_, fun j hj => ?_, fun j hj => ?_, fun j hj => ?_, fun j hj => ?_⟩
      · rw [up_o (by decide), up_o (by decide)]; exact D1.z
      · rw [up_o (by decide), up_o (by decide)]; exact D1.k j hj
      · rw [up_o (by decide), up_o (by decide)]; exact D1.o j hj
      · show _ = nI (if j = b then u else E 3 j)
        rw [up_o (by decide)]
        by_cases e : j = b
        · rw [e, up_ss, if_pos rfl]
        · rw [up_sn e, if_neg e]; exact D1.hd j hj
      · show _ = nI (if j = b then v else E 4 j)
        by_cases e : j = b
        · rw [e, up_ss, if_pos rfl]
        · rw [up_sn e, if_neg e, up_o (by decide)]; exact D1.tl j hj
    have H3 : HF h1 (up (up h1 21 b (nI u)) 22 b (nI v)) := HF.of (fun k hk => by rw [up_o (by omega), up_o (by omega)])
    obtain ⟨h2, e2, F2, L2⟩ := c_layOut q.W E2 (H3.cr q.k C1) D3 (H3.2.trans p1) q.k
    have D2 := L2.ce D3
    have H2 := H3.tr L2.hf
    have e8 := F2.bs b (by omega)
    have hM2 : ∀ g3, GE g3 E → GE (up (up g3 134 (81 + b) (nI u)) 134 (121 + b) (nI v)) (setE (setE E 3 b u) 4 b v) := by
      intro g3 M3
      refine ⟨fun j hj => ?_, ?_, fun j hj => ?_, fun j hj => ?_, fun j hj => ?_⟩
      · rw [up_sn (by omega), up_sn (by omega)]; exact M3.k j hj
      · rw [up_sn (by omega), up_sn (by omega)]; exact M3.n
      · have hj : j < E 0 1 := hj
        rw [up_sn (by omega), up_sn (by omega)]; exact M3.o j hj
      · show _ = nI (if j = b then u else E 3 j)
        rw [up_sn (by omega)]
        by_cases e : j = b
        · rw [e, up_ss, if_pos rfl]
        · rw [up_sn (by omega), if_neg e]; exact M3.hd j hj
      · show _ = nI (if j = b then v else E 4 j)
        by_cases e : j = b
        · rw [e, up_ss, if_pos rfl]
        · rw [up_sn (by omega), up_sn (by omega), if_neg e]; exact M3.tl j hj
    have step : ∀ vv, (∀ g3, GR g3 R → GE g3 E → Wp (bnd (f_X11_shotOf (up (up g3 134 (81 + b) (nI u)) 134 (121 + b) (nI v)) (nI b)) (fun u5 => if u5 = (-1 : Int32) then (some ((0 : Int32), (up (up g3 134 (81 + b) (nI u)) 134 (121 + b) (nI v)))) else (bnd (f_X11_plays (up (up g3 134 (81 + b) (nI u)) 134 (121 + b) (nI v)) (nI b)) (fun u6 => some (u6, (up (up g3 134 (81 + b) (nI u)) 134 (121 + b) (nI v))))))) (fun r => r = (vv, (up (up g3 134 (81 + b) (nI u)) 134 (121 + b) (nI v))))) → f_X10_setHandles h (nI b) (nI u) (nI v) = some (0, (vv, h2)) → AA (bnd (bnd (f_X10_setHandles h (nI b) (nI u) (nI v)) (fun u => if u.1 = 0 then (some (0, (u.2.2, up g 145 0 u.2.1))) else (if u.1 = 1 then some (1, (u.2.2, g)) else if u.1 = 2 then some (2, (u.2.2, g)) else none))) (fun u0 => bnd (f_X11_setHandles u0.2.2 (nI b) (nI u) (nI v)) (fun u1 => bnd (f_X11_thrown u1.2) (fun u2 => if u2 = u0.1 then (if u0.1 = 0 then (if u1.2 145 0 = u1.1 then (some (u0.2.1, u1.2)) else none) else some (u0.2.1, u1.2)) else none)))) h g c R := by
      intro vv s1 s2
      refine AA.ok (Y := fun g => f_X11_setHandles g (nI b) (nI u) (nI v)) (h' := h2) (v := vv) s2 rfl (cf1.tr H2.cf) (MK ?_)
      have z := (w.zo vv).z0
      rw [mpre _ (q.zo vv), m_inR, bnd_some, if_neg y2, if_neg y3, if_neg (show ¬ nI 1 = (0 : Int32) by decide), m_inR, bnd_some, if_neg z2, if_neg z3, if_neg (show ¬ nI 1 = (0 : Int32) by decide)]
      unfold J_X11_setHandles_41
      rw [show f_X11_throwsIf _ 0 2 = _ from m_throws0, bnd_some, if_pos (show nI 0 = (0 : Int32) from rfl)]
      refine wp_bnd_of (m_rec z.Q.W z.Q.E z.Q.G z.Q.M z.Hg z.Hw z.Hc.d12) (fun g3 k3 => ?_)
      obtain ⟨G3, M3, H4, P3⟩ := k3
      have w5 : AW g3 (up (up g3 134 (81 + b) (nI u)) 134 (121 + b) (nI v)) := AW.up.tr AW.up
      have hb81 : ∀ K : Option (Int32 × Hp), ck (inb ((81 : Int32) + nI b) 161) K = K := fun K => by
        rw [show (81 : Int32) + nI b = nI (81 + b) from nI_add 81 b, inb_t (by omega) (by omega), ck_true]
      have hb121 : ∀ K : Option (Int32 × Hp), ck (inb ((121 : Int32) + nI b) 161) K = K := fun K => by
        rw [show (121 : Int32) + nI b = nI (121 + b) from nI_add 121 b, inb_t (by omega) (by omega), ck_true]
      rw [hb81, stp_eq, hb121, stp_eq, show ix ((81 : Int32) + nI b) = 81 + b from by rw [show (81 : Int32) + nI b = nI (81 + b) from nI_add 81 b, ix_n (by omega)], show ix ((121 : Int32) + nI b) = 121 + b from by rw [show (121 : Int32) + nI b = nI (121 + b) from nI_add 121 b, ix_n (by omega)]]
      refine (s1 g3 G3 M3).mono (fun r hr => ?_)
      rw [hr]
      exact ⟨rfl, P3.tr w5.kp, ED.mk2 w (H2.cr q.k C1) (H2.2.trans p1) D2 F2 (G3.fa w5) (hM2 g3 M3) E2 X2 (H2.hc f1) (w5.hg H4) (w.Hw.new w.Hc.d12 q.E q.X)⟩
    have cpre : ∀ vv, (bnd (f_X1_framesOfShot h2 (h2 8 b)) (fun u7 => (some (0, (u7, h2)) : Option (Nat × (Int32 × Hp)))) = some (0, (vv, h2)) ∧ ¬ h2 8 b = -1) ∨ (h2 8 b = -1 ∧ vv = 0) → f_X10_setHandles h (nI b) (nI u) (nI v) = some (0, (vv, h2)) := by
      intro vv hv2
      unfold f_X10_setHandles
      rw [c_rB q hb, bnd_some, if_pos rfl, if_neg y2, if_neg y3, if_neg z2, if_neg z3, e1, bnd_some]
      rw [inb_t (show b < 40 by omega) (by omega), ck_true, ix_n (by omega), stp_eq, ck_true, stp_eq]
      rw [show f_X1_layOut (up (up h1 (18 + 3) b (nI u)) (18 + 4) b (nI v)) = _ from e2, bnd_some, ck_true, stp_eq]
      rcases hv2 with ⟨a, a2⟩ | ⟨a, rfl⟩
      · rw [if_neg a2]; exact a
      · rw [if_pos a]
    have hn2 : (setE (setE E 3 b u) 4 b v) 0 1 = E 0 1 := rfl
    by_cases hin : ∃ s, s < E 0 1 ∧ E 2 s = b
    · obtain ⟨s, hs, es⟩ := hin
      have e9 : sch (fun s => setE (setE E 3 b u) 4 b v 2 s = b) (setE (setE E 3 b u) 4 b v 0 1) = s := sch_u (Nat.le_of_lt hs) (fun j hj e => by have := q.E.inj j s (by omega) hs (Eq.trans e es.symm); omega) (fun _ => es)
      rw [e9, oI, if_pos (show s < setE (setE E 3 b u) 4 b v 0 1 from hs)] at e8
      have fs2 := c_framesOfShot q.W E2 F2 (s := s) hs
      have es2 : setE (setE E 3 b u) 4 b v 2 s = b := es
      rw [es2] at fs2
      refine step (nI (plE R (setE (setE E 3 b u) 4 b v) b)) (fun g3 G3 M3 => ?_) (cpre _ (Or.inl ⟨by rw [e8, fs2, bnd_some], by rw [e8]; exact fun y => by have := neg_n (a := s) (by omega); rw [← this]; exact y⟩))
      have w5 : AW g3 (up (up g3 134 (81 + b) (nI u)) 134 (121 + b) (nI v)) := AW.up.tr AW.up
      rw [m_shotOf q.W E2 (hM2 g3 M3) (by omega), e9, oI, if_pos (show s < setE (setE E 3 b u) 4 b v 0 1 from hs), bnd_some, if_neg (show ¬ nI s = (-1 : Int32) from fun y => by have := neg_n (a := s) (by omega); rw [← this]; exact y), m_plays q.W E2 (G3.fa w5) (hM2 g3 M3) hb, bnd_some]
      exact wp_some.mpr rfl
    · have e9 : ¬ sch (fun s => setE (setE E 3 b u) 4 b v 2 s = b) (setE (setE E 3 b u) 4 b v 0 1) < setE (setE E 3 b u) 4 b v 0 1 := by
        rw [sch_lt]; exact hin
      rw [oI, if_neg e9] at e8
      refine step 0 (fun g3 G3 M3 => ?_) (cpre _ (Or.inr ⟨e8, rfl⟩))
      rw [m_shotOf q.W E2 (hM2 g3 M3) (by omega), oI, if_neg e9, bnd_some, if_pos (show -nI 1 = (-1 : Int32) from rfl)]
      exact wp_some.mpr rfl
theorem qa43 (w : ED h g c R E d x hi) : AA (A_43 h g) h g c R := by
  have q := w.Q
  have hk := q.k
  unfold A_43
  by_cases hd : d = 0
  · subst hd
    have w0 := GW.upF g (j := 0) (v := nI 0) (by decide)
    refine ⟨h, up g 125 0 (nI 0), ?_, CFr.rf h, w0.gf, E, 0, x, hi, w.z0⟩
    unfold f_X10_undo f_X11_undo
    have e2 : up g 125 0 (nI 0) 125 13 = nI 0 := by rw [up_sn (by decide)]; exact w.Hg.d
    rw [w.Hc.d, if_pos (show nI 0 = (0 : Int32) from rfl), bnd_some, stp_eq, show up g 125 0 0 125 13 = nI 0 from e2, if_pos (show nI 0 = (0 : Int32) from rfl), bnd_some]
    rfl
  · have hd0 : 0 < d := by omega
    have d12 := w.Hc.d12
    obtain ⟨h1, e1, D1, H1, k1⟩ := c_giveBack q.W w.Hc w.Hw hd0
    obtain ⟨E1, X1⟩ := w.Hw (d - 1) (by omega)
    have C1 : CR h1 c R := q.C.fr (fun o ho => k1 _ (by omega) (by omega))
    have p1 : h1 3 0 = nI c := by rw [k1 3 (by decide) (by omega)]; exact q.p
    obtain ⟨h2, e2, F2, L2⟩ := c_layOut q.W E1 C1 D1 p1 hk
    obtain ⟨⟨v, g2⟩, e3, e4, M3, G3, k3, k4⟩ := m_undo q.W w.Hg w.Hw d12 hd0
    have e4 : v = nI (d - 1) := e4
    have M3 : GE g2 (hi (d - 1)) := M3
    have G3 : HG g2 (d - 1) hi := G3
    have k3 : ∀ k, ¬ k = 125 → ¬ k = 134 → g2 k = g k := k3
    have k4 : ∀ j, ¬ j = 13 → ¬ j = 0 → g2 125 j = g 125 j := k4
    subst e4
    have gf : GFr g g2 := ⟨fun k a b _ => k3 k (fun e => by subst e; revert a; decide) b, fun j a b => k4 j b (fun e => by subst e; revert a; decide)⟩
    have e13 : h2 13 2 = nI (d - 1) := by rw [L2.1 13 (by decide)]; exact H1.d
    refine ⟨h2, g2, ?_, fun k a b => by rw [L2.1 k (by omega), k1 k (by omega) (by omega)], gf, ED.mk2 w (L2.cr hk C1) (L2.2.trans p1) (L2.ce D1) F2 (q.G.gf gf) M3 E1 X1 (H1.fr (fun k a => L2.1 k (by omega))) G3 (fun i hi2 => w.Hw i (by omega))⟩
    unfold f_X10_undo
    rw [w.Hc.d, if_neg (show ¬ nI d = (0 : Int32) from fun y => hd ((nI_eq (b := 0) (by omega) (by omega)).mp y)), e1, bnd_some, e2, bnd_some, bnd_some, e3, bnd_some, e13, if_pos rfl]
theorem qa44 (w : ED h g c R E d x hi) : QA (A_44 h g) h g := by
  refine QA.of (v := nI d) ?_ ?_
  · unfold f_X10_undoDepth
    rw [w.Hc.d]
  · unfold f_X11_undoDepth
    rw [stp_eq, show up g 125 0 0 125 13 = nI d from by rw [up_sn (by decide)]; exact w.Hg.d]
    exact wp_some.mpr ⟨rfl, GW.upF g (by decide)⟩
end
