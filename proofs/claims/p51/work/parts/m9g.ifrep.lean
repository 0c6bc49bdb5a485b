/-! commands with blocks, both sides -/
def BKR (X : Option (Int32 × Hp)) (Y : Option Hp) (h g : Hp) (s : Nat) (B : Nat → Int32) (L k n d : Nat) : Prop := (∃ h' g' p b k' n', X = some (nI 1, h') ∧ Y = some g' ∧ TS h' B L (rn wsB B L p) ∧ MT g' B L p b ∧ h' 1 2 = -nI 1 ∧ h' 1 3 = nI 0 ∧ h' s 0 = nI k' ∧ MD g' n' k' d ∧ k ≤ k' ∧ k' ≤ 30 ∧ n' + 16 * k ≤ n + 1 + 16 * k' ∧ n' = n + 1 + Td g' n ∧ d < 5 ∧ SQ (Sd h' s) (Td g') n' (k' - k) (4 - d) k k' (n + 1) n' ∧ FSc s h h' ∧ FDm g g' ∧ HR h h' s 0 k ∧ GA g g' n) ∨ (∃ h' g' o e k' n', X = some (nI 0, h') ∧ Y = some g' ∧ MF g' B L o e ∧ h' 1 2 = nI o ∧ h' 1 3 = nI e ∧ MD g' n' k' d ∧ k ≤ k' ∧ k' ≤ 30 ∧ n' + 16 * k ≤ n + 1 + 16 * k' ∧ FSc s h h' ∧ FDm g g')
def HB (rB : Hp → Nat → Int32 → Option (Int32 × Hp)) (mB : Hp → Option Hp) (s : Nat) (B : Nat → Int32) (L d : Nat) : Prop := (∀ h g p b k n, TS h B L (rn wsB B L p) → MT g B L p b → h 1 2 = -nI 1 → h 1 3 = nI 0 → h s 0 = nI k → MD g n k d → k ≤ 30 → n + 1 + 16 * (30 - k) ≤ 700 → BKR (rB h s (nI d)) (mB g) h g s B L k n d) ∧ ∀ g o e, MF g B L o e → mB g = some g
def YR (mB : Hp → Option Hp) (g : Hp) : Option Hp := bnd (f_X11_number g (1 : Int32) (9 : Int32)) (fun u16 => bnd (f_X11_drafts u16.2 u16.1) (fun u17 => bnd (mB u17) (fun u18 => some u18)))
def YI (mB : Hp → Option Hp) (g : Hp) : Option Hp := bnd (f_X11_readPhrase g) (fun u8 => bnd (mB u8) (fun u12 => bnd (f_X11_takes u12 45) (fun u13 => if u13.1 = 0 then bnd (f_X11_drafts u13.2 (0 : Int32)) (fun u14 => some u14) else bnd (mB u13.2) (fun u15 => some u15))))
section
variable {h g : Hp} {B : Nat → Int32} {L q p b o e n k d j i s ph a kd : Nat} {v : Int32}
variable {rB : Hp → Nat → Int32 → Option (Int32 × Hp)} {mB : Hp → Option Hp}
theorem cmr_bad {X : Option (Int32 × Hp)} {Y : Option Hp} (hs : 14 ≤ s) (k30 : k < 30) (h' g' : Hp) (o e k' n' : Nat) (r1 r2 r3 r4 r5) (y : Int32) (a1 : X = some (nI 0, h')) (a2 : Y = some g') (a3 : MF g' B L o e) (a4 : h' 1 2 = nI o) (a5 : h' 1 3 = nI e) (a6 : MD g' n' k' d) (a7 : k ≤ k') (a0 : k' ≤ 30) (an : n' + 16 * k ≤ n + 16 * k') (a8 : FSc s h h') (a9 : FDm g g') : CMR (bnd X (fun u7 => J_X7_readCommand_104 r1 r2 r3 r4 r5 s y u7.2 (nI k) u7.1)) Y h g s B L k n d := by
  refine Or.inr ⟨up h' (s + 4) k (h' s 0), g', o, e, k', n', ?_, a2, a3, ?_, ?_, a6, a7, a0, an, a8.tr (FSc.up hs _ (by omega)), a9⟩
  · rw [a1, bnd_some]
    exact c_104 k30 0 (by omega) _ _ _ _ _ _ _
  · rw [up_o (by omega)]; exact a4
  · rw [up_o (by omega)]; exact a5
theorem l_repeat (w : PC h g s B L k n d 5) (hB : HB rB mB s B L d) (r1 r2 r3 r4 r5) (c1 c2 c3 c4) (y : Int32) : CMR (bnd (B_X7_readRepeat rB c1 c2 c3 c4 h s (nI k) (nI d)) (fun u7 => J_X7_readCommand_104 r1 r2 r3 r4 r5 s y u7.2 (nI k) u7.1)) (YR mB g) h g s B L k n d := by
  obtain ⟨p, b, t, m⟩ := w.t
  have hs := w.s14
  have k30 := w.k30
  have n7 := w.n7
  unfold YR
  rcases j_num (lo := 1) (hi := 9) t m rfl (by omega) (by omega) with ⟨v, h1, g1, p1, v1, v9, a1, a2, a3, a4, a5, a6, a7, -⟩ | ⟨g1, kd, a1, a2, a3, a4⟩
  · obtain ⟨u1, u2⟩ := a6.e w.e1 w.e2
    have D1 := w.D.fr a7
    have t2 : TS (up h1 (s + 2) k (nI v)) B L (rn wsB B L p1) := a4.ao (up_o (by omega)) (up_o (by omega))
    have m2 : MT (dra g1 (n + 1) (nI v)) B L p1 _ := a5.dr
    have D2 := D1.dr (nI v)
    have z2 : (up h1 (s + 2) k (nI v)) s 0 = nI (k + 1) := by rw [up_o (by omega), a6.1.1 s (by omega)]; exact w.z
    have kd2 : (up h1 (s + 2) k (nI v)) (s + 1) k = nI 5 := by rw [up_o (by omega), a6.1.1 _ (by omega)]; exact w.kd
    have f2 : FSc s h (up h1 (s + 2) k (nI v)) := a6.1.fs.tr (FSc.up hs _ (by omega))
    have fd2 : FDm g (dra g1 (n + 1) (nI v)) := a7.fd.tr dra_fd
    have ga2 : GA g (dra g1 (n + 1) (nI v)) (n + 1) := (a7.ga _).tr dra_ga (Nat.le_refl _)
    have hr2 : HR h (up h1 (s + 2) k (nI v)) s 0 k := (a6.1.hr hs 0 k).tr (HR.up (by omega) (Or.inr (Nat.le_refl _)))
    have at2 : (up h1 (s + 2) k (nI v)) (s + 2) k = nI v := up_ss
    have dat2 : (dra g1 (n + 1) (nI v)) 140 (n + 1) = nI v := dra_at
    have eC : B_X7_readRepeat rB c1 c2 c3 c4 h s (nI k) (nI d) = bnd (rB (up h1 (s + 2) k (nI v)) s (nI d)) (fun u4 => ck (zb u4.1) (some (u4.1, u4.2))) := by
      unfold B_X7_readRepeat
      rw [show f_X9_numberHere h 1 9 = _ from a1, bnd_some, if_neg (show ¬ nI v = (-1 : Int32) from ng1 (by omega)), a2, bnd_some, inb_t k30 (by omega), ck_true, ix_n (by omega), stp_eq]
    rw [show f_X11_number g 1 9 = _ from a3, bnd_some, m_drafts D1.1 (by omega), bnd_some]
    have e1' : (up h1 (s + 2) k (nI v)) 1 2 = -nI 1 := by rw [up_o (by omega)]; exact u1
    have e2' : (up h1 (s + 2) k (nI v)) 1 3 = nI 0 := by rw [up_o (by omega)]; exact u2
    generalize up h1 (s + 2) k (nI v) = h2 at *
    generalize dra g1 (n + 1) (nI v) = g2 at *
    rcases hB.1 h2 g2 p1 _ (k + 1) (n + 2) t2 m2 e1' e2' z2 D2 (by omega) (by omega) with ⟨h3, g3, p3, b3, k', n', x1, x2, x3, x4, x5, x6, x7, x8, x9, y1, y2, y3, y4, y5, y6, y7, y8, y9⟩ | ⟨h3, g3, o, e, k', n', x1, x2, x3, x4, x5, x6, x7, x8, x9, y1, y2⟩
    · rw [x1, bnd_some, zb_n1 (by omega), ck_true] at eC
      rw [x2, bnd_some]
      have H : ∀ o j, o ≤ 6 → ¬ (o = 4 ∧ j = k) → (up h3 (s + 4) k (h3 s 0)) (s + o) j = h3 (s + o) j := fun o j ho hj => by
        by_cases z : o = 4
        · subst z; rw [up_sn (by omega)]
        · rw [up_o (by omega)]
      have S1 : Sd (up h3 (s + 4) k (h3 s 0)) s 1 k = 5 := by
        show vn ((up h3 (s + 4) k (h3 s 0)) (s + 1) k) = _
        rw [H 1 k (by omega) (by omega), y8.1 1 k (by omega) (by omega) (by omega) (by omega), kd2, vn_n (by omega)]
      have S2 : Sd (up h3 (s + 4) k (h3 s 0)) s 2 k = v := by
        show vn ((up h3 (s + 4) k (h3 s 0)) (s + 2) k) = _
        rw [H 2 k (by omega) (by omega), y8.1 2 k (by omega) (by omega) (by omega) (by omega), at2, vn_n (by omega)]
      have S4 : Sd (up h3 (s + 4) k (h3 s 0)) s 4 k = k' := by
        show vn ((up h3 (s + 4) k (h3 s 0)) (s + 4) k) = _
        rw [up_ss, x7, vn_n (by omega)]
      have T0 : Td g3 n = 5 := by
        show vn (g3 140 n) = _
        rw [y9 n (by omega), ga2 n (by omega), w.T, vn_n (by omega)]
      have T1 : Td g3 (n + 1) = v := by
        show vn (g3 140 (n + 1)) = _
        rw [y9 (n + 1) (by omega), dat2, vn_n (by omega)]
      refine Or.inl ⟨up h3 (s + 4) k (h3 s 0), g3, p3, b3, k', n', ?_, rfl, x3.ao (up_o (by omega)) (up_o (by omega)), x4, ?_, ?_, ?_, x8, by omega, y1, by omega, S4, ⟨k30, by rw [S1, T0], by omega, Nat.le_refl _, by rw [S4]; omega, by rw [S4]; omega, ?_⟩, (f2.tr y6).tr (FSc.up hs _ (by omega)), fd2.tr y7, (hr2.tr (y8.sub (Nat.le_refl _) (by omega))).tr (HR.up (by omega) (Or.inr (Nat.le_refl _))), fun j hj => (ga2.tr y9 (by omega)) j (by omega)⟩
      · rw [eC, bnd_some]
        exact c_104 k30 1 (by omega) _ _ _ _ _ _ _
      · rw [up_o (by omega)]; exact x5
      · rw [up_o (by omega)]; exact x6
      · rw [up_o (by omega)]; exact x7
      · rw [S1, S2, S4]
        refine Or.inr (Or.inr (Or.inr ⟨rfl, by omega, T1, v9, by omega, ?_⟩))
        rw [show 5 - d - 1 = 4 - d by omega]
        exact SQ_tr (g := g3) y5 (Nat.le_refl _) (HR.up (by omega) (Or.inl (by omega))) (GA.rf _ _) (Nat.le_refl _)
    · rw [x1, bnd_some, zb_n1 (by omega), ck_true] at eC
      rw [x2, bnd_some]
      exact cmr_bad hs k30 h3 g3 o e k' n' _ _ _ _ _ _ eC rfl x3 x4 x5 x6 (by omega) x8 (by omega) (f2.tr y1) (fd2.tr y2)
  · obtain ⟨c1', c2', c3'⟩ := ce_fr h (rn wsB B L p) kd
    have D1 := w.D.fr a4
    have eC : B_X7_readRepeat rB c1 c2 c3 c4 h s (nI k) (nI d) = some (nI 0, ce h (rn wsB B L p) kd) := by
      unfold B_X7_readRepeat
      rw [show f_X9_numberHere h 1 9 = _ from a1, bnd_some, if_pos (show (-nI 1 : Int32) = -1 from rfl)]
      rfl
    have m2 : MF (dra g1 (n + 1) (nI 1)) B L _ _ := a3.dr
    rw [show f_X11_number g 1 9 = _ from a2, bnd_some, m_drafts D1.1 (by omega), bnd_some, hB.2 _ _ _ m2, bnd_some]
    exact cmr_bad hs k30 _ _ _ _ (k + 1) (n + 2) _ _ _ _ _ _ eC rfl m2 c2' c3' (D1.dr _) (by omega) (by omega) (by omega) c1'.fs (a4.fd.tr dra_fd)
theorem YI1 (w : MF g B L o e) (hd : MD g n k d) (hn : n < 700) : bnd (f_X11_takes g 45) (fun u13 => if u13.1 = 0 then bnd (f_X11_drafts u13.2 (0 : Int32)) (fun u14 => some u14) else bnd (mB u13.2) (fun u15 => some u15)) = some (dra g n 0) := by
  rw [ta1 w, bnd_some, if_pos (show (nI 0 : Int32) = 0 from rfl)]
  show bnd (f_X11_drafts g 0) _ = _
  rw [m_drafts hd.1 hn, bnd_some]
theorem l_if (w : PC h g s B L k n d 4) (hB : HB rB mB s B L d) (r1 r2 r3 r4 r5) (c1 c2 c3 c4) (y : Int32) : CMR (bnd (B_X7_readIf rB c1 c2 c3 c4 h s (nI k) (nI d)) (fun u7 => J_X7_readCommand_104 r1 r2 r3 r4 r5 s y u7.2 (nI k) u7.1)) (YI mB g) h g s B L k n d := by
  obtain ⟨p, b, t, m⟩ := w.t
  have hs := w.s14
  have k30 := w.k30
  have n7 := w.n7
  have e2k : (2 : Int32) * nI k = nI (2 * k) := pk_mul (a := 2) (b := k)
  have eC : B_X7_readIf rB c1 c2 c3 c4 h s (nI k) (nI d) = bnd (f_X7_readPhrase h s (nI (2 * k))) (fun u1 => if u1.1 = 0 then some ((0 : Int32), u1.2) else bnd (rB u1.2 s (nI d)) (fun u2 => if u2.1 = 0 then some ((0 : Int32), u2.2) else bnd (f_X9_isKeyword (up u2.2 (s + 3) k (u2.2 s 0)) 14) (fun u4 => if u4 = 0 then some ((1 : Int32), up u2.2 (s + 3) k (u2.2 s 0)) else bnd (f_X9_advance (up u2.2 (s + 3) k (u2.2 s 0))) (fun u5 => bnd (rB u5 s (nI d)) (fun u6 => ck (zb u6.1) (some (u6.1, u6.2))))))) := by
    unfold B_X7_readIf
    rw [e2k, inb_t k30 (by omega), ix_n (by omega)]
    rfl
  unfold YI
  rcases l_phrase (a := n + 1) hs (ph := 2 * k) (by omega) (by omega) t m rfl w.e1 w.e2 w.D with ⟨h1, g1, p1, b1, n1, a1, a2, a3, a4, a5, a6, a7, a8, a9, f1, f2, f3, f4⟩ | ⟨h1, g1, o, e, n1, a1, a2, a3, a4, a5, a6, a7, f1, f2⟩
  · have pn := a9.n
    have p6 := a9.n6
    have z1 : h1 s 0 = nI (k + 1) := (f3 0 0 (by omega) (by omega) (by omega)).trans w.z
    have kd1 : h1 (s + 1) k = nI 4 := (f3 1 k (by omega) (by omega) (by omega)).trans w.kd
    have t1 : g1 140 n = nI 4 := (f4 n (by omega)).trans w.T
    rw [a1, bnd_some, if_neg (show ¬ (nI 1 : Int32) = 0 by decide)] at eC
    replace eC : B_X7_readIf rB c1 c2 c3 c4 h s (nI k) (nI d) = bnd (rB h1 s (nI d)) _ := eC
    rw [a2, bnd_some]
    rcases hB.1 h1 g1 p1 _ (k + 1) n1 a3 a4 a5 a6 z1 a7 (by omega) (by omega) with ⟨h2, g2, p2, b2, k1, n2, x1, x2, x3, x4, x5, x6, x7, x8, x9, y1, y2, y3, y4, y5, y6, y7, y8, y9⟩ | ⟨h2, g2, o, e, k', n2, x1, x2, x3, x4, x5, x6, x7, x8, x9, y1, y2⟩
    · rw [x1, bnd_some, if_neg (show ¬ (nI 1 : Int32) = 0 by decide)] at eC
      rw [x2, bnd_some]
      have t3 : TS (up h2 (s + 3) k (nI k1)) B L (rn wsB B L p2) := x3.ao (up_o (by omega)) (up_o (by omega))
      have f3' : FSc s h (up h2 (s + 3) k (nI k1)) := (f1.tr y6).tr (FSc.up hs _ (by omega))
      have hr3 : HR h (up h2 (s + 3) k (nI k1)) s 0 k := ((f3.hr (by omega)).tr (y8.sub (Nat.le_refl _) (by omega))).tr (HR.up (by omega) (Or.inr (Nat.le_refl _)))
      have z3 : (up h2 (s + 3) k (nI k1)) s 0 = nI k1 := by rw [up_o (by omega)]; exact x7
      have e13 : (up h2 (s + 3) k (nI k1)) 1 2 = -nI 1 := by rw [up_o (by omega)]; exact x5
      have e23 : (up h2 (s + 3) k (nI k1)) 1 3 = nI 0 := by rw [up_o (by omega)]; exact x6
      have at1 : (up h2 (s + 3) k (nI k1)) (s + 1) k = nI 4 := by rw [up_o (by omega), y8.1 1 k (by omega) (by omega) (by omega) (by omega)]; exact kd1
      have at3 : (up h2 (s + 3) k (nI k1)) (s + 3) k = nI k1 := up_ss
      have at5 : (up h2 (s + 3) k (nI k1)) (s + 5) (2 * k) = h1 (s + 5) (2 * k) := by rw [up_o (by omega), y8.2.1 _ (by omega) (by omega)]
      have at6 : ∀ i, i < 6 → (up h2 (s + 3) k (nI k1)) (s + 6) (6 * (2 * k) + i) = h1 (s + 6) (6 * (2 * k) + i) := fun i hi => by rw [up_o (by omega), y8.2.2 _ (by omega) (by omega)]
      have sq3 : HR h2 (up h2 (s + 3) k (nI k1)) s (k + 1) k1 := HR.up (by omega) (Or.inl (by omega))
      replace eC : B_X7_readIf rB c1 c2 c3 c4 h s (nI k) (nI d) = bnd (f_X9_isKeyword (up h2 (s + 3) k (h2 s 0)) 14) (fun u4 => if u4 = 0 then some ((1 : Int32), up h2 (s + 3) k (h2 s 0)) else bnd (f_X9_advance (up h2 (s + 3) k (h2 s 0))) (fun u5 => bnd (rB u5 s (nI d)) (fun u6 => ck (zb u6.1) (some (u6.1, u6.2))))) := eC
      rw [x7] at eC
      generalize up h2 (s + 3) k (nI k1) = h3 at *
      obtain ⟨⟨v4, g4⟩, i1, i2, ii⟩ := ta0 x4 rfl (t := 45) (by rw [← kw_14.1.1]; exact kw_14.2.1) (by rw [← kw_14.1.1]; exact kw_14.2.2)
      replace i2 : MFr g2 g4 := i2
      rw [i1, bnd_some]
      rw [c_isKey t3 kw_14.2.1 kw_14.2.2, bnd_some] at eC
      have D4 := x8.fr i2
      have n1e : n + 2 + Td g1 (n + 1) = n1 := by omega
      -- the end, both ways
      have fin : ∀ (h5 g5 : Hp) (p5 b5 k2 n3 : Nat) (Y : Option Hp), B_X7_readIf rB c1 c2 c3 c4 h s (nI k) (nI d) = some (nI 1, h5) → Y = some g5 → TS h5 B L (rn wsB B L p5) → MT g5 B L p5 b5 → h5 1 2 = -nI 1 → h5 1 3 = nI 0 → h5 s 0 = nI k2 → MD g5 n3 k2 d → k1 ≤ k2 → k2 ≤ 30 → n3 + 16 * k1 ≤ n2 + 1 + 16 * k2 → n3 = n2 + 1 + Td g5 n2 → SQ (Sd h5 s) (Td g5) n3 (k2 - k1) (4 - d) k1 k2 (n2 + 1) n3 → FSc s h3 h5 → FDm g4 g5 → HR h3 h5 s 0 k1 → GA g4 g5 n2 → CMR (bnd (B_X7_readIf rB c1 c2 c3 c4 h s (nI k) (nI d)) (fun u7 => J_X7_readCommand_104 r1 r2 r3 r4 r5 s y u7.2 (nI k) u7.1)) Y h g s B L k n d := by
        intro h5 g5 p5 b5 k2 n3 Y q1 q2 q3 q4 q5 q6 q7 q8 q9 o1 o2 o3 o4 o5 o6 o7 o8
        have H : ∀ o j, o ≤ 6 → ¬ (o = 4 ∧ j = k) → (up h5 (s + 4) k (h5 s 0)) (s + o) j = h5 (s + o) j := fun o j ho hj => by
          by_cases z : o = 4
          · subst z; rw [up_sn (by omega)]
          · rw [up_o (by omega)]
        have S1 : Sd (up h5 (s + 4) k (h5 s 0)) s 1 k = 4 := by
          show vn ((up h5 (s + 4) k (h5 s 0)) (s + 1) k) = _
          rw [H 1 k (by omega) (by omega), o7.1 1 k (by omega) (by omega) (by omega) (by omega), at1, vn_n (by omega)]
        have S3 : Sd (up h5 (s + 4) k (h5 s 0)) s 3 k = k1 := by
          show vn ((up h5 (s + 4) k (h5 s 0)) (s + 3) k) = _
          rw [H 3 k (by omega) (by omega), o7.1 3 k (by omega) (by omega) (by omega) (by omega), at3, vn_n (by omega)]
        have S4 : Sd (up h5 (s + 4) k (h5 s 0)) s 4 k = k2 := by
          show vn ((up h5 (s + 4) k (h5 s 0)) (s + 4) k) = _
          rw [up_ss, q7, vn_n (by omega)]
        have G : GA g1 g5 n1 := ((y9.tr (i2.ga n1) (Nat.le_refl _)).tr o8 (by omega))
        have G2 : GA g2 g5 n2 := (i2.ga n2).tr o8 (Nat.le_refl _)
        have T0 : Td g5 n = 4 := by
          show vn (g5 140 n) = _
          rw [G n (by omega), t1, vn_n (by omega)]
        have T1 : Td g5 (n + 1) = Td g1 (n + 1) := congrArg vn (G (n + 1) (by omega))
        have T2 : Td g5 n1 = Td g2 n1 := congrArg vn (G2 n1 (by omega))
        refine Or.inl ⟨up h5 (s + 4) k (h5 s 0), g5, p5, b5, k2, n3, ?_, q2, q3.ao (up_o (by omega)) (up_o (by omega)), q4, ?_, ?_, ?_, q8, by omega, o1, by omega, S4, ⟨k30, by rw [S1, T0], by omega, Nat.le_refl _, by rw [S4]; omega, by rw [S4]; omega, ?_⟩, (f3'.tr o5).tr (FSc.up hs _ (by omega)), ((f2.tr y7).tr i2.fd).tr o6, (hr3.tr (o7.sub (Nat.le_refl _) (by omega))).tr (HR.up (by omega) (Or.inr (Nat.le_refl _))), fun j hj => (G j (by omega)).trans (f4 j (by omega))⟩
        · rw [q1, bnd_some]
          exact c_104 k30 1 (by omega) _ _ _ _ _ _ _
        · rw [up_o (by omega)]; exact q5
        · rw [up_o (by omega)]; exact q6
        · rw [up_o (by omega)]; exact q7
        · rw [S1, S3, S4]
          refine Or.inr (Or.inr (Or.inl ⟨rfl, by omega, PH_tr a9 ?_ (fun i hi => ?_) (fun j hj => G j (by omega)) (by omega), n1, n2, by rw [T1]; omega, by rw [T2]; exact y3, o3, y1, by omega, ?_, ?_⟩))
          · rw [H 5 _ (by omega) (by omega), o7.2.1 _ (by omega) (by omega), at5]
          · rw [H 6 _ (by omega) (by omega), o7.2.2 _ (by omega) (by omega), at6 i hi]
          · rw [show 5 - d - 1 = 4 - d by omega]
            exact SQ_tr (g := g2) y5 (by omega) ((sq3.tr (o7.sub (by omega) (Nat.le_refl _))).tr (HR.up (by omega) (Or.inl (by omega)))) G2 (by omega)
          · rw [show 5 - d - 1 = 4 - d by omega]
            exact SQ_tr (g := g5) o4 (by omega) (HR.up (by omega) (Or.inl (by omega))) (GA.rf _ _) (Nat.le_refl _)
      by_cases z : isK B L (rn wsB B L p2) 14
      · rcases ii with ⟨-, j1, j2⟩ | ⟨j1, -⟩
        case inr => exact absurd ((kwp 14 45 kw_14.1 B L _).mp z) j1
        have j1 : v4 = nI 1 := j1
        subst j1
        replace j2 : MT g4 B L (rn wsB B L p2 + tl 45) (rn wsB B L p2) := j2
        rw [if_neg (show ¬ (nI 1 : Int32) = 0 by decide)]
        show CMR _ (bnd (mB g4) _) _ _ _ _ _ _ _ _
        rw [bo_y z, if_neg (show ¬ (nI 1 : Int32) = 0 by decide)] at eC
        obtain ⟨h4, d1, d2, d3⟩ := c_advance t3
        rw [k_adv t3.i kw_14.2.1 z, kw_14.1.1] at d2
        rw [d1, bnd_some] at eC
        obtain ⟨u1, u2⟩ := d3.e e13 e23
        have z4 : h4 s 0 = nI k1 := by rw [d3.1.1 s (by omega)]; exact z3
        rcases hB.1 h4 g4 _ _ k1 n2 d2 j2 u1 u2 z4 D4 (by omega) (by omega) with ⟨h5, g5, p5, b5, k2, n3, q1, q2, q3, q4, q5, q6, q7, q8, q9, o1, o2, o3, o4, o5, o6, o7, o8, o9⟩ | ⟨h5, g5, o, e, k2, n3, q1, q2, q3, q4, q5, q6, q7, q8, q9, o1, o2⟩
        · rw [q1, bnd_some, zb_n1 (by omega), ck_true] at eC
          rw [q2, bnd_some]
          exact fin h5 g5 p5 b5 k2 n3 _ eC rfl q3 q4 q5 q6 q7 q8 q9 o1 (by omega) o3 o5 (d3.1.fs.tr o6) o7 ((d3.1.hr hs 0 k1).tr o8) o9
        · rw [q1, bnd_some, zb_n1 (by omega), ck_true] at eC
          rw [q2, bnd_some]
          exact cmr_bad hs k30 h5 g5 o e k2 n3 _ _ _ _ _ _ eC rfl q3 q4 q5 q6 (by omega) q8 (by omega) ((f3'.tr d3.1.fs).tr o1) (((f2.tr y7).tr i2.fd).tr o2)
      · rcases ii with ⟨j1, -⟩ | ⟨-, j1, j2⟩
        case inl => exact absurd ((kwp 14 45 kw_14.1 B L _).mpr j1) z
        have j1 : v4 = nI 0 := j1
        subst j1
        replace j2 : MT g4 B L (rn wsB B L p2) (rn wsB B L p2) := j2
        rw [if_pos (show (nI 0 : Int32) = 0 from rfl)]
        show CMR _ (bnd (f_X11_drafts g4 0) _) _ _ _ _ _ _ _ _
        rw [m_drafts D4.1 (by omega), bnd_some]
        rw [bo_n z, if_pos (show (nI 0 : Int32) = 0 from rfl)] at eC
        have tz : Td (dra g4 n2 0) n2 = 0 := by
          show vn ((dra g4 n2 0) 140 n2) = _
          rw [dra_at]
          exact vn_n (a := 0) (by omega)
        have rp := rr (B := B) x4.i
        refine fin h3 (dra g4 n2 0) (rn wsB B L p2) (rn wsB B L p2) k1 (n2 + 1) _ eC rfl (by rw [rp]; exact t3) j2.dr e13 e23 z3 (D4.dr 0) (Nat.le_refl _) y1 (by omega) (by rw [tz]) ?_ (FSc.rf _ _) dra_fd (HR.rf _ _ _ _) dra_ga
        rw [Nat.sub_self, SQ_0]
        exact ⟨rfl, rfl⟩
    · rw [x1, bnd_some, if_pos (show (nI 0 : Int32) = 0 from rfl)] at eC
      rw [x2, bnd_some, YI1 x3 x6 (by omega)]
      exact cmr_bad hs k30 h2 _ o e k' (n2 + 1) _ _ _ _ _ _ eC rfl x3.dr x4 x5 (x6.dr 0) (by omega) x8 (by omega) (f1.tr y1) ((f2.tr y2).tr dra_fd)
  · rw [a1, bnd_some, if_pos (show (nI 0 : Int32) = 0 from rfl)] at eC
    rw [a2, bnd_some, hB.2 _ _ _ a3, bnd_some, YI1 a3 a6 (by omega)]
    exact cmr_bad hs k30 h1 _ o e (k + 1) (n1 + 1) _ _ _ _ _ _ eC rfl a3.dr a4 a5 (a6.dr 0) (by omega) (by omega) (by omega) f1 (f2.tr dra_fd)
end
