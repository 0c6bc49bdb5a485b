/-! a script is read, both sides -/
def SN1 (g g' : Hp) : Prop := (∀ k, ¬ k = 125 → ¬ k = 139 → ¬ k = 140 → g' k = g k) ∧ ∀ j, ¬ j = 0 → ¬ (16 ≤ j ∧ j ≤ 23) → ¬ (26 ≤ j ∧ j ≤ 29) → g' 125 j = g 125 j
def SNs (g g' : Hp) : Prop := (∀ k, ¬ k = 125 → ¬ k = 140 → g' k = g k) ∧ ∀ j, ¬ j = 0 → ¬ (16 ≤ j ∧ j ≤ 23) → ¬ (27 ≤ j ∧ j ≤ 29) → g' 125 j = g 125 j
section
variable {h g : Hp} {B : Nat → Int32} {L q p b o e n k d j i s a kd : Nat} {v : Int32}
theorem HC_all (hs : 14 ≤ s) : ∀ D d, d + D = 5 → ∀ a e, 4 * D + 4 ≤ a → 2 * D + 2 ≤ e → HCm (REC_X7_readBlock a).2.1 (REC_X11_readBlock e).2 s B L d := by
  intro D
  induction D with
  | zero =>
    intro d hd a e ha he
    obtain ⟨a, rfl⟩ : ∃ a', a = a' + 4 := ⟨a - 4, by omega⟩
    obtain ⟨e, rfl⟩ : ∃ e', e = e' + 2 := ⟨e - 2, by omega⟩
    exact l_cmdr (x1 := (REC_X7_readBlock (a + 3)).1) (x2 := (REC_X7_readBlock (a + 3)).2.1) (x3 := (REC_X7_readBlock (a + 3)).2.2.1) (rB := (REC_X7_readBlock (a + 2)).1) (mB := (REC_X11_readBlock (e + 1)).1) (m2 := (REC_X11_readBlock (e + 1)).2) hs (by omega) (REC_X7_readBlock (a + 2)).2.1 (REC_X7_readBlock (a + 2)).2.2.1 (REC_X7_readBlock (a + 2)).2.2.2.1 (REC_X7_readBlock (a + 2)).2.2.2.2 (l_block (rC := (REC_X7_readBlock a).2.1) (mC := (REC_X11_readBlock e).2) (m1 := (REC_X11_readBlock e).1) hs (by omega) (REC_X7_readBlock a).1 (REC_X7_readBlock a).2.2.1 (REC_X7_readBlock (a + 1)).1 (REC_X7_readBlock (a + 1)).2.1 (REC_X7_readBlock (a + 1)).2.2.2.1 (REC_X7_readBlock (a + 1)).2.2.2.2 (REC_X7_readBlock a).2.2.2.1 (REC_X7_readBlock a).2.2.2.2 (fun y => by omega))
  | succ D ih =>
    intro d hd a e ha he
    obtain ⟨a, rfl⟩ : ∃ a', a = a' + 4 := ⟨a - 4, by omega⟩
    obtain ⟨e, rfl⟩ : ∃ e', e = e' + 2 := ⟨e - 2, by omega⟩
    exact l_cmdr (x1 := (REC_X7_readBlock (a + 3)).1) (x2 := (REC_X7_readBlock (a + 3)).2.1) (x3 := (REC_X7_readBlock (a + 3)).2.2.1) (rB := (REC_X7_readBlock (a + 2)).1) (mB := (REC_X11_readBlock (e + 1)).1) (m2 := (REC_X11_readBlock (e + 1)).2) hs (by omega) (REC_X7_readBlock (a + 2)).2.1 (REC_X7_readBlock (a + 2)).2.2.1 (REC_X7_readBlock (a + 2)).2.2.2.1 (REC_X7_readBlock (a + 2)).2.2.2.2 (l_block (rC := (REC_X7_readBlock a).2.1) (mC := (REC_X11_readBlock e).2) (m1 := (REC_X11_readBlock e).1) hs (by omega) (REC_X7_readBlock a).1 (REC_X7_readBlock a).2.2.1 (REC_X7_readBlock (a + 1)).1 (REC_X7_readBlock (a + 1)).2.1 (REC_X7_readBlock (a + 1)).2.2.2.1 (REC_X7_readBlock (a + 1)).2.2.2.2 (REC_X7_readBlock a).2.2.2.1 (REC_X7_readBlock a).2.2.2.2 (fun _ => ih (d + 1) (by omega) a e (by omega) (by omega)))
theorem s53_1 (w : MF g B L o k) : ∃ g', J_X11_loadScript_53 g = some (nI 0, g') ∧ g' 125 22 = nI o ∧ g' 125 23 = nI k ∧ g' 125 0 = nI 1 ∧ (∀ i, ¬ i = 125 → g' i = g i) ∧ ∀ j, ¬ j = 0 → ¬ j = 22 → ¬ j = 23 → g' 125 j = g 125 j := by
  have ol := w.ol
  have l9 := w.l
  refine ⟨up (up (up g 125 22 (nI o)) 125 23 (nI k)) 125 0 (nI 1), ?_, by rw [up_sn (by decide), up_sn (by decide), up_ss], by rw [up_sn (by decide), up_ss], up_ss, fun i hi => by rw [up_o hi, up_o hi, up_o hi], fun j a b d => by rw [up_sn a, up_sn d, up_sn b]⟩
  have k1 : up g 125 22 (nI o) 125 21 = nI k := by rw [up_sn (by decide)]; exact w.k
  have k2 : up (up g 125 22 (nI o)) 125 23 (nI k) 125 20 = nI o := by rw [up_sn (by decide), up_sn (by decide)]; exact w.f
  have k3 : f_X11_hasFailed (up (up g 125 22 (nI o)) 125 23 (nI k)) = some (nI 1) := by
    unfold f_X11_hasFailed
    rw [k2, if_neg (show ¬ nI o = (-1 : Int32) from ng1 (by omega))]
    rfl
  have k4 : f_X11_endsText g = some (nI 0, up (up (up g 125 22 (nI o)) 125 23 (nI k)) 125 0 (nI 1)) := by
    unfold f_X11_endsText
    rw [w.f, stp_eq, k1, stp_eq, k3, bnd_some, show f_X11_throwsIf _ (nI 1) 1 = _ from m_throws1, bnd_some, if_neg (show ¬ (nI 1 : Int32) = 0 by decide)]
    rfl
  unfold J_X11_loadScript_53
  rw [k4, bnd_some, if_pos (show (nI 0 : Int32) = 0 from rfl)]
  rfl
theorem s53_0 (w : MT g B L p b) (hD : MD g n k 0) (hn : n ≤ 700) : ∃ g', J_X11_loadScript_53 g = some (nI k, g') ∧ g' 125 22 = -nI 1 ∧ g' 125 23 = nI 0 ∧ g' 125 26 = nI n ∧ (∀ i, i < n → g' 139 i = g 140 i) ∧ (∀ i, ¬ i = 125 → ¬ i = 139 → g' i = g i) ∧ ∀ j, ¬ j = 22 → ¬ j = 23 → ¬ j = 26 → g' 125 j = g 125 j := by
  have k1 : up g 125 22 (-nI 1) 125 21 = nI 0 := by rw [up_sn (by decide)]; exact w.k
  have k2 : up (up g 125 22 (-nI 1)) 125 23 (nI 0) 125 20 = -nI 1 := by rw [up_sn (by decide), up_sn (by decide)]; exact w.f
  have k3 : f_X11_hasFailed (up (up g 125 22 (-nI 1)) 125 23 (nI 0)) = some (nI 0) := by
    unfold f_X11_hasFailed
    rw [k2, if_pos (show (-nI 1 : Int32) = -1 from rfl)]
    rfl
  have k4 : f_X11_endsText g = some (nI 1, up (up g 125 22 (-nI 1)) 125 23 (nI 0)) := by
    unfold f_X11_endsText
    rw [w.f, stp_eq, k1, stp_eq, k3, bnd_some, show f_X11_throwsIf _ (nI 0) 1 = _ from m_throws0, bnd_some, if_pos (show (nI 0 : Int32) = 0 from rfl)]
    rfl
  unfold J_X11_loadScript_53
  rw [k4, bnd_some, if_neg (show ¬ (nI 1 : Int32) = 0 by decide)]
  have e27 : up (up g 125 22 (-nI 1)) 125 23 (nI 0) 125 27 = nI n := by rw [up_sn (by decide), up_sn (by decide)]; exact hD.1
  show ∃ g', stp (up (up (up g 125 22 (-nI 1)) 125 23 (nI 0)) 125 26 (up (up g 125 22 (-nI 1)) 125 23 (nI 0) 125 27)) (fun g4 => Lp F_X11_loadScript_72 FU ((0 : Int32), g4)) = some (nI k, g') ∧ _
  rw [e27, stp_eq]
  have hf : ∀ j, ¬ j = 22 → ¬ j = 23 → ¬ j = 26 → (up (up (up g 125 22 (-nI 1)) 125 23 (nI 0)) 125 26 (nI n)) 125 j = g 125 j := fun j a b c => by rw [up_sn c, up_sn b, up_sn a]
  have ho : ∀ i, ¬ i = 125 → (up (up (up g 125 22 (-nI 1)) 125 23 (nI 0)) 125 26 (nI n)) i = g i := fun i hi => by rw [up_o hi, up_o hi, up_o hi]
  have h22 : (up (up (up g 125 22 (-nI 1)) 125 23 (nI 0)) 125 26 (nI n)) 125 22 = -nI 1 := by rw [up_sn (by decide), up_sn (by decide), up_ss]
  have h23 : (up (up (up g 125 22 (-nI 1)) 125 23 (nI 0)) 125 26 (nI n)) 125 23 = nI 0 := by rw [up_sn (by decide), up_ss]
  have h26 : (up (up (up g 125 22 (-nI 1)) 125 23 (nI 0)) 125 26 (nI n)) 125 26 = nI n := up_ss
  generalize up (up (up g 125 22 (-nI 1)) 125 23 (nI 0)) 125 26 (nI n) = g4 at *
  have : Wp (Lp F_X11_loadScript_72 FU ((0 : Int32), g4)) (fun u => u.1 = nI k ∧ u.2 125 = g4 125 ∧ (∀ i, i < n → u.2 139 i = g 140 i) ∧ ∀ i, ¬ i = 139 → u.2 i = g4 i) := by
    refine wp_for (i := 0) n (fun i st => ∃ g5, st = (nI i, g5) ∧ (∀ x, x < i → g5 139 x = g 140 x) ∧ ∀ x, ¬ x = 139 → g5 x = g4 x) (by omega) (Nat.zero_le _) ⟨g4, rfl, fun x hx => absurd hx (Nat.not_lt_zero _), fun _ _ => rfl⟩ ?_
    rintro i st r hi ⟨g5, rfl, b1, b2⟩ kk
    unfold F_X11_loadScript_72
    have e26 : g5 125 26 = nI n := by rw [b2 125 (by decide)]; exact h26
    by_cases x : i < n
    · show Wp (if nI i < g5 125 26 then ck (inb (nI i) 700) (ck (inb (nI i) 700) (stp (up g5 139 (ix (nI i)) (g5 140 (ix (nI i)))) (fun g1 => stp (nI i + 1) (fun v2 => r (v2, g1))))) else _) _
      rw [e26, if_pos ((nI_ltI (by omega) (by omega)).mpr x), inb_t (by omega) (by omega), ck_true, ck_true, ix_n (by omega), stp_eq, stp_eq, show nI i + 1 = nI (i + 1) from nI_add i 1]
      refine kk _ x ⟨_, rfl, fun y hy => ?_, fun y hy => by rw [up_o hy]; exact b2 y hy⟩
      by_cases z : y = i
      · subst z; rw [up_ss, b2 140 (by decide), ho 140 (by decide)]
      · rw [up_sn z]; exact b1 y (by omega)
    · have ei : i = n := by omega
      subst ei
      show Wp (if nI i < g5 125 26 then _ else some (g5 125 28, g5)) _
      rw [e26, if_neg (fun y => by have := (nI_ltI (by omega) (by omega)).mp y; omega)]
      refine wp_some.mpr ⟨?_, b2 125 (by decide), b1, b2⟩
      show g5 125 28 = nI k
      rw [b2 125 (by decide), hf 28 (by decide) (by decide) (by decide)]
      exact hD.2.1
  obtain ⟨⟨u1, u2⟩, c1, c2, c3, c4, c5⟩ := this
  have c2 : u1 = nI k := c2
  subst c2
  exact ⟨u2, c1, (congrFun c3 22).trans h22, (congrFun c3 23).trans h23, (congrFun c3 26).trans h26, c4, fun i x y => (c5 i y).trans (ho i x), fun j x y z => (congrFun c3 j).trans (hf j x y z)⟩
theorem rd_script (hs : 14 ≤ s) (hl : L ≤ 900) (hn : h 1 1 = nI L) (hm : g 125 16 = nI L) (hb : ∀ j, j < L → g 137 j = h 2 j) : (∃ h1 g1 k n T, f_X7_read h s = some (nI 1, h1) ∧ f_X11_loadScript g = some (nI k, g1) ∧ k ≤ 30 ∧ h1 s 0 = nI k ∧ GS g1 T n ∧ SQ (Sd h1 s) T n k 5 0 k 0 n ∧ FSc s h h1 ∧ SN1 g g1 ∧ h1 1 2 = g1 125 22 ∧ h1 1 3 = g1 125 23 ∧ g1 125 0 = 0 ∧ g1 125 16 = nI 0) ∨ (∃ h1 g1, f_X7_read h s = some (nI 0, h1) ∧ f_X11_loadScript g = some (nI 0, g1) ∧ FSc s h h1 ∧ SNs g g1 ∧ h1 1 2 = g1 125 22 ∧ h1 1 3 = g1 125 23 ∧ g1 125 0 = nI 1 ∧ g1 125 16 = nI 0) := by
  have f0 : FSc s h (up h s 0 0) := FSc.up (o := 0) hs h (by omega)
  obtain ⟨h2, x2, t2, fr2, e2, e3⟩ := c_begin (h := up h s 0 0) (B := h 2) (L := L) (by rw [up_o (by omega)]; exact hn) hl (fun j hj => by rw [up_o (by omega)])
  have z2 : h2 s 0 = nI 0 := by rw [fr2.1 s (by omega), up_ss]; rfl
  obtain ⟨g2, y2, m2, bt⟩ := m_begT (g := up g 125 0 0) (B := h 2) (L := L) (by rw [up_sn (by decide)]; exact hm) hl (fun j hj => by rw [up_o (by decide)]; exact hb j hj)
  have fc : FSc s h h2 := f0.tr fr2.fs
  have eX : f_X7_read h s = bnd (f_X7_readCommands h2 s (nI 0)) (fun u3 => if u3.1 = 0 then some ((0 : Int32), u3.2) else bnd (f_X9_isEnd u3.2) (fun u4 => if u4 = 0 then bnd (f_X9_fail u3.2 (1 : Int32)) (fun u5 => if u5.1 = 0 then some ((0 : Int32), u5.2) else some ((1 : Int32), u5.2)) else some ((1 : Int32), u3.2))) := by
    unfold f_X7_read
    rw [stp_eq, show f_X9_begin (up h s 0 0) = _ from x2, bnd_some]
    rfl
  have eY : f_X11_loadScript g = Lp F_X11_loadScript_24 FU (up (up (up g2 125 27 0) 125 28 0) 125 29 0) := by
    unfold f_X11_loadScript
    rw [stp_eq, y2, bnd_some, stp_eq, stp_eq, stp_eq]
  have D3 : MD (up (up (up g2 125 27 0) 125 28 0) 125 29 0) 0 0 0 := ⟨by rw [up_sn (by decide), up_sn (by decide), up_ss]; rfl, by rw [up_sn (by decide), up_ss]; rfl, by rw [up_ss]; rfl⟩
  have m3 : MT (up (up (up g2 125 27 0) 125 28 0) 125 29 0) (h 2) L (rn wsB (h 2) L 0) (rn wsB (h 2) L 0) := ((m2.f5 (by decide) (by decide) (by decide) (by decide) (by decide)).f5 (by decide) (by decide) (by decide) (by decide) (by decide)).f5 (by decide) (by decide) (by decide) (by decide) (by decide)
  have n3 : SNs g (up (up (up g2 125 27 0) 125 28 0) 125 29 0) := ⟨fun k a b => by rw [up_o a, up_o a, up_o a, bt.1 k a, up_o a], fun j a b c => by rw [up_sn (by omega), up_sn (by omega), up_sn (by omega), bt.2.2 j (by omega), up_sn a]⟩
  have q0 : (up (up (up g2 125 27 0) 125 28 0) 125 29 0) 125 0 = nI 0 := by rw [up_sn (by decide), up_sn (by decide), up_sn (by decide), bt.2.2 0 (by omega), up_ss]; rfl
  have q16 : (up (up (up g2 125 27 0) 125 28 0) 125 29 0) 125 16 = nI 0 := by rw [up_sn (by decide), up_sn (by decide), up_sn (by decide)]; exact bt.2.1
  generalize up (up (up g2 125 27 0) 125 28 0) 125 29 0 = g3 at *
  have rq := rr (B := h 2) (L := L) (p := 0) (Nat.zero_le _)
  have hFM : ∀ r g q, MT g (h 2) L q q → ¬ q = L → ¬ isS (h 2) L q (nI 125) → F_X11_loadScript_24 r g = bnd ((REC_X11_readBlock 64).2 g) (fun u6 => bnd (f_X11_blanks u6) (fun u7 => r u7)) := by
    intro r g q m hqL _
    have := m.i
    unfold F_X11_loadScript_24
    rw [hf0 m, bnd_some, if_pos (show (nI 0 : Int32) = 0 from rfl), m.p, m.n, if_pos ((nI_ltI (by omega) (by omega)).mpr (by omega))]
    rfl
  have failM : ∀ r g o e, MF g (h 2) L o e → F_X11_loadScript_24 r g = J_X11_loadScript_53 g := by
    intro r g o e w
    unfold F_X11_loadScript_24
    rw [hf1 w, bnd_some, if_neg (show ¬ (nI 1 : Int32) = 0 by decide)]
  have hC := HC_all (B := h 2) (L := L) hs 5 0 (by omega) 63 64 (by omega) (by omega)
  have bad : ∀ {X Y : Option (Int32 × Hp)} {h4 g4 : Hp} {o e : Nat}, X = some (nI 0, h4) → Y = J_X11_loadScript_53 g4 → MF g4 (h 2) L o e → h4 1 2 = nI o → h4 1 3 = nI e → FSc s h2 h4 → FDm g3 g4 → (∃ h1 g1, X = some (nI 0, h1) ∧ Y = some (nI 0, g1) ∧ FSc s h h1 ∧ SNs g g1 ∧ h1 1 2 = g1 125 22 ∧ h1 1 3 = g1 125 23 ∧ g1 125 0 = nI 1 ∧ g1 125 16 = nI 0) := by
    intro X Y h4 g4 o e b1 b2 b3 b4 b5 b6 b7
    obtain ⟨g5, d1, d2, d3, d4, d5, d6⟩ := s53_1 b3
    refine ⟨h4, g5, b1, b2.trans d1, fc.tr b6, ⟨fun i a b => by rw [d5 i a, b7.1 i a b, n3.1 i a b], fun j a b c => by rw [d6 j a (by omega) (by omega), b7.2 j (by omega), n3.2 j a b c]⟩, by rw [b4, d2], by rw [b5, d3], d4, by rw [d6 16 (by decide) (by decide) (by decide), b7.2 16 (by omega)]; exact q16⟩
  have eR : f_X7_readCommands h2 s (nI 0) = Lp (F_X7_readCommands_2 (REC_X7_readBlock 63).1 (REC_X7_readBlock 63).2.1 (REC_X7_readBlock 63).2.2.1 (REC_X7_readBlock 63).2.2.2.1 (REC_X7_readBlock 63).2.2.2.2 s (nI 0)) FU (nI 0, h2) := by
    show B_X7_readCommands (REC_X7_readBlock 63).1 (REC_X7_readBlock 63).2.1 (REC_X7_readBlock 63).2.2.1 (REC_X7_readBlock 63).2.2.2.1 (REC_X7_readBlock 63).2.2.2.2 h2 s (nI 0) = _
    unfold B_X7_readCommands
    rw [show (0 : Int32) = nI 0 from rfl]
  rw [eR] at eX
  rcases l_row (FM := F_X11_loadScript_24) hs hC (REC_X7_readBlock 63).1 (REC_X7_readBlock 63).2.2.1 (REC_X7_readBlock 63).2.2.2.1 (REC_X7_readBlock 63).2.2.2.2 hFM 30 0 (by omega) (by omega) 0 FU FU (by omega) (by unfold FU; omega) (by unfold FU; omega) h2 g3 _ 0 t2 m3 rq e2 e3 z2 D3 (by omega) with ⟨h4, g4, q4, k4, n4, M4, c1, c2, c3, c4, c5, c6, c7, c8, c9, i1, i2, i3, i4, i5, i6, i7, i8, i9⟩ | ⟨h4, g4, o, e, k4, n4, M4, c1, c2, c3, c4, c5, c6, c7, c8, c9, i1, i2⟩
  · rw [c1, bnd_some, if_neg (show ¬ (nI 1 : Int32) = 0 by decide)] at eX
    replace eX : f_X7_read h s = bnd (f_X9_isEnd h4) (fun u4 => if u4 = 0 then bnd (f_X9_fail h4 (1 : Int32)) (fun u5 => if u5.1 = 0 then some ((0 : Int32), u5.2) else some ((1 : Int32), u5.2)) else some ((1 : Int32), h4)) := eX
    rw [c_isEnd c3, bnd_some] at eX
    rw [c2] at eY
    by_cases z : q4 = L
    · left
      rw [bo_y z, if_neg (show ¬ (nI 1 : Int32) = 0 by decide)] at eX
      have eZ : F_X11_loadScript_24 (Lp F_X11_loadScript_24 (M4 + 1)) g4 = J_X11_loadScript_53 g4 := by
        unfold F_X11_loadScript_24
        rw [hf0 c4, bnd_some, if_pos (show (nI 0 : Int32) = 0 from rfl), c4.p, c4.n, if_neg (fun y => by have := (nI_ltI (by omega) (by omega)).mp y; omega)]
      obtain ⟨g5, d1, d2, d3, d4, d5, d6, d7⟩ := s53_0 c4 c9 (by omega)
      refine ⟨h4, g5, k4, n4, Td g4, eX, (eY.trans eZ).trans d1, i2, c8, ⟨d4, by omega, fun i hi => by rw [d5 i hi]; exact (n_vn _).symm⟩, ?_, fc.tr i6, ⟨fun i x y w => by rw [d6 i x y, i7.1 i x w, n3.1 i x w], fun j x y w => by rw [d7 j (by omega) (by omega) (by omega), i7.2 j (by omega), n3.2 j x y (by omega)]⟩, by rw [d2]; exact c6, by rw [d3]; exact c7, ?_, ?_⟩
      · have := i5
        rw [Nat.sub_zero, Nat.sub_zero] at this
        exact this
      · rw [d7 0 (by decide) (by decide) (by decide), i7.2 0 (by omega)]; exact q0
      · rw [d7 16 (by decide) (by decide) (by decide), i7.2 16 (by omega)]; exact q16
    · right
      have hsg : isS (h 2) L q4 (nI 125) := by
        rcases i4 with x | x
        · exact absurd x z
        · exact x
      have lz0 : lz (h 2) L q4 = 0 := by
        apply Classical.byContradiction
        intro y
        exact sg_lz c3.i sg125.1 (by omega) hsg
      obtain ⟨g5, v1, v2, v3⟩ := (HC_all (B := h 2) (L := L) hs 5 0 (by omega) 63 64 (by omega) (by omega)).2 h4 g4 q4 c3 c4 c5 lz0
      obtain ⟨c1', c2', c3'⟩ := ce_fr h4 q4 1
      have ql := c4.i
      have eZ : F_X11_loadScript_24 (Lp F_X11_loadScript_24 (M4 + 1)) g4 = J_X11_loadScript_53 g5 := by
        have : ∀ r, F_X11_loadScript_24 r g4 = bnd ((REC_X11_readBlock 64).2 g4) (fun u6 => bnd (f_X11_blanks u6) (fun u7 => r u7)) := by
          intro r
          unfold F_X11_loadScript_24
          rw [hf0 c4, bnd_some, if_pos (show (nI 0 : Int32) = 0 from rfl), c4.p, c4.n, if_pos ((nI_ltI (by omega) (by omega)).mpr (by omega))]
          rfl
        rw [this, v1, bnd_some, bl1 v2, bnd_some]
        exact failM _ _ _ _ v2
      rw [bo_n z, if_pos (show (nI 0 : Int32) = 0 from rfl), show f_X9_fail h4 1 = _ from c_fail c3 1, bnd_some, if_pos (show (nI 0 : Int32) = 0 from rfl)] at eX
      exact bad eX (eY.trans eZ) v2 c2' c3' (i6.tr c1'.fs) (i7.tr v3.fd)
  · right
    rw [c1, bnd_some, if_pos (show (nI 0 : Int32) = 0 from rfl)] at eX
    rw [c2] at eY
    exact bad eX (eY.trans (failM _ _ _ _ c3)) c3 c4 c5 i1 i2
end
