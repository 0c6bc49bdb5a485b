/-! a text is read, both sides -/
def LM (g g' : Hp) : Prop := (∀ k, ¬ k = 125 → ¬ k = 126 → ¬ (127 ≤ k ∧ k ≤ 134) → g' k = g k) ∧ ∀ j, ¬ j = 0 → ¬ j = 3 → ¬ j = 13 → ¬ (16 ≤ j ∧ j ≤ 23) → g' 125 j = g 125 j
def LN (g g' : Hp) : Prop := (∀ k, ¬ k = 125 → ¬ k = 127 → g' k = g k) ∧ ∀ j, ¬ j = 0 → ¬ (16 ≤ j ∧ j ≤ 23) → g' 125 j = g 125 j
section
variable {h g : Hp} {B : Nat → Int32} {L o k c : Nat} {P : Nat → Nat → Nat}
theorem ends1 (w : MF g B L o k) : ∃ g', J_X11_load_98 g = some (nI 0, g') ∧ g' 125 22 = nI o ∧ g' 125 23 = nI k ∧ g' 125 0 = nI 1 ∧ (∀ i, ¬ i = 125 → g' i = g i) ∧ ∀ j, ¬ j = 0 → ¬ j = 22 → ¬ j = 23 → g' 125 j = g 125 j := by
  have ol := w.ol
  have l9 := w.l
  refine ⟨up (up (up g 125 22 (nI o)) 125 23 (nI k)) 125 0 (nI 1), ?_, by rw [up_sn (by decide), up_sn (by decide), up_ss], by rw [up_sn (by decide), up_ss], up_ss, fun i hi => by rw [up_o hi, up_o hi, up_o hi], fun j a b d => by rw [up_sn a, up_sn d, up_sn b]⟩
  have k1 : up g 125 22 (nI o) 125 21 = nI k := by rw [up_sn (by decide)]; exact w.k
  have k2 : up (up g 125 22 (nI o)) 125 23 (nI k) 125 20 = nI o := by rw [up_sn (by decide), up_sn (by decide)]; exact w.f
  have k3 : f_X11_hasFailed (up (up g 125 22 (nI o)) 125 23 (nI k)) = some (nI 1) := by
    unfold f_X11_hasFailed
    rw [k2, if_neg (show ¬ nI o = (-1 : Int32) from ng1 (by omega))]
    rfl
  have k4 : f_X11_endsText g = some (nI 0, up (up (up g 125 22 (nI o)) 125 23 (nI k)) 125 0 (nI 1)) := by
    unfold f_X11_endsText
    rw [w.f, stp_eq, k1, stp_eq, k3, bnd_some, show f_X11_throwsIf _ (nI 1) 1 = _ from m_throws1, bnd_some, if_neg (show ¬ (nI 1 : Int32) = 0 by decide)]
    rfl
  unfold J_X11_load_98
  rw [k4, bnd_some, if_pos (show (nI 0 : Int32) = 0 from rfl)]
  rfl
theorem ends0 {p b : Nat} (w : MT g B L p b) (hG : GD g P) (hD : WD P) (hh : holds P (P 0 4)) : ∃ g', J_X11_load_98 g = some (nI (P 0 4), g') ∧ g' 125 22 = -nI 1 ∧ g' 125 23 = nI 0 ∧ g' 125 0 = g 125 0 ∧ g' 125 16 = g 125 16 ∧ GR g' (fR P) ∧ GE g' (eE (fR P 0 13)) ∧ g' 125 13 = nI 0 ∧ (∀ k, ¬ k = 125 → ¬ k = 126 → ¬ (128 ≤ k ∧ k ≤ 134) → g' k = g k) ∧ ∀ j, ¬ j = 3 → ¬ j = 13 → ¬ j = 22 → ¬ j = 23 → g' 125 j = g 125 j := by
  have k1 : up g 125 22 (-nI 1) 125 21 = nI 0 := by rw [up_sn (by decide)]; exact w.k
  have k2 : up (up g 125 22 (-nI 1)) 125 23 (nI 0) 125 20 = -nI 1 := by rw [up_sn (by decide), up_sn (by decide)]; exact w.f
  have k3 : f_X11_hasFailed (up (up g 125 22 (-nI 1)) 125 23 (nI 0)) = some (nI 0) := by
    unfold f_X11_hasFailed
    rw [k2, if_pos (show (-nI 1 : Int32) = -1 from rfl)]
    rfl
  have k4 : f_X11_endsText g = some (nI 1, up (up g 125 22 (-nI 1)) 125 23 (nI 0)) := by
    unfold f_X11_endsText
    rw [w.f, stp_eq, k1, stp_eq, k3, bnd_some, show f_X11_throwsIf _ (nI 0) 1 = _ from m_throws0, bnd_some, if_pos (show (nI 0 : Int32) = 0 from rfl)]
    rfl
  have G2 : GD (up (up g 125 22 (-nI 1)) 125 23 (nI 0)) P := hG.fr (by rw [up_o (by decide), up_o (by decide)])
  obtain ⟨g3, e3, R3, E3, n3, f3, f4⟩ := m_takesOver G2 hD hh
  have e6 : fR P 0 4 = P 0 4 := fR_s hD hh (by decide) (by decide) (by decide) (by decide) (by decide) (by decide)
  refine ⟨g3, ?_, ?_, ?_, ?_, ?_, R3, E3, n3, fun k a b d => by rw [f3 k a b d, up_o a, up_o a], fun j a b d e => by rw [f4 j a b, up_sn e, up_sn d]⟩
  · unfold J_X11_load_98
    rw [k4, bnd_some, if_neg (show ¬ (nI 1 : Int32) = 0 by decide)]
    show bnd (f_X11_takesOver (up (up g 125 22 (-nI 1)) 125 23 (nI 0))) _ = _
    rw [e3, bnd_some, m_words R3, bnd_some, e6]
  · rw [f4 22 (by decide) (by decide), up_sn (by decide), up_ss]
  · rw [f4 23 (by decide) (by decide), up_ss]
  · rw [f4 0 (by decide) (by decide), up_sn (by decide), up_sn (by decide)]
  · rw [f4 16 (by decide) (by decide), up_sn (by decide), up_sn (by decide)]
theorem rd_text (hc : 14 ≤ c) (hC : CR h c P) (hl : L ≤ 900) (hn : h 1 1 = nI L) (hm : g 125 16 = nI L) (hb : ∀ j, j < L → g 137 j = h 2 j) : (∃ h1 g1 R, f_X8_read h c = some (nI 1, h1) ∧ f_X11_load g = some (nI (R 0 4), g1) ∧ CR h1 c R ∧ WR R ∧ GR g1 R ∧ GE g1 (eE (R 0 13)) ∧ g1 125 13 = nI 0 ∧ FC c h h1 ∧ LM g g1 ∧ h1 1 2 = g1 125 22 ∧ h1 1 3 = g1 125 23 ∧ g1 125 0 = 0 ∧ g1 125 16 = nI 0) ∨ (∃ h1 g1, f_X8_read h c = some (nI 0, h1) ∧ f_X11_load g = some (nI 0, g1) ∧ FC c h h1 ∧ LN g g1 ∧ h1 1 2 = g1 125 22 ∧ h1 1 3 = g1 125 23 ∧ g1 125 0 = nI 1 ∧ g1 125 16 = nI 0) := by
  obtain ⟨h1, x1, C1, f1⟩ := c_clear hC
  have hn1 : h1 1 1 = nI L := by rw [f1 1 (by omega)]; exact hn
  obtain ⟨h2, x2, t2, fr2, e2, e3⟩ := c_begin (h := h1) (B := h 2) (L := L) hn1 hl (fun j hj => by rw [f1 2 (by omega)])
  have C2 : CR h2 c (clR P) := C1.fr (fun o ho => fr2.1 _ (by omega))
  obtain ⟨g1, y1, G1, gf1⟩ := m_begins (g := up g 125 0 0) (R := P)
  obtain ⟨g2, y2, m2, bt⟩ := m_begT (g := g1) (B := h 2) (L := L) (by rw [gf1 125 (by decide), up_sn (by decide)]; exact hm) hl (fun j hj => by rw [gf1 137 (by decide), up_o (by decide)]; exact hb j hj)
  have G2 : GD g2 (clR P) := G1.fr (bt.1 127 (by decide))
  have fc : FC c h h2 := (FC.of hc f1).tr fr2.fc
  have z2 : g2 125 0 = nI 0 := by rw [bt.2.2 0 (by omega), gf1 125 (by decide), up_ss]; rfl
  have n2 : LN g g2 := ⟨fun k a b => by rw [bt.1 k a, gf1 k b, up_o a], fun j a b => by rw [bt.2.2 j (by omega), gf1 125 (by decide), up_sn a]⟩
  have hq := rr (B := h 2) (L := L) (p := 0) (Nat.zero_le _)
  have eX : f_X8_read h c = Lp (F_X8_read_10 c) FU (nI 0, h2) := by
    unfold f_X8_read
    rw [x1, bnd_some, x2, bnd_some]
    rfl
  have eY : f_X11_load g = Lp F_X11_load_13 FU g2 := by
    unfold f_X11_load
    rw [stp_eq, y1, bnd_some, y2, bnd_some]
  rw [eX, eY]
  have bad : ∀ {X : Option (Int32 × Hp)} {Y : Option (Int32 × Hp)} {h3 g3 : Hp} {o k : Nat}, X = some (nI 0, h3) → Y = J_X11_load_98 g3 → MF g3 (h 2) L o k → h3 1 2 = nI o → h3 1 3 = nI k → FC c h2 h3 → FM g2 g3 → (∃ h1 g1, X = some (nI 0, h1) ∧ Y = some (nI 0, g1) ∧ FC c h h1 ∧ LN g g1 ∧ h1 1 2 = g1 125 22 ∧ h1 1 3 = g1 125 23 ∧ g1 125 0 = nI 1 ∧ g1 125 16 = nI 0) := by
    intro X Y h3 g3 o k b1 b2 b3 b4 b5 b6 b7
    obtain ⟨g4, d1, d2, d3, d4, d5, d6⟩ := ends1 b3
    refine ⟨h3, g4, b1, b2.trans d1, fc.tr b6, ⟨fun i a b => by rw [d5 i a, b7.1 i a b, n2.1 i a b], fun j a b => by rw [d6 j a (by omega) (by omega), b7.2 j (by omega), n2.2 j a b]⟩, by rw [b4, d2], by rw [b5, d3], d4, by rw [d6 16 (by decide) (by decide) (by decide), b7.2 16 (by omega)]; exact bt.2.1⟩
  rcases l_read hc L (rn wsB (h 2) L 0) 0 FU FU (by omega) (by unfold FU; omega) (by unfold FU; omega) (Nat.zero_le _) h2 g2 (clR P) t2 m2 hq e2 e3 C2 cl_WD G2 with ⟨h3, g3, R3, r1, r2, r3, r4, r5, r6⟩ | ⟨h3, g3, r1, r2, ⟨⟨o, k, r3, r4, r5⟩, r6⟩, r7, r8⟩
  · rw [r1, r2]
    obtain ⟨g4, s1, s2, ss⟩ := m_last0 r6 r3.D r3.G
    have fm4 : FM g2 g4 := r5.tr s2.fm
    unfold J_X8_read_49
    rw [c_holds r3.C r3.D, bnd_some]
    by_cases z : holds R3 (R3 0 4)
    · rcases ss with ⟨-, m4⟩ | ⟨y, -⟩
      case inr => exact absurd z y
      left
      have G4 : GD g4 R3 := r3.G.fr (s2.1 127 (by decide))
      obtain ⟨g5, d1, d2, d3, d4, d5, d6, d7, d8, d9, d10⟩ := ends0 m4 G4 r3.D z
      obtain ⟨h4, u1, u2, u3⟩ := c_findBlocks r3.C r3.D z
      have e04 : fR R3 0 4 = R3 0 4 := fR_s r3.D z (by decide) (by decide) (by decide) (by decide) (by decide) (by decide)
      refine ⟨h4, g5, fR R3, ?_, ?_, u2, fR_WR r3.D z, d6, d7, d8, (fc.tr r4).tr (FC.of hc u3), ⟨fun k a b e => ?_, fun j a b e f => ?_⟩, ?_, ?_, ?_, ?_⟩
      · rw [bo_y z, if_neg (show ¬ (nI 1 : Int32) = 0 by decide), u1, bnd_some]
        rfl
      · rw [s1, d1, e04]
      · rw [d9 k a b (by omega), fm4.1 k a (by omega), n2.1 k a (by omega)]
      · rw [d10 j b e (by omega) (by omega), fm4.2 j (by omega), n2.2 j a f]
      · rw [u3 1 (by omega), d2]; exact r3.e1
      · rw [u3 1 (by omega), d3]; exact r3.e2
      · rw [d4, fm4.2 0 (by omega)]; exact z2
      · rw [d5, fm4.2 16 (by omega)]; exact bt.2.1
    · rcases ss with ⟨y, -⟩ | ⟨-, m4⟩
      case inl => exact absurd y z
      right
      obtain ⟨c1, c2, c3⟩ := ce_fr h3 L 2
      refine bad ?_ s1 m4 c2 c3 (r4.tr c1.fc) fm4
      rw [bo_n z, if_pos (show (nI 0 : Int32) = 0 from rfl), show f_X9_fail h3 2 = _ from c_fail r3.t 2, bnd_some, zb0, ck_true]
  · rw [r1, r2]
    right
    exact bad rfl (m_last1 r3 r6) r3 r4 r5 r7 r8
end
