/-! any command of a script, both sides -/
def HCm (rC : Hp → Nat → Int32 → Option (Int32 × Hp)) (mC : Hp → Option Hp) (s : Nat) (B : Nat → Int32) (L d : Nat) : Prop := (∀ h g p b k n, TS h B L (rn wsB B L p) → MT g B L p b → h 1 2 = -nI 1 → h 1 3 = nI 0 → h s 0 = nI k → MD g n k d → k ≤ 30 → n + 16 * (30 - k) ≤ 700 → CMR (rC h s (nI d)) (mC g) h g s B L k n d) ∧ ∀ h g q, TS h B L q → MT g B L q q → rn wsB B L q = q → lz B L q = 0 → ∃ g', mC g = some g' ∧ MF g' B L q 1 ∧ MFr g g'
section
variable {h g : Hp} {B : Nat → Int32} {L q p b o e n k d j i s ph a kd : Nat} {v : Int32}
variable {rB x1 x2 x3 : Hp → Nat → Int32 → Option (Int32 × Hp)} {mB m2 : Hp → Option Hp}
theorem j35_1 (w : MF g B L o e) (x1 : Int32) (v : Nat) (hv : v ≤ 1) : J_X11_readCommand_35 mB m2 g x1 (nI v) = some g := by
  unfold J_X11_readCommand_35
  rw [show f_X11_must g (nI v) 4 = _ from mu1 w v hv 4, bnd_some, hf1 w, bnd_some, if_neg (show ¬ (nI 1 : Int32) = 0 by decide)]
theorem j16_no (w : MT g B L q q) : ∃ g', J_X11_readCommand_16 mB m2 g (-nI 1) 0 = some g' ∧ MF g' B L q 1 ∧ MFr g g' := by
  obtain ⟨g', r1, r2, r3⟩ := mu_no w 1
  refine ⟨g', ?_, r2, r3⟩
  unfold J_X11_readCommand_16
  rw [show f_X11_must g 0 1 = _ from r1, bnd_some]
  show (if g' 125 28 < 30 then _ else _) = _
  rw [show J_X11_readCommand_35 mB m2 g' (-nI 1) 1 = _ from j35_1 r2 _ 1 (by omega), show J_X11_readCommand_35 mB m2 g' (-nI 1) 0 = _ from j35_1 r2 _ 0 (by omega), ite_self]
theorem l_cmdr (hs : 14 ≤ s) (hd : d ≤ 5) (c1 c2 c3 c4) (hB : HB rB mB s B L d) : HCm (B_X7_readCommand x1 x2 x3 (B_X7_readIf rB c1 c2 c3 c4) (B_X7_readRepeat rB c1 c2 c3 c4)) (B_X11_readCommand mB m2) s B L d := by
  constructor
  · intro h g p b k n w m e1 e2 hz hD hk hn
    -- the model's blanks first
    obtain ⟨q, hq⟩ : ∃ q, rn wsB B L p = q := ⟨_, rfl⟩
    rw [hq] at w
    have kind : (∃ kd g', kd ≤ 5 ∧ f_X7_kindHere h = some (nI kd) ∧ f_X11_commandHere g = some (nI kd, g') ∧ MT g' B L q q ∧ MFr g g' ∧ 1 ≤ lz B L q) ∨ (∃ g', f_X7_kindHere h = some (-nI 1) ∧ f_X11_commandHere g = some (-nI 1, g') ∧ MT g' B L q q ∧ MFr g g') := j_kind w m hq
    have hqL := w.i
    unfold B_X7_readCommand B_X11_readCommand
    rcases kind with ⟨kd, g1, a1, a2, a3, a4, a5, a6⟩ | ⟨g1, a2, a3, a4, a5⟩
    · rw [a2, bnd_some, a3, bnd_some, if_neg (show ¬ nI kd = (-1 : Int32) from ng1 (by omega)), hz]
      show CMR _ (if nI kd = (-1 : Int32) then _ else J_X11_readCommand_16 mB m2 g1 (nI kd) 1) _ _ _ _ _ _ _ _
      rw [if_neg (show ¬ nI kd = (-1 : Int32) from ng1 (by omega))]
      have D1 := hD.fr a5
      unfold J_X11_readCommand_16
      rw [show f_X11_must g1 1 1 = _ from mu_ok 1, bnd_some, D1.2.1]
      by_cases z : k < 30
      · rw [if_pos (show nI k < (30 : Int32) from (nI_ltI (b := 30) (by omega) (by omega)).mpr z), if_pos (show nI k < (30 : Int32) from (nI_ltI (b := 30) (by omega) (by omega)).mpr z)]
        obtain ⟨h1, d1, d2, d3⟩ := c_advance w
        have ez : tZ B L q = lz B L q := by
          rcases tk_lt (B := B) hqL with ⟨y1, y2, y3⟩ | ⟨y1, y2⟩
          · exact y3
          · omega
        rw [ez] at d2
        obtain ⟨g2, ⟨g2', r1, r1'⟩, r2, r3⟩ := skn a4 (by rw [← hq]; exact rr m.i)
        have z1 : h1 s 0 = nI k := by rw [d3.1.1 s (by omega)]; exact hz
        obtain ⟨u1, u2⟩ := d3.e e1 e2
        have D2 := D1.fr r3
        have D3 : MD (up g2 125 28 (nI (k + 1))) n (k + 1) d := ⟨by rw [up_sn (by decide)]; exact D2.1, up_ss, by rw [up_sn (by decide)]; exact D2.2.2⟩
        have m3 : MT (up g2 125 28 (nI (k + 1))) B L (q + lz B L q) q := r2.f5 (by decide) (by decide) (by decide) (by decide) (by decide)
        have f3 : FDm g (up g2 125 28 (nI (k + 1))) := (a5.fd.tr r3.fd).tr (FDm.up5 _ (by omega))
        have ga3 : GA g (up g2 125 28 (nI (k + 1))) n := fun j hj => by rw [up_o (by decide), r3.1 140 (by decide), a5.1 140 (by decide)]
        have eM : J_X11_readCommand_35 mB m2 g1 (nI kd) 1 = if nI kd = (5 : Int32) then YR mB (dra (up g2 125 28 (nI (k + 1))) n (nI kd)) else bnd (f_X11_readPhrase (dra (up g2 125 28 (nI (k + 1))) n (nI kd))) (fun u8 => if nI kd = (4 : Int32) then bnd (mB u8) (fun u12 => bnd (f_X11_takes u12 45) (fun u13 => if u13.1 = 0 then bnd (f_X11_drafts u13.2 (0 : Int32)) (fun u14 => some u14) else bnd (mB u13.2) (fun u15 => some u15))) else if nI kd = (3 : Int32) then bnd (f_X11_takes u8 46) (fun u9 => bnd (f_X11_must u9.2 u9.1 (1 : Int32)) (fun u10 => bnd (f_X11_readPhrase u10) (fun u11 => bnd (f_X11_needs u11 (59 : Int32)) (fun u1 => some u1)))) else bnd (f_X11_needs u8 (59 : Int32)) (fun u1 => some u1)) := by
          unfold J_X11_readCommand_35
          rw [show f_X11_must g1 1 4 = _ from mu_ok 4, bnd_some, hf0 a4, bnd_some, if_pos (show (nI 0 : Int32) = 0 from rfl), r1, bnd_some, a4.p, nI_add, stp_eq]
          show stp (up (up g2' 125 17 (nI (q + lz B L q))) 125 28 ((up g2' 125 17 (nI (q + lz B L q))) 125 28 + 1)) _ = _
          rw [← r1', D2.2.1, show nI k + 1 = nI (k + 1) from nI_add k 1, stp_eq, m_drafts D3.1 (by omega), bnd_some]
          rfl
        have D4 := D3.dr (nI kd)
        have m4 : MT (dra (up g2 125 28 (nI (k + 1))) n (nI kd)) B L (q + lz B L q) q := m3.dr
        have f4 : FDm g (dra (up g2 125 28 (nI (k + 1))) n (nI kd)) := f3.tr dra_fd
        have ga4 : GA g (dra (up g2 125 28 (nI (k + 1))) n (nI kd)) n := ga3.tr dra_ga (Nat.le_refl _)
        have at4 : (dra (up g2 125 28 (nI (k + 1))) n (nI kd)) 140 n = nI kd := dra_at
        have t2 : TS (up (up h1 s 0 (nI (k + 1))) (s + 1) k (nI kd)) B L (rn wsB B L (q + lz B L q)) := d2.ao (by rw [up_o (by omega), up_o (by omega)]) (by rw [up_o (by omega), up_o (by omega)])
        have f2 : FSc s h (up (up h1 s 0 (nI (k + 1))) (s + 1) k (nI kd)) := (d3.1.fs.tr (FSc.up (o := 0) hs _ (by omega))).tr (FSc.up hs _ (by omega))
        have hr2 : HR h (up (up h1 s 0 (nI (k + 1))) (s + 1) k (nI kd)) s 0 k := ((d3.1.hr hs 0 k).tr (HR.of (fun o a b => up_o (by omega)))).tr (HR.up (by omega) (Or.inr (Nat.le_refl _)))
        have pc : PC (up (up h1 s 0 (nI (k + 1))) (s + 1) k (nI kd)) (dra (up g2 125 28 (nI (k + 1))) n (nI kd)) s B L k n d kd := ⟨⟨_, _, t2, m4⟩, by rw [up_o (by omega), up_o (by omega)]; exact u1, by rw [up_o (by omega), up_o (by omega)]; exact u2, by rw [up_o (by omega), up_ss], up_ss, D4, at4, z, hn, hd, hs, a1⟩
        rw [d1, bnd_some, stp_eq, stp_eq, z1, show nI k + 1 = nI (k + 1) from nI_add k 1, inb_t z (by omega), ck_true, ix_n (by omega), stp_eq, eM]
        refine CMR.tr (h1 := up (up h1 s 0 (nI (k + 1))) (s + 1) k (nI kd)) (g1 := dra (up g2 125 28 (nI (k + 1))) n (nI kd)) ?_ f2 f4 hr2 ga4
        generalize up (up h1 s 0 (nI (k + 1))) (s + 1) k (nI kd) = h5 at *
        generalize dra (up g2 125 28 (nI (k + 1))) n (nI kd) = g5 at *
        have k5 : (nI kd = (5 : Int32)) ↔ kd = 5 := nI_eq (b := 5) (by omega) (by omega)
        have k4 : (nI kd = (4 : Int32)) ↔ kd = 4 := nI_eq (b := 4) (by omega) (by omega)
        by_cases y5 : kd = 5
        · rw [if_pos (k5.mpr y5), if_pos (k5.mpr y5)]
          subst y5
          exact l_repeat pc hB _ _ _ _ _ c1 c2 c3 c4 _
        · rw [if_neg (fun x => y5 (k5.mp x)), if_neg (fun x => y5 (k5.mp x))]
          by_cases y4 : kd = 4
          · rw [if_pos (k4.mpr y4)]
            have : ∀ u8, (if nI kd = (4 : Int32) then bnd (mB u8) (fun u12 => bnd (f_X11_takes u12 45) (fun u13 => if u13.1 = 0 then bnd (f_X11_drafts u13.2 (0 : Int32)) (fun u14 => some u14) else bnd (mB u13.2) (fun u15 => some u15))) else if nI kd = (3 : Int32) then bnd (f_X11_takes u8 46) (fun u9 => bnd (f_X11_must u9.2 u9.1 (1 : Int32)) (fun u10 => bnd (f_X11_readPhrase u10) (fun u11 => bnd (f_X11_needs u11 (59 : Int32)) (fun u1 => some u1)))) else bnd (f_X11_needs u8 (59 : Int32)) (fun u1 => some u1)) = bnd (mB u8) (fun u12 => bnd (f_X11_takes u12 45) (fun u13 => if u13.1 = 0 then bnd (f_X11_drafts u13.2 (0 : Int32)) (fun u14 => some u14) else bnd (mB u13.2) (fun u15 => some u15))) := fun u8 => if_pos (k4.mpr y4)
            rw [show bnd (f_X11_readPhrase g5) _ = YI mB g5 from congrArg (bnd (f_X11_readPhrase g5)) (funext this)]
            subst y4
            exact l_if pc hB _ _ _ _ _ c1 c2 c3 c4 _
          · rw [if_neg (fun x => y4 (k4.mp x))]
            have : ∀ u8, (if nI kd = (4 : Int32) then bnd (mB u8) (fun u12 => bnd (f_X11_takes u12 45) (fun u13 => if u13.1 = 0 then bnd (f_X11_drafts u13.2 (0 : Int32)) (fun u14 => some u14) else bnd (mB u13.2) (fun u15 => some u15))) else if nI kd = (3 : Int32) then bnd (f_X11_takes u8 46) (fun u9 => bnd (f_X11_must u9.2 u9.1 (1 : Int32)) (fun u10 => bnd (f_X11_readPhrase u10) (fun u11 => bnd (f_X11_needs u11 (59 : Int32)) (fun u1 => some u1)))) else bnd (f_X11_needs u8 (59 : Int32)) (fun u1 => some u1)) = (if nI kd = (3 : Int32) then bnd (f_X11_takes u8 46) (fun u9 => bnd (f_X11_must u9.2 u9.1 (1 : Int32)) (fun u10 => bnd (f_X11_readPhrase u10) (fun u11 => bnd (f_X11_needs u11 (59 : Int32)) (fun u1 => some u1)))) else bnd (f_X11_needs u8 (59 : Int32)) (fun u1 => some u1)) := fun u8 => if_neg (fun x => y4 (k4.mp x))
            rw [show bnd (f_X11_readPhrase g5) _ = YC kd g5 from congrArg (bnd (f_X11_readPhrase g5)) (funext this)]
            exact l_change pc (by omega) _ _ _ _ _ _
      · have ek : k = 30 := by omega
        subst ek
        rw [if_neg (show ¬ nI 30 < (30 : Int32) by decide), if_neg (show ¬ nI 30 < (30 : Int32) by decide)]
        obtain ⟨g2, r1, r2, r3⟩ := mu_no a4 4
        obtain ⟨b1, b2, b3⟩ := ce_fr h q 4
        refine Or.inr ⟨ce h q 4, g2, q, 4, 30, n, ?_, ?_, r2, b2, b3, D1.fr r3, Nat.le_refl _, by omega, by omega, b1.fs, a5.fd.tr r3.fd⟩
        · rw [show f_X9_fail h 4 = _ from c_fail w 4, bnd_some, zb0, ck_true]
        · unfold J_X11_readCommand_35
          rw [show f_X11_must g1 0 4 = _ from r1, bnd_some, hf1 r2, bnd_some, if_neg (show ¬ (nI 1 : Int32) = 0 by decide)]
    · rw [a2, bnd_some, a3, bnd_some, if_pos (show (-nI 1 : Int32) = -1 from rfl)]
      show CMR _ (if (-nI 1 : Int32) = (-1 : Int32) then J_X11_readCommand_16 mB m2 g1 (-nI 1) 0 else _) _ _ _ _ _ _ _ _
      rw [if_pos (show (-nI 1 : Int32) = -1 from rfl)]
      obtain ⟨g2, r1, r2, r3⟩ := j16_no (mB := mB) (m2 := m2) a4
      obtain ⟨b1, b2, b3⟩ := ce_fr h q 1
      refine Or.inr ⟨ce h q 1, g2, q, 1, k, n, ?_, r1, r2, b2, b3, (hD.fr a5).fr r3, Nat.le_refl _, hk, by omega, b1.fs, a5.fd.tr r3.fd⟩
      rw [show f_X9_fail h 1 = _ from c_fail w 1, bnd_some, zb0, ck_true]
  · intro h g q w m hq hz
    unfold B_X11_readCommand
    rcases j_kind w m hq with ⟨kd, g1, a1, a2, a3, a4, a5, a6⟩ | ⟨g1, a2, a3, a4, a5⟩
    · omega
    · rw [a3, bnd_some]
      show ∃ g', (if (-nI 1 : Int32) = (-1 : Int32) then J_X11_readCommand_16 mB m2 g1 (-nI 1) 0 else _) = some g' ∧ _
      rw [if_pos (show (-nI 1 : Int32) = -1 from rfl)]
      obtain ⟨g2, r1, r2, r3⟩ := j16_no (mB := mB) (m2 := m2) a4
      exact ⟨g2, r1, r2, a5.tr r3⟩
end
