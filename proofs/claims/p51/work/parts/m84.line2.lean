/-! length, handle, speaker, breath -/
section
variable {h g : Hp} {B : Nat → Int32} {L q p b o k lo hi c t j v : Nat} {R : Nat → Nat → Nat}
theorem MF.ad {g' : Hp} (w : MF g B L o k) (e : ∀ k, ¬ k = 127 → g' k = g k) : MF g' B L o k := by
  unfold MF
  rw [e 125 (by decide), e 137 (by decide)]
  exact w
theorem GD.p0 (hG : GD g R) (hj : j = 0 ∨ j = 1) : GD (up g 127 j (nI v)) (setE R 0 j v) := by
  have key : ∀ i, ¬ i = j → up g 127 j (nI v) 127 i = g 127 i := fun i a => up_sn a
  refine ⟨?_, ?_, ?_, ?_, ?_, fun s hs => ?_, fun w hw => ?_, fun w hw => ?_, fun w hw => ?_, fun w hw => ?_, fun w hw => ?_, fun w hw => ?_⟩
  · by_cases e : (0 : Nat) = j
    · subst e; rw [setE_s, up_ss]
    · rw [setE_n e, key _ e]; exact hG.len
  · by_cases e : (1 : Nat) = j
    · subst e; rw [setE_s, up_ss]
    · rw [setE_n e, key _ e]; exact hG.han
  · rw [setE_n (by omega), key _ (by omega)]; exact hG.sc
  · rw [setE_n (by omega), key _ (by omega)]; exact hG.wc
  · rw [setE_n (by omega), key _ (by omega)]; exact hG.brc
  · rw [setE_n (by omega)] at hs
    rw [setE_o (by decide), key _ (by omega)]; exact hG.nm s hs
  · rw [setE_n (by omega)] at hw
    rw [setE_o (by decide), key _ (by omega)]; exact hG.who w hw
  · rw [setE_n (by omega)] at hw
    rw [setE_o (by decide), key _ (by omega)]; exact hG.txt w hw
  · rw [setE_n (by omega)] at hw
    rw [setE_o (by decide), key _ (by omega)]; exact hG.st w hw
  · rw [setE_n (by omega)] at hw
    rw [setE_o (by decide), key _ (by omega)]; exact hG.en w hw
  · rw [setE_n (by omega)] at hw
    rw [setE_o (by decide), key _ (by omega)]; exact hG.b1 w hw
  · rw [setE_n (by omega)] at hw
    rw [setE_o (by decide), key _ (by omega)]; exact hG.b2 w hw
theorem WD.p0 (hD : WD R) (hj : (j = 0 ∧ 1 ≤ v ∧ v ≤ 99999) ∨ (j = 1 ∧ v ≤ 999)) : WD (setE R 0 j v) := by
  refine ⟨?_, ?_, ?_, ?_, ?_, ?_, fun s hs => ?_, fun w hw => ?_, fun w hw => ?_, fun w hw => ?_, fun i hi => ?_, (by rw [setE_n (by omega)]; exact hD.b0)⟩
  · by_cases e : (0 : Nat) = j
    · subst e; rw [setE_s]; omega
    · rw [setE_n e]; exact hD.len0
  · by_cases e : (0 : Nat) = j
    · subst e; rw [setE_s]; omega
    · rw [setE_n e]; exact hD.len
  · by_cases e : (1 : Nat) = j
    · subst e; rw [setE_s]; omega
    · rw [setE_n e]; exact hD.han
  · rw [setE_n (by omega)]; exact hD.s4
  · rw [setE_n (by omega)]; exact hD.w40
  · rw [setE_n (by omega)]; exact hD.br
  · rw [setE_n (by omega)] at hs
    rw [setE_o (by decide)]; exact hD.nm s hs
  · rw [setE_n (by omega)] at hw
    rw [setE_o (by decide)]; exact hD.tx w hw
  · rw [setE_n (by omega)] at hw
    rw [setE_o (by decide), setE_o (by decide), setE_o (by decide), setE_n (show ¬ 2 = j by omega)]; exact hD.wd w hw
  · rw [setE_n (by omega)] at hw
    rw [setE_o (by decide), setE_o (by decide)]; exact hD.srt w hw
  · rw [setE_n (by omega)] at hi
    rw [setE_o (by decide), setE_o (by decide)]; exact hD.bb i hi
/-- a field of the text's own: length or handle -/
theorem l_field (hc : 14 ≤ c) {h1 : Hp} (hge : ∀ j, j ≤ 900 → h 1 5 = nI j → j ≤ q) (ha : f_X9_advance h = some h1) (a1 : TAd h h1) (w : TS h1 B L q) (m : MT g B L p b) (hq : rn wsB B L p = q) (e1 : h 1 2 = -nI 1) (e2 : h 1 3 = nI 0) (hC : CR h c R) (hD : WD R) (hG : GD g R) (hj : (j = 0 ∧ lo = 1 ∧ hi = 99999) ∨ (j = 1 ∧ lo = 0 ∧ hi = 999)) : RLn (bnd (f_X9_advance h) (fun u1 => bnd (f_X9_numberHere u1 (nI lo) (nI hi)) (fun u2 => if u2.1 = -1 then some (0, u2.2) else bnd (f_X9_advance u2.2) (fun u3 => stp (up u3 c j u2.1) (fun h4 => some (1, h4)))))) (bnd (f_X11_number g (nI lo) (nI hi)) (fun u => ck (inb (nI j) 193) (stp (up u.2 127 (ix (nI j)) u.1) (fun g14 => some g14)))) h g c B L := by
  rw [ha, bnd_some]
  have C1 : CR h1 c R := hC.fr (fun o ho => a1.1.1 _ (by omega))
  obtain ⟨ee1, ee2⟩ := a1.e e1 e2
  rcases j_num w m hq (lo := lo) (hi := hi) (by omega) (by omega) with ⟨v, h2, g2, p2, v1, v2, x1, x2, x3, x4, x5, x6, x7, x8⟩ | ⟨g2, kd, x1, x2, x3, x4⟩
  · left
    obtain ⟨d1, d2⟩ := x6.e ee1 ee2
    have C2 : CR h2 c R := C1.fr (fun o ho => x6.1.1 _ (by omega))
    refine ⟨up h2 c j (nI v), up g2 127 j (nI v), _, setE R 0 j v, ?_, ?_, ⟨x4.ad hc (fun k hk => up_o (by omega)), ⟨_, _, x5.ad (fun k hk => up_o hk), rfl⟩, by rw [up_o (by omega)]; exact d1, by rw [up_o (by omega)]; exact d2, C2.put (o := 0) (by omega), hD.p0 (by omega), (hG.fr (x7.1 127 (by decide))).p0 (by omega)⟩, (a1.1.fc.tr x6.1.fc).tr (FC.of hc (fun k hk => up_o (by omega))), x7.fm.tr (FM.of (fun k hk => up_o hk)), fun j a b => by have := hge j a b; have := (rn_s wsB B x5.i).1; omega⟩
    · rw [x1, bnd_some, if_neg (show ¬ nI v = (-1 : Int32) from ng1 (by omega)), x2, bnd_some, stp_eq]
      rfl
    · rw [x3, bnd_some, inb_t (by omega) (by omega), ck_true, ix_n (by omega), stp_eq]
  · right
    obtain ⟨y1, y2, y3⟩ := ce_fr h1 q kd
    refine ⟨ce h1 q kd, up g2 127 j (nI lo), ?_, ?_, ⟨⟨q, kd, x3.ad (fun k hk => up_o hk), y2, y3⟩, R 0 4, hD.w40, by rw [up_sn (by omega), x4.1 127 (by decide)]; exact hG.wc⟩, a1.1.fc.tr y1.fc, x4.fm.tr (FM.of (fun k hk => up_o hk))⟩
    · rw [x1, bnd_some, if_pos (show (-nI 1 : Int32) = -1 from rfl)]
      rfl
    · rw [x2, bnd_some, inb_t (by omega) (by omega), ck_true, ix_n (by omega), stp_eq]
/-- the line fails at its start -/
theorem l_no {X : Option (Int32 × Hp)} {Y : Option Hp} {q kd : Nat} {g1 : Hp} (w : TS h B L q) (m : MT g1 B L p q) (f : MFr g g1) (hD : WD R) (hG : GD g R) (hX : X = some (nI 0, ce h q kd)) (hY : ∀ g2, f_X11_must g1 (nI 0) (nI kd) = some g2 → MF g2 B L q kd → Y = some g2) : RLn X Y h g c B L := by
  obtain ⟨g2, e2, w2, f2⟩ := mu_no m kd
  obtain ⟨y1, y2, y3⟩ := ce_fr h q kd
  have f3 := f.tr f2
  exact Or.inr ⟨_, g2, hX, hY g2 e2 w2, PF.mk2 hG hD w2 f3 y2 y3, y1.fc, f3.fm⟩
theorem zb0 : zb (nI 0) = true := zb_n1 (by omega)
theorem m_spkT (hG : GD g R) (hD : WD R) (x : Int32) : Wp (f_X11_speakerNamed g x) (fun _ => True) := by
  have h4 := hD.s4
  unfold f_X11_speakerNamed
  refine wp_for (i := 0) (R 0 2) (fun i st => st = nI i) (by omega) (by omega) rfl ?_
  rintro i st r hi rfl k
  unfold F_X11_speakerNamed_2
  by_cases y : i < R 0 2
  · simp (disch := omega) only [li, nI_add, pk_mul, ix_n, lt_n, le_n, eq_n, sub_n, dec_n, inb_t, neg_n, neg_n', ck_true, stp_eq, bnd_some, wp_some, wp_stp, Nat.add_zero, Nat.lt_irrefl, Nat.reduceEqDiff, Nat.reduceAdd, Nat.reduceSub, Nat.reduceMul, Nat.reduceLT, Nat.reduceLeDiff, up_o, up_ss, up_sn, zb_n1, true_and, and_true, ↓reduceIte, hG.sc, y]
    refine wp_if (fun _ => ⟨_, rfl, trivial⟩) (fun _ => k _ y rfl)
  · simp (disch := omega) only [li, nI_add, pk_mul, ix_n, lt_n, le_n, eq_n, sub_n, dec_n, inb_t, neg_n, neg_n', ck_true, stp_eq, bnd_some, wp_some, wp_stp, Nat.add_zero, Nat.lt_irrefl, Nat.reduceEqDiff, Nat.reduceAdd, Nat.reduceSub, Nat.reduceMul, Nat.reduceLT, Nat.reduceLeDiff, up_o, up_ss, up_sn, zb_n1, true_and, and_true, ↓reduceIte, hG.sc, y]
/-- a speaker's line -/
theorem l_speaker (hc : 14 ≤ c) {h1 : Hp} {q0 : Nat} (hge : ∀ j, j ≤ 900 → h 1 5 = nI j → j ≤ q) (w0 : TS h B L q0) (ha : f_X9_advance h = some h1) (a1 : TAd h h1) (w : TS h1 B L q) (m : MT g B L p b) (hq : rn wsB B L p = q) (e1 : h 1 2 = -nI 1) (e2 : h 1 3 = nI 0) (hC : CR h c R) (hD : WD R) (hG : GD g R) : RLn (f_X8_readSpeaker h c) (f_X11_readSpeaker g (nI q0)) h g c B L := by
  have s4 := hD.s4
  have m0 := m.bg (q := q0) w0.i
  have f0 := MFr.up g (j := 18) (v := nI q0) (by omega)
  have G0 : GD (up g 125 18 (nI q0)) R := hG.fr (f0.1 127 (by decide))
  by_cases z : R 0 2 < 4
  · have C1 : CR h1 c R := hC.fr (fun o ho => a1.1.1 _ (by omega))
    obtain ⟨ee1, ee2⟩ := a1.e e1 e2
    have eX : f_X8_readSpeaker h c = bnd (f_X9_nameHere h1) (fun u2 => if u2.1 = -1 then some (0, u2.2) else bnd (f_X4_speakerNamed u2.2 c u2.1) (fun u3 => if u3 = -1 then bnd (f_X9_advance u2.2) (fun u4 => bnd (f_X4_addSpeaker u4 c u2.1) (fun u5 => some (1, u5))) else bnd (f_X9_fail u2.2 3) (fun u6 => ck (zb u6.1) (some (u6.1, u6.2))))) := by
      unfold f_X8_readSpeaker
      rw [hC.z, if_pos (show nI (R 0 2) < 4 from (nI_ltI (b := 4) (by omega) (by omega)).mpr z), ha, bnd_some]
    have eY : f_X11_readSpeaker g (nI q0) = bnd (f_X11_seesName (up g 125 18 (nI q0))) (fun u8 => bnd (f_X11_speakerNamed u8.2 u8.1) (fun u9 => if u9 = -1 then J_X11_readSpeaker_53 (nI q0) u8.2 1 else J_X11_readSpeaker_53 (nI q0) u8.2 0)) := by
      unfold f_X11_readSpeaker
      rw [stp_eq]
      show ck (inb (nI 2) 193) (if up g 125 18 (nI q0) 127 (ix (nI 2)) < 4 then J_X11_readSpeaker_21 (nI q0) (up g 125 18 (nI q0)) 1 else _) = _
      rw [inb_t (by omega) (by omega), ck_true, ix_n (by omega), G0.sc, if_pos (show nI (R 0 2) < 4 from (nI_ltI (b := 4) (by omega) (by omega)).mpr z)]
      unfold J_X11_readSpeaker_21
      rw [show f_X11_must (up g 125 18 (nI q0)) 1 4 = _ from mu_ok 4, bnd_some, hf0 m0, bnd_some, if_pos (show (nI 0 : Int32) = 0 from rfl)]
    rw [eX, eY]
    rcases j_name w m0 hq with ⟨a, h2, g1, g2, p2, x1, x2, x3, x4, x5, x6, x7, x8, x9, x10, x11, x12⟩ | ⟨g1, g2, x1, x2, x3, x4, x5, x6, x7⟩
    · have a30 := nm_lt x1
      have G1 := G0.fr (x10.1 127 (by decide))
      rw [x2, bnd_some, x4, bnd_some, if_neg (show ¬ nI a = (-1 : Int32) from ng1 (by omega)), c_spkN C1 hD x1, bnd_some, m_spkN G1 hD x1, bnd_some]
      by_cases y : sch (fun s => R 1 s = a) (R 0 2) < R 0 2
      · rw [oI, if_pos y, if_neg (show ¬ nI (sch (fun s => R 1 s = a) (R 0 2)) = (-1 : Int32) from ng1 (by omega)), if_neg (show ¬ nI (sch (fun s => R 1 s = a) (R 0 2)) = (-1 : Int32) from ng1 (by omega))]
        obtain ⟨g3, e3, w3, f3⟩ := mu_no x7 3
        obtain ⟨y1, y2, y3⟩ := ce_fr h1 q 3
        have ff := (f0.tr x10).tr f3
        refine Or.inr ⟨ce h1 q 3, g3, ?_, ?_, PF.mk2 hG hD w3 ff y2 y3, a1.1.fc.tr y1.fc, ff.fm⟩
        · rw [show f_X9_fail h1 3 = _ from c_fail w 3, bnd_some, zb0, ck_true]
        · unfold J_X11_readSpeaker_53
          rw [show f_X11_must g1 0 3 = _ from e3, bnd_some, hf1 w3, bnd_some, if_neg (show ¬ (nI 1 : Int32) = 0 by decide)]
      · rw [oI, if_neg y, if_pos (show (-nI 1 : Int32) = -1 from rfl), if_pos (show (-nI 1 : Int32) = -1 from rfl), x3, bnd_some]
        obtain ⟨d1, d2⟩ := x9.e ee1 ee2
        have C2 : CR h2 c R := C1.fr (fun o ho => x9.1.1 _ (by omega))
        obtain ⟨h3, e3, C3, f3⟩ := c_addSpeaker C2 z a
        have hq2 : rn wsB B L q = q := by rw [← hq]; exact rr m.i
        rcases j_name w x7 hq2 with ⟨a', _, _, g4, p4, t1, t2, _, _, t5, _, _, t8, _, _, t11, t12⟩ | ⟨_, _, t1, _⟩
        · have ea : a' = a := by
            rw [x2] at t2
            have := (Prod.mk.inj (Option.some.inj t2)).1
            exact ((nI_eq (by omega) (by have := nm_lt t1; omega)).mp this).symm
          subst ea
          have G4' := G1.fr (t11.1 127 (by decide))
          have ep : p4 = p2 := by rw [t12, x12]
          subst ep
          left
          refine ⟨h3, up (up g4 127 (5 + R 0 2) (nI (n27 a'))) 127 2 (nI (R 0 2 + 1)), _, spkR R a', ?_, ?_, ⟨x6.ad hc f3, ⟨_, _, t8.ad (fun k hk => by rw [up_o hk, up_o hk]), rfl⟩, by rw [f3 1 (by omega)]; exact d1, by rw [f3 1 (by omega)]; exact d2, C3, hD.spk x1 z, G4'.spk hD z⟩, (a1.1.fc.tr x9.1.fc).tr (FC.of hc f3), ((f0.tr x10).tr t11).fm.tr (FM.of (fun k hk => by rw [up_o hk, up_o hk])), fun j a b => by have := hge j a b; have := (rn_s wsB B t8.i).1; omega⟩
          · rw [e3, bnd_some]
            rfl
          · unfold J_X11_readSpeaker_53
            have e2' : up g4 127 (5 + R 0 2) (nI (n27 a')) 127 2 = nI (R 0 2) := by rw [up_sn (by omega)]; exact G4'.sc
            rw [show f_X11_must g1 1 3 = _ from mu_ok 3, bnd_some, hf0 x7, bnd_some, if_pos (show (nI 0 : Int32) = 0 from rfl)]
            show ck (inb (nI 2) 193) (bnd (f_X11_takesName g1) (fun u3 => ck (inb (nI 5 + g1 127 (ix (nI 2))) 193) (stp (up u3.2 127 (ix (nI 5 + g1 127 (ix (nI 2)))) u3.1) (fun g4 => ck (inb (nI 2) 193) (ck (inb (nI 2) 193) (stp (up g4 127 (ix (nI 2)) (g4 127 (ix (nI 2)) + nI 1)) (fun g5 => some g5))))))) = _
            rw [inb_t (show 2 < 193 by omega) (by omega), ck_true, ix_n (show 2 < 2147483648 by omega), G1.sc, nI_add, t5, bnd_some, inb_t (by omega) (by omega), ck_true, ix_n (by omega), stp_eq, ck_true, ck_true, e2', nI_add, stp_eq]
        · rw [x2] at t1
          have := (Prod.mk.inj (Option.some.inj t1)).1
          exact absurd this (ng1 (by omega))
    · right
      obtain ⟨y1, y2, y3⟩ := ce_fr h1 q 1
      have ff := f0.tr x6
      refine ⟨ce h1 q 1, g1, ?_, ?_, PF.mk2 hG hD x4 ff y2 y3, a1.1.fc.tr y1.fc, ff.fm⟩
      · rw [x1, bnd_some, if_pos (show (-nI 1 : Int32) = -1 from rfl)]
        rfl
      · obtain ⟨v, e3, -⟩ := m_spkT (G0.fr (x6.1 127 (by decide))) hD (nI 0)
        have go : ∀ s, s ≤ 1 → J_X11_readSpeaker_53 (nI q0) g1 (nI s) = some g1 := by
          intro s hs
          unfold J_X11_readSpeaker_53
          rw [mu1 x4 s hs, bnd_some, hf1 x4, bnd_some, if_neg (show ¬ (nI 1 : Int32) = 0 by decide)]
        rw [x2, bnd_some, e3, bnd_some]
        by_cases y : v = -1
        · rw [if_pos y]; exact go 1 (by omega)
        · rw [if_neg y]; exact go 0 (by omega)
  · have ez : R 0 2 = 4 := by omega
    refine l_no (kd := 4) w0 m0 f0 hD hG ?_ (fun g2 e3 w3 => ?_)
    · unfold f_X8_readSpeaker
      rw [hC.z, if_neg (show ¬ nI (R 0 2) < 4 from fun y => by have := (nI_ltI (b := 4) (by omega) (by omega)).mp y; omega), show f_X9_fail h 4 = _ from c_fail w0 4, bnd_some, zb0, ck_true]
    · unfold f_X11_readSpeaker
      rw [stp_eq]
      show ck (inb (nI 2) 193) (if up g 125 18 (nI q0) 127 (ix (nI 2)) < 4 then _ else J_X11_readSpeaker_21 (nI q0) (up g 125 18 (nI q0)) 0) = _
      rw [inb_t (by omega) (by omega), ck_true, ix_n (by omega), G0.sc, if_neg (show ¬ nI (R 0 2) < 4 from fun y => by have := (nI_ltI (b := 4) (by omega) (by omega)).mp y; omega)]
      unfold J_X11_readSpeaker_21
      rw [show f_X11_must (up g 125 18 (nI q0)) 0 4 = _ from e3, bnd_some, hf1 w3, bnd_some, if_neg (show ¬ (nI 1 : Int32) = 0 by decide)]
end
