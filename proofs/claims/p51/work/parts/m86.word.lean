/-! a word's line -/
section
variable {h g : Hp} {B : Nat → Int32} {L q p b o k c : Nat} {R : Nat → Nat → Nat}
theorem tfr_cr (hc : 14 ≤ c) {h' : Hp} (a : TAd h h') (hC : CR h c R) : CR h' c R := hC.fr (fun o ho => a.1.1 _ (by omega))
theorem l_word (hc : 14 ≤ c) {h1 : Hp} {q0 : Nat} (hge : ∀ j, j ≤ 900 → h 1 5 = nI j → j ≤ q) (w0 : TS h B L q0) (ha : f_X9_advance h = some h1) (a1 : TAd h h1) (w : TS h1 B L q) (m : MT g B L p b) (hq : rn wsB B L p = q) (e1 : h 1 2 = -nI 1) (e2 : h 1 3 = nI 0) (hC : CR h c R) (hD : WD R) (hG : GD g R) : RLn (f_X8_readWord h c) (f_X11_readWord g (nI q0)) h g c B L := by
  have w40 := hD.w40
  have s4 := hD.s4
  have m0 := m.bg (q := q0) w0.i
  have f0 := MFr.up g (j := 18) (v := nI q0) (by omega)
  have G0 : GD (up g 125 18 (nI q0)) R := hG.fr (f0.1 127 (by decide))
  -- the end where both sides have failed at token i
  have bad : ∀ {X : Option (Int32 × Hp)} {Y : Option Hp} {h' g' : Hp} {i kd : Nat}, TAd h h' → MF g' B L i kd → MFr g g' → X = some (nI 0, ce h' i kd) → Y = some g' → RLn X Y h g c B L := by
    intro X Y h' g' i kd b1 b2 b3 b4 b5
    obtain ⟨z1, z2, z3⟩ := ce_fr h' i kd
    exact Or.inr ⟨_, g', b4, b5, PF.mk2 hG hD b2 b3 z2 z3, b1.1.fc.tr z1.fc, b3.fm⟩
  by_cases z : R 0 4 < 40
  · have C1 := tfr_cr hc a1 hC
    obtain ⟨ee1, ee2⟩ := a1.e e1 e2
    unfold f_X8_readWord
    rw [hC.z, if_pos (show nI (R 0 4) < 40 from (nI_ltI (b := 40) (by omega) (by omega)).mpr z), ha, bnd_some]
    have eY : f_X11_readWord g (nI q0) = bnd (f_X11_seesName (up g 125 18 (nI q0))) (fun u16 => bnd (f_X11_speakerNamed u16.2 u16.1) (fun u17 => if u17 = -1 then J_X11_readWord_54 (nI q0) u16.2 u17 0 else J_X11_readWord_54 (nI q0) u16.2 u17 1)) := by
      unfold f_X11_readWord
      rw [stp_eq]
      show ck (inb (nI 3) 193) (if up g 125 18 (nI q0) 127 (ix (nI 3)) < 40 then J_X11_readWord_22 (nI q0) (up g 125 18 (nI q0)) 1 else _) = _
      rw [inb_t (by omega) (by omega), ck_true, ix_n (by omega), G0.wc, if_pos (show nI (R 0 4) < 40 from (nI_ltI (b := 40) (by omega) (by omega)).mpr z)]
      unfold J_X11_readWord_22
      rw [show f_X11_must (up g 125 18 (nI q0)) 1 4 = _ from mu_ok 4, bnd_some, hf0 m0, bnd_some, if_pos (show (nI 0 : Int32) = 0 from rfl)]
    rw [eY]
    rcases j_name w m0 hq with ⟨a, h2, g1, _, p2, x1, x2, x3, x4, -, x6, x7, -, x9, x10, -, x12⟩ | ⟨g1, g2, x1, x2, x3, x4, x5, x6, x7⟩
    · have a30 := nm_lt x1
      have G1 := G0.fr (x10.1 127 (by decide))
      have C2 := tfr_cr hc x9 C1
      obtain ⟨d1, d2⟩ := x9.e ee1 ee2
      rw [x2, bnd_some, x4, bnd_some, if_neg (show ¬ nI a = (-1 : Int32) from ng1 (by omega)), c_spkN C1 hD x1, bnd_some, m_spkN G1 hD x1, bnd_some]
      by_cases y : sch (fun s => R 1 s = a) (R 0 2) < R 0 2
      case neg =>
        rw [oI, if_neg y, if_pos (show (-nI 1 : Int32) = -1 from rfl), if_pos (show (-nI 1 : Int32) = -1 from rfl)]
        obtain ⟨g3, e3, w3, f3⟩ := mu_no x7 3
        refine bad a1 w3 ((f0.tr x10).tr f3) ?_ ?_
        · rw [show f_X9_fail h1 3 = _ from c_fail w 3, bnd_some, zb0, ck_true]
        · unfold J_X11_readWord_54
          rw [show f_X11_must g1 0 3 = _ from e3, bnd_some, hf1 w3, bnd_some, if_neg (show ¬ (nI 1 : Int32) = 0 by decide)]
      case pos =>
        rw [oI, if_pos y]
        generalize hsp : sch (fun s => R 1 s = a) (R 0 2) = sp at y
        rw [if_neg (show ¬ nI sp = (-1 : Int32) from ng1 (by omega)), if_neg (show ¬ nI sp = (-1 : Int32) from ng1 (by omega)), x3, bnd_some]
        have hq2 : rn wsB B L q = q := by rw [← hq]; exact rr m.i
        obtain ⟨g2, ⟨g2', l1, l2⟩, m2, f2⟩ := skn x7 hq2
        have eY2 : J_X11_readWord_54 (nI q0) g1 (nI sp) 1 = bnd (f_X11_takesName g2) (fun u11 => bnd (f_X11_number u11.2 (nI 0) (nI 99998)) (fun u12 => bnd (f_X11_speaks u12.2 (nI sp) u12.1 (u12.1 + nI 1)) (fun u13 => if u13 = 0 then J_X11_readWord_113 (nI q0) u12.2 (nI sp) u11.1 u12.1 (nI 1) else J_X11_readWord_113 (nI q0) u12.2 (nI sp) u11.1 u12.1 (nI 0)))) := by
          unfold J_X11_readWord_54
          rw [show f_X11_must g1 1 3 = _ from mu_ok 3, bnd_some, hf0 x7, bnd_some, if_pos (show (nI 0 : Int32) = 0 from rfl), l1, bnd_some, x7.p, nI_add, stp_eq]
          show bnd (f_X11_takesName (up g2' 125 17 (nI (q + lz B L q)))) _ = _
          rw [← l2]
          rfl
        rw [eY2]
        have F2 := (f0.tr x10).tr f2
        have G2 := hG.fr (F2.1 127 (by decide))
        rw [x12] at x6
        rcases j_name x6 m2 rfl with ⟨tx, h3, _, g3, p3, t1, t2, t3, -, t5, t6, -, t8, t9, -, t11, t12⟩ | ⟨_, g3, t1, -, t3, -, t5, -, t7⟩
        case inr =>
          have F3 := F2.tr t7
          refine bad (⟨a1.1.tr x9.1, x9.2.1.trans a1.2.1, x9.2.2.trans a1.2.2⟩) t5 F3 ?_ ?_
          · rw [t1, bnd_some, if_pos (show (-nI 1 : Int32) = -1 from rfl)]
            rfl
          · have G3 := hG.fr (F3.1 127 (by decide))
            rw [t3, bnd_some, nu1 t5, bnd_some]
            show bnd (f_X11_speaks g3 (nI sp) (nI 0) (nI 0 + nI 1)) _ = _
            rw [nI_add, m_speaksB G3 hD (by omega) (by omega) (by omega), bnd_some]
            by_cases v : spkB R sp 0 (0 + 1)
            · rw [bo_y v, if_neg (show ¬ (nI 1 : Int32) = 0 by decide)]
              exact wf113 t5 G3 hD (by omega) (by omega) (by omega) _ _
            · rw [bo_n v, if_pos (show (nI 0 : Int32) = 0 from rfl)]
              exact wf113 t5 G3 hD (by omega) (by omega) (by omega) _ _
        case inl =>
          have F3 := F2.tr t11
          have G3 := hG.fr (F3.1 127 (by decide))
          have C3 := tfr_cr hc t9 C2
          have t30 := nm_lt t1
          obtain ⟨d3, d4⟩ := t9.e d1 d2
          have A3 : TAd h h3 := ⟨(a1.1.tr x9.1).tr t9.1, (t9.2.1.trans x9.2.1).trans a1.2.1, (t9.2.2.trans x9.2.2).trans a1.2.2⟩
          rw [t2, bnd_some, if_neg (show ¬ nI tx = (-1 : Int32) from ng1 (by omega)), t3, bnd_some, t5, bnd_some]
          rcases j_num t6 t8 rfl (lo := 0) (hi := 99998) (by omega) (by omega) with ⟨st, h4, g4, p4, v11, v12, n1, n2, n3, n4, n5, n6, n7, n8⟩ | ⟨g4, kd, n1, n2, n3, n4⟩
          case inr =>
            have F4 := F3.tr n4
            have G4' := hG.fr (F4.1 127 (by decide))
            refine bad A3 n3 F4 ?_ ?_
            · rw [show f_X9_numberHere h3 0 99998 = _ from n1, bnd_some, if_pos (show (-nI 1 : Int32) = -1 from rfl)]
              rfl
            · rw [n2, bnd_some]
              show bnd (f_X11_speaks g4 (nI sp) (nI 0) (nI 0 + nI 1)) _ = _
              rw [nI_add, m_speaksB G4' hD (by omega) (by omega) (by omega), bnd_some]
              by_cases v : spkB R sp 0 (0 + 1)
              · rw [bo_y v, if_neg (show ¬ (nI 1 : Int32) = 0 by decide)]
                exact wf113 n3 G4' hD (by omega) (by omega) (by omega) _ _
              · rw [bo_n v, if_pos (show (nI 0 : Int32) = 0 from rfl)]
                exact wf113 n3 G4' hD (by omega) (by omega) (by omega) _ _
          case inl =>
            have F4 := F3.tr n7
            have G4' := hG.fr (F4.1 127 (by decide))
            have C4 := tfr_cr hc n6 C3
            obtain ⟨d5, d6⟩ := n6.e d3 d4
            rw [show f_X9_numberHere h3 0 99998 = _ from n1, bnd_some, if_neg (show ¬ nI st = (-1 : Int32) from ng1 (by omega)), show nI st + 1 = nI (st + 1) from nI_add st 1, c_speaksB C3 hD (sp := sp) (st := st) (en := st + 1) (by omega) (by omega) (by omega), bnd_some, n3, bnd_some]
            have eS : f_X11_speaks g4 (nI sp) (nI st) (nI st + nI 1) = some (nI (bo (spkB R sp st (st + 1)))) := by rw [nI_add]; exact m_speaksB G4' hD (by omega) (by omega) (by omega)
            show RLn _ (bnd (f_X11_speaks g4 (nI sp) (nI st) (nI st + nI 1)) _) h g c B L
            rw [eS, bnd_some]
            by_cases v : spkB R sp st (st + 1)
            · obtain ⟨g5, e5, w5, f5⟩ := mu_no n5 2
              have F5 := F4.tr f5
              have G5 := hG.fr (F5.1 127 (by decide))
              rw [bo_y v, if_neg (show ¬ (nI 1 : Int32) = 0 by decide), if_neg (show ¬ (nI 1 : Int32) = 0 by decide)]
              refine bad A3 w5 F5 ?_ ?_
              · rw [show f_X9_fail h3 2 = _ from c_fail t6 2, bnd_some, zb0, ck_true]
              · have := wf113 w5 G5 hD (s := 0) (sp := sp) (st := st) (by omega) (by omega) (by omega) (nI q0) (nI (n27 tx))
                unfold J_X11_readWord_113 at this ⊢
                rw [show f_X11_must g4 (nI 0) 2 = _ from e5, bnd_some]
                rw [mu1 w5 0 (by omega), bnd_some] at this
                exact this
            · rw [bo_n v, if_pos (show (nI 0 : Int32) = 0 from rfl), if_pos (show (nI 0 : Int32) = 0 from rfl), n2, bnd_some]
              unfold J_X11_readWord_113
              rw [mu_ok, bnd_some]
              show RLn _ (bnd (f_X11_number g4 (nI st + nI 1) (nI 99999)) _) h g c B L
              rw [nI_add]
              have A4 : TAd h h4 := ⟨A3.1.tr n6.1, n6.2.1.trans A3.2.1, n6.2.2.trans A3.2.2⟩
              rcases j_num n4 n5 rfl (lo := st + 1) (hi := 99999) (by omega) (by omega) with ⟨en, h5, g5, p5, v21, v22, r1, r2, r3, r4, r5, r6, r7, r8⟩ | ⟨g5, kd, r1, r2, r3, r4⟩
              · have F5 := F4.tr r7
                have G5 := hG.fr (F5.1 127 (by decide))
                have C5 := tfr_cr hc r6 C4
                obtain ⟨d7, d8⟩ := r6.e d5 d6
                rw [show f_X9_numberHere h4 (nI (st + 1)) 99999 = _ from r1, bnd_some, if_neg (show ¬ nI en = (-1 : Int32) from ng1 (by omega)), c_speaksB C4 hD (sp := sp) (st := st) (en := en) (by omega) (by omega) (by omega), bnd_some, r3, bnd_some]
                show RLn _ (bnd (f_X11_speaks g5 (nI sp) (nI st) (nI en)) _) h g c B L
                rw [m_speaksB G5 hD (sp := sp) (st := st) (en := en) (by omega) (by omega) (by omega), bnd_some]
                by_cases x : spkB R sp st en
                · obtain ⟨g6, e6, w6, f6⟩ := mu_no r5 2
                  rw [bo_y x, if_neg (show ¬ (nI 1 : Int32) = 0 by decide), if_neg (show ¬ (nI 1 : Int32) = 0 by decide)]
                  refine bad A4 w6 (F5.tr f6) ?_ ?_
                  · rw [show f_X9_fail h4 2 = _ from c_fail n4 2, bnd_some, zb0, ck_true]
                  · unfold J_X11_readWord_147
                    rw [show f_X11_must g5 0 2 = _ from e6, bnd_some, hf1 w6, bnd_some, if_neg (show ¬ (nI 1 : Int32) = 0 by decide)]
                · rw [bo_n x, if_pos (show (nI 0 : Int32) = 0 from rfl), if_pos (show (nI 0 : Int32) = 0 from rfl), r2, bnd_some]
                  obtain ⟨h6, e6, t', i1, i2, i3⟩ := c_addWord (tx := tx) (en := en) C5 hD z (st := st) (sp := sp) (by omega) (by omega)
                  obtain ⟨g6, e7, t'', j1, j2, j3⟩ := m_putsWord (tx := tx) (en := en) G5 hD z (st := st) (sp := sp) (by omega) (by omega)
                  have et := insAt_u i1 j1
                  subst et
                  have A5 : TAd h h5 := ⟨A4.1.tr r6.1, r6.2.1.trans A4.2.1, r6.2.2.trans A4.2.2⟩
                  left
                  refine ⟨h6, g6, _, _, ?_, ?_, ⟨r4.ad hc i3, ⟨_, _, r5.ad j3, rfl⟩, by rw [i3 1 (by omega)]; exact d7, by rw [i3 1 (by omega)]; exact d8, i2, hD.ins i1 z t1 y (by omega) v22, j2⟩, A5.1.fc.tr (FC.of hc i3), F5.fm.tr (FM.of j3), fun j a b => by have := hge j a b; have := (rn_s wsB B m2.i).1; have := (rn_s wsB B t8.i).1; have := (rn_s wsB B n5.i).1; have := (rn_s wsB B r5.i).1; omega⟩
                  · rw [e6, bnd_some]
                    rfl
                  · unfold J_X11_readWord_147
                    rw [show f_X11_must g5 1 2 = _ from mu_ok 2, bnd_some, hf0 r5, bnd_some, if_pos (show (nI 0 : Int32) = 0 from rfl), e7, bnd_some]
              · have F5 := F4.tr r4
                have G5 := hG.fr (F5.1 127 (by decide))
                refine bad A4 r3 F5 ?_ ?_
                · rw [show f_X9_numberHere h4 (nI (st + 1)) 99999 = _ from r1, bnd_some, if_pos (show (-nI 1 : Int32) = -1 from rfl)]
                  rfl
                · rw [r2, bnd_some]
                  show bnd (f_X11_speaks g5 (nI sp) (nI st) (nI (st + 1))) _ = _
                  rw [m_speaksB G5 hD (by omega) (by omega) (by omega), bnd_some]
                  by_cases x : spkB R sp st (st + 1)
                  · rw [bo_y x, if_neg (show ¬ (nI 1 : Int32) = 0 by decide)]
                    exact wf147 r3 (s := 0) (by omega) _ _ _ _ _
                  · rw [bo_n x, if_pos (show (nI 0 : Int32) = 0 from rfl)]
                    exact wf147 r3 (s := 1) (by omega) _ _ _ _ _
    · refine bad a1 x4 (f0.tr x6) ?_ ?_
      · rw [x1, bnd_some, if_pos (show (-nI 1 : Int32) = -1 from rfl)]
        rfl
      · obtain ⟨v, e3, -⟩ := m_spkT (G0.fr (x6.1 127 (by decide))) hD (nI 0)
        rw [x2, bnd_some, e3, bnd_some]
        by_cases y : v = -1
        · rw [if_pos y]; exact wf54 x4 (s := 0) (by omega) _ _
        · rw [if_neg y]; exact wf54 x4 (s := 1) (by omega) _ _
  · refine l_no (kd := 4) w0 m0 f0 hD hG ?_ (fun g2 e3 w3 => ?_)
    · unfold f_X8_readWord
      rw [hC.z, if_neg (show ¬ nI (R 0 4) < 40 from fun y => by have := (nI_ltI (b := 40) (by omega) (by omega)).mp y; omega), show f_X9_fail h 4 = _ from c_fail w0 4, bnd_some, zb0, ck_true]
    · unfold f_X11_readWord
      rw [stp_eq]
      show ck (inb (nI 3) 193) (if up g 125 18 (nI q0) 127 (ix (nI 3)) < 40 then _ else J_X11_readWord_22 (nI q0) (up g 125 18 (nI q0)) 0) = _
      rw [inb_t (by omega) (by omega), ck_true, ix_n (by omega), G0.wc, if_neg (show ¬ nI (R 0 4) < 40 from fun y => by have := (nI_ltI (b := 40) (by omega) (by omega)).mp y; omega)]
      unfold J_X11_readWord_22
      rw [show f_X11_must (up g 125 18 (nI q0)) 0 4 = _ from e3, bnd_some, hf1 w3, bnd_some, if_neg (show ¬ (nI 1 : Int32) = 0 by decide)]
end
