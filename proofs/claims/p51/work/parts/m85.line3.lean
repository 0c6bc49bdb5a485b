/-! breath and word lines -/
section
variable {h g : Hp} {B : Nat → Int32} {L q p b o k c : Nat} {R : Nat → Nat → Nat}
theorem l_breath (hc : 14 ≤ c) {h1 : Hp} {q0 : Nat} (hge : ∀ j, j ≤ 900 → h 1 5 = nI j → j ≤ q) (w0 : TS h B L q0) (ha : f_X9_advance h = some h1) (a1 : TAd h h1) (w : TS h1 B L q) (m : MT g B L p b) (hq : rn wsB B L p = q) (e1 : h 1 2 = -nI 1) (e2 : h 1 3 = nI 0) (hC : CR h c R) (hD : WD R) (hG : GD g R) : RLn (f_X8_readBreath h c) (f_X11_readBreath g (nI q0)) h g c B L := by
  have b12 := hD.br
  have m0 := m.bg (q := q0) w0.i
  have f0 := MFr.up g (j := 18) (v := nI q0) (by omega)
  have G0 : GD (up g 125 18 (nI q0)) R := hG.fr (f0.1 127 (by decide))
  have eY : ∀ s g1 g2 g3 v1 v2, (if nI (R 0 10) < 12 then nI 1 else nI 0) = s → f_X11_must (up g 125 18 (nI q0)) s 4 = some g1 → f_X11_number g1 (nI 0) (nI 99998) = some (v1, g2) → f_X11_number g2 (v1 + nI 1) (nI 99999) = some (v2, g3) → f_X11_readBreath g (nI q0) = bnd (f_X11_hasFailed g3) (fun u4 => if u4 = 0 then ck (inb (nI 4) 193) (ck (inb (nI 169 + nI 2 * g3 127 (ix (nI 4))) 193) (stp (up g3 127 (ix (nI 169 + nI 2 * g3 127 (ix (nI 4)))) v1) (fun g5 => ck (inb (nI 4) 193) (ck (inb (nI 169 + nI 2 * g5 127 (ix (nI 4)) + nI 1) 193) (stp (up g5 127 (ix (nI 169 + nI 2 * g5 127 (ix (nI 4)) + nI 1)) v2) (fun g6 => ck (inb (nI 4) 193) (ck (inb (nI 4) 193) (stp (up g6 127 (ix (nI 4)) (g6 127 (ix (nI 4)) + nI 1)) (fun g7 => some g7))))))))) else some g3) := by
    intro s g1 g2 g3 v1 v2 hs h1 h2 h3
    have t : f_X11_readBreath g (nI q0) = J_X11_readBreath_22 (nI q0) (up g 125 18 (nI q0)) s := by
      unfold f_X11_readBreath
      rw [stp_eq]
      show ck (inb (nI 4) 193) (if up g 125 18 (nI q0) 127 (ix (nI 4)) < 12 then J_X11_readBreath_22 (nI q0) (up g 125 18 (nI q0)) (nI 1) else J_X11_readBreath_22 (nI q0) (up g 125 18 (nI q0)) (nI 0)) = _
      rw [inb_t (by omega) (by omega), ck_true, ix_n (show 4 < 2147483648 by omega), G0.brc, ← hs]
      split
      · rfl
      · rfl
    rw [t]
    unfold J_X11_readBreath_22
    rw [h1, bnd_some, show f_X11_number g1 0 99998 = _ from h2, bnd_some]
    show bnd (f_X11_number g2 (v1 + nI 1) (nI 99999)) _ = _
    rw [h3, bnd_some]
    rfl
  by_cases z : R 0 10 < 12
  · have hs : (if nI (R 0 10) < 12 then nI 1 else nI 0) = nI 1 := if_pos (show nI (R 0 10) < 12 from (nI_ltI (b := 12) (by omega) (by omega)).mpr z)
    have C1 : CR h1 c R := hC.fr (fun o ho => a1.1.1 _ (by omega))
    obtain ⟨ee1, ee2⟩ := a1.e e1 e2
    have eX : f_X8_readBreath h c = bnd (f_X9_numberHere h1 (nI 0) (nI 99998)) (fun u2 => if u2.1 = -1 then some (0, u2.2) else bnd (f_X9_advance u2.2) (fun u3 => bnd (f_X9_numberHere u3 (u2.1 + nI 1) (nI 99999)) (fun u4 => if u4.1 = -1 then some (0, u4.2) else bnd (f_X9_advance u4.2) (fun u5 => bnd (f_X4_addBreath u5 c u2.1 u4.1) (fun u6 => some (1, u6)))))) := by
      unfold f_X8_readBreath
      rw [hC.z, if_pos (show nI (R 0 10) < 12 from (nI_ltI (b := 12) (by omega) (by omega)).mpr z), ha, bnd_some]
      rfl
    rw [eX]
    rcases j_num w m0 hq (lo := 0) (hi := 99998) (by omega) (by omega) with ⟨v1, h2, g2, p2, v11, v12, x1, x2, x3, x4, x5, x6, x7, x8⟩ | ⟨g2, kd, x1, x2, x3, x4⟩
    · rw [x1, bnd_some, if_neg (show ¬ nI v1 = (-1 : Int32) from ng1 (by omega)), x2, bnd_some, nI_add]
      obtain ⟨d1, d2⟩ := x6.e ee1 ee2
      have C2 : CR h2 c R := C1.fr (fun o ho => x6.1.1 _ (by omega))
      rcases j_num x4 x5 rfl (lo := v1 + 1) (hi := 99999) (by omega) (by omega) with ⟨v2, h3, g3, p3, v21, v22, y1, y2, y3, y4, y5, y6, y7, y8⟩ | ⟨g3, kd, y1, y2, y3, y4⟩
      · obtain ⟨d3, d4⟩ := y6.e d1 d2
        have C3 : CR h3 c R := C2.fr (fun o ho => y6.1.1 _ (by omega))
        obtain ⟨h4, e4, C4, f4⟩ := c_addBreath C3 z v1 v2
        have G3 : GD g3 R := (G0.fr (x7.1 127 (by decide))).fr (y7.1 127 (by decide))
        left
        refine ⟨h4, up (up (up g3 127 (169 + 2 * R 0 10) (nI v1)) 127 (169 + 2 * R 0 10 + 1) (nI v2)) 127 4 (nI (R 0 10 + 1)), _, breR R v1 v2, ?_, ?_, ⟨y4.ad hc f4, ⟨_, _, y5.ad (fun k hk => by rw [up_o hk, up_o hk, up_o hk]), rfl⟩, by rw [f4 1 (by omega)]; exact d3, by rw [f4 1 (by omega)]; exact d4, C4, hD.bre (by omega) v22 z, G3.bre hD z⟩, ((a1.1.fc.tr x6.1.fc).tr y6.1.fc).tr (FC.of hc f4), ((f0.tr x7).tr y7).fm.tr (FM.of (fun k hk => by rw [up_o hk, up_o hk, up_o hk])), fun j a b => by have := hge j a b; have := (rn_s wsB B x5.i).1; have := (rn_s wsB B y5.i).1; omega⟩
        · rw [y1, bnd_some, if_neg (show ¬ nI v2 = (-1 : Int32) from ng1 (by omega)), y2, bnd_some, e4, bnd_some]
          rfl
        · have k1 : up g3 127 (169 + 2 * R 0 10) (nI v1) 127 4 = nI (R 0 10) := by rw [up_sn (by omega)]; exact G3.brc
          have k2 : up (up g3 127 (169 + 2 * R 0 10) (nI v1)) 127 (169 + 2 * R 0 10 + 1) (nI v2) 127 4 = nI (R 0 10) := by rw [up_sn (by omega)]; exact k1
          rw [eY (nI 1) _ g2 g3 (nI v1) (nI v2) hs (mu_ok 4) x3 (by rw [nI_add]; exact y3), hf0 y5, bnd_some, if_pos (show (nI 0 : Int32) = 0 from rfl), ix_n (show 4 < 2147483648 by omega), inb_t (show 4 < 193 by omega) (by omega), ck_true, G3.brc, pk_mul, nI_add, inb_t (by omega) (by omega), ck_true, ix_n (by omega), stp_eq, ck_true, k1, pk_mul, nI_add, nI_add, inb_t (by omega) (by omega), ck_true, ix_n (by omega), stp_eq, ck_true, ck_true, k2, nI_add, stp_eq]
      · right
        obtain ⟨z1, z2, z3⟩ := ce_fr h2 (rn wsB B L p2) kd
        have ff := (f0.tr x7).tr y4
        refine ⟨_, g3, ?_, ?_, PF.mk2 hG hD y3 ff z2 z3, (a1.1.fc.tr x6.1.fc).tr z1.fc, ff.fm⟩
        · rw [y1, bnd_some, if_pos (show (-nI 1 : Int32) = -1 from rfl)]
          rfl
        · rw [eY (nI 1) _ g2 g3 (nI v1) _ hs (mu_ok 4) x3 (by rw [nI_add]; exact y2), hf1 y3, bnd_some, if_neg (show ¬ (nI 1 : Int32) = 0 by decide)]
    · right
      obtain ⟨z1, z2, z3⟩ := ce_fr h1 q kd
      have ff := f0.tr x4
      refine ⟨_, g2, ?_, ?_, PF.mk2 hG hD x3 ff z2 z3, a1.1.fc.tr z1.fc, ff.fm⟩
      · rw [x1, bnd_some, if_pos (show (-nI 1 : Int32) = -1 from rfl)]
        rfl
      · rw [eY (nI 1) _ g2 g2 (nI 0) _ hs (mu_ok 4) x2 (nu1 x3 _ _), hf1 x3, bnd_some, if_neg (show ¬ (nI 1 : Int32) = 0 by decide)]
  · have hs : (if nI (R 0 10) < 12 then nI 1 else nI 0) = nI 0 := if_neg (show ¬ nI (R 0 10) < 12 from fun y => by have := (nI_ltI (b := 12) (by omega) (by omega)).mp y; omega)
    refine l_no (kd := 4) w0 m0 f0 hD hG ?_ (fun g2 e3 w3 => ?_)
    · unfold f_X8_readBreath
      rw [hC.z, if_neg (show ¬ nI (R 0 10) < 12 from fun y => by have := (nI_ltI (b := 12) (by omega) (by omega)).mp y; omega), show f_X9_fail h 4 = _ from c_fail w0 4, bnd_some, zb0, ck_true]
    · rw [eY (nI 0) g2 g2 g2 (nI 0) _ hs e3 (nu1 w3 _ _) (nu1 w3 _ _), hf1 w3, bnd_some, if_neg (show ¬ (nI 1 : Int32) = 0 by decide)]
theorem wf147 (w : MF g B L o k) {s : Nat} (hs : s ≤ 1) (p1 x2 x3 x4 x5 : Int32) : J_X11_readWord_147 p1 g x2 x3 x4 x5 (nI s) = some g := by
  unfold J_X11_readWord_147
  rw [mu1 w s hs, bnd_some, hf1 w, bnd_some, if_neg (show ¬ (nI 1 : Int32) = 0 by decide)]
theorem wf113 (w : MF g B L o k) (hG : GD g R) (hD : WD R) {s sp st : Nat} (hs : s ≤ 1) (h1 : sp < 1000000) (h2 : st < 900000) (p1 x3 : Int32) : J_X11_readWord_113 p1 g (nI sp) x3 (nI st) (nI s) = some g := by
  unfold J_X11_readWord_113
  rw [mu1 w s hs, bnd_some, nu1 w, bnd_some]
  show bnd (f_X11_speaks g (nI sp) (nI st) (nI st + nI 1)) _ = _
  rw [nI_add, m_speaksB hG hD h1 (by omega) (by omega), bnd_some]
  by_cases y : spkB R sp st (st + 1)
  · rw [bo_y y, if_neg (show ¬ (nI 1 : Int32) = 0 by decide)]
    exact wf147 w (s := 0) (by omega) _ _ _ _ _
  · rw [bo_n y, if_pos (show (nI 0 : Int32) = 0 from rfl)]
    exact wf147 w (s := 1) (by omega) _ _ _ _ _
theorem wf54 (w : MF g B L o k) {s : Nat} (hs : s ≤ 1) (p1 x2 : Int32) : J_X11_readWord_54 p1 g x2 (nI s) = some g := by
  unfold J_X11_readWord_54
  rw [mu1 w s hs, bnd_some, hf1 w, bnd_some, if_neg (show ¬ (nI 1 : Int32) = 0 by decide)]
end
