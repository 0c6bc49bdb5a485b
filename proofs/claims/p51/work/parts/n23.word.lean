/-! the line of a word -/
section
variable {ts bs cs : List Nat} {q c z n : Nat} {h : Hp} {R : Nat → Nat → Nat}
theorem dgs_c {n : Nat} (hn : n < 1000) : ∃ d ds, dgs n = d :: ds ∧ 48 ≤ d ∧ d ≤ 57 := by
  obtain ⟨hd, h0⟩ := dgs_dig hn
  cases e : dgs n with
  | nil => rw [e] at h0; exact absurd h0 (by decide)
  | cons d ds =>
    have := (hd 0 h0).1
    rw [e] at this
    exact ⟨d, ds, rfl, this⟩
theorem low2 {a b : Nat} (ha : 97 ≤ a ∧ a ≤ 122) (hb : 97 ≤ b ∧ b ≤ 122) : lowL [a, b] := lowL_of (by
  show (decide (97 ≤ a) && decide (a ≤ 122) && (decide (97 ≤ b) && decide (b ≤ 122) && true)) = true
  rw [decide_eq_true ha.1, decide_eq_true ha.2, decide_eq_true hb.1, decide_eq_true hb.2]
  rfl)
/-- word s? t? st en; -/
theorem rl_wrd (hc : 14 ≤ c) (s : RS ts c h q R) (hD : WD R) (h40 : R 0 4 < 40) {a t sp st en : Nat} (hl : 97 ≤ a ∧ a ≤ 122) (ht : 97 ≤ t ∧ t ≤ 122) (hsp : sp < R 0 2) (hnm : R 1 sp = 608 + (a - 96)) (hno : ∀ i, i < sp → ¬ R 1 i = 608 + (a - 96)) (hse : st < en) (hen : en < 1000) (hfree : ∀ w, w < R 0 4 → R 3 w = sp → R 5 w ≤ st) (ha : At ts q (kW ++ 32 :: 115 :: a :: 32 :: 116 :: t :: 32 :: (dgs st ++ 32 :: (dgs en ++ [59])))) : ∃ h' i, f_X8_readLine h c = some (nI 1, h') ∧ insAt R st sp i ∧ RS ts c h' (q + 11 + (dgs st).length + 1 + (dgs en).length) (insR R i (640 + (t - 96)) sp st en) ∧ FC c h h' := by
  have k := rl_key s ha (lowL_of rfl)
  have h4 := hD.s4
  have gs := dgs_dig (show st < 1000 by omega)
  have ge := dgs_dig hen
  have a1 := ha.r
  have a2 : At ts (q + 4 + 1) ([115, a] ++ 32 :: 116 :: t :: 32 :: (dgs st ++ 32 :: (dgs en ++ [59]))) := a1.t
  have a3 := a2.r
  have a4 : At ts (q + 4 + 1 + 2 + 1) ([116, t] ++ 32 :: (dgs st ++ 32 :: (dgs en ++ [59]))) := a3.t
  have a5 := a4.r
  have a6 : At ts (q + 4 + 1 + 2 + 1 + 2 + 1) (dgs st ++ 32 :: (dgs en ++ [59])) := a5.t
  have a7 := a6.r
  have a8 : At ts (q + 4 + 1 + 2 + 1 + 2 + 1 + (dgs st).length + 1) (dgs en ++ [59]) := a7.t
  obtain ⟨d, ds, ed, hd⟩ := dgs_c (show st < 1000 by omega)
  obtain ⟨d', ds', ed', hd'⟩ := dgs_c hen
  have b5 : At ts (q + 4 + 1 + 2 + 1 + 2) (32 :: d :: (ds ++ 32 :: (dgs en ++ [59]))) := by have := a5; rw [ed] at this; exact this
  have b7 : At ts (q + 4 + 1 + 2 + 1 + 2 + 1 + (dgs st).length) (32 :: d' :: (ds' ++ [59])) := by have := a7; rw [ed'] at this; exact this
  obtain ⟨u1, e1, s1, f1⟩ := s.adv hc (adv_sp s.1 (tz_l ha (lowL_of rfl) (by decide) no32 (by omega)) a1 (by omega) (by omega))
  have n1 := name_2 s1.1 a2 (by unfold lowC; omega) hl no32 (by omega)
  obtain ⟨u2, e2, s2, f2⟩ := s1.adv hc (adv_sp s1.1 (tz_l a2 (low2 (by omega) hl) (Nat.succ_pos _) no32 (by omega)) a3 (by omega) (by omega))
  have n2 := name_2 s2.1 a4 (by unfold lowC; omega) ht no32 (by omega)
  obtain ⟨u3, e3, s3, f3⟩ := s2.adv hc (adv_sp s2.1 (tz_l a4 (low2 (by omega) ht) (Nat.succ_pos _) no32 (by omega)) b5 (by omega) (by omega))
  have n3 := num_at (lo := 0) (hi := 99998) s3.1 (by omega) a6 nd32 (by omega) (Nat.zero_le _) (by omega) (by omega)
  obtain ⟨u4, e4, s4, f4⟩ := s3.adv hc (adv_sp s3.1 (tz_d a6 gs.1 gs.2 nd32 (by omega)) b7 (by omega) (by omega))
  have n4 := num_at (lo := st + 1) (hi := 99999) s4.1 hen a8 nd59 (by omega) (by omega) (by omega) (by omega)
  obtain ⟨u5, e5, s5, f5⟩ := s4.adv hc (adv_sg s4.1 (tz_d a8 ge.1 ge.2 nd59 (by omega)) a8.r)
  have nm1 : isName (608 + (a - 96)) := isNm2 _ (by omega) (by omega) (by omega) (by omega) (by omega)
  have es : f_X4_speakerNamed u1 c (nI (608 + (a - 96))) = some (nI sp) := by
    rw [c_spkN s1.2.1 hD nm1, sch_u (i := sp) (Nat.le_of_lt hsp) (fun j hj => hno j hj) (fun _ => hnm)]
    unfold oI
    rw [if_pos hsp]
  have nob : ∀ e, ¬ spkB R sp st e := fun e y => by
    obtain ⟨w, w1, w2, -, w4⟩ := y
    have := hfree w w1 w2
    omega
  have eb1 : f_X4_speaksBetween u3 c (nI sp) (nI st) (nI (st + 1)) = some (nI 0) := by rw [c_speaksB s3.2.1 hD (by omega) (by omega) (by omega), bo_n (nob _)]
  have eb2 : f_X4_speaksBetween u4 c (nI sp) (nI st) (nI en) = some (nI 0) := by rw [c_speaksB s4.2.1 hD (by omega) (by omega) (by omega), bo_n (nob _)]
  obtain ⟨u6, e6, i, hi, c6, r6⟩ := c_addWord (tx := 640 + (t - 96)) (en := en) s5.2.1 hD h40 (show st < 1000000 by omega) (show sp < 1000000 by omega)
  obtain ⟨s6, f6⟩ := s5.put hc c6 r6
  refine ⟨_, i, ?_, hi, ?_, ((((f1.tr f2).tr f3).tr f4).tr f5).tr f6⟩
  · unfold f_X8_readLine
    obtain ⟨w2, w3, w4⟩ := kwW
    rw [k 2 lk.1, k 3 lk.2.1, k 4 lk.2.2.1, w2, w3, w4, if_neg (show ¬ (false = true) by decide), if_pos rfl, bnd_some, if_pos (show (nI 0 : Int32) = 0 from rfl), bnd_some, if_pos (show (nI 0 : Int32) = 0 from rfl), bnd_some, if_neg (show ¬ (nI 1 : Int32) = 0 by decide)]
    unfold f_X8_readWord
    have e40 : h c 4 = nI (R 0 4) := s.2.1.z 4
    rw [e40, if_pos (show nI (R 0 4) < 40 from lty (b := 40) h40 (by omega)), e1, bnd_some, n1, bnd_some]
    show bnd (if nI (608 + (a - 96)) = (-1 : Int32) then _ else _) _ = _
    rw [if_neg (show ¬ nI (608 + (a - 96)) = (-1 : Int32) from ng1 (by omega)), es, bnd_some, if_neg (show ¬ nI sp = (-1 : Int32) from ng1 (by omega)), e2, bnd_some, n2, bnd_some]
    show bnd (if nI (640 + (t - 96)) = (-1 : Int32) then _ else _) _ = _
    rw [if_neg (show ¬ nI (640 + (t - 96)) = (-1 : Int32) from ng1 (by omega)), e3, bnd_some, show f_X9_numberHere u3 0 99998 = _ from n3, bnd_some, if_neg (show ¬ nI st = (-1 : Int32) from ng1 (by omega)), show nI st + (1 : Int32) = nI (st + 1) from nI_add st 1, eb1, bnd_some, if_pos (show (nI 0 : Int32) = 0 from rfl), e4, bnd_some, show f_X9_numberHere u4 (nI (st + 1)) 99999 = _ from n4, bnd_some, if_neg (show ¬ nI en = (-1 : Int32) from ng1 (by omega)), eb2, bnd_some, if_pos (show (nI 0 : Int32) = 0 from rfl), e5, bnd_some]
    show bnd (bnd (f_X4_addWord u5 c (nI (640 + (t - 96))) (nI sp) (nI st) (nI en)) _) _ = _
    rw [e6, bnd_some, bnd_some]
    exact ck_of zb1
  · rw [show q + 11 + (dgs st).length + 1 + (dgs en).length = q + 4 + 1 + 2 + 1 + 2 + 1 + (dgs st).length + 1 + (dgs en).length by omega]
    exact s6
end
