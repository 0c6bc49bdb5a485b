/-! the lines of the law's own texts, as the class reads them -/
def RS (ts : List Nat) (c : Nat) (h : Hp) (q : Nat) (R : Nat → Nat → Nat) : Prop := TS h (nB ts) ts.length q ∧ CR h c R ∧ h 1 2 = -nI 1 ∧ h 1 3 = nI 0
def kL : List Nat := [108, 101, 110, 103, 116, 104]
def kS : List Nat := [115, 112, 101, 97, 107, 101, 114]
def kW : List Nat := [119, 111, 114, 100]
def kB : List Nat := [98, 114, 101, 97, 116, 104]
def kH : List Nat := [104, 97, 110, 100, 108, 101]
theorem lowL_of {bs : List Nat} (h : (bs.all fun b => decide (97 ≤ b) && decide (b ≤ 122)) = true) : lowL bs := fun j hj => by
  have := List.all_eq_true.mp h bs[j] (List.getElem_mem hj)
  rw [Bool.and_eq_true, decide_eq_true_eq, decide_eq_true_eq] at this
  rw [List.getD_eq_getElem?_getD, List.getElem?_eq_getElem hj]
  exact ⟨this, by show bs[j] < 1000; omega⟩
theorem lk : (0 < tl 2 ∧ tl 2 ≤ 9) ∧ (0 < tl 3 ∧ tl 3 ≤ 9) ∧ (0 < tl 4 ∧ tl 4 ≤ 9) ∧ (0 < tl 5 ∧ tl 5 ≤ 9) ∧ (0 < tl 6 ∧ tl 6 ≤ 9) := by decide +kernel
theorem kwL : kwm kL 2 = true := by decide +kernel
theorem kwS : kwm kS 2 = false ∧ kwm kS 3 = true := by decide +kernel
theorem kwW : kwm kW 2 = false ∧ kwm kW 3 = false ∧ kwm kW 4 = true := by decide +kernel
theorem kwB : kwm kB 2 = false ∧ kwm kB 3 = false ∧ kwm kB 4 = false ∧ kwm kB 5 = true := by decide +kernel
theorem kwH : kwm kH 2 = false ∧ kwm kH 3 = false ∧ kwm kH 4 = false ∧ kwm kH 5 = false ∧ kwm kH 6 = true := by decide +kernel
theorem no32 : ¬ lowC 32 := by unfold lowC; omega
theorem no59 : ¬ lowC 59 := by unfold lowC; omega
theorem nd32 : ¬ digC 32 := by unfold digC; omega
theorem nd59 : ¬ digC 59 := by unfold digC; omega
theorem isNm2 : ∀ x, x < 1024 → 1 ≤ x % 32 → x % 32 ≤ 26 → 1 ≤ x / 32 → x / 32 ≤ 26 → isName x := by
  intro x hx a b c d
  refine ⟨by omega, ?_⟩
  rw [isNm_s]
  refine Or.inr ⟨a, b, ?_⟩
  rw [isNm_s]
  refine Or.inr ⟨by omega, by omega, ?_⟩
  rw [show x / 32 / 32 = 0 by omega]
  exact isNm_0 4
theorem zb1 : zb (nI 1) = true := zb_n1 (by omega)
section
variable {ts bs cs : List Nat} {q c z n : Nat} {h : Hp} {R : Nat → Nat → Nat}
theorem RS.adv (hc : 14 ≤ c) (s : RS ts c h q R) {q' : Nat} (a : ∃ u, f_X9_advance h = some u ∧ TS u (nB ts) ts.length q' ∧ TAd h u) : ∃ u, f_X9_advance h = some u ∧ RS ts c u q' R ∧ FC c h u := by
  obtain ⟨u, e, w, t⟩ := a
  obtain ⟨e1, e2⟩ := t.e s.2.2.1 s.2.2.2
  exact ⟨u, e, ⟨w, tfr_cr hc t s.2.1, e1, e2⟩, t.1.fc⟩
theorem RS.put (hc : 14 ≤ c) (s : RS ts c h q R) {u : Hp} {R' : Nat → Nat → Nat} (hC : CR u c R') (e : ∀ k, ¬ (c ≤ k ∧ k ≤ c + 13) → u k = h k) : RS ts c u q R' ∧ FC c h u := by
  have e1 : u 1 = h 1 := e 1 (by omega)
  exact ⟨⟨s.1.ad hc e, hC, by rw [e1]; exact s.2.2.1, by rw [e1]; exact s.2.2.2⟩, FC.of hc e⟩
theorem rl_key {w : List Nat} (s : RS ts c h q R) (ha : At ts q (w ++ 32 :: cs)) (hl : lowL w) : (∀ t, (0 < tl t ∧ tl t ≤ 9) → f_X9_isKeyword h t = some (if kwm w t = true then nI 1 else nI 0)) := fun t ht => key_at s.1 ha hl no32 (by omega) ht
/-- length n; -/
theorem rl_len (hc : 14 ≤ c) (s : RS ts c h q R) (hn : n < 1000) (h1 : 1 ≤ n) (ha : At ts q (kL ++ 32 :: (dgs n ++ [59]))) : ∃ h', f_X8_readLine h c = some (nI 1, h') ∧ RS ts c h' (q + 7 + (dgs n).length) (setE R 0 0 n) ∧ FC c h h' := by
  have k := rl_key s ha (lowL_of rfl)
  obtain ⟨hd, h0⟩ := dgs_dig hn
  have a1 := ha.r
  have a2 : At ts (q + 6 + 1) (dgs n ++ [59]) := a1.t
  obtain ⟨d, ds, ed⟩ : ∃ d ds, dgs n = d :: ds := by cases e : dgs n with
    | nil => rw [e] at h0; exact absurd h0 (by decide)
    | cons d ds => exact ⟨d, ds, rfl⟩
  have hd0 := hd 0 h0
  have hdd : digC d := by have := hd0.1; rw [ed] at this; exact this
  unfold digC at hdd
  have a3 : At ts (q + 6) (32 :: d :: (ds ++ [59])) := by have := a1; rw [ed] at this; exact this
  obtain ⟨u1, e1, s1, f1⟩ := s.adv hc (adv_sp s.1 (tz_l ha (lowL_of rfl) (by decide) no32 (by omega)) a3 (by omega) (by omega))
  have n1 := num_at (lo := 1) (hi := 99999) s1.1 hn a2 nd59 (by omega) h1 (by omega) (by omega)
  obtain ⟨u2, e2, s2, f2⟩ := s1.adv hc (adv_sg s1.1 (tz_d a2 hd h0 nd59 (by omega)) a2.r)
  obtain ⟨s3, f3⟩ := s2.put hc (u := up u2 c 0 (nI n)) (R' := setE R 0 0 n) (s2.2.1.put (o := 0) (by omega)) (fun k hk => up_o (by omega))
  refine ⟨_, ?_, s3, (f1.tr f2).tr f3⟩
  unfold f_X8_readLine
  rw [k 2 lk.1, kwL, if_pos rfl, bnd_some, if_neg (show ¬ (nI 1 : Int32) = 0 by decide)]
  unfold f_X8_readLength
  rw [e1, bnd_some, show f_X9_numberHere u1 1 99999 = _ from n1, bnd_some, if_neg (show ¬ nI n = (-1 : Int32) from ng1 (by omega)), e2, bnd_some, stp_eq, bnd_some]
  exact ck_of zb1
/-- handle n; -/
theorem rl_han (hc : 14 ≤ c) (s : RS ts c h q R) (hn : n < 1000) (ha : At ts q (kH ++ 32 :: (dgs n ++ [59]))) : ∃ h', f_X8_readLine h c = some (nI 1, h') ∧ RS ts c h' (q + 7 + (dgs n).length) (setE R 0 1 n) ∧ FC c h h' := by
  have k := rl_key s ha (lowL_of rfl)
  obtain ⟨hd, h0⟩ := dgs_dig hn
  have a1 := ha.r
  have a2 : At ts (q + 6 + 1) (dgs n ++ [59]) := a1.t
  obtain ⟨d, ds, ed⟩ : ∃ d ds, dgs n = d :: ds := by cases e : dgs n with
    | nil => rw [e] at h0; exact absurd h0 (by decide)
    | cons d ds => exact ⟨d, ds, rfl⟩
  have hd0 := hd 0 h0
  have hdd : digC d := by have := hd0.1; rw [ed] at this; exact this
  unfold digC at hdd
  have a3 : At ts (q + 6) (32 :: d :: (ds ++ [59])) := by have := a1; rw [ed] at this; exact this
  obtain ⟨u1, e1, s1, f1⟩ := s.adv hc (adv_sp s.1 (tz_l ha (lowL_of rfl) (by decide) no32 (by omega)) a3 (by omega) (by omega))
  have n1 := num_at (lo := 0) (hi := 999) s1.1 hn a2 nd59 (by omega) (Nat.zero_le _) (by omega) (by omega)
  obtain ⟨u2, e2, s2, f2⟩ := s1.adv hc (adv_sg s1.1 (tz_d a2 hd h0 nd59 (by omega)) a2.r)
  obtain ⟨s3, f3⟩ := s2.put hc (u := up u2 c 1 (nI n)) (R' := setE R 0 1 n) (s2.2.1.put (o := 0) (by omega)) (fun k hk => up_o (by omega))
  refine ⟨_, ?_, s3, (f1.tr f2).tr f3⟩
  unfold f_X8_readLine
  obtain ⟨w2, w3, w4, w5, w6⟩ := kwH
  rw [k 2 lk.1, k 3 lk.2.1, k 4 lk.2.2.1, k 5 lk.2.2.2.1, k 6 lk.2.2.2.2, w2, w3, w4, w5, w6, if_neg (show ¬ (false = true) by decide), if_pos rfl, bnd_some, if_pos (show (nI 0 : Int32) = 0 from rfl), bnd_some, if_pos (show (nI 0 : Int32) = 0 from rfl), bnd_some, if_pos (show (nI 0 : Int32) = 0 from rfl), bnd_some, if_pos (show (nI 0 : Int32) = 0 from rfl), bnd_some, if_neg (show ¬ (nI 1 : Int32) = 0 by decide)]
  unfold f_X8_readHandle
  rw [e1, bnd_some, show f_X9_numberHere u1 0 999 = _ from n1, bnd_some, if_neg (show ¬ nI n = (-1 : Int32) from ng1 (by omega)), e2, bnd_some, stp_eq, bnd_some]
  exact ck_of zb1
/-- speaker s?; -/
theorem rl_spk (hc : 14 ≤ c) (s : RS ts c h q R) (hD : WD R) (h4 : R 0 2 < 4) {a : Nat} (hl : lowC a) (hno : ∀ i, i < R 0 2 → ¬ R 1 i = 608 + (a - 96)) (ha : At ts q (kS ++ 32 :: 115 :: a :: [59])) : ∃ h', f_X8_readLine h c = some (nI 1, h') ∧ RS ts c h' (q + 10) (spkR R (608 + (a - 96))) ∧ FC c h h' := by
  have k := rl_key s ha (lowL_of rfl)
  have a1 := ha.r
  have a2 : At ts (q + 7 + 1) ([115, a] ++ 59 :: []) := a1.t
  have hl' := hl
  unfold lowC at hl'
  have hl2 : lowL [115, a] := lowL_of (by
    show (decide (97 ≤ 115) && decide (115 ≤ 122) && (decide (97 ≤ a) && decide (a ≤ 122) && true)) = true
    rw [decide_eq_true hl'.1, decide_eq_true hl'.2]
    rfl)
  obtain ⟨u1, e1, s1, f1⟩ := s.adv hc (adv_sp s.1 (tz_l ha (lowL_of rfl) (by decide) no32 (by omega)) a1 (by omega) (by omega))
  have n1 := name_2 s1.1 a2 (by unfold lowC; omega) hl no59 (by omega)
  obtain ⟨u2, e2, s2, f2⟩ := s1.adv hc (adv_sg s1.1 (tz_l a2 hl2 (Nat.succ_pos _) no59 (by omega)) a2.r)
  have hnm : isName (608 + (a - 96)) := isNm2 _ (by omega) (by omega) (by omega) (by omega) (by omega)
  have es : f_X4_speakerNamed u1 c (nI (608 + (a - 96))) = some (-nI 1) := by
    rw [c_spkN s1.2.1 hD hnm, sch_u (Nat.le_refl _) (fun j hj => hno j hj) (fun y => absurd y (Nat.lt_irrefl _))]
    unfold oI
    rw [if_neg (Nat.lt_irrefl _)]
  obtain ⟨u3, e3, c3, r3⟩ := c_addSpeaker s2.2.1 h4 (608 + (a - 96))
  obtain ⟨s3, f3⟩ := s2.put hc c3 r3
  refine ⟨_, ?_, s3, (f1.tr f2).tr f3⟩
  unfold f_X8_readLine
  rw [k 2 lk.1, k 3 lk.2.1, kwS.1, kwS.2, if_neg (show ¬ (false = true) by decide), if_pos rfl, bnd_some, if_pos (show (nI 0 : Int32) = 0 from rfl), bnd_some, if_neg (show ¬ (nI 1 : Int32) = 0 by decide)]
  unfold f_X8_readSpeaker
  rw [s.2.1.z, if_pos (show nI (R 0 2) < 4 from lty (b := 4) h4 (by omega)), e1, bnd_some, n1, bnd_some]
  show bnd (if nI (608 + (a - 96)) = (-1 : Int32) then _ else _) _ = _
  rw [if_neg (show ¬ nI (608 + (a - 96)) = (-1 : Int32) from ng1 (by omega)), es, bnd_some, if_pos (show (-nI 1 : Int32) = -1 from rfl), e2, bnd_some, e3, bnd_some, bnd_some]
  exact ck_of zb1
/-- breath a b; -/
theorem rl_bre (hc : 14 ≤ c) (s : RS ts c h q R) (h12 : R 0 10 < 12) {a b : Nat} (hab : a < b) (hb : b < 1000) (ha : At ts q (kB ++ 32 :: (dgs a ++ 32 :: (dgs b ++ [59])))) : ∃ h', f_X8_readLine h c = some (nI 1, h') ∧ RS ts c h' (q + 7 + (dgs a).length + 1 + (dgs b).length) (breR R a b) ∧ FC c h h' := by
  have k := rl_key s ha (lowL_of rfl)
  have ga := dgs_dig (show a < 1000 by omega)
  have gb := dgs_dig hb
  have a1 := ha.r
  have a2 : At ts (q + 6 + 1) (dgs a ++ 32 :: (dgs b ++ [59])) := a1.t
  have a4 := a2.r
  have a5 : At ts (q + 6 + 1 + (dgs a).length + 1) (dgs b ++ [59]) := a4.t
  have cons : ∀ n, digL (dgs n) → 0 < (dgs n).length → ∃ d ds, dgs n = d :: ds ∧ digC d := fun n hd h0 => by
    cases e : dgs n with
    | nil => rw [e] at h0; exact absurd h0 (by decide)
    | cons d ds => exact ⟨d, ds, rfl, by have := (hd 0 h0).1; rw [e] at this; exact this⟩
  obtain ⟨d, ds, ed, hd⟩ := cons a ga.1 ga.2
  obtain ⟨d', ds', ed', hd'⟩ := cons b gb.1 gb.2
  unfold digC at hd hd'
  have a3 : At ts (q + 6) (32 :: d :: (ds ++ 32 :: (dgs b ++ [59]))) := by have := a1; rw [ed] at this; exact this
  have a6 : At ts (q + 6 + 1 + (dgs a).length) (32 :: d' :: (ds' ++ [59])) := by have := a4; rw [ed'] at this; exact this
  obtain ⟨u1, e1, s1, f1⟩ := s.adv hc (adv_sp s.1 (tz_l ha (lowL_of rfl) (by decide) no32 (by omega)) a3 (by omega) (by omega))
  have n1 := num_at (lo := 0) (hi := 99998) s1.1 (by omega) a2 nd32 (by omega) (Nat.zero_le _) (by omega) (by omega)
  obtain ⟨u2, e2, s2, f2⟩ := s1.adv hc (adv_sp s1.1 (tz_d a2 ga.1 ga.2 nd32 (by omega)) a6 (by omega) (by omega))
  have n2 := num_at (lo := a + 1) (hi := 99999) s2.1 hb a5 nd59 (by omega) (by omega) (by omega) (by omega)
  obtain ⟨u3, e3, s3, f3⟩ := s2.adv hc (adv_sg s2.1 (tz_d a5 gb.1 gb.2 nd59 (by omega)) a5.r)
  obtain ⟨u4, e4, c4, r4⟩ := c_addBreath s3.2.1 h12 a b
  obtain ⟨s4, f4⟩ := s3.put hc c4 r4
  refine ⟨_, ?_, s4, ((f1.tr f2).tr f3).tr f4⟩
  unfold f_X8_readLine
  obtain ⟨w2, w3, w4, w5⟩ := kwB
  rw [k 2 lk.1, k 3 lk.2.1, k 4 lk.2.2.1, k 5 lk.2.2.2.1, w2, w3, w4, w5, if_neg (show ¬ (false = true) by decide), if_pos rfl, bnd_some, if_pos (show (nI 0 : Int32) = 0 from rfl), bnd_some, if_pos (show (nI 0 : Int32) = 0 from rfl), bnd_some, if_pos (show (nI 0 : Int32) = 0 from rfl), bnd_some, if_neg (show ¬ (nI 1 : Int32) = 0 by decide)]
  unfold f_X8_readBreath
  have e10 : h c 10 = nI (R 0 10) := s.2.1.z 10
  rw [e10, if_pos (show nI (R 0 10) < 12 from lty (b := 12) h12 (by omega)), e1, bnd_some, show f_X9_numberHere u1 0 99998 = _ from n1, bnd_some, if_neg (show ¬ nI a = (-1 : Int32) from ng1 (by omega)), e2, bnd_some, show nI a + (1 : Int32) = nI (a + 1) from nI_add a 1, show f_X9_numberHere u2 (nI (a + 1)) 99999 = _ from n2, bnd_some, if_neg (show ¬ nI b = (-1 : Int32) from ng1 (by omega)), e3, bnd_some, e4, bnd_some, bnd_some]
  exact ck_of zb1
end
