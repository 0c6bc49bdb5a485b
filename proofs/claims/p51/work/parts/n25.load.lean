/-! the class loads the text -/
section
variable {ts : List Nat} {c c' : Nat} {h : Hp} {P R : Nat → Nat → Nat}
theorem rd_read (hc : 14 ≤ c) (hC : CR h c P) (hn : h 1 1 = nI ts.length) (hl : ts.length ≤ 900) (hb : ∀ j, j < ts.length → h 2 j = nB ts j) {ls : List Ln} (hts : ts = flt ls) (h9 : ls.length < 900) (hr : Rds ls (clR P) R) (hh : holds R (R 0 4)) : ∃ h', f_X8_read h c = some (nI 1, h') ∧ CR h' c (fR R) ∧ WD R ∧ FC c h h' ∧ h' 1 2 = -nI 1 ∧ h' 1 3 = nI 0 := by
  obtain ⟨u8, e8, C8, f8⟩ := c_clear hC
  obtain ⟨u9, e9, t9, f9, z2, z3⟩ := c_begin (h := u8) (B := nB ts) (L := ts.length) (by rw [f8 1 (by omega)]; exact hn) hl (fun j hj => by rw [f8 2 (by omega)]; exact hb j hj)
  have hat : At ts 0 (flt ls) := by
    rw [← hts]
    exact fun j hj => ⟨by omega, by rw [Nat.zero_add]⟩
  have e0 : rn wsB (nB ts) ts.length 0 = 0 := ws_0 (Nat.zero_le _) (fun hl => by
    cases ls with
    | nil =>
      rw [hts] at hl
      exact absurd hl (Nat.not_lt_zero _)
    | cons l ls =>
      obtain ⟨d, ds, ed, hd⟩ := lnB_c l
      have a : At ts 0 (lnB l ++ flt ls) := hat
      rw [ed] at a
      exact ⟨d, (At.c (cs := ds ++ flt ls) a).2, by omega, by omega⟩)
  rw [e0] at t9
  have s9 : RS ts c u9 0 (clR P) := ⟨t9, C8.fr (fun o ho => f9.1 _ (by omega)), z2, z3⟩
  obtain ⟨h3, e3, s3, d3, f3⟩ := rd_all hc ls 0 FU 0 u9 (clR P) (by unfold FU; omega) (by omega) s9 cl_WD hr hat (by rw [← hts]; omega)
  obtain ⟨h4, e4, C4, f4⟩ := c_findBlocks s3.2.1 d3 hh
  have fc4 := FC.of hc f4
  refine ⟨h4, ?_, C4, d3, (((FC.of hc f8).tr f9.fc).tr f3).tr fc4, ?_, ?_⟩
  · unfold f_X8_read
    rw [e8, bnd_some, e9, bnd_some]
    show Lp (F_X8_read_10 c) FU (nI 0, u9) = _
    rw [e3]
    unfold J_X8_read_49
    rw [c_holds s3.2.1 d3, bnd_some, bo_y hh, if_neg (show ¬ (nI 1 : Int32) = 0 by decide), e4, bnd_some]
    rfl
  · rw [f4 1 (by omega)]; exact s3.2.2.1
  · rw [f4 1 (by omega)]; exact s3.2.2.2
theorem rd_load (hk : knd c = 4 ∧ (c = 83 ∨ c = 97)) (hk' : knd c' = 4 ∧ (c' = 83 ∨ c' = 97)) (hC : CR h c' P) (h05 : h 0 5 = nI c') (h30 : h 3 0 = nI c) (hn : h 1 1 = nI ts.length) (hl : ts.length ≤ 900) (hb : ∀ j, j < ts.length → h 2 j = nB ts j) {ls : List Ln} (hts : ts = flt ls) (h9 : ls.length < 900) (hr : Rds ls (clR P) R) (hh : holds R (R 0 4)) : ∃ h', f_X10_load h = some (0, (nI (R 0 4), h')) ∧ WD R ∧ CR h' c' (fR R) ∧ CE h' (eE (fR R 0 13)) ∧ CF h' (fR R) (eE (fR R 0 13)) ∧ h' 3 0 = nI c' ∧ h' 13 2 = nI 0 ∧ h' 1 3 = nI 0 ∧ (∀ k, ¬ k ≤ 1 → ¬ (3 ≤ k ∧ k ≤ 13) → ¬ (18 ≤ k ∧ k ≤ 22) → ¬ (c' ≤ k ∧ k ≤ c' + 13) → h' k = h k) ∧ h' 13 1 = h 13 1 := by
  have hc : 14 ≤ c' := by omega
  obtain ⟨h1, a1, a3, aD, a8, z2, z3⟩ := rd_read hc hC hn hl hb hts h9 hr hh
  have a4 := fR_WR aD hh
  have hp1 : (up h1 1 1 0) 3 0 = nI c := by rw [up_o (by decide), a8.1 3 (by decide) (by omega)]; exact h30
  have C1 : CR (up h1 1 1 0) c' (fR R) := a3.fr (fun o ho => up_o (by omega))
  obtain ⟨⟨v, h4⟩, b1, b2, b3, b4, b5, b6, b7⟩ := c_exch a4 C1 hk' hp1 hk
  have b2 : v = c := b2
  subst b2
  have b3 : h4 3 0 = nI c' := b3
  have b4 : CR h4 c' (fR R) := b4
  have b5 : CE h4 (eE (fR R 0 13)) := b5
  have b6 : CF h4 (fR R) (eE (fR R 0 13)) := b6
  have b7 : ∀ k, ¬ (3 ≤ k ∧ k ≤ 11) → ¬ (18 ≤ k ∧ k ≤ 22) → h4 k = (up h1 1 1 0) k := b7
  have o7 : ∀ k, ¬ k = 0 → ¬ k = 13 → (up (up h4 0 5 (nI v)) 13 2 0) k = h4 k := fun k a b => by rw [up_o b, up_o a]
  have C7 : CR (up (up h4 0 5 (nI v)) 13 2 0) c' (fR R) := b4.fr (fun o ho => o7 _ (by omega) (by omega))
  have e04 : fR R 0 4 = R 0 4 := fR_s aD hh (by decide) (by decide) (by decide) (by decide) (by decide) (by decide)
  refine ⟨up (up h4 0 5 (nI v)) 13 2 0, ?_, aD, C7, ?_, ?_, ?_, up_ss, ?_, fun k p1 p2 p3 p4 => ?_, ?_⟩
  · unfold f_X10_load
    rw [ckp_of h05 hk'.1 (by omega), a1, bnd_some, stp_eq, if_neg (show ¬ (nI 1 : Int32) = 0 by decide)]
    have d5 : (up h1 1 1 0) 0 5 = nI c' := by rw [up_o (by decide), a8.1 0 (by decide) (by omega)]; exact h05
    rw [ckp_of d5 hk'.1 (by omega), b1, bnd_some, show decide (knd v = 4) = true from decide_eq_true hk.1, ck_true, stp_eq, stp_eq]
    have d3 : (up (up h4 0 5 (nI v)) 13 2 0) 3 0 = nI c' := by rw [o7 3 (by decide) (by decide)]; exact b3
    rw [ckp_of d3 hk'.1 (by omega), C7.z 4, e04]
  · exact b5.fr (fun k a b => o7 k (by omega) (by omega))
  · unfold CF
    rw [o7 3 (by decide) (by decide), o7 4 (by decide) (by decide), o7 5 (by decide) (by decide), o7 6 (by decide) (by decide), o7 7 (by decide) (by decide), o7 8 (by decide) (by decide), o7 9 (by decide) (by decide), o7 10 (by decide) (by decide), o7 11 (by decide) (by decide)]
    exact b6
  · rw [o7 3 (by decide) (by decide)]; exact b3
  · rw [o7 1 (by decide) (by decide), b7 1 (by omega) (by omega), up_sn (by decide)]; exact z3
  · rw [o7 k (by omega) (by omega), b7 k (by omega) (by omega), up_o (by omega), a8.1 k (by omega) (by omega)]
  · rw [up_sn (by decide), up_o (by decide), b7 13 (by omega) (by omega), up_o (by decide), a8.1 13 (by decide) (by omega)]
end
