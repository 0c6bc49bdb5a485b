set_option maxRecDepth 20000 in
set_option maxHeartbeats 1000000 in
theorem k_switch {p : Program} {l : Launch} {e : Env} {s : State} {m : MethodId} {b : Nat} {below : List Frame} {meth : Method} {c : Code} {H : Heap} {locs : List Loc} {cells slots : Nat} {Q : State → Prop} {ls : Array Slot} {Z : ZT} {h g : Hp} {L : Nat} {xs : Nat → Int32} {i : Int32} {z : Int32} (hm : Z.2.2.2.2 1000 = 1) (hlt : l.stackTraces = false) (C : CX p s m #[.ref b] meth c cL_law RL 7 ret Z) (hX : va_X b L xs s s.heap) (hbl : b < s.heap.size) (hbA : ¬ FR Z b) (hi : ∀ k : Int32, 0 ≤ k → k ≤ 5 → vp_in (i + k) L) (hcs : cells + 8 ≤ 601024 ∧ slots + 48 ≤ 7293034) (hW : XW Z h g s.heap H locs) (hl : lv_has ls 7 [(4, .int i), (0, .ref b), (1, .ref (Z.1 0)), (2, .ref (Z.1 125)), (3, .ref (Z.1 145))]) {out : Hp × Hp} (hf : stepz xs i z h g = some out) (kk : ∀ (ls : Array Slot) (H : Heap) (locs : List Loc), XW Z out.1 out.2 s.heap H locs → lv_has ls 7 [(4, .int i), (0, .ref b), (1, .ref (Z.1 0)), (2, .ref (Z.1 125)), (3, .ref (Z.1 145))] → W p l e room_1 s m #[Value.ref b] below meth c H locs (cells + 8) (slots + 48) Q (F0 m 2151 ls [])) : W p l e room_1 s m #[Value.ref b] below meth c H locs cells slots Q (F0 m 40 ls [.int z]) := by
  unfold stepz at hf
  rcases Classical.em (z = 0) with q0 | q0
  · have hf := (if_pos q0).symm.trans hf
    refine x_swin (tgt := 248) C q0 dL_law_40 (by decide) (by decide) rfl (by decide) ?_
    exact k_case0 hm hlt C hX hbl hbA hi hcs hW hl hf kk
  replace hf := (if_neg q0).symm.trans hf
  rcases Classical.em (z = 1) with q1 | q1
  · have hf := (if_pos q1).symm.trans hf
    refine x_swin (tgt := 321) C q1 dL_law_40 (by decide) (by decide) rfl (by decide) ?_
    exact k_case1 hm hlt C hX hbl hbA hi hcs hW hl hf kk
  replace hf := (if_neg q1).symm.trans hf
  rcases Classical.em (z = 2) with q2 | q2
  · have hf := (if_pos q2).symm.trans hf
    refine x_swin (tgt := 346) C q2 dL_law_40 (by decide) (by decide) rfl (by decide) ?_
    exact k_case2 hm hlt C hX hbl hbA hi hcs hW hl hf kk
  replace hf := (if_neg q2).symm.trans hf
  rcases Classical.em (z = 3) with q3 | q3
  · have hf := (if_pos q3).symm.trans hf
    refine x_swin (tgt := 390) C q3 dL_law_40 (by decide) (by decide) rfl (by decide) ?_
    exact k_case3 hm hlt C hX hbl hbA hi hcs hW hl hf kk
  replace hf := (if_neg q3).symm.trans hf
  rcases Classical.em (z = 4) with q4 | q4
  · have hf := (if_pos q4).symm.trans hf
    refine x_swin (tgt := 434) C q4 dL_law_40 (by decide) (by decide) rfl (by decide) ?_
    exact k_case4 hm hlt C hX hbl hbA hi hcs hW hl hf kk
  replace hf := (if_neg q4).symm.trans hf
  rcases Classical.em (z = 5) with q5 | q5
  · have hf := (if_pos q5).symm.trans hf
    refine x_swin (tgt := 447) C q5 dL_law_40 (by decide) (by decide) rfl (by decide) ?_
    exact k_case5 hm hlt C hX hbl hbA hi hcs hW hl hf kk
  replace hf := (if_neg q5).symm.trans hf
  rcases Classical.em (z = 6) with q6 | q6
  · have hf := (if_pos q6).symm.trans hf
    refine x_swin (tgt := 460) C q6 dL_law_40 (by decide) (by decide) rfl (by decide) ?_
    exact k_case6 hm hlt C hX hbl hbA hi hcs hW hl hf kk
  replace hf := (if_neg q6).symm.trans hf
  rcases Classical.em (z = 7) with q7 | q7
  · have hf := (if_pos q7).symm.trans hf
    refine x_swin (tgt := 485) C q7 dL_law_40 (by decide) (by decide) rfl (by decide) ?_
    exact k_case7 hm hlt C hX hbl hbA hi hcs hW hl hf kk
  replace hf := (if_neg q7).symm.trans hf
  rcases Classical.em (z = 8) with q8 | q8
  · have hf := (if_pos q8).symm.trans hf
    refine x_swin (tgt := 553) C q8 dL_law_40 (by decide) (by decide) rfl (by decide) ?_
    exact k_case8 hm hlt C hX hbl hbA hi hcs hW hl hf kk
  replace hf := (if_neg q8).symm.trans hf
  rcases Classical.em (z = 9) with q9 | q9
  · have hf := (if_pos q9).symm.trans hf
    refine x_swin (tgt := 628) C q9 dL_law_40 (by decide) (by decide) rfl (by decide) ?_
    exact k_case9 hm hlt C hX hbl hbA hi hcs hW hl hf kk
  replace hf := (if_neg q9).symm.trans hf
  rcases Classical.em (z = 10) with q10 | q10
  · have hf := (if_pos q10).symm.trans hf
    refine x_swin (tgt := 703) C q10 dL_law_40 (by decide) (by decide) rfl (by decide) ?_
    exact k_case10 hm hlt C hX hbl hbA hi hcs hW hl hf kk
  replace hf := (if_neg q10).symm.trans hf
  rcases Classical.em (z = 11) with q11 | q11
  · have hf := (if_pos q11).symm.trans hf
    refine x_swin (tgt := 716) C q11 dL_law_40 (by decide) (by decide) rfl (by decide) ?_
    exact k_case11 hm hlt C hX hbl hbA hi hcs hW hl hf kk
  replace hf := (if_neg q11).symm.trans hf
  rcases Classical.em (z = 12) with q12 | q12
  · have hf := (if_pos q12).symm.trans hf
    refine x_swin (tgt := 784) C q12 dL_law_40 (by decide) (by decide) rfl (by decide) ?_
    exact k_case12 hm hlt C hX hbl hbA hi hcs hW hl hf kk
  replace hf := (if_neg q12).symm.trans hf
  rcases Classical.em (z = 13) with q13 | q13
  · have hf := (if_pos q13).symm.trans hf
    refine x_swin (tgt := 809) C q13 dL_law_40 (by decide) (by decide) rfl (by decide) ?_
    exact k_case13 hm hlt C hX hbl hbA hi hcs hW hl hf kk
  replace hf := (if_neg q13).symm.trans hf
  rcases Classical.em (z = 14) with q14 | q14
  · have hf := (if_pos q14).symm.trans hf
    refine x_swin (tgt := 872) C q14 dL_law_40 (by decide) (by decide) rfl (by decide) ?_
    exact k_case14 hm hlt C hX hbl hbA hi hcs hW hl hf kk
  replace hf := (if_neg q14).symm.trans hf
  rcases Classical.em (z = 15) with q15 | q15
  · have hf := (if_pos q15).symm.trans hf
    refine x_swin (tgt := 897) C q15 dL_law_40 (by decide) (by decide) rfl (by decide) ?_
    exact k_case15 hm hlt C hX hbl hbA hi hcs hW hl hf kk
  replace hf := (if_neg q15).symm.trans hf
  rcases Classical.em (z = 16) with q16 | q16
  · have hf := (if_pos q16).symm.trans hf
    refine x_swin (tgt := 910) C q16 dL_law_40 (by decide) (by decide) rfl (by decide) ?_
    exact k_case16 hm hlt C hX hbl hbA hi hcs hW hl hf kk
  replace hf := (if_neg q16).symm.trans hf
  rcases Classical.em (z = 17) with q17 | q17
  · have hf := (if_pos q17).symm.trans hf
    refine x_swin (tgt := 966) C q17 dL_law_40 (by decide) (by decide) rfl (by decide) ?_
    exact k_case17 hm hlt C hX hbl hbA hi hcs hW hl hf kk
  replace hf := (if_neg q17).symm.trans hf
  rcases Classical.em (z = 18) with q18 | q18
  · have hf := (if_pos q18).symm.trans hf
    refine x_swin (tgt := 1034) C q18 dL_law_40 (by decide) (by decide) rfl (by decide) ?_
    exact k_case18 hm hlt C hX hbl hbA hi hcs hW hl hf kk
  replace hf := (if_neg q18).symm.trans hf
  rcases Classical.em (z = 19) with q19 | q19
  · have hf := (if_pos q19).symm.trans hf
    refine x_swin (tgt := 1047) C q19 dL_law_40 (by decide) (by decide) rfl (by decide) ?_
    exact k_case19 hm hlt C hX hbl hbA hi hcs hW hl hf kk
  replace hf := (if_neg q19).symm.trans hf
  rcases Classical.em (z = 20) with q20 | q20
  · have hf := (if_pos q20).symm.trans hf
    refine x_swin (tgt := 1060) C q20 dL_law_40 (by decide) (by decide) rfl (by decide) ?_
    exact k_case20 hm hlt C hX hbl hbA hi hcs hW hl hf kk
  replace hf := (if_neg q20).symm.trans hf
  rcases Classical.em (z = 21) with q21 | q21
  · have hf := (if_pos q21).symm.trans hf
    refine x_swin (tgt := 1097) C q21 dL_law_40 (by decide) (by decide) rfl (by decide) ?_
    exact k_case21 hm hlt C hX hbl hbA hi hcs hW hl hf kk
  replace hf := (if_neg q21).symm.trans hf
  rcases Classical.em (z = 22) with q22 | q22
  · have hf := (if_pos q22).symm.trans hf
    refine x_swin (tgt := 1122) C q22 dL_law_40 (by decide) (by decide) rfl (by decide) ?_
    exact k_case22 hm hlt C hX hbl hbA hi hcs hW hl hf kk
  replace hf := (if_neg q22).symm.trans hf
  rcases Classical.em (z = 23) with q23 | q23
  · have hf := (if_pos q23).symm.trans hf
    refine x_swin (tgt := 1190) C q23 dL_law_40 (by decide) (by decide) rfl (by decide) ?_
    exact k_case23 hm hlt C hX hbl hbA hi hcs hW hl hf kk
  replace hf := (if_neg q23).symm.trans hf
  rcases Classical.em (z = 24) with q24 | q24
  · have hf := (if_pos q24).symm.trans hf
    refine x_swin (tgt := 1203) C q24 dL_law_40 (by decide) (by decide) rfl (by decide) ?_
    exact k_case24 hm hlt C hX hbl hbA hi hcs hW hl hf kk
  replace hf := (if_neg q24).symm.trans hf
  rcases Classical.em (z = 25) with q25 | q25
  · have hf := (if_pos q25).symm.trans hf
    refine x_swin (tgt := 1216) C q25 dL_law_40 (by decide) (by decide) rfl (by decide) ?_
    exact k_case25 hm hlt C hX hbl hbA hi hcs hW hl hf kk
  replace hf := (if_neg q25).symm.trans hf
  rcases Classical.em (z = 26) with q26 | q26
  · have hf := (if_pos q26).symm.trans hf
    refine x_swin (tgt := 1272) C q26 dL_law_40 (by decide) (by decide) rfl (by decide) ?_
    exact k_case26 hm hlt C hX hbl hbA hi hcs hW hl hf kk
  replace hf := (if_neg q26).symm.trans hf
  rcases Classical.em (z = 27) with q27 | q27
  · have hf := (if_pos q27).symm.trans hf
    refine x_swin (tgt := 1285) C q27 dL_law_40 (by decide) (by decide) rfl (by decide) ?_
    exact k_case27 hm hlt C hX hbl hbA hi hcs hW hl hf kk
  replace hf := (if_neg q27).symm.trans hf
  rcases Classical.em (z = 28) with q28 | q28
  · have hf := (if_pos q28).symm.trans hf
    refine x_swin (tgt := 1310) C q28 dL_law_40 (by decide) (by decide) rfl (by decide) ?_
    exact k_case28 hm hlt C hX hbl hbA hi hcs hW hl hf kk
  replace hf := (if_neg q28).symm.trans hf
  rcases Classical.em (z = 29) with q29 | q29
  · have hf := (if_pos q29).symm.trans hf
    refine x_swin (tgt := 1366) C q29 dL_law_40 (by decide) (by decide) rfl (by decide) ?_
    exact k_case29 hm hlt C hX hbl hbA hi hcs hW hl hf kk
  replace hf := (if_neg q29).symm.trans hf
  rcases Classical.em (z = 30) with q30 | q30
  · have hf := (if_pos q30).symm.trans hf
    refine x_swin (tgt := 1422) C q30 dL_law_40 (by decide) (by decide) rfl (by decide) ?_
    exact k_case30 hm hlt C hX hbl hbA hi hcs hW hl hf kk
  replace hf := (if_neg q30).symm.trans hf
  rcases Classical.em (z = 31) with q31 | q31
  · have hf := (if_pos q31).symm.trans hf
    refine x_swin (tgt := 1478) C q31 dL_law_40 (by decide) (by decide) rfl (by decide) ?_
    exact k_case31 hm hlt C hX hbl hbA hi hcs hW hl hf kk
  replace hf := (if_neg q31).symm.trans hf
  rcases Classical.em (z = 32) with q32 | q32
  · have hf := (if_pos q32).symm.trans hf
    refine x_swin (tgt := 1491) C q32 dL_law_40 (by decide) (by decide) rfl (by decide) ?_
    exact k_case32 hm hlt C hX hbl hbA hi hcs hW hl hf kk
  replace hf := (if_neg q32).symm.trans hf
  rcases Classical.em (z = 33) with q33 | q33
  · have hf := (if_pos q33).symm.trans hf
    refine x_swin (tgt := 1559) C q33 dL_law_40 (by decide) (by decide) rfl (by decide) ?_
    exact k_case33 hm hlt C hX hbl hbA hi hcs hW hl hf kk
  replace hf := (if_neg q33).symm.trans hf
  rcases Classical.em (z = 34) with q34 | q34
  · have hf := (if_pos q34).symm.trans hf
    refine x_swin (tgt := 1615) C q34 dL_law_40 (by decide) (by decide) rfl (by decide) ?_
    exact k_case34 hm hlt C hX hbl hbA hi hcs hW hl hf kk
  replace hf := (if_neg q34).symm.trans hf
  rcases Classical.em (z = 35) with q35 | q35
  · have hf := (if_pos q35).symm.trans hf
    refine x_swin (tgt := 1640) C q35 dL_law_40 (by decide) (by decide) rfl (by decide) ?_
    exact k_case35 hm hlt C hX hbl hbA hi hcs hW hl hf kk
  replace hf := (if_neg q35).symm.trans hf
  rcases Classical.em (z = 36) with q36 | q36
  · have hf := (if_pos q36).symm.trans hf
    refine x_swin (tgt := 1708) C q36 dL_law_40 (by decide) (by decide) rfl (by decide) ?_
    exact k_case36 hm hlt C hX hbl hbA hi hcs hW hl hf kk
  replace hf := (if_neg q36).symm.trans hf
  rcases Classical.em (z = 37) with q37 | q37
  · have hf := (if_pos q37).symm.trans hf
    refine x_swin (tgt := 1764) C q37 dL_law_40 (by decide) (by decide) rfl (by decide) ?_
    exact k_case37 hm hlt C hX hbl hbA hi hcs hW hl hf kk
  replace hf := (if_neg q37).symm.trans hf
  rcases Classical.em (z = 38) with q38 | q38
  · have hf := (if_pos q38).symm.trans hf
    refine x_swin (tgt := 1832) C q38 dL_law_40 (by decide) (by decide) rfl (by decide) ?_
    exact k_case38 hm hlt C hX hbl hbA hi hcs hW hl hf kk
  replace hf := (if_neg q38).symm.trans hf
  rcases Classical.em (z = 39) with q39 | q39
  · have hf := (if_pos q39).symm.trans hf
    refine x_swin (tgt := 1912) C q39 dL_law_40 (by decide) (by decide) rfl (by decide) ?_
    exact k_case39 hm hlt C hX hbl hbA hi hcs hW hl hf kk
  replace hf := (if_neg q39).symm.trans hf
  rcases Classical.em (z = 40) with q40 | q40
  · have hf := (if_pos q40).symm.trans hf
    refine x_swin (tgt := 1992) C q40 dL_law_40 (by decide) (by decide) rfl (by decide) ?_
    exact k_case40 hm hlt C hX hbl hbA hi hcs hW hl hf kk
  replace hf := (if_neg q40).symm.trans hf
  rcases Classical.em (z = 41) with q41 | q41
  · have hf := (if_pos q41).symm.trans hf
    refine x_swin (tgt := 2005) C q41 dL_law_40 (by decide) (by decide) rfl (by decide) ?_
    exact k_case41 hm hlt C hX hbl hbA hi hcs hW hl hf kk
  replace hf := (if_neg q41).symm.trans hf
  rcases Classical.em (z = 42) with q42 | q42
  · have hf := (if_pos q42).symm.trans hf
    refine x_swin (tgt := 2018) C q42 dL_law_40 (by decide) (by decide) rfl (by decide) ?_
    exact k_case42 hm hlt C hX hbl hbA hi hcs hW hl hf kk
  replace hf := (if_neg q42).symm.trans hf
  rcases Classical.em (z = 43) with q43 | q43
  · have hf := (if_pos q43).symm.trans hf
    refine x_swin (tgt := 2031) C q43 dL_law_40 (by decide) (by decide) rfl (by decide) ?_
    exact k_case43 hm hlt C hX hbl hbA hi hcs hW hl hf kk
  replace hf := (if_neg q43).symm.trans hf
  rcases Classical.em (z = 44) with q44 | q44
  · have hf := (if_pos q44).symm.trans hf
    refine x_swin (tgt := 2044) C q44 dL_law_40 (by decide) (by decide) rfl (by decide) ?_
    exact k_case44 hm hlt C hX hbl hbA hi hcs hW hl hf kk
  replace hf := (if_neg q44).symm.trans hf
  rcases Classical.em (z = 45) with q45 | q45
  · have hf := (if_pos q45).symm.trans hf
    refine x_swin (tgt := 2057) C q45 dL_law_40 (by decide) (by decide) rfl (by decide) ?_
    exact k_case45 hm hlt C hX hbl hbA hi hcs hW hl hf kk
  replace hf := (if_neg q45).symm.trans hf
  rcases Classical.em (z = 46) with q46 | q46
  · have hf := (if_pos q46).symm.trans hf
    refine x_swin (tgt := 2070) C q46 dL_law_40 (by decide) (by decide) rfl (by decide) ?_
    exact k_case46 hm hlt C hX hbl hbA hi hcs hW hl hf kk
  replace hf := (if_neg q46).symm.trans hf
  rcases Classical.em (z = 47) with q47 | q47
  · have hf := (if_pos q47).symm.trans hf
    refine x_swin (tgt := 2126) C q47 dL_law_40 (by decide) (by decide) rfl (by decide) ?_
    exact k_case47 hm hlt C hX hbl hbA hi hcs hW hl hf kk
  replace hf := (if_neg q47).symm.trans hf
  obtain rfl := Option.some.inj hf
  refine W.widen (k := cells + 8) (n := slots + 48) (by omega) (by omega) ?_
  refine lv_tableOut (tgt := 2151) C.1 C.2.1 dL_law_40 (x_nN (n := 47) (fun k hk => ?_) (by decide)) (by decide) ?_
  · rcases (show k = 0 ∨ k = 1 ∨ k = 2 ∨ k = 3 ∨ k = 4 ∨ k = 5 ∨ k = 6 ∨ k = 7 ∨ k = 8 ∨ k = 9 ∨ k = 10 ∨ k = 11 ∨ k = 12 ∨ k = 13 ∨ k = 14 ∨ k = 15 ∨ k = 16 ∨ k = 17 ∨ k = 18 ∨ k = 19 ∨ k = 20 ∨ k = 21 ∨ k = 22 ∨ k = 23 ∨ k = 24 ∨ k = 25 ∨ k = 26 ∨ k = 27 ∨ k = 28 ∨ k = 29 ∨ k = 30 ∨ k = 31 ∨ k = 32 ∨ k = 33 ∨ k = 34 ∨ k = 35 ∨ k = 36 ∨ k = 37 ∨ k = 38 ∨ k = 39 ∨ k = 40 ∨ k = 41 ∨ k = 42 ∨ k = 43 ∨ k = 44 ∨ k = 45 ∨ k = 46 ∨ k = 47 by omega) with rfl | rfl | rfl | rfl | rfl | rfl | rfl | rfl | rfl | rfl | rfl | rfl | rfl | rfl | rfl | rfl | rfl | rfl | rfl | rfl | rfl | rfl | rfl | rfl | rfl | rfl | rfl | rfl | rfl | rfl | rfl | rfl | rfl | rfl | rfl | rfl | rfl | rfl | rfl | rfl | rfl | rfl | rfl | rfl | rfl | rfl | rfl | rfl
    · exact q0
    · exact q1
    · exact q2
    · exact q3
    · exact q4
    · exact q5
    · exact q6
    · exact q7
    · exact q8
    · exact q9
    · exact q10
    · exact q11
    · exact q12
    · exact q13
    · exact q14
    · exact q15
    · exact q16
    · exact q17
    · exact q18
    · exact q19
    · exact q20
    · exact q21
    · exact q22
    · exact q23
    · exact q24
    · exact q25
    · exact q26
    · exact q27
    · exact q28
    · exact q29
    · exact q30
    · exact q31
    · exact q32
    · exact q33
    · exact q34
    · exact q35
    · exact q36
    · exact q37
    · exact q38
    · exact q39
    · exact q40
    · exact q41
    · exact q42
    · exact q43
    · exact q44
    · exact q45
    · exact q46
    · exact q47
  exact kk ls H locs hW hl
theorem sub6 {L a : Nat} (hL : L ≤ 3072) (ha : a ≤ 4000) : Int32.ofNat L - 6 < nI a ↔ L < a + 6 := by
  have e1 : (Int32.ofNat L - 6).toInt = (L : Int) - 6 := by
    have h0 : (Int32.ofNat L).toInt = (L : Int) := nI_toInt (by omega)
    rw [Int32.toInt_sub, h0]
    exact Int.bmod_eq_of_le (by show -2147483648 ≤ (L : Int) - 6; omega) (by show (L : Int) - 6 < 2147483648; omega)
  rw [Int32.lt_iff_toInt_lt, e1, nI_toInt (by omega)]
  omega

set_option maxRecDepth 20000 in
set_option maxHeartbeats 1000000 in
theorem k_loop {p : Program} {l : Launch} {e : Env} {s : State} {m : MethodId} {b : Nat} {below : List Frame} {meth : Method} {c : Code} {Z : ZT} {L : Nat} {xs : Nat → Int32} (hm : Z.2.2.2.2 1000 = 1) (hlt : l.stackTraces = false) (C : CX p s m #[.ref b] meth c cL_law RL 7 ret Z) (hX : va_X b L xs s s.heap) (hbl : b < s.heap.size) (hZ : Z.2.2.2.1 = s.heap.size) (hL : L ≤ 3072) :
    ∀ (n a cells slots : Nat) (h g : Hp) (H : Heap) (locs : List Loc) (ls : Array Slot), a ≤ L + 6 → cells + 8 * n ≤ 601024 ∧ slots + 48 * n ≤ 7293034 → XW Z h g s.heap H locs → lv_has ls 7 [(4, .int (nI a)), (0, .ref b), (1, .ref (Z.1 0)), (2, .ref (Z.1 125)), (3, .ref (Z.1 145))] → run xs L n a h g = some () → W p l e room_1 s m #[Value.ref b] below meth c H locs cells slots (lw_Z below #[Value.ref b] s) (F0 m 23 ls []) := by
  have hbA : ¬ FR Z b := by unfold FR; rw [hZ]; exact Nat.not_le.mpr hbl
  intro n
  induction n with
  | zero => intro a cells slots h g H locs ls h1 h2 hW hl hf; cases hf
  | succ n ih =>
    intro a cells slots h g H locs ls h1 h2 hW hl hf
    unfold run at hf
    refine lv_iload C.1 C.2.1 dL_law_23 (lv_at hl 0 rfl) ?_
    refine lv_aload_n C.1 C.2.1 dL_law_25 rfl (lv_at hl 1 rfl) ?_
    refine va_slen C.1 C.2.1 hX hbl hbA hW.2 dL_law_26 ?_
    refine lv_bipush (v := 6) C.1 C.2.1 dL_law_27 (by decide) ?_
    refine lv_isub C.1 C.2.1 dL_law_29 ?_
    refine lv_icmp_gt (tgt := 2157) C.1 C.2.1 dL_law_30 (by decide) (fun q => ?_) (fun q => ?_)
    · refine lv_iconst (v := 1) C.1 C.2.1 dL_law_2157 (by decide) ?_
      refine va_forget (fun q hq => by have := hW.2.2.2 q hq; unfold FR at this; rw [hZ] at this; exact this) ?_
      refine W.widen (k := 601024) (n := 7293034) (by omega) (by omega) ?_
      exact lw_ret C.1 C.2.1 C.2.2.2.2.2.1 C.2.2.2.2.2.2.1 dL_law_2158
    · have hLa : ¬ L < a + 6 := fun z => q ((sub6 hL (by omega)).mpr z)
      have hf := (if_neg hLa).symm.trans hf
      obtain ⟨out, hs, hf⟩ := bnd_t hf
      have hi : ∀ k : Int32, 0 ≤ k → k ≤ 5 → vp_in (nI a + k) L := fun k k0 k5 => by
        obtain ⟨j, hj, rfl⟩ := nI_of2 (M := 5) (n := 5) rfl (Int32.not_lt.mpr k0) k5
        rw [nI_add]
        exact nI_in (by omega) (by omega)
      refine lv_aload_n C.1 C.2.1 dL_law_33 rfl (lv_at hl 1 rfl) ?_
      refine lv_iload C.1 C.2.1 dL_law_34 (lv_at hl 0 rfl) ?_
      have hi0 := hi 0 (by decide) (by decide)
      rw [Int32.add_zero] at hi0
      refine va_sld C.1 C.2.1 hX hbl hbA hW.2 hi0 dL_law_36 ?_
      refine lv_bipush (v := 63) C.1 C.2.1 dL_law_37 (by decide) ?_
      refine lv_iand C.1 C.2.1 dL_law_39 ?_
      refine k_switch hm hlt C hX hbl hbA hi ⟨by omega, by omega⟩ hW hl hs (fun ls H locs hW hl => ?_)
      refine lv_iinc (v := nI (a + 6)) (lv' := [(4, .int (nI (a + 6))), (0, .ref b), (1, .ref (Z.1 0)), (2, .ref (Z.1 125)), (3, .ref (Z.1 145))]) C.1 C.2.1 dL_law_2151 hl (k := 0) rfl (nI_add a 6) (by decide) rfl (fun ls hl => ?_)
      refine lv_goto (tgt := 23) C.1 C.2.1 dL_law_2154 (by decide) ?_
      exact ih (a + 6) (cells + 8) (slots + 48) _ _ H locs ls (by omega) ⟨by omega, by omega⟩ hW hl hf
