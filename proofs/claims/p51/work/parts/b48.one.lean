/-! one recording of the law, and the law -/
section LW2
variable {p : Program} {l : Launch} {e : Env} {s : State} {m : MethodId} {b : Nat} {below : List Frame} {meth : Method} {c : Code} {Q : State → Prop}
set_option maxHeartbeats 4000000 in
set_option maxRecDepth 100000 in
theorem k_one {D : va_G} {dA : Nat → ClassId} {sa : Nat → Nat} (hlt : l.stackTraces = false) (C : CCx p s m #[Value.ref b] c cL_law RL 6 D dA) (hr : meth.sig.returnType = ret) (hlocks : meth.locks = false) (hSX : ∀ z1 : Nat → Nat, SX (z1, D, dA, s.heap.size, sa) s s.heap ∧ PX (z1, D, dA, s.heap.size, sa) s s.heap) {k v v' : Int32} {d : Nat} {H : Heap} {locs : List Loc} {ls : Array Slot} {cells slots : Nat} (hc : cells + 732 ≤ 163746) (hs : slots + 370648 ≤ 8610462) (hP : va_P D vwCl [(d, .inr (10, [.int v]))] H) (hD : va_D (fun q : Nat => s.heap.size ≤ q) [(d, .inr (10, [.int v]))]) (hS : va_S (fun q : Nat => s.heap.size ≤ q) s.heap H locs) (hl : lv_has ls 6 [(2, .int k), (1, .ref d), (0, .ref b)]) (hf : f_one v = some v')
    (kk : ∀ (H1 : Heap) (locs1 : List Loc) (ls1 : Array Slot), va_P D vwCl [(d, .inr (10, [.int v']))] H1 → va_D (fun q : Nat => s.heap.size ≤ q) [(d, .inr (10, [.int v']))] → va_S (fun q : Nat => s.heap.size ≤ q) s.heap H1 locs1 → lv_has ls1 6 [(2, .int k), (1, .ref d), (0, .ref b)] → W p l e room_1 s m #[Value.ref b] below meth c H1 locs1 (cells + 732) (slots + 370648) Q (F0 m 152 ls1 [])) : W p l e room_1 s m #[Value.ref b] below meth c H locs cells slots Q (F0 m 34 ls []) := by
  have hA : ∀ q : Nat, s.heap.size ≤ q → (fun q : Nat => s.heap.size ≤ q) q := fun _ h => h
  refine y_new C hl hA hP hD hS (ci := 8) (N := 7) (Cn := RX10) (T := TX10) rfl wsX10_in tyX10 tyX10_ok df_X10 (i1 := 8) (i2 := 172) cl_L_8 in_X10 iz_X10 (k_X10_init l D dA) ⟨rfl, rfl⟩ ci_X10_init cc_X10_init cd_X10_init (Or.inl (TW_of 48 (by decide +kernel) (by decide +kernel))) ⟨rfl, rfl⟩ ⟨Nat.le_of_ble_eq_true rfl, Nat.le_of_ble_eq_true rfl⟩ (by show cells + 1 + 124 ≤ 163746; omega) (by show slots + 7 + 6441 ≤ 8610462; omega) (Nat.le_of_ble_eq_true rfl) dL_law_34 dL_law_37 dL_law_38 (fun u H locs hP hD hS => ?_)
  refine y_at 41 (cells + 125) (slots + 6448) (by decide) (by omega) (by omega) ?_
  obtain ⟨hP, hD⟩ := first_world (sz0 := s.heap.size) (sa := sa) (u := u) (d := d) (v := v) hP hD
  generalize hZ : ZS D dA u s.heap.size sa = Z at hP hD
  have eZ0 : zX10 u = Z.1 0 := by rw [← hZ]; rfl
  have eZd : ra Z (aD d) 0 = d := ra_lt (by decide)
  have CC : CQ p s m #[Value.ref b] meth c cL_law RL 6 ret Z := by
    rw [← hZ]
    exact ⟨C.1, C.2.1, C.2.2.1, C.2.2.2.1, C.2.2.2.2.1, hr, hlocks, C.2.2.2.2.2.1, Nat.le_refl _, (hSX _).1, (hSX _).2⟩
  have hFR : FR Z = fun q : Nat => s.heap.size ≤ q := by rw [← hZ]; rfl
  have hZD : Z.2.1 = D := by rw [← hZ]; rfl
  have hW : XG Z h0C (aD d) (gD v) s.heap H locs := ⟨by rw [hZD]; exact hP, by rw [hFR]; exact hS, by rw [hFR]; exact hD, gD_PW⟩
  rw [eZ0]
  have hl : lv_has ls 6 [(2, .int k), (1, .ref (ra Z (aD d) 0)), (0, .ref b)] := by rw [eZd]; exact hl
  have kk : ∀ (h1 : Hp) (a1 : Nat → Nat) (g1 : PL) (H1 : Heap) (locs1 : List Loc) (ls1 : Array Slot), AG (aD d) (gD v) a1 g1 → gk g1 0 1 = true → g1.2.2 0 0 = v' → XG Z h1 a1 g1 s.heap H1 locs1 → lv_has ls1 6 [(2, .int k), (1, .ref (ra Z a1 0)), (0, .ref b)] → W p l e room_1 s m #[Value.ref b] below meth c H1 locs1 (cells + 732) (slots + 370648) Q (F0 m 152 ls1 []) := by
    intro h1 a1 g1 H1 locs1 ls1 hg hk hv hW hl
    obtain ⟨w1, w2, w3, w4⟩ := hW
    rw [hZD] at w1
    rw [hFR] at w2 w3
    have q0 := ra_to (Z := Z) (gD_PW (v := v)) hg (x := 0) (by unfold rkb; rfl)
    obtain ⟨p1, p2⟩ := one_D hZD w1 w3 w4 hk
    rw [q0, eZd, hv] at p1 p2
    rw [q0, eZd] at hl
    exact kk H1 locs1 ls1 p1 p2 w2 hl
  clear hP hD hS hZ eZ0 eZd
  refine lv_astore_n (lv' := [(3, .ref (Z.1 0)), (2, .int k), (1, .ref (ra Z (aD d) 0)), (0, .ref b)]) CC.1 CC.2.1 dL_law_41 rfl hl (by decide) rfl (fun ls hl => ?_)
  unfold f_one at hf
  have hpw := hW.2.2.2
  obtain ⟨g1, hg1, hf⟩ := stp_t hf
  refine z_newo CC hW (kd := 0) (ci := 9) (fs := nf_X11) rfl wsX11_in tyX11 tyX11_ok df_X11 cl_L_107 in_X11 iz_X11 (by decide) (by decide) ne_X11 (K := fun q => some q) (out := g1) (by rw [hg1]; rfl) ⟨by show _ ≤ 163746; omega, by show _ ≤ 8610462; omega⟩ dL_law_42 (fun a1 g9 H hg9 hg hW => ?_)
  have e9 : g9 = g1 := Option.some.inj hg9
  subst e9
  have q0 := ra_to (Z := Z) hpw hg (x := 0) (by unfold rkb; rfl)
  rw [← q0] at hl
  have hg0 := hg
  have h21 : 2 ≤ g9.1 := by rw [hg1]; exact Nat.le_refl 2
  show W p l e room_1 s m #[Value.ref b] below meth c H locs _ _ Q (F0 m _ ls [.ref (ra Z a1 1)])
  refine lv_dup CC.1 CC.2.1 dL_law_45 rfl ?_
  refine lv_aload_n CC.1 CC.2.1 dL_law_46 rfl (lv_at hl 2 rfl) ?_
  obtain ⟨g2, e2, hf⟩ := bnd_t hf
  have hpw := hW.2.2.2
  obtain ⟨k0, k1⟩ := rkb_2 h21
  refine z_callvA hW (z_runI CC hW hl (c_X11_init e2) cw_L_173 ci_X11_init rfl (fr_okP (by decide) (by decide)) (fr_c (by omega) (by omega)) (As := [.ref (ra Z a1 0)]) rfl rfl (Nat.le_of_ble_eq_true rfl) dL_law_47) (fun a2 H locs hg hW => ?_)
  have q0 := ra_to (Z := Z) hpw hg k0
  have q1 := ra_to (Z := Z) hpw hg k1
  rw [← q0] at hl
  rw [← q1]
  have hg0 := hg0.tr hg
  have h22 : 2 ≤ g2.1 := Nat.le_trans h21 hg.2
  refine y_at 50 (cells + 498) (slots + 230248) (by decide) (by omega) (by omega) ?_
  refine lv_astore (lv' := [(4, .ref (ra Z a2 1)), (3, .ref (Z.1 0)), (2, .int k), (1, .ref (ra Z a2 0)), (0, .ref b)]) CC.1 CC.2.1 dL_law_50 hl (by decide) rfl (fun ls hl => ?_)
  refine lv_aload CC.1 CC.2.1 dL_law_52 (lv_at hl 0 rfl) ?_
  obtain ⟨hb1, hb0, hf⟩ := ckn_t hf
  refine zg_L_176 CC hW (ckn_self hb1 hb0) dL_law_54 (fun t ht => ?_)
  have ht := self_eq ht
  subst ht
  obtain ⟨hs1, hf⟩ := ck_t hf
  rw [Bool.and_eq_true, decide_eq_true_eq] at hs1
  obtain ⟨hs1, hs2⟩ := hs1
  refine z_calli hW (z_runT CC hW hl hs1 rfl (k_length hs1 hs2) cw_L_84 tin_length tse_length (fr_okP (by decide) (by decide)) (fr_c (by omega) (by omega)) (As := []) rfl rfl (Nat.le_of_ble_eq_true rfl) dL_law_57) (fun H locs hW => ?_)
  refine lv_sipush (v := 400) CC.1 CC.2.1 dL_law_60 (by decide) ?_
  refine z_cmple (tgt := 69) CC hf dL_law_63 (by decide) (fun hf => ?_) (fun hf => ?_)
  · -- the text
    obtain ⟨u1, eu, hf⟩ := bnd_t hf
    obtain ⟨zu, hf⟩ := ck_t hf
    have zu := of_decide_eq_true zu
    obtain ⟨rr, er, hf⟩ := bnd_t hf
    obtain ⟨zr, hf⟩ := ck_t hf
    have zr := of_decide_eq_true zr
    obtain ⟨zw, hf⟩ := ck_t hf
    have zw := of_decide_eq_true zw
    obtain ⟨ek, ee, hf⟩ := bnd_t hf
    obtain ⟨ze, hf⟩ := ck_t hf
    have ze := of_decide_eq_true ze
    obtain ⟨qq, eq, hf⟩ := bnd_t hf
    obtain ⟨zk, hf⟩ := ck_t hf
    have hv := Option.some.inj hf
    refine lv_aload_n CC.1 CC.2.1 dL_law_69 rfl (lv_at hl 1 rfl) ?_
    refine lv_aload CC.1 CC.2.1 dL_law_70 (lv_at hl 0 rfl) ?_
    refine zg_L_176 CC hW (ckn_self hb1 hb0) dL_law_72 (fun t ht => ?_)
    have ht := self_eq ht
    subst ht
    refine z_calli hW (z_runS CC hW hl (c_L_text hlt eu) cw_L_180 ct_L_text (fr_okP (by decide) (by decide)) (fr_c (by omega) (by omega)) (As := [.ref (Z.1 0), .ref (ra Z a2 (ix (g2.2.2 1 16)))]) rfl rfl (Nat.le_of_ble_eq_true rfl) dL_law_75) (fun H locs hW => ?_)
    refine lv_if_eq (tgt := 104) CC.1 CC.2.1 dL_law_78 (by decide) (fun q => absurd q zu) (fun _ => ?_)
    refine lv_aload_n CC.1 CC.2.1 dL_law_81 rfl (lv_at hl 1 rfl) ?_
    refine lv_iconst (v := 0) CC.1 CC.2.1 dL_law_82 (by decide) ?_
    refine lv_iconst (v := 0) CC.1 CC.2.1 dL_law_83 (by decide) ?_
    refine lv_iconst (v := 0) CC.1 CC.2.1 dL_law_84 (by decide) ?_
    refine lv_iconst (v := 0) CC.1 CC.2.1 dL_law_85 (by decide) ?_
    refine W.widen (k := cells + 498) (n := slots + 230248) (by omega) (by omega) ?_
    refine z_calli hW (z_runSW CC hW hl (k_ask0 hlt er) cX_asks ct_asks cwL_L_121 ⟨rfl, rfl, by show 2 + 12 + 1 ≤ 2048; omega, by show 8 + (6 + 11) + (50 + 50 * 12) ≤ 84000; omega⟩ (by rw [kn_0 zr]; exact ⟨by show cells + 498 + 0 ≤ 163746; omega, by show slots + 230248 + 0 ≤ 8610462; omega⟩) (As := [.ref (Z.1 0), .int 0, .int 0, .int 0, .int 0]) rfl rfl (Nat.le_of_ble_eq_true rfl) dL_law_86) (fun H locs hW => ?_)
    refine lv_aload CC.1 CC.2.1 dL_law_89 (lv_at hl 0 rfl) ?_
    refine zg_L_106 CC hW (K := some ()) (out := ()) (by rw [hb1]; rfl) dL_law_91 (fun _ => ?_)
    refine lv_icmp_ne (tgt := 104) CC.1 CC.2.1 dL_law_94 (by decide) (fun q => absurd zw q) (fun _ => ?_)
    refine lv_aload_n CC.1 CC.2.1 dL_law_97 rfl (lv_at hl 1 rfl) ?_
    refine W.widen (k := cells + 498) (n := slots + 230248) (by rw [kn_0 zr]; omega) (by rw [kn_0 zr]; omega) ?_
    refine z_calli0 hW (z_run0 CC hW hl rfl (c_X10_errorKind ee) cw_L_183 ci_X10_errorKind cs_X10_errorKind (fr_okD (by decide) (by decide)) ⟨by show cells + 498 + 0 ≤ 163746; omega, by show slots + 230248 + 0 ≤ 8610462; omega⟩ (As := []) rfl rfl (Nat.le_of_ble_eq_true rfl) dL_law_98) (fun H locs hW => ?_)
    refine lv_if_eq (tgt := 106) CC.1 CC.2.1 dL_law_101 (by decide) (fun _ => ?_) (fun q => absurd ze q)
    refine lv_iconst (v := 0) CC.1 CC.2.1 dL_law_106 (by decide) ?_
    refine lv_istore (lv' := [(5, .int 0), (4, .ref (ra Z a2 1)), (3, .ref (Z.1 0)), (2, .int k), (1, .ref (ra Z a2 0)), (0, .ref b)]) CC.1 CC.2.1 dL_law_107 hl (by decide) rfl (fun ls hl => ?_)
    refine W.widen (k := cells + 498) (n := slots + 230248) (by omega) (by omega) ?_
    refine k_acts hlt CC 18 (Nat.le_refl _) rr.2.2 a2 g2 H locs ls (cells + 498) (slots + 230248) h22 (by omega) (by omega) hW hl (h' := qq.1) (g' := qq.2) eq (fun a3 H3 locs3 ls3 hg3 hW3 hl3 => ?_)
    refine W.widen (k := cells + 732) (n := slots + 370648) (by omega) (by omega) ?_
    exact kk qq.1 a3 qq.2 H3 locs3 ls3 (hg0.tr hg3) zk hv hW3 hl3
  · obtain ⟨zk, hf⟩ := ck_t hf
    have hv := Option.some.inj hf
    refine lv_goto (tgt := 152) CC.1 CC.2.1 dL_law_66 (by decide) ?_
    refine W.widen (k := cells + 732) (n := slots + 370648) (by omega) (by omega) ?_
    exact kk h0C a2 g2 H locs ls hg0 zk hv hW (lv_sub hl [2, 3, 4] rfl)
end LW2
