/-! the law from its entry -/
/-- the world with the law's row -/
def ZL (Z : ZT) (q : Nat) : ZT := (fun k => if k = 145 then q else Z.1 k, Z.2.1, Z.2.2.1, Z.2.2.2.1, fun i => if i = 1000 then 1 else Z.2.2.2.2 i)
theorem okk : ∀ k, k < 145 → (knd k = 0 → k + 4 < 145) ∧ (knd k = 4 → k + 13 < 145) ∧ (knd k = 6 → k + 6 < 145) ∧ (knd k = 1 → k = 3) ∧ (knd k = 5 → k = 15) ∧ (knd k = 8 → k = 0) ∧ knd k ≤ 13 := by decide +kernel
theorem ZL_n {Z : ZT} {q : Nat} : NM (ZL Z q) = 146 := rfl
theorem celZ {Z : ZT} {q : Nat} {r : Nat → Int32} {k : Nat} (hk : k < 145) (h1 : k = 3 → ix (r 0) < 145) (h5 : k = 15 → ix (r 0) < 145) (h8 : k = 0 → ix (r 5) < 145 ∧ ix (r 6) < 145) : cel (ZL Z q) r k = cel Z r k := by
  have hz : ∀ i, ¬ i = 145 → (ZL Z q).1 i = Z.1 i := fun i hi => if_neg hi
  have hA : (ZL Z q).2.2.1 = Z.2.2.1 := rfl
  obtain ⟨a0, a4, a6, a1, a5, a8, ac⟩ := okk k hk
  unfold cel
  generalize knd k = c at a0 a4 a6 a1 a5 a8 ac ⊢
  rcases (show c = 0 ∨ c = 1 ∨ c = 2 ∨ c = 3 ∨ c = 4 ∨ c = 5 ∨ c = 6 ∨ c = 7 ∨ c = 8 ∨ c = 9 ∨ c = 10 ∨ c = 11 ∨ c = 12 ∨ c = 13 by omega) with rfl | rfl | rfl | rfl | rfl | rfl | rfl | rfl | rfl | rfl | rfl | rfl | rfl | rfl
  · have := a0 rfl
    simp (disch := omega) only [celK, hz]
  · have := h1 (a1 rfl)
    simp (disch := omega) only [celK, hz]
  · simp (disch := omega) only [celK, hz]
  · simp (disch := omega) only [celK, hz]
  · have := a4 rfl
    simp (disch := omega) only [celK, hz]
  · have := h5 (a5 rfl)
    simp (disch := omega) only [celK, hz]
  · have := a6 rfl
    simp (disch := omega) only [celK, hz]
  · simp (disch := omega) only [celK, hz]
  · obtain ⟨_, _⟩ := h8 (a8 rfl)
    simp (disch := omega) only [celK, hz]
  · simp (disch := omega) only [celK, hz]
  · rfl
  · rfl
  · rfl
  · simp (disch := omega) only [celK, hz, hA]
theorem wl_more {Z : ZT} {q : Nat} {h g : Hp} (hs : Z.2.2.2.2 1000 = 0) (hg : g 145 = fun _ => 0) (h3 : ix (h 3 0) < 145) (h15 : ix (h 15 0) < 145) (h5 : ix (h 0 5) < 145) (h6 : ix (h 0 6) < 145) : wl (ZL Z q) h g = wl Z h g ++ [(q, .inl (Z.2.2.1 4, (1, .inr (.inl (fun _ => 0)))))] := by
  have hn : NM Z = 145 := by unfold NM; rw [hs]
  apply List.ext_getElem?
  intro i
  by_cases hi : i < 145
  · rw [wl_at hi, List.getElem?_append_left (by rw [wl_len, hn]; exact hi), wl_at hi, celZ hi (fun e => by subst e; exact h3) (fun e => by subst e; exact h15) (fun e => by subst e; exact ⟨h5, h6⟩)]
    show some ((if i = 145 then q else Z.1 i), _) = _
    rw [if_neg (by omega)]
  · by_cases e : i = 145
    · subst e
      rw [wl_atm (by rw [ZL_n]; omega), List.getElem?_append_right (by rw [wl_len, hn]; exact Nat.le_refl _), wl_len, hn, cel_k (show knd 145 = 14 from by decide), mx_r (by decide), hg]
      rfl
    · rw [List.getElem?_eq_none (by rw [wl_len, ZL_n]; omega), List.getElem?_eq_none (by rw [List.length_append, wl_len, hn]; show 145 + 1 ≤ i; omega)]
theorem strs_lt : ∀ q ∈ strs, q.2.2.2 < 47 := by decide +kernel
theorem SX_more {Z : ZT} {q : Nat} {U : State} {H : Heap} (h : SX Z U H) : SX (ZL Z q) U H := by
  have e : ∀ j, j < 1000 → (ZL Z q).2.2.2.2 j = Z.2.2.2.2 j := fun j hj => if_neg (by omega)
  obtain ⟨h1, h2, h3, h4, h5, h6, h7⟩ := h
  refine ⟨fun i hi => ?_, fun x hx => ?_, h3, h4, h5, h6, h7⟩
  · have hi2 : i < 47 := hi
    rw [e (2 * i) (by omega), e (2 * i + 1) (by omega)]
    exact h1 i hi
  · have := strs_lt x hx
    rw [e (2 * x.2.2.2) (by omega)]
    exact h2 x hx
set_option maxHeartbeats 4000000 in
set_option maxRecDepth 100000 in
/-- THE LAW, from its entry -/
theorem whole_start {p : Program} {e : Env} {s : State} {m : MethodId} {below : List Frame} {meth : Method} {c : Code} (l : Launch) (hflags : l.flags = flags0) {b L : Nat} {xs : Nat → Int32} (hL : L ≤ 3072) (C0 : lw_At p s m meth c b L xs) : W p l e room_1 s m #[Value.ref b] below meth c s.heap [] 0 0 (lw_Z below #[Value.ref b] s) (entryFrame m ([Value.ref b] : List Value).toArray 7) := by
  obtain ⟨hx, hb, hr, hml, hown, hts, hX, hbl, hlocks, hgv⟩ := id C0
  have hTW : ∀ w ∈ TW, w.before #[Value.ref b] s = true := fun w hw => hts w (List.mem_filter.mp hw).1
  have hlt : l.stackTraces = false := by
    unfold Launch.stackTraces
    rw [hflags]
    decide
  obtain ⟨D, dA, hKG⟩ := start_KG hts
  obtain ⟨sa, hsa, hSX⟩ := start_SX hts hgv D dA
  obtain ⟨g1, g2, hb1, ht1, hIV, hg2⟩ := first_IV
  have hA : ∀ q : Nat, s.heap.size ≤ q → (fun q : Nat => s.heap.size ≤ q) q := fun _ h => h
  have hS : va_S (fun q : Nat => s.heap.size ≤ q) s.heap s.heap [] := va_S.rf
  have hP : va_P D vwCl [] s.heap := fun k q h => by simp at h
  have hD : va_D (fun q : Nat => s.heap.size ≤ q) [] := ⟨fun i j p q h => by simp at h, fun k q h => by simp at h⟩
  have C : CCx p s m #[Value.ref b] c cL_law RL 7 D dA := ⟨hx, hb, hTW, hown, hml, hKG⟩
  have hl := lv_entry ([.ref b]) (n := 7) (Nat.le_of_ble_eq_true rfl)
  rw [lg_entry_eq]
  generalize (lg_sl ([.ref b]) ++ List.replicate (7 - (lg_sl ([.ref b])).length) Slot.unset).toArray = ls at hl ⊢
  have hl : lv_has ls 7 [(0, .ref b)] := hl
  refine y_new C hl hA hP hD hS (ci := 8) (N := 7) (Cn := RX10) (T := TX10) rfl wsX10_in tyX10 tyX10_ok df_X10 (i1 := 8) (i2 := 87) (TW_of 127 (by decide +kernel) (by decide +kernel)) in_X10 iz_X10 (k_X10_init l D dA) ⟨rfl, rfl⟩ ci_X10_init cc_X10_init cd_X10_init (Or.inl (TW_of 129 (by decide +kernel) (by decide +kernel))) ⟨rfl, rfl⟩ ⟨Nat.le_of_ble_eq_true rfl, Nat.le_of_ble_eq_true rfl⟩ (Nat.le_of_ble_eq_true rfl) (Nat.le_of_ble_eq_true rfl) (Nat.le_of_ble_eq_true rfl) dL_law_0 dL_law_3 dL_law_4 (fun u H locs hP hD hS => ?_)
  have hP : va_P D vwCl (wX10 dA u) H := hP
  have hD : va_D (fun q : Nat => s.heap.size ≤ q) (wX10 dA u) := hD
  refine y_at 7 125 6448 (by decide) (by decide) (by decide) ?_
  refine lv_astore_n (lv' := [(1, .ref (zX10 u)), (0, .ref b)]) hx hb dL_law_7 rfl hl (by decide) rfl (fun ls hl => ?_)
  refine va_new (D := D) (cl := vwCl) (tys := tyG dA) (ci := 9) (fs := fr11) (C := RX11) (T := TX11) (N := 43) (index := 88) hx hb hTW wsX11_in tyX11 tyX11_ok hown (hTW _ (TW_of 1363 (by decide +kernel) (by decide +kernel))) (hTW _ in_X11) (hTW _ iz_X11) hKG.1 hP hD hS hA rfl df_X11 (Nat.le_of_ble_eq_true rfl) (Nat.le_of_ble_eq_true rfl) dL_law_8 (fun q H hP hD hS => ?_)
  refine lv_dup hx hb dL_law_11 rfl ?_
  have hpre : PreS s H (va_Pc [.ref q] (PM D dA u q s.heap.size sa)) (.ref q :: []) := ⟨PM_blind, fun U hU hw => ⟨rfl, by rw [hU]; exact hP, hD, hKG.warm hw, by rw [hU]; exact hS.1, by rw [hU]; exact hSX.to hS hw⟩⟩
  refine va_callv (va_runI (As := []) (rest := [.ref q]) ⟨hx, hb, hml, hown, hTW⟩ (k_X11_init l D dA u q s.heap.size sa hsa hb1 ht1) ⟨callB_of 0 hTW (wY_good cc_X11_init) rfl rfl rfl (hTW _ iz_X11) (hTW _ (TW_of 1365 (by decide +kernel) (by decide +kernel))) cd_X11_init ⟨Nat.le_of_ble_eq_true rfl, Nat.le_of_ble_eq_true rfl⟩, rfl, hTW _ ci_X11_init⟩ hpre rfl rfl hl.1 rfl (lv_room (Nat.le_of_ble_eq_true rfl)) dL_law_12 ⟨Nat.le_of_ble_eq_true rfl, Nat.le_of_ble_eq_true rfl⟩) hS (fun _ _ h => h) (fun _ h => h) (fun w t H locs ht hvm hw hB _ _ hS => ?_)
  have hw : w 0 = q := hw
  subst hw
  have hP : va_P D vwCl (wl (ZS D dA u w s.heap.size sa) h0C g2) H := by rw [← ht]; exact hB.1
  have hD : va_D (fun q : Nat => s.heap.size ≤ q) (wl (ZS D dA u w s.heap.size sa) h0C g2) := wl_D hB.2.2.1
  refine y_at 15 145 12697 (by decide) (by decide) (by decide) ?_
  refine lv_astore_n (lv' := [(2, .ref (w 0)), (1, .ref (zX10 u)), (0, .ref b)]) hx hb dL_law_15 rfl hl (by decide) rfl (fun ls hl => ?_)
  refine lv_iconst (v := 1) hx hb dL_law_16 (by decide) ?_
  refine y_arr (a0 := (1, .inr (.inl (fun _ => 0)))) (N := 1) C hA hP hD hS (ty := .long) rfl 4 rfl ac_long (by decide) (by decide) (fun _ => rfl) (by decide) (Nat.le_of_ble_eq_true rfl) (Nat.le_of_ble_eq_true rfl) dL_law_17 (fun q3 H hP hD hS => ?_)
  refine lv_astore_n (lv' := [(3, .ref q3), (2, .ref (w 0)), (1, .ref (zX10 u)), (0, .ref b)]) hx hb dL_law_19 rfl hl (by decide) rfl (fun ls hl => ?_)
  refine lv_iconst (v := 0) hx hb dL_law_20 (by decide) ?_
  refine lv_istore (lv' := [(4, .int 0), (3, .ref q3), (2, .ref (w 0)), (1, .ref (zX10 u)), (0, .ref b)]) hx hb dL_law_21 hl (by decide) rfl (fun ls hl => ?_)
  have hWL := wl_more (Z := ZS D dA u w s.heap.size sa) (q := q3) (h := h0C) (g := g2) hsa hg2 (by decide +kernel) (by decide +kernel) (by decide +kernel) (by decide +kernel)
  have hP : va_P D vwCl (wl (ZL (ZS D dA u w s.heap.size sa) q3) h0C g2) H := by rw [hWL]; exact hP
  have hD : va_D (fun q : Nat => s.heap.size ≤ q) (wl (ZL (ZS D dA u w s.heap.size sa) q3) h0C g2) := by rw [hWL]; exact hD
  have CC : CX p s m #[Value.ref b] meth c cL_law RL 7 ret (ZL (ZS D dA u w s.heap.size sa) q3) := ⟨hx, hb, hTW, hown, hml, hr, hlocks, hKG.1, wl_D hD, Nat.le_refl _, SX_more (Z := ZS D dA u w s.heap.size sa) hSX⟩
  refine y_at 23 146 12698 (by decide) (by decide) (by decide) ?_
  exact k_loop rfl hlt CC hX hbl rfl hL 513 0 146 12698 h0C g2 H locs ls (Nat.zero_le _) ⟨by decide, by decide⟩ ⟨hP, hS⟩ (lv_sub hl [0, 4, 3, 2, 1] rfl) (run_all xs L 513 0 h0C g2 hIV (by decide) (by omega))
