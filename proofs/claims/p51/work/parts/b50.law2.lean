/-! the law from its entry -/
theorem mul_succ_l {a n : Nat} : a * (n + 1) = a + a * n := by rw [Nat.mul_succ, Nat.add_comm]
theorem f_law_s {n : Nat} {v : Int32} (h : f_law (n + 1) v = some ()) : ∃ v', f_one v = some v' ∧ f_law n v' = some () := by
  unfold f_law at h
  exact bnd_t h
theorem nI_s : ∀ i, i < 9 → nI i + 1 = nI (i + 1) := by decide +kernel
theorem Pn_blind2 {As : List Value} {D : va_G} {dA : Nat → ClassId} {r sz : Nat} {e0 : va_E} : FrameBlind (va_Pc As (Pn D dA r e0 sz)) := fun a U g mk q => ⟨q.1, q.2.1, q.2.2.1, q.2.2.2.1, q.2.2.2.2.calls g mk a⟩
section LW3
variable {p : Program} {l : Launch} {e : Env} {s : State} {m : MethodId} {b : Nat} {below : List Frame} {meth : Method} {c : Code}
set_option maxHeartbeats 4000000 in
set_option maxRecDepth 100000 in
theorem k_loop {D : va_G} {dA : Nat → ClassId} {sa : Nat → Nat} (hlt : l.stackTraces = false) (C : CCx p s m #[Value.ref b] c cL_law RL 6 D dA) (hr : meth.sig.returnType = ret) (hlocks : meth.locks = false) (hSX : ∀ z1 : Nat → Nat, SX (z1, D, dA, s.heap.size, sa) s s.heap ∧ PX (z1, D, dA, s.heap.size, sa) s s.heap) {L : Nat} {xs : Nat → Int32} (hX : va_X b L xs s s.heap) (hbl : b < s.heap.size) (hL : L ≤ 260) {d : Nat} : ∀ (n i : Nat) (v : Int32) (H : Heap) (locs : List Loc) (ls : Array Slot) (cells slots : Nat), 1 ≤ i → i + n = 8 → f_law n v = some () → cells + 732 * n ≤ 163746 → slots + 370648 * n ≤ 8610462 → va_P D vwCl [(d, .inr (10, [.int v]))] H → va_D (fun q : Nat => s.heap.size ≤ q) [(d, .inr (10, [.int v]))] → va_S (fun q : Nat => s.heap.size ≤ q) s.heap H locs → lv_has ls 6 [(2, .int (nI i)), (1, .ref d), (0, .ref b)] → W p l e room_1 s m #[Value.ref b] below meth c H locs cells slots (lw_Z below #[Value.ref b] s) (F0 m 22 ls []) := by
  have hbA : ¬ (fun q : Nat => s.heap.size ≤ q) b := Nat.not_le.mpr hbl
  have stop : ∀ (H : Heap) (locs : List Loc) (ls : Array Slot) (cells slots : Nat), cells ≤ 163746 → slots ≤ 8610462 → va_S (fun q : Nat => s.heap.size ≤ q) s.heap H locs → W p l e room_1 s m #[Value.ref b] below meth c H locs cells slots (lw_Z below #[Value.ref b] s) (F0 m 158 ls []) := by
    intro H locs ls cells slots hc hs hS
    refine W.widen (k := 163746) (n := 8610462) hc hs ?_
    refine lv_iconst (v := 1) C.1 C.2.1 dL_law_158 (by decide) ?_
    refine va_forget (fun q hq => hS.2.2 q hq) ?_
    exact lw_ret C.1 C.2.1 hr hlocks dL_law_159
  intro n
  induction n with
  | zero =>
    intro i v H locs ls cells slots hi hn hf hc hs hP hD hS hl
    refine lv_iload_n C.1 C.2.1 dL_law_22 rfl (lv_at hl 0 rfl) ?_
    refine lv_aload_n C.1 C.2.1 dL_law_23 rfl (lv_at hl 2 rfl) ?_
    refine va_slen C.1 C.2.1 hX hbl hbA hS dL_law_24 ?_
    refine lv_icmp_ge (tgt := 158) C.1 C.2.1 dL_law_25 (by decide) (fun _ => stop H locs ls cells slots (by omega) (by omega) hS) (fun _ => ?_)
    refine lv_iload_n C.1 C.2.1 dL_law_28 rfl (lv_at hl 0 rfl) ?_
    refine lv_bipush (v := 8) C.1 C.2.1 dL_law_29 (by decide) ?_
    have hi8 : i = 8 := by omega
    subst hi8
    exact lv_icmp_ge (tgt := 158) C.1 C.2.1 dL_law_31 (by decide) (fun _ => stop H locs ls cells slots (by omega) (by omega) hS) (fun q => absurd (by decide) q)
  | succ n ih =>
    intro i v H locs ls cells slots hi hn hf hc hs hP hD hS hl
    obtain ⟨v', hf1, hf2⟩ := f_law_s hf
    have hc1 : cells + 732 + 732 * n ≤ 163746 := by rw [Nat.add_assoc, ← mul_succ_l ]; exact hc
    have hs1 : slots + 370648 + 370648 * n ≤ 8610462 := by rw [Nat.add_assoc, ← mul_succ_l]; exact hs
    have hc2 : cells + 732 ≤ 163746 := Nat.le_trans (Nat.le_add_right _ _) hc1
    have hs2 : slots + 370648 ≤ 8610462 := Nat.le_trans (Nat.le_add_right _ _) hs1
    have hc3 : cells ≤ 163746 := Nat.le_trans (Nat.le_add_right _ _) hc
    have hs3 : slots ≤ 8610462 := Nat.le_trans (Nat.le_add_right _ _) hs
    refine lv_iload_n C.1 C.2.1 dL_law_22 rfl (lv_at hl 0 rfl) ?_
    refine lv_aload_n C.1 C.2.1 dL_law_23 rfl (lv_at hl 2 rfl) ?_
    refine va_slen C.1 C.2.1 hX hbl hbA hS dL_law_24 ?_
    refine lv_icmp_ge (tgt := 158) C.1 C.2.1 dL_law_25 (by decide) (fun _ => stop H locs ls cells slots hc3 hs3 hS) (fun _ => ?_)
    refine lv_iload_n C.1 C.2.1 dL_law_28 rfl (lv_at hl 0 rfl) ?_
    refine lv_bipush (v := 8) C.1 C.2.1 dL_law_29 (by decide) ?_
    refine lv_icmp_ge (tgt := 158) C.1 C.2.1 dL_law_31 (by decide) (fun _ => stop H locs ls cells slots hc3 hs3 hS) (fun _ => ?_)
    refine k_one hlt C hr hlocks hSX (cells := cells) (slots := slots) hc2 hs2 hP hD hS hl hf1 (fun H locs ls hP hD hS hl => ?_)
    refine lv_iinc (v := nI (i + 1)) (lv' := [(2, .int (nI (i + 1))), (1, .ref d), (0, .ref b)]) C.1 C.2.1 dL_law_152 hl (k := 0) rfl (nI_s i (by omega)) (by decide) rfl (fun ls hl => ?_)
    refine lv_goto (tgt := 22) C.1 C.2.1 dL_law_155 (by decide) ?_
    exact ih (i + 1) v' H locs ls (cells + 732) (slots + 370648) (by omega) (by omega) hf2 hc1 hs1 hP hD hS hl
set_option maxHeartbeats 4000000 in
set_option maxRecDepth 100000 in
/-- THE LAW, from its entry, once its pure function comes to its end for every seed -/
theorem law_start (hrun : ∀ v, f_law 7 v = some ()) (l : Launch) (hflags : l.flags = flags0) {L : Nat} {xs : Nat → Int32} (hL : L ≤ 260) (C0 : lw_At p s m meth c b L xs) : W p l e room_1 s m #[Value.ref b] below meth c s.heap [] 0 0 (lw_Z below #[Value.ref b] s) (entryFrame m ([Value.ref b] : List Value).toArray 6) := by
  obtain ⟨hx, hb, hr, hml, hown, hts, hX, hbl, hlocks, hgv⟩ := id C0
  have hTW : ∀ w ∈ TW, w.before #[Value.ref b] s = true := fun w hw => tb2_ok hts w (List.mem_filter.mp hw).1
  have hlt : l.stackTraces = false := by
    unfold Launch.stackTraces
    rw [hflags]
    decide
  obtain ⟨D, dA, hKG⟩ := start_KG hts
  obtain ⟨sa, hSX⟩ := start_SX hts hgv D dA hKG
  have hA : ∀ q : Nat, s.heap.size ≤ q → (fun q : Nat => s.heap.size ≤ q) q := fun _ h => h
  have hbA : ¬ (fun q : Nat => s.heap.size ≤ q) b := Nat.not_le.mpr hbl
  have hS : va_S (fun q : Nat => s.heap.size ≤ q) s.heap s.heap [] := va_S.rf
  have hP : va_P D vwCl [] s.heap := fun k q h => by simp at h
  have hD : va_D (fun q : Nat => s.heap.size ≤ q) [] := ⟨fun i j p q h => by simp at h, fun k q h => by simp at h⟩
  have C : CCx p s m #[Value.ref b] c cL_law RL 6 D dA := ⟨hx, hb, hTW, hown, hml, hKG⟩
  have hl := lv_entry ([.ref b]) (n := 6) (Nat.le_of_ble_eq_true rfl)
  rw [lg_entry_eq]
  generalize (lg_sl ([.ref b]) ++ List.replicate (6 - (lg_sl ([.ref b])).length) Slot.unset).toArray = ls at hl ⊢
  have hl : lv_has ls 6 [(0, .ref b)] := hl
  refine va_new (D := D) (cl := vwCl) (tys := tyG dA) (ci := 10) (fs := [.int 0]) (C := RX12) (T := TX12) (N := 1) (index := 113) hx hb hTW wsX12_in tyX12 tyX12_ok hown (hTW _ cl_L_113) (hTW _ in_X12) (hTW _ iz_X12) hKG.1 hP hD hS hA rfl df_X12 (Nat.le_of_ble_eq_true rfl) (Nat.le_of_ble_eq_true rfl) dL_law_0 (fun q H hP hD hS => ?_)
  refine lv_dup hx hb dL_law_3 rfl ?_
  refine lv_aload_n hx hb dL_law_4 rfl (lv_at hl 0 rfl) ?_
  refine va_slen hx hb hX hbl hbA hS dL_law_5 ?_
  have hP : va_P D vwCl [(q, .inr (10, [.int 0]))] H := hP
  have hD : va_D (fun q : Nat => s.heap.size ≤ q) [(q, .inr (10, [.int 0]))] := hD
  -- behind the choice
  have fin : ∀ v : Int32, W p l e room_1 s m #[Value.ref b] below meth c H [] 1 1 (lw_Z below #[Value.ref b] s) (F0 m 16 ls [.int v, .ref q, .ref q]) := by
    intro v
    have hF : ∀ x, va_A [(q, (.inr (10, [.int 0]) : va_E))] H.size x → (fun q : Nat => s.heap.size ≤ q) x := va_free (ws := [(q, .inr (10, [.int 0]))]) hD hS hA [0] rfl
    have hDc : va_D (fun _ => True) [(q, .inr (10, [.int 0]))] := hD.weaken (fun _ _ _ _ => trivial)
    have hpre : PreS s H (va_Pc [.ref q, .int v] (Pn D dA q (.inr (10, [.int 0])) H.size)) (.ref q :: [.int v]) := ⟨Pn_blind2, fun U hU hw => ⟨rfl, by rw [hU], by rw [hU]; exact hP, hDc, hKG.warm hw⟩⟩
    refine va_callv (va_runI (As := [.int v]) (rest := [.ref q]) (n := 1) ⟨hx, hb, hml, hown, hTW⟩ (k_X12_init l D dA v q H.size) ⟨callB_of 1 hTW (wY_good cc_X12_init) rfl rfl rfl (hTW _ iz_X12) (hTW _ cw_L_170.1) cw_L_170.2.2.2 ⟨Nat.le_of_ble_eq_true rfl, Nat.le_of_ble_eq_true rfl⟩, rfl, hTW _ ci_X12_init⟩ hpre rfl rfl hl.1 rfl (lv_room (Nat.le_of_ble_eq_true rfl)) dL_law_16 ⟨Nat.le_of_ble_eq_true rfl, Nat.le_of_ble_eq_true rfl⟩) hS (fun x _ h => hF x h) hF (fun u t H2 locs2 ht hvm hw hB hz1 hk1 hS2 => ?_)
    obtain ⟨hP2, hD2⟩ := hB
    rw [ht] at hP2
    have hP2 : va_P D vwCl [(q, .inr (10, [.int v]))] H2 := hP2
    have hD2 : va_D (fun q : Nat => s.heap.size ≤ q) [(q, .inr (10, [.int v]))] := hD.set (p := 0) (e := .inr (10, [.int v])) rfl
    refine y_at 19 1 1 (by decide) (by decide) (by decide) ?_
    refine lv_astore_n (lv' := [(1, .ref q), (0, .ref b)]) hx hb dL_law_19 rfl hl (by decide) rfl (fun ls hl => ?_)
    refine lv_iconst (v := 1) hx hb dL_law_20 (by decide) ?_
    refine lv_istore_n (lv' := [(2, .int 1), (1, .ref q), (0, .ref b)]) hx hb dL_law_21 rfl hl (by decide) rfl (fun ls hl => ?_)
    exact k_loop hlt C hr hlocks hSX hX hbl hL 7 1 v H2 _ ls 1 1 (by decide) (by decide) (hrun v) (by decide) (by decide) hP2 hD2 hS2 hl
  refine lv_if_le (tgt := 15) hx hb dL_law_6 (by decide) (fun _ => ?_) (fun hpos => ?_)
  · refine lv_iconst (v := 0) hx hb dL_law_15 (by decide) ?_
    exact fin 0
  · refine lv_aload_n hx hb dL_law_9 rfl (lv_at hl 0 rfl) ?_
    refine lv_iconst (v := 0) hx hb dL_law_10 (by decide) ?_
    have h0 : 0 < L := by
      apply Classical.byContradiction
      intro z
      have z : L = 0 := by omega
      subst z
      exact hpos (by decide)
    refine va_sld hx hb hX hbl hbA hS (i := 0) (by show ¬ ((0 : Int32) < 0 ∨ L ≤ (0 : Int32).toNatClampNeg); intro q; rcases q with q | q; exact absurd q (by decide); have : (0 : Int32).toNatClampNeg = 0 := by decide
                                                   omega) dL_law_11 ?_
    refine lv_goto (tgt := 16) hx hb dL_law_12 (by decide) ?_
    exact fin _
end LW3
