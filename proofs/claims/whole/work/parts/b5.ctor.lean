/-! the model's constructor: the walk -/
/-- before the model's constructor: the class's objects, the fresh model -/
def PM (D : va_G) (dA : Nat → ClassId) (u : SX10) (q sz0 : Nat) (sa : Nat → Nat) (U : State) : Prop := va_P D vwCl (wX10 dA u ++ [(q, .inr (9, fr11))]) U.heap ∧ va_D (fun x => sz0 ≤ x) (wX10 dA u ++ [(q, .inr (9, fr11))]) ∧ KG D dA U ∧ sz0 ≤ U.heap.size ∧ SX ((fun _ => 0), D, dA, sz0, sa) U U.heap
theorem PM_blind {As : List Value} {D : va_G} {dA : Nat → ClassId} {u : SX10} {q sz0 : Nat} {sa : Nat → Nat} : FrameBlind (va_Pc As (PM D dA u q sz0 sa)) := fun a U gg mk q => ⟨q.1, q.2.1, q.2.2.1, q.2.2.2.1.calls gg mk a, q.2.2.2.2.1, q.2.2.2.2.2.to va_S.rf (State.WarmedH.refl U)⟩
/-- the fresh model to the front -/
theorem toFront {D : va_G} {A : Nat → Prop} {ws : va_W} {z : Nat × va_E} {H : Heap} (hP : va_P D vwCl (ws ++ [z]) H) (hD : va_D A (ws ++ [z])) : va_P D vwCl (z :: ws) H ∧ va_D A (z :: ws) := by
  have hq : ∀ k (x : Nat × va_E), (z :: ws)[k]? = some x → (ws ++ [z])[if k = 0 then ws.length else k - 1]? = some x := by
    intro k x h
    cases k with
    | zero =>
      rw [if_pos rfl, List.getElem?_append_right (Nat.le_refl _), Nat.sub_self]
      exact h
    | succ k =>
      rw [if_neg (Nat.succ_ne_zero k)]
      have h : ws[k]? = some x := h
      show (ws ++ [z])[k]? = some x
      rw [List.getElem?_append_left (List.getElem?_eq_some_iff.mp h).1]
      exact h
  refine ⟨hP.by _ hq, hD.by _ hq (fun i j hi hj h => ?_)⟩
  have hi : i < ws.length + 1 := hi
  have hj : j < ws.length + 1 := hj
  by_cases a : i = 0 <;> by_cases b : j = 0
  · omega
  · rw [if_pos a, if_neg b] at h; omega
  · rw [if_neg a, if_pos b] at h; omega
  · rw [if_neg a, if_neg b] at h; omega
/-- the whole world out of its parts -/
theorem toWl {D : va_G} {dA : Nat → ClassId} {u : SX10} {w : Nat → Nat} {sz0 : Nat} {sa : Nat → Nat} {A : Nat → Prop} {H : Heap} (hsa : sa 1000 = 0) (hP : va_P D vwCl (WS0 dA u w) H) (hD : va_D A (WS0 dA u w)) : va_P D vwCl (wl (ZS D dA u w sz0 sa) h0C g0M) H ∧ va_D A (wl (ZS D dA u w sz0 sa) h0C g0M) := by
  rw [WS0_eq] at hP hD
  have hP2 := w_conv (i := 34) (g := fun j => some ((adS u w).getD (23 + 5 * j) 0)) hP (WS0x_34 dA u w) (fun j hj => by
    rcases (show j = 0 ∨ j = 1 ∨ j = 2 ∨ j = 3 ∨ j = 4 ∨ j = 5 ∨ j = 6 ∨ j = 7 ∨ j = 8 ∨ j = 9 ∨ j = 10 ∨ j = 11 by omega) with rfl | rfl | rfl | rfl | rfl | rfl | rfl | rfl | rfl | rfl | rfl | rfl
    · exact congrArg some (zj_0 u w)
    · exact congrArg some (zj_1 u w)
    · exact congrArg some (zj_2 u w)
    · exact congrArg some (zj_3 u w)
    · exact congrArg some (zj_4 u w)
    · exact congrArg some (zj_5 u w)
    · exact congrArg some (zj_6 u w)
    · exact congrArg some (zj_7 u w)
    · exact congrArg some (zj_8 u w)
    · exact congrArg some (zj_9 u w)
    · exact congrArg some (zj_10 u w)
    · exact congrArg some (zj_11 u w))
  have hD2 := hD.set (p := 34) (e := .inl (dA 3, 12, .inr (.inr (.inr (.inr (fun j => some ((adS u w).getD (23 + 5 * j) 0))))))) (WS0x_34 dA u w)
  rw [WSx_eq] at hP2 hD2
  have hn : NM (ZS D dA u w sz0 sa) = 145 := by show 145 + sa 1000 = 145; rw [hsa]
  have hq : ∀ k (z : Nat × va_E), (wl (ZS D dA u w sz0 sa) h0C g0M)[k]? = some z → (WSx dA u w)[posS.getD k 0]? = some z := by
    intro k z h
    have hk : k < NM (ZS D dA u w sz0 sa) := by have := (List.getElem?_eq_some_iff.mp h).1; rwa [wl_len] at this
    rw [wl_atm hk] at h
    rw [← Option.some.inj h]
    rw [hn] at hk
    have := ok_c145 (D := D) (dA := dA) (u := u) (w := w) (sz0 := sz0) (sa := sa) k hk
    exact this
  exact ⟨hP2.by _ hq, hD2.by _ hq (fun i j hi hj h => by
    rw [wl_len, hn] at hi hj
    exact posS_inj i hi j hj h)⟩
section YC
variable {p : Program} {l : Launch} {e : Env} {R : Room} {s : State} {m : MethodId} {args : Array Value} {below : List Frame} {meth : Method} {c : Code} {H : Heap} {locs : List Loc} {cells slots : Nat} {Q : State → Prop} {cc bytes : ByteArray} {pc nL maxL : Nat} {ls : Array Slot} {rest : List Value} {D : va_G} {dA : Nat → ClassId} {own : String} {A : Nat → Prop} {ws wr : va_W} {lv : List (Nat × Value)} {y : MethodName} {rm : Room}
/-- a new array of numbers, behind an object at the front -/
theorem y_arrF (C : CCx p s m args c cc own nL D dA) (hA : ∀ q : Nat, s.heap.size ≤ q → A q) {z : Nat × va_E} (hP : va_P D vwCl (z :: wr) H) (hD : va_D A (z :: wr)) (hS : va_S A s.heap H locs) {atype : ArrayType} {ty : FieldType} (hty : newarray.typeOf atype = ty) (i : Nat) (hi : (tyG dA)[i]? = some (dA i, ty)) (harr : Cond.arrayClass (newarray.typeOf atype) ∈ TW) {n : Int32} {N : Nat} (hn : ¬ n < 0) (hN : n.toNatClampNeg = N) {a0 : vp_A} (ha : ∀ cA : ClassId, vp_cell cA a0 = arrV cA N (fun _ => defaultValue ty)) (hbytes : N * componentBytes ty ≤ 536870912) (hcells : cells + 1 ≤ R.cells) (hslots : slots + N ≤ R.slots) (hd : decode cc pc = .ok (.newarray atype, 2))
    (kk : ∀ (q : Nat) (H1 : Heap), va_P D vwCl (z :: (wr ++ [(q, .inl (dA i, a0))])) H1 → va_D A (z :: (wr ++ [(q, .inl (dA i, a0))])) → va_S A s.heap H1 locs → W p l e R s m args below meth c H1 locs (cells + 1) (slots + N) Q (F0 m (pc + 2) ls (.ref q :: rest))) : W p l e R s m args below meth c H locs cells slots Q (F0 m pc ls (.int n :: rest)) :=
  y_arr C hA hP hD hS hty i hi harr hn hN ha hbytes hcells hslots hd kk
theorem y_putF2 (C : CCx p s m args c cc own nL D dA) (hin2 : meth.name = "<init>") {r ci N : Nat} {fs : List Value} {T : u_T} (hP : va_P D vwCl ((r, .inr (ci, fs)) :: wr) H) (hD : va_D A ((r, .inr (ci, fs)) :: wr)) (hS : va_S A s.heap H locs) (hc : vwCl[ci]? = some (own, T, N)) (hin : ∀ w ∈ u_ws own T N, w ∈ TW) (ty0 : Nat → FieldType) (hty : ∀ k, k < N → parseFieldDescriptor (T k).2.2.1 = some (ty0 k)) (hnm : ∀ a, a < N → ∀ b, b < N → a ≠ b → (T a).2.1 ≠ (T b).2.1) (k idx : Nat) (hk : k < N) (hlk : Cond.fieldLink own idx own (T k).2.1 (T k).2.2.1 ∈ TW) (hr : (T k).1 = own) (hfin : (T k).2.2.2 = true) {ty : FieldType} {v : Value} (hdt : parseFieldDescriptor (T k).2.2.1 = some ty) (hn : narrow ty v = v) (hfit : fits ty v = true) (hlen : k < fs.length) (fs' : List Value) (hfs : fs.set k v = fs') (hd : decode cc pc = .ok (.putfield idx, 3))
    (kk : ∀ (H1 : Heap) (locs1 : List Loc), va_P D vwCl ((r, .inr (ci, fs')) :: wr) H1 → va_D A ((r, .inr (ci, fs')) :: wr) → va_S A s.heap H1 locs1 → W p l e R s m args below meth c H1 locs1 cells slots Q (F0 m (pc + 3) ls rest)) : W p l e R s m args below meth c H locs cells slots Q (F0 m pc ls (v :: .ref r :: rest)) := by
  subst hfs
  exact y_putF C hin2 hP hD hS hc hin ty0 hty hnm k idx hk hlk hr hfin hdt hn hfit hlen hd kk
theorem y_put2 (C : CCx p s m args c cc own nL D dA) {r ci N : Nat} {fs : List Value} {T : u_T} (hP : va_P D vwCl ((r, .inr (ci, fs)) :: wr) H) (hD : va_D A ((r, .inr (ci, fs)) :: wr)) (hS : va_S A s.heap H locs) (hc : vwCl[ci]? = some (own, T, N)) (hin : ∀ w ∈ u_ws own T N, w ∈ TW) (ty0 : Nat → FieldType) (hty : ∀ k, k < N → parseFieldDescriptor (T k).2.2.1 = some (ty0 k)) (hnm : ∀ a, a < N → ∀ b, b < N → a ≠ b → (T a).2.1 ≠ (T b).2.1) (k idx : Nat) (hk : k < N) (hlk : Cond.fieldLink own idx own (T k).2.1 (T k).2.2.1 ∈ TW) (hr : (T k).1 = own) (hfin : (T k).2.2.2 = false) {ty : FieldType} {v : Value} (hdt : parseFieldDescriptor (T k).2.2.1 = some ty) (hn : narrow ty v = v) (hfit : fits ty v = true) (hlen : k < fs.length) (fs' : List Value) (hfs : fs.set k v = fs') (hd : decode cc pc = .ok (.putfield idx, 3))
    (kk : ∀ (H1 : Heap) (locs1 : List Loc), va_P D vwCl ((r, .inr (ci, fs')) :: wr) H1 → va_D A ((r, .inr (ci, fs')) :: wr) → va_S A s.heap H1 locs1 → W p l e R s m args below meth c H1 locs1 cells slots Q (F0 m (pc + 3) ls rest)) : W p l e R s m args below meth c H locs cells slots Q (F0 m pc ls (v :: .ref r :: rest)) := by
  subst hfs
  exact y_put C hP hD hS hc hin ty0 hty hnm k idx hk hlk hr hfin hdt hn hfit hlen hd kk
end YC
/-- numbers laid out -/
theorem y_at {p : Program} {l : Launch} {e : Env} {R : Room} {s : State} {m : MethodId} {args : Array Value} {below : List Frame} {meth : Method} {c : Code} {H : Heap} {locs : List Loc} {cells slots : Nat} {Q : State → Prop} {pc : Nat} {ls : Array Slot} {rest : List Value} (pc' cells' slots' : Nat) (h1 : pc = pc') (h2 : cells = cells') (h3 : slots = slots') (k : W p l e R s m args below meth c H locs cells' slots' Q (F0 m pc' ls rest)) : W p l e R s m args below meth c H locs cells slots Q (F0 m pc ls rest) := by
  subst h1 h2 h3
  exact k
set_option maxHeartbeats 4000000 in
set_option maxRecDepth 100000 in
theorem k_X11_init (l : Launch) (D : va_G) (dA : Nat → ClassId) (u : SX10) (q sz0 : Nat) (sa : Nat → Nat) (hsa : sa 1000 = 0) {g1 g2 : Hp} (hb : f_X11_begins g0M = some g1) (ht : f_X11_takesOver g1 = some g2) : Met l yX11_init (wY yX11_init cX11_init 1 none) ({ frames := 5, cells := 19, slots := 6206, locals := 171 } : Room) (va_Pc [.ref q] (PM D dA u q sz0 sa)) (va_Qv (fun w : Nat → Nat => w 0 = q) (fun w => Wd (ZS D dA u w sz0 sa) h0C g2) (fun x => sz0 ≤ x)) 19 6206 (fun x => sz0 ≤ x) := by
  refine Met.ofW (cc := cX11_init) (maxL := 1) (ret := none) (by decide +kernel) rfl ?_
  intro p e s m args below meth c s₁ B hml hv
  obtain ⟨rfl, hP, hD, hK, hsz, hSX⟩ := hv
  have hts := atoms_spec (ws := wY yX11_init cX11_init 1 none) B.pre
  have hin2 : meth.name = "<init>" := (name_of_methodNamed B.named B.method).1
  have hl := lv_entry [.ref q] (n := 1) (Nat.le_of_ble_eq_true rfl)
  rw [lg_entry_eq]
  generalize (lg_sl [.ref q] ++ List.replicate (1 - (lg_sl [.ref q]).length) Slot.unset).toArray = ls at hl ⊢
  have hl : lv_has ls 1 [(0, .ref q)] := hl
  have C : CCx p s m (List.toArray [.ref q]) c cX11_init RX11 1 D dA := ⟨B.exec, B.bytes, fun w hw => hts w (List.mem_cons_of_mem _ hw), findClass_of_methodNamed B.named, hml, hK⟩
  have hr := B.returns
  have hlocks := B.notSynchronized
  have hA : ∀ x : Nat, s.heap.size ≤ x → (fun x => sz0 ≤ x) x := fun x hx => Nat.le_trans hsz hx
  obtain ⟨hP, hD⟩ := toFront hP hD
  have hS : va_S (fun x => sz0 ≤ x) s.heap s.heap [] := va_S.rf
  have hP : va_P D vwCl ((q, .inr (9, [.int 0, .null, .null, .int 0, .null, .null, .null, .null, .null, .null, .null, .null, .null, .int 0, .null, .null, .int 0, .int 0, .int 0, .int 0, .int 0, .int 0, .int 0, .int 0, .null, .null, .int 0, .int 0, .int 0, .int 0, .int 0, .int 0, .int 0, .int 0, .null, .null, .int 0, .null, .int 0, .int 0, .int 0, .null, .int 0])) :: (wX10 dA u)) s.heap := hP
  have hD : va_D (fun x => sz0 ≤ x) ((q, .inr (9, [.int 0, .null, .null, .int 0, .null, .null, .null, .null, .null, .null, .null, .null, .null, .int 0, .null, .null, .int 0, .int 0, .int 0, .int 0, .int 0, .int 0, .int 0, .int 0, .null, .null, .int 0, .int 0, .int 0, .int 0, .int 0, .int 0, .int 0, .int 0, .null, .null, .int 0, .null, .int 0, .int 0, .int 0, .null, .int 0])) :: (wX10 dA u)) := hD
  refine lv_aload_n C.1 C.2.1 dX11_init_0 rfl (lv_at hl 0 rfl) ?_
  refine y_obj C hl ml_X11_obj oi_i oi_c dX11_init_1 ⟨Nat.le_of_ble_eq_true rfl, Nat.le_of_ble_eq_true rfl⟩ ?_
  refine lv_aload_n C.1 C.2.1 dX11_init_4 rfl (lv_at hl 0 rfl) ?_
  refine lv_sipush (v := 193) C.1 C.2.1 dX11_init_5 (by decide) ?_
  refine y_arrF (a0 := (193, .inl (fun _ => 0))) (N := 193) C hA hP hD hS (ty := .int) rfl 1 rfl ac_int (by decide) (by decide) (fun _ => rfl) (by decide) (Nat.le_of_ble_eq_true rfl) (Nat.le_of_ble_eq_true rfl) dX11_init_8 (fun a8 H hP hD hS => ?_)
  refine y_putF2 C hin2 hP hD hS (T := TX11) (N := 43) rfl wsX11_in tyX11 tyX11_ok nmX11 1 13 (by decide) fl_X11_13 rfl rfl (ty := .array .int) (v := .ref a8) (by decide +kernel) rfl rfl (Nat.le_of_ble_eq_true rfl) [.int 0, .ref a8, .null, .int 0, .null, .null, .null, .null, .null, .null, .null, .null, .null, .int 0, .null, .null, .int 0, .int 0, .int 0, .int 0, .int 0, .int 0, .int 0, .int 0, .null, .null, .int 0, .int 0, .int 0, .int 0, .int 0, .int 0, .int 0, .int 0, .null, .null, .int 0, .null, .int 0, .int 0, .int 0, .null, .int 0] rfl dX11_init_10 (fun H locs hP hD hS => ?_)
  refine y_at 13 1 193 (by decide) (by decide) (by decide) ?_
  refine lv_aload_n C.1 C.2.1 dX11_init_13 rfl (lv_at hl 0 rfl) ?_
  refine lv_sipush (v := 193) C.1 C.2.1 dX11_init_14 (by decide) ?_
  refine y_arrF (a0 := (193, .inl (fun _ => 0))) (N := 193) C hA hP hD hS (ty := .int) rfl 1 rfl ac_int (by decide) (by decide) (fun _ => rfl) (by decide) (Nat.le_of_ble_eq_true rfl) (Nat.le_of_ble_eq_true rfl) dX11_init_17 (fun a17 H hP hD hS => ?_)
  refine y_putF2 C hin2 hP hD hS (T := TX11) (N := 43) rfl wsX11_in tyX11 tyX11_ok nmX11 2 17 (by decide) fl_X11_17 rfl rfl (ty := .array .int) (v := .ref a17) (by decide +kernel) rfl rfl (Nat.le_of_ble_eq_true rfl) [.int 0, .ref a8, .ref a17, .int 0, .null, .null, .null, .null, .null, .null, .null, .null, .null, .int 0, .null, .null, .int 0, .int 0, .int 0, .int 0, .int 0, .int 0, .int 0, .int 0, .null, .null, .int 0, .int 0, .int 0, .int 0, .int 0, .int 0, .int 0, .int 0, .null, .null, .int 0, .null, .int 0, .int 0, .int 0, .null, .int 0] rfl dX11_init_19 (fun H locs hP hD hS => ?_)
  refine y_at 22 2 386 (by decide) (by decide) (by decide) ?_
  refine lv_aload_n C.1 C.2.1 dX11_init_22 rfl (lv_at hl 0 rfl) ?_
  refine lv_bipush (v := 40) C.1 C.2.1 dX11_init_23 (by decide) ?_
  refine y_arrF (a0 := (40, .inl (fun _ => 0))) (N := 40) C hA hP hD hS (ty := .int) rfl 1 rfl ac_int (by decide) (by decide) (fun _ => rfl) (by decide) (Nat.le_of_ble_eq_true rfl) (Nat.le_of_ble_eq_true rfl) dX11_init_25 (fun a25 H hP hD hS => ?_)
  refine y_putF2 C hin2 hP hD hS (T := TX11) (N := 43) rfl wsX11_in tyX11 tyX11_ok nmX11 4 20 (by decide) fl_X11_20 rfl rfl (ty := .array .int) (v := .ref a25) (by decide +kernel) rfl rfl (Nat.le_of_ble_eq_true rfl) [.int 0, .ref a8, .ref a17, .int 0, .ref a25, .null, .null, .null, .null, .null, .null, .null, .null, .int 0, .null, .null, .int 0, .int 0, .int 0, .int 0, .int 0, .int 0, .int 0, .int 0, .null, .null, .int 0, .int 0, .int 0, .int 0, .int 0, .int 0, .int 0, .int 0, .null, .null, .int 0, .null, .int 0, .int 0, .int 0, .null, .int 0] rfl dX11_init_27 (fun H locs hP hD hS => ?_)
  refine y_at 30 3 426 (by decide) (by decide) (by decide) ?_
  refine lv_aload_n C.1 C.2.1 dX11_init_30 rfl (lv_at hl 0 rfl) ?_
  refine lv_bipush (v := 40) C.1 C.2.1 dX11_init_31 (by decide) ?_
  refine y_arrF (a0 := (40, .inl (fun _ => 0))) (N := 40) C hA hP hD hS (ty := .int) rfl 1 rfl ac_int (by decide) (by decide) (fun _ => rfl) (by decide) (Nat.le_of_ble_eq_true rfl) (Nat.le_of_ble_eq_true rfl) dX11_init_33 (fun a33 H hP hD hS => ?_)
  refine y_putF2 C hin2 hP hD hS (T := TX11) (N := 43) rfl wsX11_in tyX11 tyX11_ok nmX11 5 23 (by decide) fl_X11_23 rfl rfl (ty := .array .int) (v := .ref a33) (by decide +kernel) rfl rfl (Nat.le_of_ble_eq_true rfl) [.int 0, .ref a8, .ref a17, .int 0, .ref a25, .ref a33, .null, .null, .null, .null, .null, .null, .null, .int 0, .null, .null, .int 0, .int 0, .int 0, .int 0, .int 0, .int 0, .int 0, .int 0, .null, .null, .int 0, .int 0, .int 0, .int 0, .int 0, .int 0, .int 0, .int 0, .null, .null, .int 0, .null, .int 0, .int 0, .int 0, .null, .int 0] rfl dX11_init_35 (fun H locs hP hD hS => ?_)
  refine y_at 38 4 466 (by decide) (by decide) (by decide) ?_
  refine lv_aload_n C.1 C.2.1 dX11_init_38 rfl (lv_at hl 0 rfl) ?_
  refine lv_bipush (v := 40) C.1 C.2.1 dX11_init_39 (by decide) ?_
  refine y_arrF (a0 := (40, .inl (fun _ => 0))) (N := 40) C hA hP hD hS (ty := .int) rfl 1 rfl ac_int (by decide) (by decide) (fun _ => rfl) (by decide) (Nat.le_of_ble_eq_true rfl) (Nat.le_of_ble_eq_true rfl) dX11_init_41 (fun a41 H hP hD hS => ?_)
  refine y_putF2 C hin2 hP hD hS (T := TX11) (N := 43) rfl wsX11_in tyX11 tyX11_ok nmX11 6 26 (by decide) fl_X11_26 rfl rfl (ty := .array .int) (v := .ref a41) (by decide +kernel) rfl rfl (Nat.le_of_ble_eq_true rfl) [.int 0, .ref a8, .ref a17, .int 0, .ref a25, .ref a33, .ref a41, .null, .null, .null, .null, .null, .null, .int 0, .null, .null, .int 0, .int 0, .int 0, .int 0, .int 0, .int 0, .int 0, .int 0, .null, .null, .int 0, .int 0, .int 0, .int 0, .int 0, .int 0, .int 0, .int 0, .null, .null, .int 0, .null, .int 0, .int 0, .int 0, .null, .int 0] rfl dX11_init_43 (fun H locs hP hD hS => ?_)
  refine y_at 46 5 506 (by decide) (by decide) (by decide) ?_
  refine lv_aload_n C.1 C.2.1 dX11_init_46 rfl (lv_at hl 0 rfl) ?_
  refine lv_bipush (v := 41) C.1 C.2.1 dX11_init_47 (by decide) ?_
  refine y_arrF (a0 := (41, .inl (fun _ => 0))) (N := 41) C hA hP hD hS (ty := .int) rfl 1 rfl ac_int (by decide) (by decide) (fun _ => rfl) (by decide) (Nat.le_of_ble_eq_true rfl) (Nat.le_of_ble_eq_true rfl) dX11_init_49 (fun a49 H hP hD hS => ?_)
  refine y_putF2 C hin2 hP hD hS (T := TX11) (N := 43) rfl wsX11_in tyX11 tyX11_ok nmX11 7 29 (by decide) fl_X11_29 rfl rfl (ty := .array .int) (v := .ref a49) (by decide +kernel) rfl rfl (Nat.le_of_ble_eq_true rfl) [.int 0, .ref a8, .ref a17, .int 0, .ref a25, .ref a33, .ref a41, .ref a49, .null, .null, .null, .null, .null, .int 0, .null, .null, .int 0, .int 0, .int 0, .int 0, .int 0, .int 0, .int 0, .int 0, .null, .null, .int 0, .int 0, .int 0, .int 0, .int 0, .int 0, .int 0, .int 0, .null, .null, .int 0, .null, .int 0, .int 0, .int 0, .null, .int 0] rfl dX11_init_51 (fun H locs hP hD hS => ?_)
  refine y_at 54 6 547 (by decide) (by decide) (by decide) ?_
  refine lv_aload_n C.1 C.2.1 dX11_init_54 rfl (lv_at hl 0 rfl) ?_
  refine lv_bipush (v := 40) C.1 C.2.1 dX11_init_55 (by decide) ?_
  refine y_arrF (a0 := (40, .inl (fun _ => 0))) (N := 40) C hA hP hD hS (ty := .int) rfl 1 rfl ac_int (by decide) (by decide) (fun _ => rfl) (by decide) (Nat.le_of_ble_eq_true rfl) (Nat.le_of_ble_eq_true rfl) dX11_init_57 (fun a57 H hP hD hS => ?_)
  refine y_putF2 C hin2 hP hD hS (T := TX11) (N := 43) rfl wsX11_in tyX11 tyX11_ok nmX11 8 32 (by decide) fl_X11_32 rfl rfl (ty := .array .int) (v := .ref a57) (by decide +kernel) rfl rfl (Nat.le_of_ble_eq_true rfl) [.int 0, .ref a8, .ref a17, .int 0, .ref a25, .ref a33, .ref a41, .ref a49, .ref a57, .null, .null, .null, .null, .int 0, .null, .null, .int 0, .int 0, .int 0, .int 0, .int 0, .int 0, .int 0, .int 0, .null, .null, .int 0, .int 0, .int 0, .int 0, .int 0, .int 0, .int 0, .int 0, .null, .null, .int 0, .null, .int 0, .int 0, .int 0, .null, .int 0] rfl dX11_init_59 (fun H locs hP hD hS => ?_)
  refine y_at 62 7 587 (by decide) (by decide) (by decide) ?_
  refine lv_aload_n C.1 C.2.1 dX11_init_62 rfl (lv_at hl 0 rfl) ?_
  refine lv_bipush (v := 40) C.1 C.2.1 dX11_init_63 (by decide) ?_
  refine y_arrF (a0 := (40, .inl (fun _ => 0))) (N := 40) C hA hP hD hS (ty := .int) rfl 1 rfl ac_int (by decide) (by decide) (fun _ => rfl) (by decide) (Nat.le_of_ble_eq_true rfl) (Nat.le_of_ble_eq_true rfl) dX11_init_65 (fun a65 H hP hD hS => ?_)
  refine y_putF2 C hin2 hP hD hS (T := TX11) (N := 43) rfl wsX11_in tyX11 tyX11_ok nmX11 9 35 (by decide) fl_X11_35 rfl rfl (ty := .array .int) (v := .ref a65) (by decide +kernel) rfl rfl (Nat.le_of_ble_eq_true rfl) [.int 0, .ref a8, .ref a17, .int 0, .ref a25, .ref a33, .ref a41, .ref a49, .ref a57, .ref a65, .null, .null, .null, .int 0, .null, .null, .int 0, .int 0, .int 0, .int 0, .int 0, .int 0, .int 0, .int 0, .null, .null, .int 0, .int 0, .int 0, .int 0, .int 0, .int 0, .int 0, .int 0, .null, .null, .int 0, .null, .int 0, .int 0, .int 0, .null, .int 0] rfl dX11_init_67 (fun H locs hP hD hS => ?_)
  refine y_at 70 8 627 (by decide) (by decide) (by decide) ?_
  refine lv_aload_n C.1 C.2.1 dX11_init_70 rfl (lv_at hl 0 rfl) ?_
  refine lv_sipush (v := 161) C.1 C.2.1 dX11_init_71 (by decide) ?_
  refine y_arrF (a0 := (161, .inl (fun _ => 0))) (N := 161) C hA hP hD hS (ty := .int) rfl 1 rfl ac_int (by decide) (by decide) (fun _ => rfl) (by decide) (Nat.le_of_ble_eq_true rfl) (Nat.le_of_ble_eq_true rfl) dX11_init_74 (fun a74 H hP hD hS => ?_)
  refine y_putF2 C hin2 hP hD hS (T := TX11) (N := 43) rfl wsX11_in tyX11 tyX11_ok nmX11 10 38 (by decide) fl_X11_38 rfl rfl (ty := .array .int) (v := .ref a74) (by decide +kernel) rfl rfl (Nat.le_of_ble_eq_true rfl) [.int 0, .ref a8, .ref a17, .int 0, .ref a25, .ref a33, .ref a41, .ref a49, .ref a57, .ref a65, .ref a74, .null, .null, .int 0, .null, .null, .int 0, .int 0, .int 0, .int 0, .int 0, .int 0, .int 0, .int 0, .null, .null, .int 0, .int 0, .int 0, .int 0, .int 0, .int 0, .int 0, .int 0, .null, .null, .int 0, .null, .int 0, .int 0, .int 0, .null, .int 0] rfl dX11_init_76 (fun H locs hP hD hS => ?_)
  refine y_at 79 9 788 (by decide) (by decide) (by decide) ?_
  refine lv_aload_n C.1 C.2.1 dX11_init_79 rfl (lv_at hl 0 rfl) ?_
  refine lv_sipush (v := 1932) C.1 C.2.1 dX11_init_80 (by decide) ?_
  refine y_arrF (a0 := (1932, .inl (fun _ => 0))) (N := 1932) C hA hP hD hS (ty := .int) rfl 1 rfl ac_int (by decide) (by decide) (fun _ => rfl) (by decide) (Nat.le_of_ble_eq_true rfl) (Nat.le_of_ble_eq_true rfl) dX11_init_83 (fun a83 H hP hD hS => ?_)
  refine y_putF2 C hin2 hP hD hS (T := TX11) (N := 43) rfl wsX11_in tyX11 tyX11_ok nmX11 11 41 (by decide) fl_X11_41 rfl rfl (ty := .array .int) (v := .ref a83) (by decide +kernel) rfl rfl (Nat.le_of_ble_eq_true rfl) [.int 0, .ref a8, .ref a17, .int 0, .ref a25, .ref a33, .ref a41, .ref a49, .ref a57, .ref a65, .ref a74, .ref a83, .null, .int 0, .null, .null, .int 0, .int 0, .int 0, .int 0, .int 0, .int 0, .int 0, .int 0, .null, .null, .int 0, .int 0, .int 0, .int 0, .int 0, .int 0, .int 0, .int 0, .null, .null, .int 0, .null, .int 0, .int 0, .int 0, .null, .int 0] rfl dX11_init_85 (fun H locs hP hD hS => ?_)
  refine y_at 88 10 2720 (by decide) (by decide) (by decide) ?_
  refine lv_aload_n C.1 C.2.1 dX11_init_88 rfl (lv_at hl 0 rfl) ?_
  refine lv_sipush (v := 161) C.1 C.2.1 dX11_init_89 (by decide) ?_
  refine y_arrF (a0 := (161, .inl (fun _ => 0))) (N := 161) C hA hP hD hS (ty := .int) rfl 1 rfl ac_int (by decide) (by decide) (fun _ => rfl) (by decide) (Nat.le_of_ble_eq_true rfl) (Nat.le_of_ble_eq_true rfl) dX11_init_92 (fun a92 H hP hD hS => ?_)
  refine y_putF2 C hin2 hP hD hS (T := TX11) (N := 43) rfl wsX11_in tyX11 tyX11_ok nmX11 12 44 (by decide) fl_X11_44 rfl rfl (ty := .array .int) (v := .ref a92) (by decide +kernel) rfl rfl (Nat.le_of_ble_eq_true rfl) [.int 0, .ref a8, .ref a17, .int 0, .ref a25, .ref a33, .ref a41, .ref a49, .ref a57, .ref a65, .ref a74, .ref a83, .ref a92, .int 0, .null, .null, .int 0, .int 0, .int 0, .int 0, .int 0, .int 0, .int 0, .int 0, .null, .null, .int 0, .int 0, .int 0, .int 0, .int 0, .int 0, .int 0, .int 0, .null, .null, .int 0, .null, .int 0, .int 0, .int 0, .null, .int 0] rfl dX11_init_94 (fun H locs hP hD hS => ?_)
  refine y_at 97 11 2881 (by decide) (by decide) (by decide) ?_
  refine lv_aload_n C.1 C.2.1 dX11_init_97 rfl (lv_at hl 0 rfl) ?_
  refine lv_sipush (v := 900) C.1 C.2.1 dX11_init_98 (by decide) ?_
  refine y_arrF (a0 := (900, .inl (fun _ => 0))) (N := 900) C hA hP hD hS (ty := .byte) rfl 0 rfl ac_byte (by decide) (by decide) (fun _ => rfl) (by decide) (Nat.le_of_ble_eq_true rfl) (Nat.le_of_ble_eq_true rfl) dX11_init_101 (fun a101 H hP hD hS => ?_)
  refine y_putF2 C hin2 hP hD hS (T := TX11) (N := 43) rfl wsX11_in tyX11 tyX11_ok nmX11 14 47 (by decide) fl_X11_47 rfl rfl (ty := .array .byte) (v := .ref a101) (by decide +kernel) rfl rfl (Nat.le_of_ble_eq_true rfl) [.int 0, .ref a8, .ref a17, .int 0, .ref a25, .ref a33, .ref a41, .ref a49, .ref a57, .ref a65, .ref a74, .ref a83, .ref a92, .int 0, .ref a101, .null, .int 0, .int 0, .int 0, .int 0, .int 0, .int 0, .int 0, .int 0, .null, .null, .int 0, .int 0, .int 0, .int 0, .int 0, .int 0, .int 0, .int 0, .null, .null, .int 0, .null, .int 0, .int 0, .int 0, .null, .int 0] rfl dX11_init_103 (fun H locs hP hD hS => ?_)
  refine y_at 106 12 3781 (by decide) (by decide) (by decide) ?_
  refine lv_aload_n C.1 C.2.1 dX11_init_106 rfl (lv_at hl 0 rfl) ?_
  refine lv_iconst (v := 5) C.1 C.2.1 dX11_init_107 (by decide) ?_
  refine y_arrF (a0 := (5, .inl (fun _ => 0))) (N := 5) C hA hP hD hS (ty := .int) rfl 1 rfl ac_int (by decide) (by decide) (fun _ => rfl) (by decide) (Nat.le_of_ble_eq_true rfl) (Nat.le_of_ble_eq_true rfl) dX11_init_108 (fun a108 H hP hD hS => ?_)
  refine y_putF2 C hin2 hP hD hS (T := TX11) (N := 43) rfl wsX11_in tyX11 tyX11_ok nmX11 15 51 (by decide) fl_X11_51 rfl rfl (ty := .array .int) (v := .ref a108) (by decide +kernel) rfl rfl (Nat.le_of_ble_eq_true rfl) [.int 0, .ref a8, .ref a17, .int 0, .ref a25, .ref a33, .ref a41, .ref a49, .ref a57, .ref a65, .ref a74, .ref a83, .ref a92, .int 0, .ref a101, .ref a108, .int 0, .int 0, .int 0, .int 0, .int 0, .int 0, .int 0, .int 0, .null, .null, .int 0, .int 0, .int 0, .int 0, .int 0, .int 0, .int 0, .int 0, .null, .null, .int 0, .null, .int 0, .int 0, .int 0, .null, .int 0] rfl dX11_init_110 (fun H locs hP hD hS => ?_)
  refine y_at 113 13 3786 (by decide) (by decide) (by decide) ?_
  refine lv_aload_n C.1 C.2.1 dX11_init_113 rfl (lv_at hl 0 rfl) ?_
  refine lv_iconst (v := -1) C.1 C.2.1 dX11_init_114 (by decide) ?_
  refine y_put2 C hP hD hS (T := TX11) (N := 43) rfl wsX11_in tyX11 tyX11_ok nmX11 22 54 (by decide) fl_X11_54 rfl rfl (ty := .int) (v := .int (-1)) (by decide +kernel) rfl rfl (Nat.le_of_ble_eq_true rfl) [.int 0, .ref a8, .ref a17, .int 0, .ref a25, .ref a33, .ref a41, .ref a49, .ref a57, .ref a65, .ref a74, .ref a83, .ref a92, .int 0, .ref a101, .ref a108, .int 0, .int 0, .int 0, .int 0, .int 0, .int 0, .int (-1), .int 0, .null, .null, .int 0, .int 0, .int 0, .int 0, .int 0, .int 0, .int 0, .int 0, .null, .null, .int 0, .null, .int 0, .int 0, .int 0, .null, .int 0] rfl dX11_init_115 (fun H locs hP hD hS => ?_)
  refine y_at 118 13 3786 (by decide) (by decide) (by decide) ?_
  refine lv_aload_n C.1 C.2.1 dX11_init_118 rfl (lv_at hl 0 rfl) ?_
  refine lv_sipush (v := 700) C.1 C.2.1 dX11_init_119 (by decide) ?_
  refine y_arrF (a0 := (700, .inl (fun _ => 0))) (N := 700) C hA hP hD hS (ty := .int) rfl 1 rfl ac_int (by decide) (by decide) (fun _ => rfl) (by decide) (Nat.le_of_ble_eq_true rfl) (Nat.le_of_ble_eq_true rfl) dX11_init_122 (fun a122 H hP hD hS => ?_)
  refine y_putF2 C hin2 hP hD hS (T := TX11) (N := 43) rfl wsX11_in tyX11 tyX11_ok nmX11 24 57 (by decide) fl_X11_57 rfl rfl (ty := .array .int) (v := .ref a122) (by decide +kernel) rfl rfl (Nat.le_of_ble_eq_true rfl) [.int 0, .ref a8, .ref a17, .int 0, .ref a25, .ref a33, .ref a41, .ref a49, .ref a57, .ref a65, .ref a74, .ref a83, .ref a92, .int 0, .ref a101, .ref a108, .int 0, .int 0, .int 0, .int 0, .int 0, .int 0, .int (-1), .int 0, .ref a122, .null, .int 0, .int 0, .int 0, .int 0, .int 0, .int 0, .int 0, .int 0, .null, .null, .int 0, .null, .int 0, .int 0, .int 0, .null, .int 0] rfl dX11_init_124 (fun H locs hP hD hS => ?_)
  refine y_at 127 14 4486 (by decide) (by decide) (by decide) ?_
  refine lv_aload_n C.1 C.2.1 dX11_init_127 rfl (lv_at hl 0 rfl) ?_
  refine lv_sipush (v := 700) C.1 C.2.1 dX11_init_128 (by decide) ?_
  refine y_arrF (a0 := (700, .inl (fun _ => 0))) (N := 700) C hA hP hD hS (ty := .int) rfl 1 rfl ac_int (by decide) (by decide) (fun _ => rfl) (by decide) (Nat.le_of_ble_eq_true rfl) (Nat.le_of_ble_eq_true rfl) dX11_init_131 (fun a131 H hP hD hS => ?_)
  refine y_putF2 C hin2 hP hD hS (T := TX11) (N := 43) rfl wsX11_in tyX11 tyX11_ok nmX11 25 60 (by decide) fl_X11_60 rfl rfl (ty := .array .int) (v := .ref a131) (by decide +kernel) rfl rfl (Nat.le_of_ble_eq_true rfl) [.int 0, .ref a8, .ref a17, .int 0, .ref a25, .ref a33, .ref a41, .ref a49, .ref a57, .ref a65, .ref a74, .ref a83, .ref a92, .int 0, .ref a101, .ref a108, .int 0, .int 0, .int 0, .int 0, .int 0, .int 0, .int (-1), .int 0, .ref a122, .ref a131, .int 0, .int 0, .int 0, .int 0, .int 0, .int 0, .int 0, .int 0, .null, .null, .int 0, .null, .int 0, .int 0, .int 0, .null, .int 0] rfl dX11_init_133 (fun H locs hP hD hS => ?_)
  refine y_at 136 15 5186 (by decide) (by decide) (by decide) ?_
  refine lv_aload_n C.1 C.2.1 dX11_init_136 rfl (lv_at hl 0 rfl) ?_
  refine lv_bipush (v := 40) C.1 C.2.1 dX11_init_137 (by decide) ?_
  refine y_arrF (a0 := (40, .inl (fun _ => 0))) (N := 40) C hA hP hD hS (ty := .int) rfl 1 rfl ac_int (by decide) (by decide) (fun _ => rfl) (by decide) (Nat.le_of_ble_eq_true rfl) (Nat.le_of_ble_eq_true rfl) dX11_init_139 (fun a139 H hP hD hS => ?_)
  refine y_putF2 C hin2 hP hD hS (T := TX11) (N := 43) rfl wsX11_in tyX11 tyX11_ok nmX11 34 63 (by decide) fl_X11_63 rfl rfl (ty := .array .int) (v := .ref a139) (by decide +kernel) rfl rfl (Nat.le_of_ble_eq_true rfl) [.int 0, .ref a8, .ref a17, .int 0, .ref a25, .ref a33, .ref a41, .ref a49, .ref a57, .ref a65, .ref a74, .ref a83, .ref a92, .int 0, .ref a101, .ref a108, .int 0, .int 0, .int 0, .int 0, .int 0, .int 0, .int (-1), .int 0, .ref a122, .ref a131, .int 0, .int 0, .int 0, .int 0, .int 0, .int 0, .int 0, .int 0, .ref a139, .null, .int 0, .null, .int 0, .int 0, .int 0, .null, .int 0] rfl dX11_init_141 (fun H locs hP hD hS => ?_)
  refine y_at 144 16 5226 (by decide) (by decide) (by decide) ?_
  refine lv_aload_n C.1 C.2.1 dX11_init_144 rfl (lv_at hl 0 rfl) ?_
  refine lv_bipush (v := 40) C.1 C.2.1 dX11_init_145 (by decide) ?_
  refine y_arrF (a0 := (40, .inl (fun _ => 0))) (N := 40) C hA hP hD hS (ty := .int) rfl 1 rfl ac_int (by decide) (by decide) (fun _ => rfl) (by decide) (Nat.le_of_ble_eq_true rfl) (Nat.le_of_ble_eq_true rfl) dX11_init_147 (fun a147 H hP hD hS => ?_)
  refine y_putF2 C hin2 hP hD hS (T := TX11) (N := 43) rfl wsX11_in tyX11 tyX11_ok nmX11 35 66 (by decide) fl_X11_66 rfl rfl (ty := .array .int) (v := .ref a147) (by decide +kernel) rfl rfl (Nat.le_of_ble_eq_true rfl) [.int 0, .ref a8, .ref a17, .int 0, .ref a25, .ref a33, .ref a41, .ref a49, .ref a57, .ref a65, .ref a74, .ref a83, .ref a92, .int 0, .ref a101, .ref a108, .int 0, .int 0, .int 0, .int 0, .int 0, .int 0, .int (-1), .int 0, .ref a122, .ref a131, .int 0, .int 0, .int 0, .int 0, .int 0, .int 0, .int 0, .int 0, .ref a139, .ref a147, .int 0, .null, .int 0, .int 0, .int 0, .null, .int 0] rfl dX11_init_149 (fun H locs hP hD hS => ?_)
  refine y_at 152 17 5266 (by decide) (by decide) (by decide) ?_
  refine lv_aload_n C.1 C.2.1 dX11_init_152 rfl (lv_at hl 0 rfl) ?_
  refine lv_bipush (v := 40) C.1 C.2.1 dX11_init_153 (by decide) ?_
  refine y_arrF (a0 := (40, .inl (fun _ => 0))) (N := 40) C hA hP hD hS (ty := .int) rfl 1 rfl ac_int (by decide) (by decide) (fun _ => rfl) (by decide) (Nat.le_of_ble_eq_true rfl) (Nat.le_of_ble_eq_true rfl) dX11_init_155 (fun a155 H hP hD hS => ?_)
  refine y_putF2 C hin2 hP hD hS (T := TX11) (N := 43) rfl wsX11_in tyX11 tyX11_ok nmX11 37 69 (by decide) fl_X11_69 rfl rfl (ty := .array .int) (v := .ref a155) (by decide +kernel) rfl rfl (Nat.le_of_ble_eq_true rfl) [.int 0, .ref a8, .ref a17, .int 0, .ref a25, .ref a33, .ref a41, .ref a49, .ref a57, .ref a65, .ref a74, .ref a83, .ref a92, .int 0, .ref a101, .ref a108, .int 0, .int 0, .int 0, .int 0, .int 0, .int 0, .int (-1), .int 0, .ref a122, .ref a131, .int 0, .int 0, .int 0, .int 0, .int 0, .int 0, .int 0, .int 0, .ref a139, .ref a147, .int 0, .ref a155, .int 0, .int 0, .int 0, .null, .int 0] rfl dX11_init_157 (fun H locs hP hD hS => ?_)
  refine y_at 160 18 5306 (by decide) (by decide) (by decide) ?_
  refine lv_aload_n C.1 C.2.1 dX11_init_160 rfl (lv_at hl 0 rfl) ?_
  refine lv_sipush (v := 900) C.1 C.2.1 dX11_init_161 (by decide) ?_
  refine y_arrF (a0 := (900, .inl (fun _ => 0))) (N := 900) C hA hP hD hS (ty := .byte) rfl 0 rfl ac_byte (by decide) (by decide) (fun _ => rfl) (by decide) (Nat.le_of_ble_eq_true rfl) (Nat.le_of_ble_eq_true rfl) dX11_init_164 (fun a164 H hP hD hS => ?_)
  refine y_putF2 C hin2 hP hD hS (T := TX11) (N := 43) rfl wsX11_in tyX11 tyX11_ok nmX11 41 72 (by decide) fl_X11_72 rfl rfl (ty := .array .byte) (v := .ref a164) (by decide +kernel) rfl rfl (Nat.le_of_ble_eq_true rfl) [.int 0, .ref a8, .ref a17, .int 0, .ref a25, .ref a33, .ref a41, .ref a49, .ref a57, .ref a65, .ref a74, .ref a83, .ref a92, .int 0, .ref a101, .ref a108, .int 0, .int 0, .int 0, .int 0, .int 0, .int 0, .int (-1), .int 0, .ref a122, .ref a131, .int 0, .int 0, .int 0, .int 0, .int 0, .int 0, .int 0, .int 0, .ref a139, .ref a147, .int 0, .ref a155, .int 0, .int 0, .int 0, .ref a164, .int 0] rfl dX11_init_166 (fun H locs hP hD hS => ?_)
  refine y_at 169 19 6206 (by decide) (by decide) (by decide) ?_
  refine lv_aload_n C.1 C.2.1 dX11_init_169 rfl (lv_at hl 0 rfl) ?_
  simp only [List.append_assoc, List.cons_append, List.nil_append] at hP hD
  obtain ⟨hP, hDl⟩ := toWl (w := (fun i => [q, a8, a17, a25, a33, a41, a49, a57, a65, a74, a83, a92, a101, a108, a122, a131, a139, a147, a155, a164].getD i 0)) (sz0 := sz0) hsa hP hD
  have hW : XW (ZS D dA u (fun i => [q, a8, a17, a25, a33, a41, a49, a57, a65, a74, a83, a92, a101, a108, a122, a131, a139, a147, a155, a164].getD i 0) sz0 sa) h0C g0M s.heap H locs := ⟨hP, hS⟩
  have C2 : CX p s m (List.toArray [.ref q]) meth c cX11_init RX11 1 none (ZS D dA u (fun i => [q, a8, a17, a25, a33, a41, a49, a57, a65, a74, a83, a92, a101, a108, a122, a131, a139, a147, a155, a164].getD i 0) sz0 sa) := ⟨C.1, C.2.1, C.2.2.1, C.2.2.2.1, C.2.2.2.2.1, hr, hlocks, C.2.2.2.2.2.1, wl_D hDl, hsz, hSX⟩
  refine x_callv hW (x_runV C2 hW hl (wk9 (k_125)) rfl rfl (c_X11_begins hb) (cw_X11_75) ci_X11_begins cs_X11_begins ⟨rfl, rfl, Nat.le_of_ble_eq_true rfl, Nat.le_of_ble_eq_true rfl⟩ ⟨Nat.le_of_ble_eq_true rfl, Nat.le_of_ble_eq_true rfl⟩ (As := []) rfl rfl (Nat.le_of_ble_eq_true rfl) dX11_init_170) (fun H locs hW => ?_)
  refine lv_aload_n C.1 C.2.1 dX11_init_173 rfl (lv_at hl 0 rfl) ?_
  refine x_callv hW (x_runV C2 hW hl (wk9 (k_125)) rfl rfl (c_X11_takesOver ht) (cw_X11_78) ci_X11_takesOver cs_X11_takesOver ⟨rfl, rfl, Nat.le_of_ble_eq_true rfl, Nat.le_of_ble_eq_true rfl⟩ ⟨Nat.le_of_ble_eq_true rfl, Nat.le_of_ble_eq_true rfl⟩ (As := []) rfl rfl (Nat.le_of_ble_eq_true rfl) dX11_init_174) (fun H locs hW => ?_)
  exact W.vret C.1 C.2.1 hr (fun t ht hw => ⟨⟨(fun i => [q, a8, a17, a25, a33, a41, a49, a57, a65, a74, a83, a92, a101, a108, a122, a131, a139, a147, a155, a164].getD i 0), rfl, rfl, by rw [ht]; exact hW.1, va_K.moved hw.alike C.2.2.2.2.2.1, wl_D hDl, by rw [ht]; exact Nat.le_trans hsz hW.2.1, by rw [ht]; exact hSX.to (Z := ZS D dA u (fun i => [q, a8, a17, a25, a33, a41, a49, a57, a65, a74, a83, a92, a101, a108, a122, a131, a139, a147, a155, a164].getD i 0) sz0 sa) hW.2 hw⟩, hW.2.F ht⟩) hW.2.2.2 dX11_init_177 hlocks
