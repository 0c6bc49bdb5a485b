/-! rows over the pool: fields, arrays, new cells, calls, ends -/
theorem assign_self {vm : Vm} {c : ClassId} : vm.assignable c c = true := by
  show (c == c || _) = true
  rw [beq_self_eq_true, Bool.true_or]
section ZJ
variable {p : Program} {l : Launch} {e : Env} {R : Room} {s : State} {m : MethodId} {args : Array Value} {below : List Frame} {meth : Method} {c : Code} {H : Heap} {locs : List Loc} {cells slots : Nat} {Q : State → Prop} {cc bytes : ByteArray} {pc nL tgt maxL n idx mc ms : Nat} {ret rt : Option FieldType} {ls : Array Slot} {rest st As : List Value} {Z : ZT} {h h1 : Hp} {a a0 : Nat → Nat} {g g0 g1 : PL} {own : String} {α : Type} {out : α} {rm : Room} {lv : List (Nat × Value)}
theorem z_get (C : CQ p s m args meth c cc own nL ret Z) (hW : XG Z h a g s.heap H locs) {o kd ci N : Nat} {fs : List Value} {Cn ref : String} {T : u_T} {v : Value} (ho : gk g o kd = true) (he : celP Z a kd (gl g o) (g.2.2 o) = .inr (ci, fs)) (hc : vwCl[ci]? = some (Cn, T, N)) (hin : ∀ w ∈ u_ws Cn T N, w ∈ TW) (j : Nat) (hj : j < N) (hl : Cond.fieldLink own idx ref (T j).2.1 (T j).2.2.1 ∈ TW) (hr : (T j).1 = ref) (hv : fs[j]? = some v) (hd : decode cc pc = .ok (.getfield idx, 3)) (k : W p l e R s m args below meth c H locs cells slots Q (F0 m (pc + 3) ls (v :: rest))) : W p l e R s m args below meth c H locs cells slots Q (F0 m pc ls (.ref (ra Z a o) :: rest)) :=
  va_get C.1 C.2.1 (own := own) C.2.2.1 hin C.2.2.2.1 C.2.2.2.2.2.2.2.1 hW.1 (125 + o) (pk_at hW.2.2.2 ho he) hc j hj (C.2.2.1 _ hl) (fun x q => by rw [hr] at q; exact q) hv hd k
theorem z_getN (C : CQ p s m args meth c cc own nL ret Z) (hW : XG Z h a g s.heap H locs) {o kd ci N : Nat} {host : String} {fs : List Value} {Cn ref : String} {T : u_T} {v : Value} (ho : gk g o kd = true) (he : celP Z a kd (gl g o) (g.2.2 o) = .inr (ci, fs)) (hc : vwCl[ci]? = some (Cn, T, N)) (hin : ∀ w ∈ u_ws Cn T N, w ∈ TW) (j : Nat) (hj : j < N) (hl : (own, idx, ref, (T j).2.1, (T j).2.2.1, host) ∈ flk) (hr : (T j).1 = ref) (hv : fs[j]? = some v) (hd : decode cc pc = .ok (.getfield idx, 3)) (k : W p l e R s m args below meth c H locs cells slots Q (F0 m (pc + 3) ls (v :: rest))) : W p l e R s m args below meth c H locs cells slots Q (F0 m pc ls (.ref (ra Z a o) :: rest)) :=
  va_getN C.1 C.2.1 (own := own) C.2.2.1 hin C.2.2.2.1 C.2.2.2.2.2.2.2.1 hW.1 (125 + o) (pk_at hW.2.2.2 ho he) hc j hj (va_Nw.use rfl (C.2.2.2.2.2.2.2.2.2.2.2.2.2 _ hl)) (fun x q => by rw [hr] at q; exact q) hv hd k
theorem z_put (C : CQ p s m args meth c cc own nL ret Z) (hW : XG Z h a g s.heap H locs) {o kd ci N : Nat} {fs : List Value} {Cn ref : String} {T : u_T} {v : Value} (ho : gk g o kd = true) (he : celP Z a kd (gl g o) (g.2.2 o) = .inr (ci, fs)) (hc : vwCl[ci]? = some (Cn, T, N)) (hin : ∀ w ∈ u_ws Cn T N, w ∈ TW) (ty0 : Nat → FieldType) (hty : ∀ k, k < N → parseFieldDescriptor (T k).2.2.1 = some (ty0 k)) (hnm : ∀ a, a < N → ∀ b, b < N → a ≠ b → (T a).2.1 ≠ (T b).2.1) (j : Nat) (hj : j < N) (hl : Cond.fieldLink own idx ref (T j).2.1 (T j).2.2.1 ∈ TW) (hr : (T j).1 = ref) (hfin : (T j).2.2.2 = false) {ty : FieldType} (hty2 : parseFieldDescriptor (T j).2.2.1 = some ty) (hn : narrow ty v = v) (hfit : fits ty v = true) (hlen : j < fs.length) {x : Int32} (he2 : celP Z a kd (gl g o) ((gu g o j x).2.2 o) = .inr (ci, fs.set j v)) (hpw : PW (gu g o j x)) (hd : decode cc pc = .ok (.putfield idx, 3)) (kk : ∀ (H1 : Heap) (locs1 : List Loc), XG Z h a (gu g o j x) s.heap H1 locs1 → W p l e R s m args below meth c H1 locs1 cells slots Q (F0 m (pc + 3) ls rest)) : W p l e R s m args below meth c H locs cells slots Q (F0 m pc ls (v :: .ref (ra Z a o) :: rest)) := by
  have hs : (wl Z h (pl Z a g)).set (125 + o) (ra Z a o, .inr (ci, fs.set j v)) = wl Z h (pl Z a (gu g o j x)) := pk_set hW.2.2.2 ho rfl rfl (fun i hi => gu_ne hi) he2
  exact va_put C.1 C.2.1 (own := own) C.2.2.1 hin ty0 hty hnm C.2.2.2.1 C.2.2.2.2.2.2.2.1 hW.1 hW.2.2.1 hW.2.1 (125 + o) (pk_at hW.2.2.2 ho he) hc j hj (C.2.2.1 _ hl) (fun x q => by rw [hr] at q; exact q) hfin hty2 hn hfit hlen hd (fun H1 locs1 q1 q2 q3 => kk H1 locs1 ⟨by rw [hs] at q1; exact q1, q3, by rw [hs] at q2; exact q2, hpw⟩)
theorem z_putF (C : CQ p s m args meth c cc own nL ret Z) (hW : XG Z h a g s.heap H locs) {o kd ci N : Nat} {fs : List Value} {Cn ref : String} {T : u_T} {v : Value} (ho : gk g o kd = true) (he : celP Z a kd (gl g o) (g.2.2 o) = .inr (ci, fs)) (hc : vwCl[ci]? = some (Cn, T, N)) (hin : ∀ w ∈ u_ws Cn T N, w ∈ TW) (ty0 : Nat → FieldType) (hty : ∀ k, k < N → parseFieldDescriptor (T k).2.2.1 = some (ty0 k)) (hnm : ∀ a, a < N → ∀ b, b < N → a ≠ b → (T a).2.1 ≠ (T b).2.1) (j : Nat) (hj : j < N) (hl : Cond.fieldLink own idx ref (T j).2.1 (T j).2.2.1 ∈ TW) (hr : (T j).1 = ref) (hfin : (T j).2.2.2 = true) (hin2 : meth.name = "<init>") (hdecl : (T j).1 = own) {ty : FieldType} (hty2 : parseFieldDescriptor (T j).2.2.1 = some ty) (hn : narrow ty v = v) (hfit : fits ty v = true) (hlen : j < fs.length) {x : Int32} (he2 : celP Z a kd (gl g o) ((gu g o j x).2.2 o) = .inr (ci, fs.set j v)) (hpw : PW (gu g o j x)) (hd : decode cc pc = .ok (.putfield idx, 3)) (kk : ∀ (H1 : Heap) (locs1 : List Loc), XG Z h a (gu g o j x) s.heap H1 locs1 → W p l e R s m args below meth c H1 locs1 cells slots Q (F0 m (pc + 3) ls rest)) : W p l e R s m args below meth c H locs cells slots Q (F0 m pc ls (v :: .ref (ra Z a o) :: rest)) := by
  have hs : (wl Z h (pl Z a g)).set (125 + o) (ra Z a o, .inr (ci, fs.set j v)) = wl Z h (pl Z a (gu g o j x)) := pk_set hW.2.2.2 ho rfl rfl (fun i hi => gu_ne hi) he2
  exact va_putF C.1 C.2.1 (own := own) C.2.2.1 hin ty0 hty hnm C.2.2.2.1 C.2.2.2.2.2.2.2.1 hW.1 hW.2.2.1 hW.2.1 (125 + o) (pk_at hW.2.2.2 ho he) hc j hj (C.2.2.1 _ hl) (fun x q => by rw [hr] at q; exact q) hfin hin2 hdecl hty2 hn hfit hlen hd (fun H1 locs1 q1 q2 q3 => kk H1 locs1 ⟨by rw [hs] at q1; exact q1, q3, by rw [hs] at q2; exact q2, hpw⟩)
theorem z_iald (C : CQ p s m args meth c cc own nL ret Z) (hW : XG Z h a g s.heap H locs) {o : Nat} {i : Int32} {K : Option α} (hf : ck (gk g o 4 && inb i (gl g o)) K = some out) (hd : decode cc pc = .ok (.iaload, 1)) (k : K = some out → W p l e R s m args below meth c H locs cells slots Q (F0 m (pc + 1) ls (.int (g.2.2 o (ix i)) :: rest))) : W p l e R s m args below meth c H locs cells slots Q (F0 m pc ls (.int i :: .ref (ra Z a o) :: rest)) := by
  obtain ⟨hb, hf⟩ := ck_t hf
  rw [Bool.and_eq_true] at hb
  exact va_iald C.1 C.2.1 C.2.2.2.2.2.2.2.1 hW.1 (125 + o) 1 (pk_at hW.2.2.2 hb.1 (e := .inl (Z.2.2.1 1, gl g o, .inl (g.2.2 o))) rfl) rfl (inb_in hb.2) hd (k hf)
theorem z_bald (C : CQ p s m args meth c cc own nL ret Z) (hW : XG Z h a g s.heap H locs) {o : Nat} {i : Int32} {K : Option α} (hf : ck (gk g o 6 && inb i (gl g o)) K = some out) (hd : decode cc pc = .ok (.baload, 1)) (k : K = some out → W p l e R s m args below meth c H locs cells slots Q (F0 m (pc + 1) ls (.int (g.2.2 o (ix i)) :: rest))) : W p l e R s m args below meth c H locs cells slots Q (F0 m pc ls (.int i :: .ref (ra Z a o) :: rest)) := by
  obtain ⟨hb, hf⟩ := ck_t hf
  rw [Bool.and_eq_true] at hb
  exact va_bald C.1 C.2.1 C.2.2.2.2.2.2.2.1 hW.1 (125 + o) 0 (pk_at hW.2.2.2 hb.1 (e := .inl (Z.2.2.1 0, gl g o, .inl (g.2.2 o))) rfl) rfl (inb_in hb.2) hd (k hf)
theorem z_zald (C : CQ p s m args meth c cc own nL ret Z) (hW : XG Z h a g s.heap H locs) {o : Nat} {i : Int32} {K : Option α} (hf : ck (gk g o 5 && inb i (gl g o)) K = some out) (hd : decode cc pc = .ok (.baload, 1)) (k : K = some out → W p l e R s m args below meth c H locs cells slots Q (F0 m (pc + 1) ls (.int (g.2.2 o (ix i)) :: rest))) : W p l e R s m args below meth c H locs cells slots Q (F0 m pc ls (.int i :: .ref (ra Z a o) :: rest)) := by
  obtain ⟨hb, hf⟩ := ck_t hf
  rw [Bool.and_eq_true] at hb
  exact va_zald C.1 C.2.1 C.2.2.2.2.2.2.2.1 hW.1 (125 + o) 2 (pk_at hW.2.2.2 hb.1 (e := .inl (Z.2.2.1 2, gl g o, .inl (g.2.2 o))) rfl) rfl (inb_in hb.2) hd (k hf)
theorem z_iast (C : CQ p s m args meth c cc own nL ret Z) (hW : XG Z h a g s.heap H locs) {o : Nat} {i v : Int32} {K : PL → Option α} (hf : ck (gk g o 4 && inb i (gl g o)) (stp (gu g o (ix i) v) K) = some out) (hd : decode cc pc = .ok (.iastore, 1)) (k : ∀ (g1 : PL) (H1 : Heap) (locs1 : List Loc), K g1 = some out → g1 = gu g o (ix i) v → XG Z h a g1 s.heap H1 locs1 → W p l e R s m args below meth c H1 locs1 cells slots Q (F0 m (pc + 1) ls rest)) : W p l e R s m args below meth c H locs cells slots Q (F0 m pc ls (.int v :: .int i :: .ref (ra Z a o) :: rest)) := by
  obtain ⟨hb, hf⟩ := ck_t hf
  rw [Bool.and_eq_true] at hb
  have hs : (wl Z h (pl Z a g)).set (125 + o) (ra Z a o, .inl (Z.2.2.1 1, gl g o, .inl (upd (g.2.2 o) (ix i) v))) = wl Z h (pl Z a (gu g o (ix i) v)) := pk_set hW.2.2.2 hb.1 rfl rfl (fun j hj => gu_ne hj) (by rw [gu_eq]; rfl)
  have hpw : PW (gu g o (ix i) v) := PW_gu hW.2.2.2 (fun q => by rw [(gk_t hb.1).2] at q; cases q) (fun q => by rw [(gk_t hb.1).2] at q; cases q)
  refine va_iast C.1 C.2.1 C.2.2.2.2.2.2.2.1 hW.1 hW.2.2.1 hW.2.1 (125 + o) 1 (pk_at hW.2.2.2 hb.1 (e := .inl (Z.2.2.1 1, gl g o, .inl (g.2.2 o))) rfl) rfl (inb_in hb.2) hd (fun H1 locs1 q1 q2 q3 => ?_)
  exact k _ H1 locs1 hf rfl ⟨by rw [← hs]; exact q1, q3, by rw [← hs]; exact q2, hpw⟩
theorem z_bast (C : CQ p s m args meth c cc own nL ret Z) (hW : XG Z h a g s.heap H locs) {o : Nat} {i v : Int32} {K : PL → Option α} (hf : ck (gk g o 6 && inb i (gl g o)) (stp (gu g o (ix i) (i2b v)) K) = some out) (hd : decode cc pc = .ok (.bastore, 1)) (k : ∀ (g1 : PL) (H1 : Heap) (locs1 : List Loc), K g1 = some out → g1 = gu g o (ix i) (i2b v) → XG Z h a g1 s.heap H1 locs1 → W p l e R s m args below meth c H1 locs1 cells slots Q (F0 m (pc + 1) ls rest)) : W p l e R s m args below meth c H locs cells slots Q (F0 m pc ls (.int v :: .int i :: .ref (ra Z a o) :: rest)) := by
  obtain ⟨hb, hf⟩ := ck_t hf
  rw [Bool.and_eq_true] at hb
  have hs : (wl Z h (pl Z a g)).set (125 + o) (ra Z a o, .inl (Z.2.2.1 0, gl g o, .inl (upd (g.2.2 o) (ix i) (i2b v)))) = wl Z h (pl Z a (gu g o (ix i) (i2b v))) := pk_set hW.2.2.2 hb.1 rfl rfl (fun j hj => gu_ne hj) (by rw [gu_eq]; rfl)
  have hpw : PW (gu g o (ix i) (i2b v)) := PW_gu hW.2.2.2 (fun q => by rw [(gk_t hb.1).2] at q; cases q) (fun _ => pk_fb v)
  refine va_bast C.1 C.2.1 C.2.2.2.2.2.2.2.1 hW.1 hW.2.2.1 hW.2.1 (125 + o) 0 (pk_at hW.2.2.2 hb.1 (e := .inl (Z.2.2.1 0, gl g o, .inl (g.2.2 o))) rfl) rfl (inb_in hb.2) hd (fun H1 locs1 q1 q2 q3 => ?_)
  rw [vp_nar_byte] at q1 q2
  exact k _ H1 locs1 hf rfl ⟨by rw [← hs]; exact q1, q3, by rw [← hs]; exact q2, hpw⟩
theorem z_zast (C : CQ p s m args meth c cc own nL ret Z) (hW : XG Z h a g s.heap H locs) {o : Nat} {i v : Int32} (hz : zb v = true) {K : PL → Option α} (hf : ck (gk g o 5 && inb i (gl g o)) (stp (gu g o (ix i) v) K) = some out) (hd : decode cc pc = .ok (.bastore, 1)) (k : ∀ (g1 : PL) (H1 : Heap) (locs1 : List Loc), K g1 = some out → g1 = gu g o (ix i) v → XG Z h a g1 s.heap H1 locs1 → W p l e R s m args below meth c H1 locs1 cells slots Q (F0 m (pc + 1) ls rest)) : W p l e R s m args below meth c H locs cells slots Q (F0 m pc ls (.int v :: .int i :: .ref (ra Z a o) :: rest)) := by
  obtain ⟨hb, hf⟩ := ck_t hf
  rw [Bool.and_eq_true] at hb
  have hs : (wl Z h (pl Z a g)).set (125 + o) (ra Z a o, .inl (Z.2.2.1 2, gl g o, .inl (upd (g.2.2 o) (ix i) v))) = wl Z h (pl Z a (gu g o (ix i) v)) := pk_set hW.2.2.2 hb.1 rfl rfl (fun j hj => gu_ne hj) (by rw [gu_eq]; rfl)
  have hpw : PW (gu g o (ix i) v) := PW_gu hW.2.2.2 (fun q => by rw [(gk_t hb.1).2] at q; cases q) (fun q => by rw [(gk_t hb.1).2] at q; cases q)
  refine va_zast C.1 C.2.1 C.2.2.2.2.2.2.2.1 hW.1 hW.2.2.1 hW.2.1 (125 + o) 2 (pk_at hW.2.2.2 hb.1 (e := .inl (Z.2.2.1 2, gl g o, .inl (g.2.2 o))) rfl) rfl (inb_in hb.2) hd (fun H1 locs1 q1 q2 q3 => ?_)
  rw [zb_nar hz] at q1 q2
  exact k _ H1 locs1 hf rfl ⟨by rw [← hs]; exact q1, q3, by rw [← hs]; exact q2, hpw⟩
theorem z_aald (C : CQ p s m args meth c cc own nL ret Z) (hW : XG Z h a g s.heap H locs) {o : Nat} {i : Int32} {K : Nat → Option α} (hf : ckn (gk g o 7 && inb i (gl g o)) (g.2.2 o (ix i)) K = some out) (hd : decode cc pc = .ok (.aaload, 1)) (k : ∀ z : Nat, K z = some out → W p l e R s m args below meth c H locs cells slots Q (F0 m (pc + 1) ls (.ref (ra Z a z) :: rest))) : W p l e R s m args below meth c H locs cells slots Q (F0 m pc ls (.int i :: .ref (ra Z a o) :: rest)) := by
  obtain ⟨hb, h0, hf⟩ := ckn_t hf
  rw [Bool.and_eq_true] at hb
  have hin := inb_in hb.2
  have hlt : i.toNatClampNeg < gl g o := Nat.not_le.mp fun q => hin (Or.inr q)
  have ha := pk_at (h := h) (Z := Z) (a := a) hW.2.2.2 hb.1 (e := .inl (Z.2.2.1 4, gl g o, .inr (.inr (.inr (.inr (fun j => rvo Z a (g.2.2 o j))))))) rfl
  have k1 := k _ hf
  refine W.aald (v := va_rf (rvo Z a (g.2.2 o (ix i)))) (ty := .array .int) C.1 C.2.1 (hW.1 _ _ ha) ((C.2.2.2.2.2.2.2.1.2 4 _ rfl).1 (gl g o) (fun j => va_rf (rvo Z a (g.2.2 o j)))) rfl (fun q => by cases q) (by show ¬ (i < 0 ∨ (arrV _ _ _).slots.size ≤ _); rw [arrV_size]; exact hin) (by show (arrV _ _ _).slots[_]? = _; rw [arrV_read _ _ hlt]; rfl) rfl rfl hd ?_
  rw [rvo_pos h0]
  exact k1
theorem z_aast (C : CQ p s m args meth c cc own nL ret Z) (hW : XG Z h a g s.heap H locs) {o x : Nat} {i : Int32} {K : PL → Option α} (hf : ck ((gk g o 7 && inb i (gl g o)) && gk g x 4) (stp (gu g o (ix i) (nI x)) K) = some out) (hd : decode cc pc = .ok (.aastore, 1)) (k : ∀ (g1 : PL) (H1 : Heap) (locs1 : List Loc), K g1 = some out → g1 = gu g o (ix i) (nI x) → XG Z h a g1 s.heap H1 locs1 → W p l e R s m args below meth c H1 locs1 cells slots Q (F0 m (pc + 1) ls rest)) : W p l e R s m args below meth c H locs cells slots Q (F0 m pc ls (.ref (ra Z a x) :: .int i :: .ref (ra Z a o) :: rest)) := by
  obtain ⟨hb, hf⟩ := ck_t hf
  rw [Bool.and_eq_true, Bool.and_eq_true] at hb
  obtain ⟨⟨hb1, hb2⟩, hb3⟩ := hb
  have hin := inb_in hb2
  have hlt : i.toNatClampNeg < gl g o := Nat.not_le.mp fun q => hin (Or.inr q)
  have h00 : ¬ i < 0 := fun q => hin (Or.inl q)
  have hx : x < 2147483648 := by have := (gk_t hb3).1; have := hW.2.2.2.1; omega
  have ha := pk_at (h := h) (Z := Z) (a := a) hW.2.2.2 hb1 (e := .inl (Z.2.2.1 4, gl g o, .inr (.inr (.inr (.inr (fun j => rvo Z a (g.2.2 o j))))))) rfl
  have hv := pk_at (h := h) (Z := Z) (a := a) hW.2.2.2 hb3 (e := .inl (Z.2.2.1 1, gl g x, .inl (g.2.2 x))) rfl
  have hcv : H[ra Z a x]? = some (vp_cell (Z.2.2.1 1) (gl g x, .inl (g.2.2 x))) := hW.1 _ _ hv
  have hs : (wl Z h (pl Z a g)).set (125 + o) (ra Z a o, .inl (Z.2.2.1 4, gl g o, .inr (.inr (.inr (.inr (va_up (fun j => rvo Z a (g.2.2 o j)) i.toNatClampNeg (some (ra Z a x)))))))) = wl Z h (pl Z a (gu g o (ix i) (nI x))) := by
    refine pk_set hW.2.2.2 hb1 rfl rfl (fun j hj => gu_ne hj) ?_
    rw [gu_eq]
    show (Sum.inl (Z.2.2.1 4, gl g o, .inr (.inr (.inr (.inr (fun j => rvo Z a (if j = ix i then nI x else g.2.2 o j)))))) : va_E) = _
    have e : (fun j => rvo Z a (if j = ix i then nI x else g.2.2 o j)) = va_up (fun j => rvo Z a (g.2.2 o j)) i.toNatClampNeg (some (ra Z a x)) := by
      funext j
      unfold va_up
      by_cases hj : j = ix i
      · rw [if_pos hj, if_pos (show j = i.toNatClampNeg from hj), rvo_nI hx]
      · rw [if_neg hj, if_neg (show ¬ j = i.toNatClampNeg from hj)]
    rw [e]
  have hpw : PW (gu g o (ix i) (nI x)) := PW_gu hW.2.2.2 (fun _ => rok_nI (rkb_or hb3) hx) (fun q => by rw [(gk_t hb1).2] at q; cases q)
  obtain ⟨⟨kA, kI, k1, k2, k3⟩, -⟩ := C.2.2.2.2.2.2.2.2.2.2.2.2.1
  refine W.aast C.1 C.2.1 (hW.1 _ _ ha) (fun q h => by cases h) (fun h => by cases h) k1 k2 rfl k3 ⟨h00, by show _ < (arrV _ _ _).slots.size; rw [arrV_size]; exact hlt⟩ hcv (fun q h => by cases h) k3 assign_self rfl rfl hd fun H1 e z oq => ?_
  have hat : va_at Z.2.1 vwCl (ra Z a o, .inl (Z.2.2.1 4, gl g o, .inr (.inr (.inr (.inr (va_up (fun j => rvo Z a (g.2.2 o j)) i.toNatClampNeg (some (ra Z a x)))))))) H1 := by
    show H1[ra Z a o]? = some (vp_cell _ _)
    rw [e]
    rw [vp_cell_q, vp_cell_q, arrV_store]
    congr 2
    funext q
    by_cases hq : q = i.toNatClampNeg
    · subst hq
      simp [updV, va_up, va_rf]
    · simp [updV, va_up, hq]
  have q1 := hW.1.set hW.2.2.1 ha hat oq
  have q2 := hW.2.2.1.set (e := .inl (Z.2.2.1 4, gl g o, .inr (.inr (.inr (.inr (va_up (fun j => rvo Z a (g.2.2 o j)) i.toNatClampNeg (some (ra Z a x)))))))) ha
  exact k _ H1 _ hf rfl ⟨by rw [← hs]; exact q1, hW.2.1.put z oq (hW.2.2.1.2 _ _ ha), by rw [← hs]; exact q2, hpw⟩
theorem z_alenI (C : CQ p s m args meth c cc own nL ret Z) (hW : XG Z h a g s.heap H locs) {o : Nat} {K : Option α} (hf : ck (gk g o 4) K = some out) (hd : decode cc pc = .ok (.arraylength, 1)) (k : K = some out → W p l e R s m args below meth c H locs cells slots Q (F0 m (pc + 1) ls (.int (nI (gl g o)) :: rest))) : W p l e R s m args below meth c H locs cells slots Q (F0 m pc ls (.ref (ra Z a o) :: rest)) :=
  va_alen C.1 C.2.1 C.2.2.2.2.2.2.2.1 hW.1 (125 + o) 1 (pk_at hW.2.2.2 (ck_t hf).1 (e := .inl (Z.2.2.1 1, gl g o, .inl (g.2.2 o))) rfl) rfl rfl hd (k (ck_t hf).2)
theorem z_alenZ (C : CQ p s m args meth c cc own nL ret Z) (hW : XG Z h a g s.heap H locs) {o : Nat} {K : Option α} (hf : ck (gk g o 5) K = some out) (hd : decode cc pc = .ok (.arraylength, 1)) (k : K = some out → W p l e R s m args below meth c H locs cells slots Q (F0 m (pc + 1) ls (.int (nI (gl g o)) :: rest))) : W p l e R s m args below meth c H locs cells slots Q (F0 m pc ls (.ref (ra Z a o) :: rest)) :=
  va_alen C.1 C.2.1 C.2.2.2.2.2.2.2.1 hW.1 (125 + o) 2 (pk_at hW.2.2.2 (ck_t hf).1 (e := .inl (Z.2.2.1 2, gl g o, .inl (g.2.2 o))) rfl) rfl rfl hd (k (ck_t hf).2)
theorem z_alenB (C : CQ p s m args meth c cc own nL ret Z) (hW : XG Z h a g s.heap H locs) {o : Nat} {K : Option α} (hf : ck (gk g o 6) K = some out) (hd : decode cc pc = .ok (.arraylength, 1)) (k : K = some out → W p l e R s m args below meth c H locs cells slots Q (F0 m (pc + 1) ls (.int (nI (gl g o)) :: rest))) : W p l e R s m args below meth c H locs cells slots Q (F0 m pc ls (.ref (ra Z a o) :: rest)) :=
  va_alen C.1 C.2.1 C.2.2.2.2.2.2.2.1 hW.1 (125 + o) 0 (pk_at hW.2.2.2 (ck_t hf).1 (e := .inl (Z.2.2.1 0, gl g o, .inl (g.2.2 o))) rfl) rfl rfl hd (k (ck_t hf).2)
theorem z_alenG (C : CQ p s m args meth c cc own nL ret Z) (hW : XG Z h a g s.heap H locs) {o : Nat} {K : Option α} (hf : ck (gk g o 7) K = some out) (hd : decode cc pc = .ok (.arraylength, 1)) (k : K = some out → W p l e R s m args below meth c H locs cells slots Q (F0 m (pc + 1) ls (.int (nI (gl g o)) :: rest))) : W p l e R s m args below meth c H locs cells slots Q (F0 m pc ls (.ref (ra Z a o) :: rest)) :=
  va_alen C.1 C.2.1 C.2.2.2.2.2.2.2.1 hW.1 (125 + o) 4 (pk_at hW.2.2.2 (ck_t hf).1 (e := .inl (Z.2.2.1 4, gl g o, .inr (.inr (.inr (.inr (fun j => rvo Z a (g.2.2 o j))))))) rfl) rfl rfl hd (k (ck_t hf).2)
end ZJ
