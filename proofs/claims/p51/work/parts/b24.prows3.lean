/-! rows over the pool: new cells, copies, calls, ends -/
theorem va_RA_inj {U : State} {cA cB : ClassId} {ty : FieldType} (h1 : va_RA U cA ty) (h2 : va_RA U cB ty) : cA = cB := by
  cases ty with
  | object C =>
    obtain ⟨k1, c1, a1, a2, a3, a4⟩ := h1
    obtain ⟨k2, c2, b1, b2, b3, b4⟩ := h2
    exact Option.some.inj (a4.symm.trans b4)
  | _ =>
    have h1 : U.vm.findClass _ = some cA := h1
    exact Option.some.inj (h1.symm.trans h2)
theorem ngw_t {g : PL} {n : Nat} (h : ngw g n = true) : g.1 < 900000 ∧ n ≤ 600 := by
  unfold ngw at h
  rw [Bool.and_eq_true, decide_eq_true_eq, decide_eq_true_eq] at h
  exact h
theorem ra_new {Z : ZT} {a : Nat → Nat} {n q : Nat} (h : n < 900000) : ra Z (va_up a n q) n = q := by
  rw [ra_lt (by omega)]
  exact if_pos rfl
section ZK
variable {p : Program} {l : Launch} {e : Env} {R : Room} {s : State} {m : MethodId} {args : Array Value} {below : List Frame} {meth : Method} {c : Code} {H : Heap} {locs : List Loc} {cells slots : Nat} {Q : State → Prop} {cc bytes : ByteArray} {pc nL tgt maxL n idx mc ms : Nat} {ret rt : Option FieldType} {ls : Array Slot} {rest st As : List Value} {Z : ZT} {h h1 : Hp} {a a0 : Nat → Nat} {g g0 g1 : PL} {own : String} {α : Type} {out : α} {rm : Room} {lv : List (Nat × Value)}
theorem z_A (C : CQ p s m args meth c cc own nL ret Z) : ∀ q : Nat, s.heap.size ≤ q → FR Z q := fun q hq => Nat.le_trans C.2.2.2.2.2.2.2.2.1 hq
theorem z_newI (C : CQ p s m args meth c cc own nL ret Z) (hW : XG Z h a g s.heap H locs) (harr : Cond.arrayClass (newarray.typeOf .int) ∈ TW) {n : Int32} {K : PL → Option α} (hf : ck (decide (0 ≤ n) && ngw g (ix n)) (stp (gnew g 4 (ix n) (fun _ => 0)) K) = some out) (hc : cells + 1 ≤ R.cells ∧ slots + 600 ≤ R.slots) (hd : decode cc pc = .ok (.newarray .int, 2)) (kk : ∀ (a1 : Nat → Nat) (g1 : PL) (H1 : Heap), K g1 = some out → AG a g a1 g1 → XG Z h a1 g1 s.heap H1 locs → W p l e R s m args below meth c H1 locs (cells + 1) (slots + 600) Q (F0 m (pc + 2) ls (.ref (ra Z a1 g.1) :: rest))) : W p l e R s m args below meth c H locs cells slots Q (F0 m pc ls (.int n :: rest)) := by
  obtain ⟨hb, hf⟩ := ck_t hf
  rw [Bool.and_eq_true, decide_eq_true_eq] at hb
  obtain ⟨hn, hg⟩ := hb
  obtain ⟨hg1, hg2⟩ := ngw_t hg
  have hix : n.toNatClampNeg ≤ 600 := hg2
  have hby : ix n * componentBytes .int ≤ 536870912 := by
    have h4 : componentBytes .int ≤ 4 := by decide
    have := Nat.mul_le_mul hg2 h4
    omega
  refine va_newa (D := Z.2.1) (cl := vwCl) (tys := tyZ Z) (a0 := (ix n, .inl (fun _ => 0))) C.1 C.2.1 (C.2.2.1 _ harr) (ty := .int) rfl C.2.2.2.2.2.2.2.1 hW.1 hW.2.2.1 hW.2.1 (z_A C) (fun cA => vp_cell_i _ _ _) (Int32.not_lt.mpr hn) (N' := ix n) rfl hby hc.1 (by show slots + ix n ≤ R.slots; omega) hd (fun q cA H1 hK1 hP1 hD1 hS1 => ?_)
  have r1 := (hK1.2 (tyZ Z).length (cA, .int) (by rw [List.getElem?_append_right (Nat.le_refl _), Nat.sub_self]; rfl)).2
  have r2 := (C.2.2.2.2.2.2.2.1.2 1 (Z.2.2.1 1, .int) rfl).2
  have e : cA = Z.2.2.1 1 := va_RA_inj r1 r2
  subst e
  have hw : wl Z h (pl Z (va_up a g.1 q) (gnew g 4 (ix n) (fun _ => 0))) = wl Z h (pl Z a g) ++ [(q, .inl (Z.2.2.1 1, (ix n, .inl (fun _ => 0))))] := by
    rw [pl_new hW.2.2.2 (fun j hj => by cases hj), wl_app]
    rfl
  refine W.widen (k := cells + 1) (n := slots + 600) (Nat.le_refl _) (by show slots + ix n ≤ slots + 600; omega) ?_
  have k1 := kk (va_up a g.1 q) _ H1 hf AG_new ⟨by rw [hw]; exact hP1, hS1, by rw [hw]; exact hD1, PW_new hW.2.2.2 hg1 (fun j hj => by cases hj) (fun _ _ => show fits .byte (.int 0) = true by decide)⟩
  rw [ra_new hg1] at k1
  exact k1
theorem z_newZ (C : CQ p s m args meth c cc own nL ret Z) (hW : XG Z h a g s.heap H locs) (harr : Cond.arrayClass (newarray.typeOf .boolean) ∈ TW) {n : Int32} {K : PL → Option α} (hf : ck (decide (0 ≤ n) && ngw g (ix n)) (stp (gnew g 5 (ix n) (fun _ => 0)) K) = some out) (hc : cells + 1 ≤ R.cells ∧ slots + 600 ≤ R.slots) (hd : decode cc pc = .ok (.newarray .boolean, 2)) (kk : ∀ (a1 : Nat → Nat) (g1 : PL) (H1 : Heap), K g1 = some out → AG a g a1 g1 → XG Z h a1 g1 s.heap H1 locs → W p l e R s m args below meth c H1 locs (cells + 1) (slots + 600) Q (F0 m (pc + 2) ls (.ref (ra Z a1 g.1) :: rest))) : W p l e R s m args below meth c H locs cells slots Q (F0 m pc ls (.int n :: rest)) := by
  obtain ⟨hb, hf⟩ := ck_t hf
  rw [Bool.and_eq_true, decide_eq_true_eq] at hb
  obtain ⟨hn, hg⟩ := hb
  obtain ⟨hg1, hg2⟩ := ngw_t hg
  have hix : n.toNatClampNeg ≤ 600 := hg2
  have hby : ix n * componentBytes .boolean ≤ 536870912 := by
    have h4 : componentBytes .boolean ≤ 4 := by decide
    have := Nat.mul_le_mul hg2 h4
    omega
  refine va_newa (D := Z.2.1) (cl := vwCl) (tys := tyZ Z) (a0 := (ix n, .inl (fun _ => 0))) C.1 C.2.1 (C.2.2.1 _ harr) (ty := .boolean) rfl C.2.2.2.2.2.2.2.1 hW.1 hW.2.2.1 hW.2.1 (z_A C) (fun cA => vp_cell_i _ _ _) (Int32.not_lt.mpr hn) (N' := ix n) rfl hby hc.1 (by show slots + ix n ≤ R.slots; omega) hd (fun q cA H1 hK1 hP1 hD1 hS1 => ?_)
  have r1 := (hK1.2 (tyZ Z).length (cA, .boolean) (by rw [List.getElem?_append_right (Nat.le_refl _), Nat.sub_self]; rfl)).2
  have r2 := (C.2.2.2.2.2.2.2.1.2 2 (Z.2.2.1 2, .boolean) rfl).2
  have e : cA = Z.2.2.1 2 := va_RA_inj r1 r2
  subst e
  have hw : wl Z h (pl Z (va_up a g.1 q) (gnew g 5 (ix n) (fun _ => 0))) = wl Z h (pl Z a g) ++ [(q, .inl (Z.2.2.1 2, (ix n, .inl (fun _ => 0))))] := by
    rw [pl_new hW.2.2.2 (fun j hj => by cases hj), wl_app]
    rfl
  refine W.widen (k := cells + 1) (n := slots + 600) (Nat.le_refl _) (by show slots + ix n ≤ slots + 600; omega) ?_
  have k1 := kk (va_up a g.1 q) _ H1 hf AG_new ⟨by rw [hw]; exact hP1, hS1, by rw [hw]; exact hD1, PW_new hW.2.2.2 hg1 (fun j hj => by cases hj) (fun _ _ => show fits .byte (.int 0) = true by decide)⟩
  rw [ra_new hg1] at k1
  exact k1
theorem z_newB (C : CQ p s m args meth c cc own nL ret Z) (hW : XG Z h a g s.heap H locs) (harr : Cond.arrayClass (newarray.typeOf .byte) ∈ TW) {n : Int32} {K : PL → Option α} (hf : ck (decide (0 ≤ n) && ngw g (ix n)) (stp (gnew g 6 (ix n) (fun _ => 0)) K) = some out) (hc : cells + 1 ≤ R.cells ∧ slots + 600 ≤ R.slots) (hd : decode cc pc = .ok (.newarray .byte, 2)) (kk : ∀ (a1 : Nat → Nat) (g1 : PL) (H1 : Heap), K g1 = some out → AG a g a1 g1 → XG Z h a1 g1 s.heap H1 locs → W p l e R s m args below meth c H1 locs (cells + 1) (slots + 600) Q (F0 m (pc + 2) ls (.ref (ra Z a1 g.1) :: rest))) : W p l e R s m args below meth c H locs cells slots Q (F0 m pc ls (.int n :: rest)) := by
  obtain ⟨hb, hf⟩ := ck_t hf
  rw [Bool.and_eq_true, decide_eq_true_eq] at hb
  obtain ⟨hn, hg⟩ := hb
  obtain ⟨hg1, hg2⟩ := ngw_t hg
  have hix : n.toNatClampNeg ≤ 600 := hg2
  have hby : ix n * componentBytes .byte ≤ 536870912 := by
    have h4 : componentBytes .byte ≤ 4 := by decide
    have := Nat.mul_le_mul hg2 h4
    omega
  refine va_newa (D := Z.2.1) (cl := vwCl) (tys := tyZ Z) (a0 := (ix n, .inl (fun _ => 0))) C.1 C.2.1 (C.2.2.1 _ harr) (ty := .byte) rfl C.2.2.2.2.2.2.2.1 hW.1 hW.2.2.1 hW.2.1 (z_A C) (fun cA => vp_cell_i _ _ _) (Int32.not_lt.mpr hn) (N' := ix n) rfl hby hc.1 (by show slots + ix n ≤ R.slots; omega) hd (fun q cA H1 hK1 hP1 hD1 hS1 => ?_)
  have r1 := (hK1.2 (tyZ Z).length (cA, .byte) (by rw [List.getElem?_append_right (Nat.le_refl _), Nat.sub_self]; rfl)).2
  have r2 := (C.2.2.2.2.2.2.2.1.2 0 (Z.2.2.1 0, .byte) rfl).2
  have e : cA = Z.2.2.1 0 := va_RA_inj r1 r2
  subst e
  have hw : wl Z h (pl Z (va_up a g.1 q) (gnew g 6 (ix n) (fun _ => 0))) = wl Z h (pl Z a g) ++ [(q, .inl (Z.2.2.1 0, (ix n, .inl (fun _ => 0))))] := by
    rw [pl_new hW.2.2.2 (fun j hj => by cases hj), wl_app]
    rfl
  refine W.widen (k := cells + 1) (n := slots + 600) (Nat.le_refl _) (by show slots + ix n ≤ slots + 600; omega) ?_
  have k1 := kk (va_up a g.1 q) _ H1 hf AG_new ⟨by rw [hw]; exact hP1, hS1, by rw [hw]; exact hD1, PW_new hW.2.2.2 hg1 (fun j hj => by cases hj) (fun _ _ => show fits .byte (.int 0) = true by decide)⟩
  rw [ra_new hg1] at k1
  exact k1
theorem z_newG (C : CQ p s m args meth c cc own nL ret Z) (hW : XG Z h a g s.heap H locs) (hcl : Cond.classLink own idx "[I" ∈ TW) {n : Int32} {K : PL → Option α} (hf : ck (decide (0 ≤ n) && ngw g (ix n)) (stp (gnew g 7 (ix n) (fun _ => -1)) K) = some out) (hc : cells + 1 ≤ R.cells ∧ slots + 600 ≤ R.slots) (hd : decode cc pc = .ok (.anewarray idx, 3)) (kk : ∀ (a1 : Nat → Nat) (g1 : PL) (H1 : Heap), K g1 = some out → AG a g a1 g1 → XG Z h a1 g1 s.heap H1 locs → W p l e R s m args below meth c H1 locs (cells + 1) (slots + 600) Q (F0 m (pc + 3) ls (.ref (ra Z a1 g.1) :: rest))) : W p l e R s m args below meth c H locs cells slots Q (F0 m pc ls (.int n :: rest)) := by
  obtain ⟨hb, hf⟩ := ck_t hf
  rw [Bool.and_eq_true, decide_eq_true_eq] at hb
  obtain ⟨hn, hg⟩ := hb
  obtain ⟨hg1, hg2⟩ := ngw_t hg
  have hix : n.toNatClampNeg ≤ 600 := hg2
  have hover : (Cond.arrayOver (.array .int)).before args s = true := C.2.2.2.2.2.2.2.2.2.2.2.2.1.2.1
  have hcl' : (Cond.classLink own idx (FieldType.array .int).toString).before args s = true := C.2.2.1 _ hcl
  refine W.anewA C.1 C.2.1 C.2.2.2.1 hcl' hover rfl hd rfl (Int32.not_lt.mpr hn) (by omega) hc.1 (by omega) fun cA kA comp f1 f2 f3 f4 => ?_
  have r2 := (C.2.2.2.2.2.2.2.1.2 4 (Z.2.2.1 4, .array .int) rfl).2
  have e : cA = Z.2.2.1 4 := va_RA_inj (U := s) (ty := .array .int) f1 r2
  subst e
  generalize hH1 : H.push ({ cls := Z.2.2.1 4, slots := Array.replicate n.toNatClampNeg .null, vm := .none } : Cell) = H1
  have z1 : H1.size = H.size + 1 := by rw [← hH1, Array.size_push]
  have e1 : H1[H.size]? = some (arrV (Z.2.2.1 4) n.toNatClampNeg (fun _ => .null)) := by rw [← hH1, Array.getElem?_push_size, ← arrV_new]
  have o1 : ∀ q : Nat, q < H.size → H1[q]? = H[q]? := fun q hq => by rw [← hH1, Array.getElem?_push, if_neg (Nat.ne_of_lt hq)]
  have hk : ∀ (k : Nat) (x : Nat × va_E), (wl Z h (pl Z a g))[k]? = some x → H1[x.1]? = H[x.1]? := fun k x hx => o1 x.1 ((hW.1 k x hx).lt)
  have hP1 : va_P Z.2.1 vwCl (wl Z h (pl Z a g) ++ [(H.size, .inl (Z.2.2.1 4, ix n, .inr (.inr (.inr (.inr (fun _ => none))))))]) H1 := by
    refine (hW.1.kept hk).app (fun k x hx => ?_)
    have hz : k < 1 := (List.getElem?_eq_some_iff.mp hx).1
    rw [show k = 0 by omega] at hx
    cases hx
    show H1[H.size]? = some (vp_cell _ _)
    rw [vp_cell_q]
    exact e1
  have hD1 := hW.2.2.1.push (e := .inl (Z.2.2.1 4, ix n, .inr (.inr (.inr (.inr (fun _ => none)))))) hW.1 rfl (z_A C _ hW.2.1.1)
  have hw : wl Z h (pl Z (va_up a g.1 H.size) (gnew g 7 (ix n) (fun _ => -1))) = wl Z h (pl Z a g) ++ [(H.size, .inl (Z.2.2.1 4, ix n, .inr (.inr (.inr (.inr (fun _ => none))))))] := by
    rw [pl_new hW.2.2.2 (fun j hj => Or.inl (by decide)), wl_app]
    rfl
  refine W.widen (k := cells + 1) (n := slots + 600) (Nat.le_refl _) (by omega) ?_
  have k1 := kk (va_up a g.1 H.size) _ H1 hf AG_new ⟨by rw [hw]; exact hP1, ⟨Nat.le_trans hW.2.1.1 (by omega), fun x h1 h2 => (o1 x (Nat.lt_of_lt_of_le h1 hW.2.1.1)).trans (hW.2.1.2.1 x h1 h2), hW.2.1.2.2⟩, by rw [hw]; exact hD1, PW_new hW.2.2.2 hg1 (fun j hj => Or.inl (by decide)) (fun q => by cases q)⟩
  rw [ra_new hg1] at k1
  exact k1
theorem z_newo (C : CQ p s m args meth c cc own nL ret Z) (hW : XG Z h a g s.heap H locs) {kd ci N : Nat} {Cn : String} {T : u_T} {fs : List Value} (hc : vwCl[ci]? = some (Cn, T, N)) (hin : ∀ w ∈ u_ws Cn T N, w ∈ TW) (ty0 : Nat → FieldType) (hty : ∀ k, k < N → parseFieldDescriptor (T k).2.2.1 = some (ty0 k)) (hfs : ∀ j, j < N → defaultValue (ty0 j) = vp_V fs j) (hcl : Cond.classLink own idx Cn ∈ TW) (hinst : Cond.instantiable Cn N ∈ TW) (hini : Cond.initialized Cn ∈ TW) (hN : N ≤ 600) (hkd : kd ≤ 3) (he : celP Z a kd 0 (dfl kd) = .inr (ci, fs)) {K : PL → Option α} (hf : ck (ngw g 0) (stp (gnew g kd 0 (dfl kd)) K) = some out) (hcs : cells + 1 ≤ R.cells ∧ slots + 600 ≤ R.slots) (hd : decode cc pc = .ok (.new idx, 3)) (kk : ∀ (a1 : Nat → Nat) (g1 : PL) (H1 : Heap), K g1 = some out → AG a g a1 g1 → XG Z h a1 g1 s.heap H1 locs → W p l e R s m args below meth c H1 locs (cells + 1) (slots + 600) Q (F0 m (pc + 3) ls (.ref (ra Z a1 g.1) :: rest))) : W p l e R s m args below meth c H locs cells slots Q (F0 m pc ls rest) := by
  obtain ⟨hb, hf⟩ := ck_t hf
  obtain ⟨hg1, hg2⟩ := ngw_t hb
  have hts := C.2.2.1
  refine va_new (D := Z.2.1) (cl := vwCl) (tys := tyZ Z) C.1 C.2.1 hts hin ty0 hty C.2.2.2.1 (hts _ hcl) (hts _ hinst) (hts _ hini) C.2.2.2.2.2.2.2.1 hW.1 hW.2.2.1 hW.2.1 (z_A C) hc hfs hcs.1 (by omega) hd (fun q H1 hP1 hD1 hS1 => ?_)
  have hr : ∀ j, isR kd j = true → rok g.1 (dfl kd j) := fun j hj => Or.inl (by unfold dfl; rw [if_pos hj]; decide)
  have hw : wl Z h (pl Z (va_up a g.1 q) (gnew g kd 0 (dfl kd))) = wl Z h (pl Z a g) ++ [(q, .inr (ci, fs))] := by
    rw [pl_new hW.2.2.2 hr, wl_app, he]
  refine W.widen (k := cells + 1) (n := slots + 600) (Nat.le_refl _) (by omega) ?_
  have k1 := kk (va_up a g.1 q) _ H1 hf AG_new ⟨by rw [hw]; exact hP1, hS1, by rw [hw]; exact hD1, PW_new hW.2.2.2 hg1 hr (fun z => by omega)⟩
  rw [ra_new hg1] at k1
  exact k1
theorem gcp_ne {g : PL} {f : Nat → Int32} {d : Nat} {sp dp n : Int32} {i : Nat} (hi : i ≠ d) : (gcp g f d sp dp n).2.2 i = g.2.2 i := if_neg hi
theorem gcp_eq {g : PL} {f : Nat → Int32} {d : Nat} {sp dp n : Int32} : (gcp g f d sp dp n).2.2 d = va_cpy f (g.2.2 d) (ix sp) (ix dp) (ix n) := if_pos rfl
theorem bfit_cpy {f g : Nat → Int32} {sp dp n : Nat} (hf : ∀ i, i < n → bfit (f (sp + i))) (hg : ∀ j, bfit (g j)) : ∀ j, bfit (va_cpy f g sp dp n j) := by
  intro j
  by_cases h1 : dp ≤ j ∧ j < dp + n
  · rw [pk_cpy_in h1.1 h1.2]; exact hf _ (by omega)
  · rw [pk_cpy_out (by omega)]; exact hg j
theorem PW_gcp {g : PL} {f : Nat → Int32} {d kd : Nat} {sp dp n : Int32} (hp : PW g) (hd : gk g d kd = true) (hk : kd = 4 ∨ kd = 6) (hf : kd = 6 → ∀ i, i < ix n → bfit (f (ix sp + i))) : PW (gcp g f d sp dp n) := by
  obtain ⟨h1, h2⟩ := gk_t hd
  refine ⟨hp.1, fun k hk' i hi => ?_, fun k hk' h6 i => ?_⟩
  · show rok g.1 ((gcp g f d sp dp n).2.2 k i)
    by_cases e : k = d
    · subst e
      have hi : isR (g.2.1 k).1 i = true := hi
      rw [h2] at hi
      rcases hk with rfl | rfl <;> cases hi
    · rw [gcp_ne e]; exact hp.2.1 k hk' i hi
  · by_cases e : k = d
    · subst e
      rw [gcp_eq]
      have h6 : (g.2.1 k).1 = 6 := h6
      rw [h2] at h6
      subst h6
      exact bfit_cpy (hf rfl) (hp.2.2 k hk' h2) i
    · rw [gcp_ne e]; exact hp.2.2 k hk' h6 i
theorem cpok_t {sp dp n : Int32} {x y : Nat} (h : cpok sp dp n x y = true) : ¬ sp < 0 ∧ ¬ dp < 0 ∧ ¬ n < 0 ∧ ix sp + ix n ≤ x ∧ ix dp + ix n ≤ y := by
  unfold cpok at h
  simp only [Bool.and_eq_true, decide_eq_true_eq] at h
  obtain ⟨⟨⟨⟨q1, q2⟩, q3⟩, q4⟩, q5⟩ := h
  exact ⟨Int32.not_lt.mpr q1, Int32.not_lt.mpr q2, Int32.not_lt.mpr q3, q4, q5⟩
theorem z_copyI (C : CQ p s m args meth c cc own nL ret Z) (hW : XG Z h a g s.heap H locs) (hl : lv_has ls nL lv) {o1 o2 : Nat} (hk : Cond.methodLink own idx arraycopyName ∈ TW) (hR : 1 ≤ R.frames ∧ 8 + (nativeFrameWords "java/lang/System" "arraycopy" 5 + 11) ≤ R.locals) {sp dp cn : Int32} {K : PL → Option α} (hf : ck ((gk g o1 4 && gk g o2 4) && cpok sp dp cn (gl g o1) (gl g o2)) (stp (gcp g (g.2.2 o1) o2 sp dp cn) K) = some out) (hd : decode cc pc = .ok (.invokestatic idx, 3)) (kk : ∀ (g1 : PL) (H1 : Heap) (locs1 : List Loc), K g1 = some out → g1.1 = g.1 → XG Z h a g1 s.heap H1 locs1 → W p l e R s m args below meth c H1 locs1 cells slots Q (F0 m (pc + 3) ls rest)) (hcat : (rest.map fun v => v.category).sum ≤ 8 := by exact Nat.le_of_ble_eq_true rfl) : W p l e R s m args below meth c H locs cells slots Q (F0 m pc ls (.int cn :: .int dp :: .ref (ra Z a o2) :: .int sp :: .ref (ra Z a o1) :: rest)) := by
  obtain ⟨hb, hf⟩ := ck_t hf
  rw [Bool.and_eq_true, Bool.and_eq_true] at hb
  obtain ⟨q1, q2, q3, q4, q5⟩ := cpok_t hb.2
  have hs : (wl Z h (pl Z a g)).set (125 + o2) (ra Z a o2, .inl (Z.2.2.1 1, gl g o2, .inl (va_cpy (g.2.2 o1) (g.2.2 o2) sp.toNatClampNeg dp.toNatClampNeg cn.toNatClampNeg))) = wl Z h (pl Z a (gcp g (g.2.2 o1) o2 sp dp cn)) := pk_set hW.2.2.2 hb.1.2 rfl rfl (fun j hj => gcp_ne hj) (by rw [gcp_eq]; rfl)
  have hpw : PW (gcp g (g.2.2 o1) o2 sp dp cn) := PW_gcp hW.2.2.2 hb.1.2 (Or.inl rfl) (fun q => by cases q)
  exact va_copyi C.1 C.2.1 (C.2.2.2.2.1.trans hl.1.symm) C.2.2.2.1 (C.2.2.1 _ hk) (C.2.2.1 _ wj_cp.1) (C.2.2.1 _ wj_cp.2.1) (C.2.2.1 _ wj_cp.2.2) C.2.2.2.2.2.2.2.1 hW.1 hW.2.2.1 hW.2.1 (125 + o1) (125 + o2) 1 1 (pk_at hW.2.2.2 hb.1.1 (e := .inl (Z.2.2.1 1, gl g o1, .inl (g.2.2 o1))) rfl) (pk_at hW.2.2.2 hb.1.2 (e := .inl (Z.2.2.1 1, gl g o2, .inl (g.2.2 o2))) rfl) (ty := .int) rfl rfl rfl q1 q2 q3 q4 q5 (fun _ _ => rfl) hR.1 (by omega) hd (fun H1 locs1 r1 r2 r3 => kk _ H1 locs1 hf rfl ⟨by rw [← hs]; exact r1, r3, by rw [← hs]; exact r2, hpw⟩)
theorem z_copyB (C : CQ p s m args meth c cc own nL ret Z) (hW : XG Z h a g s.heap H locs) (hl : lv_has ls nL lv) {o1 o2 : Nat} (hk : Cond.methodLink own idx arraycopyName ∈ TW) (hR : 1 ≤ R.frames ∧ 8 + (nativeFrameWords "java/lang/System" "arraycopy" 5 + 11) ≤ R.locals) {sp dp cn : Int32} {K : PL → Option α} (hf : ck ((gk g o1 6 && gk g o2 6) && cpok sp dp cn (gl g o1) (gl g o2)) (stp (gcp g (g.2.2 o1) o2 sp dp cn) K) = some out) (hd : decode cc pc = .ok (.invokestatic idx, 3)) (kk : ∀ (g1 : PL) (H1 : Heap) (locs1 : List Loc), K g1 = some out → g1.1 = g.1 → XG Z h a g1 s.heap H1 locs1 → W p l e R s m args below meth c H1 locs1 cells slots Q (F0 m (pc + 3) ls rest)) (hcat : (rest.map fun v => v.category).sum ≤ 8 := by exact Nat.le_of_ble_eq_true rfl) : W p l e R s m args below meth c H locs cells slots Q (F0 m pc ls (.int cn :: .int dp :: .ref (ra Z a o2) :: .int sp :: .ref (ra Z a o1) :: rest)) := by
  obtain ⟨hb, hf⟩ := ck_t hf
  rw [Bool.and_eq_true, Bool.and_eq_true] at hb
  obtain ⟨q1, q2, q3, q4, q5⟩ := cpok_t hb.2
  have hs : (wl Z h (pl Z a g)).set (125 + o2) (ra Z a o2, .inl (Z.2.2.1 0, gl g o2, .inl (va_cpy (g.2.2 o1) (g.2.2 o2) sp.toNatClampNeg dp.toNatClampNeg cn.toNatClampNeg))) = wl Z h (pl Z a (gcp g (g.2.2 o1) o2 sp dp cn)) := pk_set hW.2.2.2 hb.1.2 rfl rfl (fun j hj => gcp_ne hj) (by rw [gcp_eq]; rfl)
  have hpw : PW (gcp g (g.2.2 o1) o2 sp dp cn) := PW_gcp hW.2.2.2 hb.1.2 (Or.inr rfl) (fun _ i _ => hW.2.2.2.2.2 o1 (gk_t hb.1.1).1 (gk_t hb.1.1).2 _)
  exact va_copyi C.1 C.2.1 (C.2.2.2.2.1.trans hl.1.symm) C.2.2.2.1 (C.2.2.1 _ hk) (C.2.2.1 _ wj_cp.1) (C.2.2.1 _ wj_cp.2.1) (C.2.2.1 _ wj_cp.2.2) C.2.2.2.2.2.2.2.1 hW.1 hW.2.2.1 hW.2.1 (125 + o1) (125 + o2) 0 0 (pk_at hW.2.2.2 hb.1.1 (e := .inl (Z.2.2.1 0, gl g o1, .inl (g.2.2 o1))) rfl) (pk_at hW.2.2.2 hb.1.2 (e := .inl (Z.2.2.1 0, gl g o2, .inl (g.2.2 o2))) rfl) (ty := .byte) rfl rfl rfl q1 q2 q3 q4 q5 (fun i _ => hW.2.2.2.2.2 o1 (gk_t hb.1.1).1 (gk_t hb.1.1).2 _) hR.1 (by omega) hd (fun H1 locs1 r1 r2 r3 => kk _ H1 locs1 hf rfl ⟨by rw [← hs]; exact r1, r3, by rw [← hs]; exact r2, hpw⟩)
theorem tbP_fit : ∀ i, i < 10 → ∀ j, j < tlP i → bfit (tbP i j) := by unfold bfit; decide +kernel
theorem z_copyT (C : CQ p s m args meth c cc own nL ret Z) (hW : XG Z h a g s.heap H locs) (hl : lv_has ls nL lv) {i o2 : Nat} (hi : i < 10) (hk : Cond.methodLink own idx arraycopyName ∈ TW) (hR : 1 ≤ R.frames ∧ 8 + (nativeFrameWords "java/lang/System" "arraycopy" 5 + 11) ≤ R.locals) {sp dp cn : Int32} {K : PL → Option α} (hf : ck (gk g o2 6 && cpok sp dp cn (tlP i) (gl g o2)) (stp (gcp g (tbP i) o2 sp dp cn) K) = some out) (hd : decode cc pc = .ok (.invokestatic idx, 3)) (kk : ∀ (g1 : PL) (H1 : Heap) (locs1 : List Loc), K g1 = some out → g1.1 = g.1 → XG Z h a g1 s.heap H1 locs1 → W p l e R s m args below meth c H1 locs1 cells slots Q (F0 m (pc + 3) ls rest)) (hcat : (rest.map fun v => v.category).sum ≤ 8 := by exact Nat.le_of_ble_eq_true rfl) : W p l e R s m args below meth c H locs cells slots Q (F0 m pc ls (.int cn :: .int dp :: .ref (ra Z a o2) :: .int sp :: .ref (Z.2.2.2.2 (2 * i + 201)) :: rest)) := by
  obtain ⟨hb, hf⟩ := ck_t hf
  rw [Bool.and_eq_true] at hb
  obtain ⟨q1, q2, q3, q4, q5⟩ := cpok_t hb.2
  have hs : (wl Z h (pl Z a g)).set (125 + o2) (ra Z a o2, .inl (Z.2.2.1 0, gl g o2, .inl (va_cpy (tbP i) (g.2.2 o2) sp.toNatClampNeg dp.toNatClampNeg cn.toNatClampNeg))) = wl Z h (pl Z a (gcp g (tbP i) o2 sp dp cn)) := pk_set hW.2.2.2 hb.1 rfl rfl (fun j hj => gcp_ne hj) (by rw [gcp_eq]; rfl)
  have hfit : ∀ j, j < ix cn → bfit (tbP i (ix sp + j)) := fun j hj => tbP_fit i hi _ (by omega)
  have hpw : PW (gcp g (tbP i) o2 sp dp cn) := PW_gcp hW.2.2.2 hb.1 (Or.inr rfl) (fun _ => hfit)
  exact vk_copyt C.1 C.2.1 (C.2.2.2.2.1.trans hl.1.symm) C.2.2.2.1 (C.2.2.1 _ hk) (C.2.2.1 _ wj_cp.1) (C.2.2.1 _ wj_cp.2.1) (C.2.2.1 _ wj_cp.2.2) C.2.2.2.2.2.2.2.1 hW.1 hW.2.2.1 hW.2.1 (C.2.2.2.2.2.2.2.2.2.2.1 i hi).2.2.2 (125 + o2) 0 (pk_at hW.2.2.2 hb.1 (e := .inl (Z.2.2.1 0, gl g o2, .inl (g.2.2 o2))) rfl) rfl q1 q2 q3 q4 q5 hfit hR.1 (by omega) hd (fun H1 locs1 r1 r2 r3 => kk _ H1 locs1 hf rfl ⟨by rw [← hs]; exact r1, r3, by rw [← hs]; exact r2, hpw⟩)
theorem wj_cl : Cond.sameMethod "[B" "java/lang/Object" "clone" "()Ljava/lang/Object;" ∈ TW ∧ Cond.native ⟨"java/lang/Object", "clone", "()Ljava/lang/Object;"⟩ ∈ TW ∧ Cond.instanceMethod ⟨"java/lang/Object", "clone", "()Ljava/lang/Object;"⟩ ∈ TW ∧ Cond.selects "[B" ⟨"[B", "clone", "()Ljava/lang/Object;"⟩ ⟨"java/lang/Object", "clone", "()Ljava/lang/Object;"⟩ ∈ TW := ⟨TW_of 469 (by decide +kernel) (by decide +kernel), TW_of 470 (by decide +kernel) (by decide +kernel), TW_of 471 (by decide +kernel) (by decide +kernel), TW_of 472 (by decide +kernel) (by decide +kernel)⟩
theorem z_clone (C : CQ p s m args meth c cc own nL ret Z) (hW : XG Z h a g s.heap H locs) (hl : lv_has ls nL lv) {o : Nat} (hk : Cond.methodLink own idx ⟨"[B", "clone", "()Ljava/lang/Object;"⟩ ∈ TW) {K : PL → Option α} (hf : ck (gk g o 6 && ngw g (gl g o)) (stp (gnew g 6 (gl g o) (g.2.2 o)) K) = some out) (hR : 1 ≤ R.frames ∧ 22 ≤ R.locals) (hc : cells + 1 ≤ R.cells ∧ slots + 600 ≤ R.slots) (hd : decode cc pc = .ok (.invokevirtual idx, 3)) (kk : ∀ (a1 : Nat → Nat) (g1 : PL) (H1 : Heap), K g1 = some out → AG a g a1 g1 → XG Z h a1 g1 s.heap H1 locs → W p l e R s m args below meth c H1 locs (cells + 1) (slots + 600) Q (F0 m (pc + 3) ls (.ref (ra Z a1 g.1) :: rest))) (hcat : (rest.map fun v => v.category).sum ≤ 8 := by exact Nat.le_of_ble_eq_true rfl) : W p l e R s m args below meth c H locs cells slots Q (F0 m pc ls (.ref (ra Z a o) :: rest)) := by
  obtain ⟨hb, hf⟩ := ck_t hf
  rw [Bool.and_eq_true] at hb
  obtain ⟨hg1, hg2⟩ := ngw_t hb.2
  have r2 : s.vm.findClass "[B" = some (Z.2.2.1 0) := (C.2.2.2.2.2.2.2.1.2 0 (Z.2.2.1 0, .byte) rfl).2
  have hbf : ∀ j, bfit (g.2.2 o j) := hW.2.2.2.2.2 o (gk_t hb.1).1 (gk_t hb.1).2
  refine va_clone C.1 C.2.1 (C.2.2.2.2.1.trans hl.1.symm) C.2.2.2.1 (C.2.2.1 _ hk) (C.2.2.1 _ wj_cl.1) (C.2.2.1 _ wj_cl.2.1) (C.2.2.1 _ wj_cl.2.2.1) (C.2.2.1 _ wj_cl.2.2.2) (C.2.2.2.2.2.2.2.2.2.1.2.2.2.2.2.2.1 ("[B", "java/lang/Cloneable") (by decide)) C.2.2.2.2.2.2.2.1 hW.1 hW.2.2.1 hW.2.1 (z_A C) (125 + o) 0 (pk_at hW.2.2.2 hb.1 (e := .inl (Z.2.2.1 0, gl g o, .inl (g.2.2 o))) rfl) rfl r2 (fun i v hv => ?_) hR.1 (by omega) hc.1 (by show slots + gl g o ≤ R.slots; omega) hd (fun q H1 hK1 hP1 hD1 hS1 => ?_)
  · rw [vp_cell_i] at hv
    have hi : i < gl g o := by have := (Array.getElem?_eq_some_iff.mp hv).1; rwa [arrV_size] at this
    rw [arrV_read _ _ hi] at hv
    cases hv
    exact hbf i
  · have hw : wl Z h (pl Z (va_up a g.1 q) (gnew g 6 (gl g o) (g.2.2 o))) = wl Z h (pl Z a g) ++ [(q, .inl (Z.2.2.1 0, (gl g o, .inl (g.2.2 o))))] := by
      rw [pl_new hW.2.2.2 (fun j hj => by cases hj), wl_app]
      rfl
    refine W.widen (k := cells + 1) (n := slots + 600) (Nat.le_refl _) (by show slots + gl g o ≤ slots + 600; omega) ?_
    have k1 := kk (va_up a g.1 q) _ H1 hf AG_new ⟨by rw [hw]; exact hP1, hS1, by rw [hw]; exact hD1, PW_new hW.2.2.2 hg1 (fun j hj => by cases hj) (fun _ => hbf)⟩
    rw [ra_new hg1] at k1
    exact k1
theorem z_castB (C : CQ p s m args meth c cc own nL ret Z) (hW : XG Z h a g s.heap H locs) {o : Nat} (ho : gk g o 6 = true) (hk : Cond.classLink own idx "[B" ∈ TW) (hd : decode cc pc = .ok (.checkcast idx, 3)) (k : W p l e R s m args below meth c H locs cells slots Q (F0 m (pc + 3) ls (.ref (ra Z a o) :: rest))) : W p l e R s m args below meth c H locs cells slots Q (F0 m pc ls (.ref (ra Z a o) :: rest)) :=
  va_castA C.1 C.2.1 C.2.2.2.1 (C.2.2.1 _ hk) hW.1 (125 + o) (pk_at hW.2.2.2 ho (e := .inl (Z.2.2.1 0, gl g o, .inl (g.2.2 o))) rfl) (C.2.2.2.2.2.2.2.1.2 0 (Z.2.2.1 0, .byte) rfl).2 hd k
end ZK
