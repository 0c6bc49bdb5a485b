/-! the pool's fields -/
def fl_X11 (Z : ZT) (a : Nat → Nat) (r : Nat → Int32) : List Value := [.int (r 0), .int (r 1), .int (r 2), rv Z a (r 3), rv Z a (r 4), .int (r 5), .int (r 6), .int (r 7), rv Z a (r 8), rv Z a (r 9), rv Z a (r 10), rv Z a (r 11), rv Z a (r 12), rv Z a (r 13), rv Z a (r 14), rv Z a (r 15), rv Z a (r 16)]
def fl_X12 (Z : ZT) (a : Nat → Nat) (r : Nat → Int32) : List Value := [.int (r 0)]
def fl_J4 (Z : ZT) (a : Nat → Nat) (r : Nat → Int32) : List Value := [rv Z a (r 0), .int (r 1), .int (r 2), .int (r 3)]
def fl_J0 (Z : ZT) (a : Nat → Nat) (r : Nat → Int32) : List Value := [rv Z a (r 0), .int (r 1), .int (r 2), .int (r 3)]
section ZM
variable {p : Program} {l : Launch} {e : Env} {R : Room} {s : State} {m : MethodId} {args : Array Value} {below : List Frame} {meth : Method} {c : Code} {H : Heap} {locs : List Loc} {cells slots : Nat} {Q : State → Prop} {cc : ByteArray} {pc nL : Nat} {ret : Option FieldType} {ls : Array Slot} {rest : List Value} {Z : ZT} {h : Hp} {a : Nat → Nat} {g : PL} {α : Type} {out : α}
theorem mf_J5_15 : Cond.fieldLink RJ5 15 (TJ4 0).1 (TJ4 0).2.1 (TJ4 0).2.2.1 ∈ TW := TW_of 422 (by decide +kernel) (by decide +kernel)
theorem zg_J5_15 (C : CQ p s m args meth c cc RJ5 nL ret Z) (hW : XG Z h a g s.heap H locs) {o : Nat} {K : Nat → Option α} (hf : ckn (gk g o 2) (g.2.2 o 0) K = some out) (hd : decode cc pc = .ok (.getfield 15, 3)) (kk : ∀ z : Nat, K z = some out → W p l e R s m args below meth c H locs cells slots Q (F0 m (pc + 3) ls (.ref (ra Z a z) :: rest))) : W p l e R s m args below meth c H locs cells slots Q (F0 m pc ls (.ref (ra Z a o) :: rest)) := by
  obtain ⟨hb, h0, hf⟩ := ckn_t hf
  have k1 := kk _ hf
  rw [← rv_pos h0] at k1
  exact z_get C hW hb (ci := 11) (fs := fl_J4 Z a (g.2.2 o)) rfl rfl wsJ4_in 0 (by decide) mf_J5_15 rfl (v := rv Z a (g.2.2 o 0)) rfl hd k1
theorem zp_J5_15 (C : CQ p s m args meth c cc RJ5 nL ret Z) (hW : XG Z h a g s.heap H locs) {o : Nat} {x : Nat} {K : PL → Option α} (hf : ck (gk g o 2 && (rkb g x && decide (x < 2147483648))) (stp (gu g o 0 (nI x)) K) = some out) (hd : decode cc pc = .ok (.putfield 15, 3)) (kk : ∀ (g1 : PL) (H1 : Heap) (locs1 : List Loc), K g1 = some out → g1.1 = g.1 → XG Z h a g1 s.heap H1 locs1 → W p l e R s m args below meth c H1 locs1 cells slots Q (F0 m (pc + 3) ls rest)) : W p l e R s m args below meth c H locs cells slots Q (F0 m pc ls (.ref (ra Z a x) :: .ref (ra Z a o) :: rest)) := by
  obtain ⟨hb, hf⟩ := ck_t hf
  rw [Bool.and_eq_true, Bool.and_eq_true, decide_eq_true_eq] at hb
  obtain ⟨hb, hx1, hx2⟩ := hb
  have hpw : PW (gu g o 0 (nI x)) := PW_gu hW.2.2.2 (fun _ => rok_nI hx1 hx2) (fun q => by rw [(gk_t hb).2] at q; cases q)
  have e2 : celP Z a 2 (gl g o) ((gu g o 0 (nI x)).2.2 o) = .inr (11, (fl_J4 Z a (g.2.2 o)).set 0 (.ref (ra Z a x))) := by
    rw [gu_eq, ← rv_nI hx2]
    rfl
  exact z_put C hW hb (ci := 11) (fs := fl_J4 Z a (g.2.2 o)) rfl rfl wsJ4_in tyJ4 tyJ4_ok nmJ4 0 (by decide) mf_J5_15 rfl rfl (ty := .array .byte) (by decide +kernel) rfl rfl (Nat.le_of_ble_eq_true rfl) e2 hpw hd (fun H1 locs1 q => kk _ H1 locs1 hf rfl q)
theorem mf_J5_22 : Cond.fieldLink RJ5 22 (TJ4 1).1 (TJ4 1).2.1 (TJ4 1).2.2.1 ∈ TW := TW_of 423 (by decide +kernel) (by decide +kernel)
theorem zg_J5_22 (C : CQ p s m args meth c cc RJ5 nL ret Z) (hW : XG Z h a g s.heap H locs) {o : Nat} {K : Option α} (hf : ck (gk g o 2) K = some out) (hd : decode cc pc = .ok (.getfield 22, 3)) (kk : K = some out → W p l e R s m args below meth c H locs cells slots Q (F0 m (pc + 3) ls (.int (g.2.2 o 1) :: rest))) : W p l e R s m args below meth c H locs cells slots Q (F0 m pc ls (.ref (ra Z a o) :: rest)) :=
  z_get C hW (ck_t hf).1 (ci := 11) (fs := fl_J4 Z a (g.2.2 o)) rfl rfl wsJ4_in 1 (by decide) mf_J5_22 rfl (v := .int (g.2.2 o 1)) rfl hd (kk (ck_t hf).2)
theorem zp_J5_22 (C : CQ p s m args meth c cc RJ5 nL ret Z) (hW : XG Z h a g s.heap H locs) {o : Nat} {v : Int32} (hz : v = 0) {K : PL → Option α} (hf : ck (gk g o 2) (stp (gu g o 1 v) K) = some out) (hd : decode cc pc = .ok (.putfield 22, 3)) (kk : ∀ (g1 : PL) (H1 : Heap) (locs1 : List Loc), K g1 = some out → g1.1 = g.1 → XG Z h a g1 s.heap H1 locs1 → W p l e R s m args below meth c H1 locs1 cells slots Q (F0 m (pc + 3) ls rest)) : W p l e R s m args below meth c H locs cells slots Q (F0 m pc ls (.int v :: .ref (ra Z a o) :: rest)) := by
  obtain ⟨hb, hf⟩ := ck_t hf
  have hpw : PW (gu g o 1 v) := PW_gu hW.2.2.2 (fun q => by rw [(gk_t hb).2] at q; cases q) (fun q => by rw [(gk_t hb).2] at q; cases q)
  have e2 : celP Z a 2 (gl g o) ((gu g o 1 v).2.2 o) = .inr (11, (fl_J4 Z a (g.2.2 o)).set 1 (.int v)) := by
    rw [gu_eq]
    rfl
  exact z_put C hW hb (ci := 11) (fs := fl_J4 Z a (g.2.2 o)) rfl rfl wsJ4_in tyJ4 tyJ4_ok nmJ4 1 (by decide) mf_J5_22 rfl rfl (ty := .byte) (by decide +kernel) (by rw [hz]; decide) (by rw [hz]; decide) (Nat.le_of_ble_eq_true rfl) e2 hpw hd (fun H1 locs1 q => kk _ H1 locs1 hf rfl q)
theorem mf_J0_1048 : Cond.fieldLink RJ0 1048 (TJ4 2).1 (TJ4 2).2.1 (TJ4 2).2.2.1 ∈ TW := TW_of 424 (by decide +kernel) (by decide +kernel)
theorem zg_J0_1048 (C : CQ p s m args meth c cc RJ0 nL ret Z) (hW : XG Z h a g s.heap H locs) {o : Nat} {K : Option α} (hf : ck (gk g o 2) K = some out) (hd : decode cc pc = .ok (.getfield 1048, 3)) (kk : K = some out → W p l e R s m args below meth c H locs cells slots Q (F0 m (pc + 3) ls (.int (g.2.2 o 2) :: rest))) : W p l e R s m args below meth c H locs cells slots Q (F0 m pc ls (.ref (ra Z a o) :: rest)) :=
  z_get C hW (ck_t hf).1 (ci := 11) (fs := fl_J4 Z a (g.2.2 o)) rfl rfl wsJ4_in 2 (by decide) mf_J0_1048 rfl (v := .int (g.2.2 o 2)) rfl hd (kk (ck_t hf).2)
theorem mf_J5_79 : Cond.fieldLink RJ5 79 (TJ4 3).1 (TJ4 3).2.1 (TJ4 3).2.2.1 ∈ TW := TW_of 425 (by decide +kernel) (by decide +kernel)
theorem zg_J5_79 (C : CQ p s m args meth c cc RJ5 nL ret Z) (hW : XG Z h a g s.heap H locs) {o : Nat} {K : Option α} (hf : ck (gk g o 2) K = some out) (hd : decode cc pc = .ok (.getfield 79, 3)) (kk : K = some out → W p l e R s m args below meth c H locs cells slots Q (F0 m (pc + 3) ls (.int (g.2.2 o 3) :: rest))) : W p l e R s m args below meth c H locs cells slots Q (F0 m pc ls (.ref (ra Z a o) :: rest)) :=
  z_get C hW (ck_t hf).1 (ci := 11) (fs := fl_J4 Z a (g.2.2 o)) rfl rfl wsJ4_in 3 (by decide) mf_J5_79 rfl (v := .int (g.2.2 o 3)) rfl hd (kk (ck_t hf).2)
theorem zp_J5_79 (C : CQ p s m args meth c cc RJ5 nL ret Z) (hW : XG Z h a g s.heap H locs) {o : Nat} {v : Int32} {K : PL → Option α} (hf : ck (gk g o 2) (stp (gu g o 3 v) K) = some out) (hd : decode cc pc = .ok (.putfield 79, 3)) (kk : ∀ (g1 : PL) (H1 : Heap) (locs1 : List Loc), K g1 = some out → g1.1 = g.1 → XG Z h a g1 s.heap H1 locs1 → W p l e R s m args below meth c H1 locs1 cells slots Q (F0 m (pc + 3) ls rest)) : W p l e R s m args below meth c H locs cells slots Q (F0 m pc ls (.int v :: .ref (ra Z a o) :: rest)) := by
  obtain ⟨hb, hf⟩ := ck_t hf
  have hpw : PW (gu g o 3 v) := PW_gu hW.2.2.2 (fun q => by rw [(gk_t hb).2] at q; cases q) (fun q => by rw [(gk_t hb).2] at q; cases q)
  have e2 : celP Z a 2 (gl g o) ((gu g o 3 v).2.2 o) = .inr (11, (fl_J4 Z a (g.2.2 o)).set 3 (.int v)) := by
    rw [gu_eq]
    rfl
  exact z_put C hW hb (ci := 11) (fs := fl_J4 Z a (g.2.2 o)) rfl rfl wsJ4_in tyJ4 tyJ4_ok nmJ4 3 (by decide) mf_J5_79 rfl rfl (ty := .int) (by decide +kernel) rfl rfl (Nat.le_of_ble_eq_true rfl) e2 hpw hd (fun H1 locs1 q => kk _ H1 locs1 hf rfl q)
theorem mf_J0_9 : Cond.fieldLink RJ0 9 (TJ0 0).1 (TJ0 0).2.1 (TJ0 0).2.2.1 ∈ TW := TW_of 724 (by decide +kernel) (by decide +kernel)
theorem zg_J0_9 (C : CQ p s m args meth c cc RJ0 nL ret Z) (hW : XG Z h a g s.heap H locs) {o : Nat} {K : Nat → Option α} (hf : ckn (gk g o 3) (g.2.2 o 0) K = some out) (hd : decode cc pc = .ok (.getfield 9, 3)) (kk : ∀ z : Nat, K z = some out → W p l e R s m args below meth c H locs cells slots Q (F0 m (pc + 3) ls (.ref (ra Z a z) :: rest))) : W p l e R s m args below meth c H locs cells slots Q (F0 m pc ls (.ref (ra Z a o) :: rest)) := by
  obtain ⟨hb, h0, hf⟩ := ckn_t hf
  have k1 := kk _ hf
  rw [← rv_pos h0] at k1
  exact z_get C hW hb (ci := 12) (fs := fl_J0 Z a (g.2.2 o)) rfl rfl wsJ0_in 0 (by decide) mf_J0_9 rfl (v := rv Z a (g.2.2 o 0)) rfl hd k1
theorem zp_J0_9 (C : CQ p s m args meth c cc RJ0 nL ret Z) (hW : XG Z h a g s.heap H locs) {o : Nat} (hin : meth.name = "<init>") {x : Nat} {K : PL → Option α} (hf : ck (gk g o 3 && (rkb g x && decide (x < 2147483648))) (stp (gu g o 0 (nI x)) K) = some out) (hd : decode cc pc = .ok (.putfield 9, 3)) (kk : ∀ (g1 : PL) (H1 : Heap) (locs1 : List Loc), K g1 = some out → g1.1 = g.1 → XG Z h a g1 s.heap H1 locs1 → W p l e R s m args below meth c H1 locs1 cells slots Q (F0 m (pc + 3) ls rest)) : W p l e R s m args below meth c H locs cells slots Q (F0 m pc ls (.ref (ra Z a x) :: .ref (ra Z a o) :: rest)) := by
  obtain ⟨hb, hf⟩ := ck_t hf
  rw [Bool.and_eq_true, Bool.and_eq_true, decide_eq_true_eq] at hb
  obtain ⟨hb, hx1, hx2⟩ := hb
  have hpw : PW (gu g o 0 (nI x)) := PW_gu hW.2.2.2 (fun _ => rok_nI hx1 hx2) (fun q => by rw [(gk_t hb).2] at q; cases q)
  have e2 : celP Z a 3 (gl g o) ((gu g o 0 (nI x)).2.2 o) = .inr (12, (fl_J0 Z a (g.2.2 o)).set 0 (.ref (ra Z a x))) := by
    rw [gu_eq, ← rv_nI hx2]
    rfl
  exact z_putF C hW hb (ci := 12) (fs := fl_J0 Z a (g.2.2 o)) rfl rfl wsJ0_in tyJ0 tyJ0_ok nmJ0 0 (by decide) mf_J0_9 rfl rfl hin rfl (ty := .array .byte) (by decide +kernel) rfl rfl (Nat.le_of_ble_eq_true rfl) e2 hpw hd (fun H1 locs1 q => kk _ H1 locs1 hf rfl q)
theorem mf_J0_15 : Cond.fieldLink RJ0 15 (TJ0 1).1 (TJ0 1).2.1 (TJ0 1).2.2.1 ∈ TW := TW_of 725 (by decide +kernel) (by decide +kernel)
theorem zg_J0_15 (C : CQ p s m args meth c cc RJ0 nL ret Z) (hW : XG Z h a g s.heap H locs) {o : Nat} {K : Option α} (hf : ck (gk g o 3) K = some out) (hd : decode cc pc = .ok (.getfield 15, 3)) (kk : K = some out → W p l e R s m args below meth c H locs cells slots Q (F0 m (pc + 3) ls (.int (g.2.2 o 1) :: rest))) : W p l e R s m args below meth c H locs cells slots Q (F0 m pc ls (.ref (ra Z a o) :: rest)) :=
  z_get C hW (ck_t hf).1 (ci := 12) (fs := fl_J0 Z a (g.2.2 o)) rfl rfl wsJ0_in 1 (by decide) mf_J0_15 rfl (v := .int (g.2.2 o 1)) rfl hd (kk (ck_t hf).2)
theorem zp_J0_15 (C : CQ p s m args meth c cc RJ0 nL ret Z) (hW : XG Z h a g s.heap H locs) {o : Nat} (hin : meth.name = "<init>") {v : Int32} (hz : v = 0) {K : PL → Option α} (hf : ck (gk g o 3) (stp (gu g o 1 v) K) = some out) (hd : decode cc pc = .ok (.putfield 15, 3)) (kk : ∀ (g1 : PL) (H1 : Heap) (locs1 : List Loc), K g1 = some out → g1.1 = g.1 → XG Z h a g1 s.heap H1 locs1 → W p l e R s m args below meth c H1 locs1 cells slots Q (F0 m (pc + 3) ls rest)) : W p l e R s m args below meth c H locs cells slots Q (F0 m pc ls (.int v :: .ref (ra Z a o) :: rest)) := by
  obtain ⟨hb, hf⟩ := ck_t hf
  have hpw : PW (gu g o 1 v) := PW_gu hW.2.2.2 (fun q => by rw [(gk_t hb).2] at q; cases q) (fun q => by rw [(gk_t hb).2] at q; cases q)
  have e2 : celP Z a 3 (gl g o) ((gu g o 1 v).2.2 o) = .inr (12, (fl_J0 Z a (g.2.2 o)).set 1 (.int v)) := by
    rw [gu_eq]
    rfl
  exact z_putF C hW hb (ci := 12) (fs := fl_J0 Z a (g.2.2 o)) rfl rfl wsJ0_in tyJ0 tyJ0_ok nmJ0 1 (by decide) mf_J0_15 rfl rfl hin rfl (ty := .byte) (by decide +kernel) (by rw [hz]; decide) (by rw [hz]; decide) (Nat.le_of_ble_eq_true rfl) e2 hpw hd (fun H1 locs1 q => kk _ H1 locs1 hf rfl q)
theorem mf_X11_106 : Cond.fieldLink RX11 106 (TX11 0).1 (TX11 0).2.1 (TX11 0).2.2.1 ∈ TW := TW_of 756 (by decide +kernel) (by decide +kernel)
theorem zg_X11_106 (C : CQ p s m args meth c cc RX11 nL ret Z) (hW : XG Z h a g s.heap H locs) {o : Nat} {K : Option α} (hf : ck (gk g o 0) K = some out) (hd : decode cc pc = .ok (.getfield 106, 3)) (kk : K = some out → W p l e R s m args below meth c H locs cells slots Q (F0 m (pc + 3) ls (.int (g.2.2 o 0) :: rest))) : W p l e R s m args below meth c H locs cells slots Q (F0 m pc ls (.ref (ra Z a o) :: rest)) :=
  z_get C hW (ck_t hf).1 (ci := 9) (fs := fl_X11 Z a (g.2.2 o)) rfl rfl wsX11_in 0 (by decide) mf_X11_106 rfl (v := .int (g.2.2 o 0)) rfl hd (kk (ck_t hf).2)
theorem zp_X11_106 (C : CQ p s m args meth c cc RX11 nL ret Z) (hW : XG Z h a g s.heap H locs) {o : Nat} (hin : meth.name = "<init>") {v : Int32} {K : PL → Option α} (hf : ck (gk g o 0) (stp (gu g o 0 v) K) = some out) (hd : decode cc pc = .ok (.putfield 106, 3)) (kk : ∀ (g1 : PL) (H1 : Heap) (locs1 : List Loc), K g1 = some out → g1.1 = g.1 → XG Z h a g1 s.heap H1 locs1 → W p l e R s m args below meth c H1 locs1 cells slots Q (F0 m (pc + 3) ls rest)) : W p l e R s m args below meth c H locs cells slots Q (F0 m pc ls (.int v :: .ref (ra Z a o) :: rest)) := by
  obtain ⟨hb, hf⟩ := ck_t hf
  have hpw : PW (gu g o 0 v) := PW_gu hW.2.2.2 (fun q => by rw [(gk_t hb).2] at q; cases q) (fun q => by rw [(gk_t hb).2] at q; cases q)
  have e2 : celP Z a 0 (gl g o) ((gu g o 0 v).2.2 o) = .inr (9, (fl_X11 Z a (g.2.2 o)).set 0 (.int v)) := by
    rw [gu_eq]
    rfl
  exact z_putF C hW hb (ci := 9) (fs := fl_X11 Z a (g.2.2 o)) rfl rfl wsX11_in tyX11 tyX11_ok nmX11 0 (by decide) mf_X11_106 rfl rfl hin rfl (ty := .int) (by decide +kernel) rfl rfl (Nat.le_of_ble_eq_true rfl) e2 hpw hd (fun H1 locs1 q => kk _ H1 locs1 hf rfl q)
theorem mf_L_210 : (RL, 210, (TX11 0).1, (TX11 0).2.1, (TX11 0).2.2.1, "TranscriptCutterLaw") ∈ flk := by decide +kernel
theorem zg_L_210 (C : CQ p s m args meth c cc RL nL ret Z) (hW : XG Z h a g s.heap H locs) {o : Nat} {K : Option α} (hf : ck (gk g o 0) K = some out) (hd : decode cc pc = .ok (.getfield 210, 3)) (kk : K = some out → W p l e R s m args below meth c H locs cells slots Q (F0 m (pc + 3) ls (.int (g.2.2 o 0) :: rest))) : W p l e R s m args below meth c H locs cells slots Q (F0 m pc ls (.ref (ra Z a o) :: rest)) :=
  z_getN C hW (ck_t hf).1 (ci := 9) (fs := fl_X11 Z a (g.2.2 o)) rfl rfl wsX11_in 0 (by decide) mf_L_210 rfl (v := .int (g.2.2 o 0)) rfl hd (kk (ck_t hf).2)
theorem mf_X11_55 : Cond.fieldLink RX11 55 (TX11 1).1 (TX11 1).2.1 (TX11 1).2.2.1 ∈ TW := TW_of 758 (by decide +kernel) (by decide +kernel)
theorem zg_X11_55 (C : CQ p s m args meth c cc RX11 nL ret Z) (hW : XG Z h a g s.heap H locs) {o : Nat} {K : Option α} (hf : ck (gk g o 0) K = some out) (hd : decode cc pc = .ok (.getfield 55, 3)) (kk : K = some out → W p l e R s m args below meth c H locs cells slots Q (F0 m (pc + 3) ls (.int (g.2.2 o 1) :: rest))) : W p l e R s m args below meth c H locs cells slots Q (F0 m pc ls (.ref (ra Z a o) :: rest)) :=
  z_get C hW (ck_t hf).1 (ci := 9) (fs := fl_X11 Z a (g.2.2 o)) rfl rfl wsX11_in 1 (by decide) mf_X11_55 rfl (v := .int (g.2.2 o 1)) rfl hd (kk (ck_t hf).2)
theorem zp_X11_55 (C : CQ p s m args meth c cc RX11 nL ret Z) (hW : XG Z h a g s.heap H locs) {o : Nat} (hin : meth.name = "<init>") {v : Int32} {K : PL → Option α} (hf : ck (gk g o 0) (stp (gu g o 1 v) K) = some out) (hd : decode cc pc = .ok (.putfield 55, 3)) (kk : ∀ (g1 : PL) (H1 : Heap) (locs1 : List Loc), K g1 = some out → g1.1 = g.1 → XG Z h a g1 s.heap H1 locs1 → W p l e R s m args below meth c H1 locs1 cells slots Q (F0 m (pc + 3) ls rest)) : W p l e R s m args below meth c H locs cells slots Q (F0 m pc ls (.int v :: .ref (ra Z a o) :: rest)) := by
  obtain ⟨hb, hf⟩ := ck_t hf
  have hpw : PW (gu g o 1 v) := PW_gu hW.2.2.2 (fun q => by rw [(gk_t hb).2] at q; cases q) (fun q => by rw [(gk_t hb).2] at q; cases q)
  have e2 : celP Z a 0 (gl g o) ((gu g o 1 v).2.2 o) = .inr (9, (fl_X11 Z a (g.2.2 o)).set 1 (.int v)) := by
    rw [gu_eq]
    rfl
  exact z_putF C hW hb (ci := 9) (fs := fl_X11 Z a (g.2.2 o)) rfl rfl wsX11_in tyX11 tyX11_ok nmX11 1 (by decide) mf_X11_55 rfl rfl hin rfl (ty := .int) (by decide +kernel) rfl rfl (Nat.le_of_ble_eq_true rfl) e2 hpw hd (fun H1 locs1 q => kk _ H1 locs1 hf rfl q)
theorem mf_X11_59 : Cond.fieldLink RX11 59 (TX11 2).1 (TX11 2).2.1 (TX11 2).2.2.1 ∈ TW := TW_of 759 (by decide +kernel) (by decide +kernel)
theorem zg_X11_59 (C : CQ p s m args meth c cc RX11 nL ret Z) (hW : XG Z h a g s.heap H locs) {o : Nat} {K : Option α} (hf : ck (gk g o 0) K = some out) (hd : decode cc pc = .ok (.getfield 59, 3)) (kk : K = some out → W p l e R s m args below meth c H locs cells slots Q (F0 m (pc + 3) ls (.int (g.2.2 o 2) :: rest))) : W p l e R s m args below meth c H locs cells slots Q (F0 m pc ls (.ref (ra Z a o) :: rest)) :=
  z_get C hW (ck_t hf).1 (ci := 9) (fs := fl_X11 Z a (g.2.2 o)) rfl rfl wsX11_in 2 (by decide) mf_X11_59 rfl (v := .int (g.2.2 o 2)) rfl hd (kk (ck_t hf).2)
theorem zp_X11_59 (C : CQ p s m args meth c cc RX11 nL ret Z) (hW : XG Z h a g s.heap H locs) {o : Nat} (hin : meth.name = "<init>") {v : Int32} {K : PL → Option α} (hf : ck (gk g o 0) (stp (gu g o 2 v) K) = some out) (hd : decode cc pc = .ok (.putfield 59, 3)) (kk : ∀ (g1 : PL) (H1 : Heap) (locs1 : List Loc), K g1 = some out → g1.1 = g.1 → XG Z h a g1 s.heap H1 locs1 → W p l e R s m args below meth c H1 locs1 cells slots Q (F0 m (pc + 3) ls rest)) : W p l e R s m args below meth c H locs cells slots Q (F0 m pc ls (.int v :: .ref (ra Z a o) :: rest)) := by
  obtain ⟨hb, hf⟩ := ck_t hf
  have hpw : PW (gu g o 2 v) := PW_gu hW.2.2.2 (fun q => by rw [(gk_t hb).2] at q; cases q) (fun q => by rw [(gk_t hb).2] at q; cases q)
  have e2 : celP Z a 0 (gl g o) ((gu g o 2 v).2.2 o) = .inr (9, (fl_X11 Z a (g.2.2 o)).set 2 (.int v)) := by
    rw [gu_eq]
    rfl
  exact z_putF C hW hb (ci := 9) (fs := fl_X11 Z a (g.2.2 o)) rfl rfl wsX11_in tyX11 tyX11_ok nmX11 2 (by decide) mf_X11_59 rfl rfl hin rfl (ty := .int) (by decide +kernel) rfl rfl (Nat.le_of_ble_eq_true rfl) e2 hpw hd (fun H1 locs1 q => kk _ H1 locs1 hf rfl q)
theorem mf_X11_9 : Cond.fieldLink RX11 9 (TX11 3).1 (TX11 3).2.1 (TX11 3).2.2.1 ∈ TW := TW_of 760 (by decide +kernel) (by decide +kernel)
theorem zg_X11_9 (C : CQ p s m args meth c cc RX11 nL ret Z) (hW : XG Z h a g s.heap H locs) {o : Nat} {K : Nat → Option α} (hf : ckn (gk g o 0) (g.2.2 o 3) K = some out) (hd : decode cc pc = .ok (.getfield 9, 3)) (kk : ∀ z : Nat, K z = some out → W p l e R s m args below meth c H locs cells slots Q (F0 m (pc + 3) ls (.ref (ra Z a z) :: rest))) : W p l e R s m args below meth c H locs cells slots Q (F0 m pc ls (.ref (ra Z a o) :: rest)) := by
  obtain ⟨hb, h0, hf⟩ := ckn_t hf
  have k1 := kk _ hf
  rw [← rv_pos h0] at k1
  exact z_get C hW hb (ci := 9) (fs := fl_X11 Z a (g.2.2 o)) rfl rfl wsX11_in 3 (by decide) mf_X11_9 rfl (v := rv Z a (g.2.2 o 3)) rfl hd k1
theorem zp_X11_9 (C : CQ p s m args meth c cc RX11 nL ret Z) (hW : XG Z h a g s.heap H locs) {o : Nat} (hin : meth.name = "<init>") {x : Nat} {K : PL → Option α} (hf : ck (gk g o 0 && (rkb g x && decide (x < 2147483648))) (stp (gu g o 3 (nI x)) K) = some out) (hd : decode cc pc = .ok (.putfield 9, 3)) (kk : ∀ (g1 : PL) (H1 : Heap) (locs1 : List Loc), K g1 = some out → g1.1 = g.1 → XG Z h a g1 s.heap H1 locs1 → W p l e R s m args below meth c H1 locs1 cells slots Q (F0 m (pc + 3) ls rest)) : W p l e R s m args below meth c H locs cells slots Q (F0 m pc ls (.ref (ra Z a x) :: .ref (ra Z a o) :: rest)) := by
  obtain ⟨hb, hf⟩ := ck_t hf
  rw [Bool.and_eq_true, Bool.and_eq_true, decide_eq_true_eq] at hb
  obtain ⟨hb, hx1, hx2⟩ := hb
  have hpw : PW (gu g o 3 (nI x)) := PW_gu hW.2.2.2 (fun _ => rok_nI hx1 hx2) (fun q => by rw [(gk_t hb).2] at q; cases q)
  have e2 : celP Z a 0 (gl g o) ((gu g o 3 (nI x)).2.2 o) = .inr (9, (fl_X11 Z a (g.2.2 o)).set 3 (.ref (ra Z a x))) := by
    rw [gu_eq, ← rv_nI hx2]
    rfl
  exact z_putF C hW hb (ci := 9) (fs := fl_X11 Z a (g.2.2 o)) rfl rfl wsX11_in tyX11 tyX11_ok nmX11 3 (by decide) mf_X11_9 rfl rfl hin rfl (ty := .array (.array .int)) (by decide +kernel) rfl rfl (Nat.le_of_ble_eq_true rfl) e2 hpw hd (fun H1 locs1 q => kk _ H1 locs1 hf rfl q)
theorem mf_L_214 : (RL, 214, (TX11 3).1, (TX11 3).2.1, (TX11 3).2.2.1, "TranscriptCutterLaw") ∈ flk := by decide +kernel
theorem zg_L_214 (C : CQ p s m args meth c cc RL nL ret Z) (hW : XG Z h a g s.heap H locs) {o : Nat} {K : Nat → Option α} (hf : ckn (gk g o 0) (g.2.2 o 3) K = some out) (hd : decode cc pc = .ok (.getfield 214, 3)) (kk : ∀ z : Nat, K z = some out → W p l e R s m args below meth c H locs cells slots Q (F0 m (pc + 3) ls (.ref (ra Z a z) :: rest))) : W p l e R s m args below meth c H locs cells slots Q (F0 m pc ls (.ref (ra Z a o) :: rest)) := by
  obtain ⟨hb, h0, hf⟩ := ckn_t hf
  have k1 := kk _ hf
  rw [← rv_pos h0] at k1
  exact z_getN C hW hb (ci := 9) (fs := fl_X11 Z a (g.2.2 o)) rfl rfl wsX11_in 3 (by decide) mf_L_214 rfl (v := rv Z a (g.2.2 o 3)) rfl hd k1
theorem mf_X11_15 : Cond.fieldLink RX11 15 (TX11 4).1 (TX11 4).2.1 (TX11 4).2.2.1 ∈ TW := TW_of 762 (by decide +kernel) (by decide +kernel)
theorem zg_X11_15 (C : CQ p s m args meth c cc RX11 nL ret Z) (hW : XG Z h a g s.heap H locs) {o : Nat} {K : Nat → Option α} (hf : ckn (gk g o 0) (g.2.2 o 4) K = some out) (hd : decode cc pc = .ok (.getfield 15, 3)) (kk : ∀ z : Nat, K z = some out → W p l e R s m args below meth c H locs cells slots Q (F0 m (pc + 3) ls (.ref (ra Z a z) :: rest))) : W p l e R s m args below meth c H locs cells slots Q (F0 m pc ls (.ref (ra Z a o) :: rest)) := by
  obtain ⟨hb, h0, hf⟩ := ckn_t hf
  have k1 := kk _ hf
  rw [← rv_pos h0] at k1
  exact z_get C hW hb (ci := 9) (fs := fl_X11 Z a (g.2.2 o)) rfl rfl wsX11_in 4 (by decide) mf_X11_15 rfl (v := rv Z a (g.2.2 o 4)) rfl hd k1
theorem zp_X11_15 (C : CQ p s m args meth c cc RX11 nL ret Z) (hW : XG Z h a g s.heap H locs) {o : Nat} (hin : meth.name = "<init>") {x : Nat} {K : PL → Option α} (hf : ck (gk g o 0 && (rkb g x && decide (x < 2147483648))) (stp (gu g o 4 (nI x)) K) = some out) (hd : decode cc pc = .ok (.putfield 15, 3)) (kk : ∀ (g1 : PL) (H1 : Heap) (locs1 : List Loc), K g1 = some out → g1.1 = g.1 → XG Z h a g1 s.heap H1 locs1 → W p l e R s m args below meth c H1 locs1 cells slots Q (F0 m (pc + 3) ls rest)) : W p l e R s m args below meth c H locs cells slots Q (F0 m pc ls (.ref (ra Z a x) :: .ref (ra Z a o) :: rest)) := by
  obtain ⟨hb, hf⟩ := ck_t hf
  rw [Bool.and_eq_true, Bool.and_eq_true, decide_eq_true_eq] at hb
  obtain ⟨hb, hx1, hx2⟩ := hb
  have hpw : PW (gu g o 4 (nI x)) := PW_gu hW.2.2.2 (fun _ => rok_nI hx1 hx2) (fun q => by rw [(gk_t hb).2] at q; cases q)
  have e2 : celP Z a 0 (gl g o) ((gu g o 4 (nI x)).2.2 o) = .inr (9, (fl_X11 Z a (g.2.2 o)).set 4 (.ref (ra Z a x))) := by
    rw [gu_eq, ← rv_nI hx2]
    rfl
  exact z_putF C hW hb (ci := 9) (fs := fl_X11 Z a (g.2.2 o)) rfl rfl wsX11_in tyX11 tyX11_ok nmX11 4 (by decide) mf_X11_15 rfl rfl hin rfl (ty := .array (.array .int)) (by decide +kernel) rfl rfl (Nat.le_of_ble_eq_true rfl) e2 hpw hd (fun H1 locs1 q => kk _ H1 locs1 hf rfl q)
theorem mf_X11_103 : Cond.fieldLink RX11 103 (TX11 5).1 (TX11 5).2.1 (TX11 5).2.2.1 ∈ TW := TW_of 763 (by decide +kernel) (by decide +kernel)
theorem zg_X11_103 (C : CQ p s m args meth c cc RX11 nL ret Z) (hW : XG Z h a g s.heap H locs) {o : Nat} {K : Option α} (hf : ck (gk g o 0) K = some out) (hd : decode cc pc = .ok (.getfield 103, 3)) (kk : K = some out → W p l e R s m args below meth c H locs cells slots Q (F0 m (pc + 3) ls (.int (g.2.2 o 5) :: rest))) : W p l e R s m args below meth c H locs cells slots Q (F0 m pc ls (.ref (ra Z a o) :: rest)) :=
  z_get C hW (ck_t hf).1 (ci := 9) (fs := fl_X11 Z a (g.2.2 o)) rfl rfl wsX11_in 5 (by decide) mf_X11_103 rfl (v := .int (g.2.2 o 5)) rfl hd (kk (ck_t hf).2)
theorem zp_X11_103 (C : CQ p s m args meth c cc RX11 nL ret Z) (hW : XG Z h a g s.heap H locs) {o : Nat} {v : Int32} {K : PL → Option α} (hf : ck (gk g o 0) (stp (gu g o 5 v) K) = some out) (hd : decode cc pc = .ok (.putfield 103, 3)) (kk : ∀ (g1 : PL) (H1 : Heap) (locs1 : List Loc), K g1 = some out → g1.1 = g.1 → XG Z h a g1 s.heap H1 locs1 → W p l e R s m args below meth c H1 locs1 cells slots Q (F0 m (pc + 3) ls rest)) : W p l e R s m args below meth c H locs cells slots Q (F0 m pc ls (.int v :: .ref (ra Z a o) :: rest)) := by
  obtain ⟨hb, hf⟩ := ck_t hf
  have hpw : PW (gu g o 5 v) := PW_gu hW.2.2.2 (fun q => by rw [(gk_t hb).2] at q; cases q) (fun q => by rw [(gk_t hb).2] at q; cases q)
  have e2 : celP Z a 0 (gl g o) ((gu g o 5 v).2.2 o) = .inr (9, (fl_X11 Z a (g.2.2 o)).set 5 (.int v)) := by
    rw [gu_eq]
    rfl
  exact z_put C hW hb (ci := 9) (fs := fl_X11 Z a (g.2.2 o)) rfl rfl wsX11_in tyX11 tyX11_ok nmX11 5 (by decide) mf_X11_103 rfl rfl (ty := .int) (by decide +kernel) rfl rfl (Nat.le_of_ble_eq_true rfl) e2 hpw hd (fun H1 locs1 q => kk _ H1 locs1 hf rfl q)
theorem mf_L_106 : (RL, 106, (TX11 5).1, (TX11 5).2.1, (TX11 5).2.2.1, "TranscriptCutterLaw") ∈ flk := by decide +kernel
theorem zg_L_106 (C : CQ p s m args meth c cc RL nL ret Z) (hW : XG Z h a g s.heap H locs) {o : Nat} {K : Option α} (hf : ck (gk g o 0) K = some out) (hd : decode cc pc = .ok (.getfield 106, 3)) (kk : K = some out → W p l e R s m args below meth c H locs cells slots Q (F0 m (pc + 3) ls (.int (g.2.2 o 5) :: rest))) : W p l e R s m args below meth c H locs cells slots Q (F0 m pc ls (.ref (ra Z a o) :: rest)) :=
  z_getN C hW (ck_t hf).1 (ci := 9) (fs := fl_X11 Z a (g.2.2 o)) rfl rfl wsX11_in 5 (by decide) mf_L_106 rfl (v := .int (g.2.2 o 5)) rfl hd (kk (ck_t hf).2)
theorem mf_X11_109 : Cond.fieldLink RX11 109 (TX11 6).1 (TX11 6).2.1 (TX11 6).2.2.1 ∈ TW := TW_of 765 (by decide +kernel) (by decide +kernel)
theorem zg_X11_109 (C : CQ p s m args meth c cc RX11 nL ret Z) (hW : XG Z h a g s.heap H locs) {o : Nat} {K : Option α} (hf : ck (gk g o 0) K = some out) (hd : decode cc pc = .ok (.getfield 109, 3)) (kk : K = some out → W p l e R s m args below meth c H locs cells slots Q (F0 m (pc + 3) ls (.int (g.2.2 o 6) :: rest))) : W p l e R s m args below meth c H locs cells slots Q (F0 m pc ls (.ref (ra Z a o) :: rest)) :=
  z_get C hW (ck_t hf).1 (ci := 9) (fs := fl_X11 Z a (g.2.2 o)) rfl rfl wsX11_in 6 (by decide) mf_X11_109 rfl (v := .int (g.2.2 o 6)) rfl hd (kk (ck_t hf).2)
theorem zp_X11_109 (C : CQ p s m args meth c cc RX11 nL ret Z) (hW : XG Z h a g s.heap H locs) {o : Nat} {v : Int32} {K : PL → Option α} (hf : ck (gk g o 0) (stp (gu g o 6 v) K) = some out) (hd : decode cc pc = .ok (.putfield 109, 3)) (kk : ∀ (g1 : PL) (H1 : Heap) (locs1 : List Loc), K g1 = some out → g1.1 = g.1 → XG Z h a g1 s.heap H1 locs1 → W p l e R s m args below meth c H1 locs1 cells slots Q (F0 m (pc + 3) ls rest)) : W p l e R s m args below meth c H locs cells slots Q (F0 m pc ls (.int v :: .ref (ra Z a o) :: rest)) := by
  obtain ⟨hb, hf⟩ := ck_t hf
  have hpw : PW (gu g o 6 v) := PW_gu hW.2.2.2 (fun q => by rw [(gk_t hb).2] at q; cases q) (fun q => by rw [(gk_t hb).2] at q; cases q)
  have e2 : celP Z a 0 (gl g o) ((gu g o 6 v).2.2 o) = .inr (9, (fl_X11 Z a (g.2.2 o)).set 6 (.int v)) := by
    rw [gu_eq]
    rfl
  exact z_put C hW hb (ci := 9) (fs := fl_X11 Z a (g.2.2 o)) rfl rfl wsX11_in tyX11 tyX11_ok nmX11 6 (by decide) mf_X11_109 rfl rfl (ty := .int) (by decide +kernel) rfl rfl (Nat.le_of_ble_eq_true rfl) e2 hpw hd (fun H1 locs1 q => kk _ H1 locs1 hf rfl q)
theorem mf_X11_121 : Cond.fieldLink RX11 121 (TX11 7).1 (TX11 7).2.1 (TX11 7).2.2.1 ∈ TW := TW_of 766 (by decide +kernel) (by decide +kernel)
theorem zg_X11_121 (C : CQ p s m args meth c cc RX11 nL ret Z) (hW : XG Z h a g s.heap H locs) {o : Nat} {K : Option α} (hf : ck (gk g o 0) K = some out) (hd : decode cc pc = .ok (.getfield 121, 3)) (kk : K = some out → W p l e R s m args below meth c H locs cells slots Q (F0 m (pc + 3) ls (.int (g.2.2 o 7) :: rest))) : W p l e R s m args below meth c H locs cells slots Q (F0 m pc ls (.ref (ra Z a o) :: rest)) :=
  z_get C hW (ck_t hf).1 (ci := 9) (fs := fl_X11 Z a (g.2.2 o)) rfl rfl wsX11_in 7 (by decide) mf_X11_121 rfl (v := .int (g.2.2 o 7)) rfl hd (kk (ck_t hf).2)
theorem zp_X11_121 (C : CQ p s m args meth c cc RX11 nL ret Z) (hW : XG Z h a g s.heap H locs) {o : Nat} {v : Int32} {K : PL → Option α} (hf : ck (gk g o 0) (stp (gu g o 7 v) K) = some out) (hd : decode cc pc = .ok (.putfield 121, 3)) (kk : ∀ (g1 : PL) (H1 : Heap) (locs1 : List Loc), K g1 = some out → g1.1 = g.1 → XG Z h a g1 s.heap H1 locs1 → W p l e R s m args below meth c H1 locs1 cells slots Q (F0 m (pc + 3) ls rest)) : W p l e R s m args below meth c H locs cells slots Q (F0 m pc ls (.int v :: .ref (ra Z a o) :: rest)) := by
  obtain ⟨hb, hf⟩ := ck_t hf
  have hpw : PW (gu g o 7 v) := PW_gu hW.2.2.2 (fun q => by rw [(gk_t hb).2] at q; cases q) (fun q => by rw [(gk_t hb).2] at q; cases q)
  have e2 : celP Z a 0 (gl g o) ((gu g o 7 v).2.2 o) = .inr (9, (fl_X11 Z a (g.2.2 o)).set 7 (.int v)) := by
    rw [gu_eq]
    rfl
  exact z_put C hW hb (ci := 9) (fs := fl_X11 Z a (g.2.2 o)) rfl rfl wsX11_in tyX11 tyX11_ok nmX11 7 (by decide) mf_X11_121 rfl rfl (ty := .int) (by decide +kernel) rfl rfl (Nat.le_of_ble_eq_true rfl) e2 hpw hd (fun H1 locs1 q => kk _ H1 locs1 hf rfl q)
theorem mf_L_147 : (RL, 147, (TX11 7).1, (TX11 7).2.1, (TX11 7).2.2.1, "TranscriptCutterLaw") ∈ flk := by decide +kernel
theorem zg_L_147 (C : CQ p s m args meth c cc RL nL ret Z) (hW : XG Z h a g s.heap H locs) {o : Nat} {K : Option α} (hf : ck (gk g o 0) K = some out) (hd : decode cc pc = .ok (.getfield 147, 3)) (kk : K = some out → W p l e R s m args below meth c H locs cells slots Q (F0 m (pc + 3) ls (.int (g.2.2 o 7) :: rest))) : W p l e R s m args below meth c H locs cells slots Q (F0 m pc ls (.ref (ra Z a o) :: rest)) :=
  z_getN C hW (ck_t hf).1 (ci := 9) (fs := fl_X11 Z a (g.2.2 o)) rfl rfl wsX11_in 7 (by decide) mf_L_147 rfl (v := .int (g.2.2 o 7)) rfl hd (kk (ck_t hf).2)
theorem mf_X11_18 : Cond.fieldLink RX11 18 (TX11 8).1 (TX11 8).2.1 (TX11 8).2.2.1 ∈ TW := TW_of 768 (by decide +kernel) (by decide +kernel)
theorem zg_X11_18 (C : CQ p s m args meth c cc RX11 nL ret Z) (hW : XG Z h a g s.heap H locs) {o : Nat} {K : Nat → Option α} (hf : ckn (gk g o 0) (g.2.2 o 8) K = some out) (hd : decode cc pc = .ok (.getfield 18, 3)) (kk : ∀ z : Nat, K z = some out → W p l e R s m args below meth c H locs cells slots Q (F0 m (pc + 3) ls (.ref (ra Z a z) :: rest))) : W p l e R s m args below meth c H locs cells slots Q (F0 m pc ls (.ref (ra Z a o) :: rest)) := by
  obtain ⟨hb, h0, hf⟩ := ckn_t hf
  have k1 := kk _ hf
  rw [← rv_pos h0] at k1
  exact z_get C hW hb (ci := 9) (fs := fl_X11 Z a (g.2.2 o)) rfl rfl wsX11_in 8 (by decide) mf_X11_18 rfl (v := rv Z a (g.2.2 o 8)) rfl hd k1
theorem zp_X11_18 (C : CQ p s m args meth c cc RX11 nL ret Z) (hW : XG Z h a g s.heap H locs) {o : Nat} (hin : meth.name = "<init>") {x : Nat} {K : PL → Option α} (hf : ck (gk g o 0 && (rkb g x && decide (x < 2147483648))) (stp (gu g o 8 (nI x)) K) = some out) (hd : decode cc pc = .ok (.putfield 18, 3)) (kk : ∀ (g1 : PL) (H1 : Heap) (locs1 : List Loc), K g1 = some out → g1.1 = g.1 → XG Z h a g1 s.heap H1 locs1 → W p l e R s m args below meth c H1 locs1 cells slots Q (F0 m (pc + 3) ls rest)) : W p l e R s m args below meth c H locs cells slots Q (F0 m pc ls (.ref (ra Z a x) :: .ref (ra Z a o) :: rest)) := by
  obtain ⟨hb, hf⟩ := ck_t hf
  rw [Bool.and_eq_true, Bool.and_eq_true, decide_eq_true_eq] at hb
  obtain ⟨hb, hx1, hx2⟩ := hb
  have hpw : PW (gu g o 8 (nI x)) := PW_gu hW.2.2.2 (fun _ => rok_nI hx1 hx2) (fun q => by rw [(gk_t hb).2] at q; cases q)
  have e2 : celP Z a 0 (gl g o) ((gu g o 8 (nI x)).2.2 o) = .inr (9, (fl_X11 Z a (g.2.2 o)).set 8 (.ref (ra Z a x))) := by
    rw [gu_eq, ← rv_nI hx2]
    rfl
  exact z_putF C hW hb (ci := 9) (fs := fl_X11 Z a (g.2.2 o)) rfl rfl wsX11_in tyX11 tyX11_ok nmX11 8 (by decide) mf_X11_18 rfl rfl hin rfl (ty := .array .int) (by decide +kernel) rfl rfl (Nat.le_of_ble_eq_true rfl) e2 hpw hd (fun H1 locs1 q => kk _ H1 locs1 hf rfl q)
theorem mf_X11_21 : Cond.fieldLink RX11 21 (TX11 9).1 (TX11 9).2.1 (TX11 9).2.2.1 ∈ TW := TW_of 769 (by decide +kernel) (by decide +kernel)
theorem zg_X11_21 (C : CQ p s m args meth c cc RX11 nL ret Z) (hW : XG Z h a g s.heap H locs) {o : Nat} {K : Nat → Option α} (hf : ckn (gk g o 0) (g.2.2 o 9) K = some out) (hd : decode cc pc = .ok (.getfield 21, 3)) (kk : ∀ z : Nat, K z = some out → W p l e R s m args below meth c H locs cells slots Q (F0 m (pc + 3) ls (.ref (ra Z a z) :: rest))) : W p l e R s m args below meth c H locs cells slots Q (F0 m pc ls (.ref (ra Z a o) :: rest)) := by
  obtain ⟨hb, h0, hf⟩ := ckn_t hf
  have k1 := kk _ hf
  rw [← rv_pos h0] at k1
  exact z_get C hW hb (ci := 9) (fs := fl_X11 Z a (g.2.2 o)) rfl rfl wsX11_in 9 (by decide) mf_X11_21 rfl (v := rv Z a (g.2.2 o 9)) rfl hd k1
theorem zp_X11_21 (C : CQ p s m args meth c cc RX11 nL ret Z) (hW : XG Z h a g s.heap H locs) {o : Nat} (hin : meth.name = "<init>") {x : Nat} {K : PL → Option α} (hf : ck (gk g o 0 && (rkb g x && decide (x < 2147483648))) (stp (gu g o 9 (nI x)) K) = some out) (hd : decode cc pc = .ok (.putfield 21, 3)) (kk : ∀ (g1 : PL) (H1 : Heap) (locs1 : List Loc), K g1 = some out → g1.1 = g.1 → XG Z h a g1 s.heap H1 locs1 → W p l e R s m args below meth c H1 locs1 cells slots Q (F0 m (pc + 3) ls rest)) : W p l e R s m args below meth c H locs cells slots Q (F0 m pc ls (.ref (ra Z a x) :: .ref (ra Z a o) :: rest)) := by
  obtain ⟨hb, hf⟩ := ck_t hf
  rw [Bool.and_eq_true, Bool.and_eq_true, decide_eq_true_eq] at hb
  obtain ⟨hb, hx1, hx2⟩ := hb
  have hpw : PW (gu g o 9 (nI x)) := PW_gu hW.2.2.2 (fun _ => rok_nI hx1 hx2) (fun q => by rw [(gk_t hb).2] at q; cases q)
  have e2 : celP Z a 0 (gl g o) ((gu g o 9 (nI x)).2.2 o) = .inr (9, (fl_X11 Z a (g.2.2 o)).set 9 (.ref (ra Z a x))) := by
    rw [gu_eq, ← rv_nI hx2]
    rfl
  exact z_putF C hW hb (ci := 9) (fs := fl_X11 Z a (g.2.2 o)) rfl rfl wsX11_in tyX11 tyX11_ok nmX11 9 (by decide) mf_X11_21 rfl rfl hin rfl (ty := .array .int) (by decide +kernel) rfl rfl (Nat.le_of_ble_eq_true rfl) e2 hpw hd (fun H1 locs1 q => kk _ H1 locs1 hf rfl q)
theorem mf_L_204 : (RL, 204, (TX11 9).1, (TX11 9).2.1, (TX11 9).2.2.1, "TranscriptCutterLaw") ∈ flk := by decide +kernel
theorem zg_L_204 (C : CQ p s m args meth c cc RL nL ret Z) (hW : XG Z h a g s.heap H locs) {o : Nat} {K : Nat → Option α} (hf : ckn (gk g o 0) (g.2.2 o 9) K = some out) (hd : decode cc pc = .ok (.getfield 204, 3)) (kk : ∀ z : Nat, K z = some out → W p l e R s m args below meth c H locs cells slots Q (F0 m (pc + 3) ls (.ref (ra Z a z) :: rest))) : W p l e R s m args below meth c H locs cells slots Q (F0 m pc ls (.ref (ra Z a o) :: rest)) := by
  obtain ⟨hb, h0, hf⟩ := ckn_t hf
  have k1 := kk _ hf
  rw [← rv_pos h0] at k1
  exact z_getN C hW hb (ci := 9) (fs := fl_X11 Z a (g.2.2 o)) rfl rfl wsX11_in 9 (by decide) mf_L_204 rfl (v := rv Z a (g.2.2 o 9)) rfl hd k1
theorem mf_X11_24 : Cond.fieldLink RX11 24 (TX11 10).1 (TX11 10).2.1 (TX11 10).2.2.1 ∈ TW := TW_of 771 (by decide +kernel) (by decide +kernel)
theorem zg_X11_24 (C : CQ p s m args meth c cc RX11 nL ret Z) (hW : XG Z h a g s.heap H locs) {o : Nat} {K : Nat → Option α} (hf : ckn (gk g o 0) (g.2.2 o 10) K = some out) (hd : decode cc pc = .ok (.getfield 24, 3)) (kk : ∀ z : Nat, K z = some out → W p l e R s m args below meth c H locs cells slots Q (F0 m (pc + 3) ls (.ref (ra Z a z) :: rest))) : W p l e R s m args below meth c H locs cells slots Q (F0 m pc ls (.ref (ra Z a o) :: rest)) := by
  obtain ⟨hb, h0, hf⟩ := ckn_t hf
  have k1 := kk _ hf
  rw [← rv_pos h0] at k1
  exact z_get C hW hb (ci := 9) (fs := fl_X11 Z a (g.2.2 o)) rfl rfl wsX11_in 10 (by decide) mf_X11_24 rfl (v := rv Z a (g.2.2 o 10)) rfl hd k1
theorem zp_X11_24 (C : CQ p s m args meth c cc RX11 nL ret Z) (hW : XG Z h a g s.heap H locs) {o : Nat} (hin : meth.name = "<init>") {x : Nat} {K : PL → Option α} (hf : ck (gk g o 0 && (rkb g x && decide (x < 2147483648))) (stp (gu g o 10 (nI x)) K) = some out) (hd : decode cc pc = .ok (.putfield 24, 3)) (kk : ∀ (g1 : PL) (H1 : Heap) (locs1 : List Loc), K g1 = some out → g1.1 = g.1 → XG Z h a g1 s.heap H1 locs1 → W p l e R s m args below meth c H1 locs1 cells slots Q (F0 m (pc + 3) ls rest)) : W p l e R s m args below meth c H locs cells slots Q (F0 m pc ls (.ref (ra Z a x) :: .ref (ra Z a o) :: rest)) := by
  obtain ⟨hb, hf⟩ := ck_t hf
  rw [Bool.and_eq_true, Bool.and_eq_true, decide_eq_true_eq] at hb
  obtain ⟨hb, hx1, hx2⟩ := hb
  have hpw : PW (gu g o 10 (nI x)) := PW_gu hW.2.2.2 (fun _ => rok_nI hx1 hx2) (fun q => by rw [(gk_t hb).2] at q; cases q)
  have e2 : celP Z a 0 (gl g o) ((gu g o 10 (nI x)).2.2 o) = .inr (9, (fl_X11 Z a (g.2.2 o)).set 10 (.ref (ra Z a x))) := by
    rw [gu_eq, ← rv_nI hx2]
    rfl
  exact z_putF C hW hb (ci := 9) (fs := fl_X11 Z a (g.2.2 o)) rfl rfl wsX11_in tyX11 tyX11_ok nmX11 10 (by decide) mf_X11_24 rfl rfl hin rfl (ty := .array .int) (by decide +kernel) rfl rfl (Nat.le_of_ble_eq_true rfl) e2 hpw hd (fun H1 locs1 q => kk _ H1 locs1 hf rfl q)
theorem mf_L_207 : (RL, 207, (TX11 10).1, (TX11 10).2.1, (TX11 10).2.2.1, "TranscriptCutterLaw") ∈ flk := by decide +kernel
theorem zg_L_207 (C : CQ p s m args meth c cc RL nL ret Z) (hW : XG Z h a g s.heap H locs) {o : Nat} {K : Nat → Option α} (hf : ckn (gk g o 0) (g.2.2 o 10) K = some out) (hd : decode cc pc = .ok (.getfield 207, 3)) (kk : ∀ z : Nat, K z = some out → W p l e R s m args below meth c H locs cells slots Q (F0 m (pc + 3) ls (.ref (ra Z a z) :: rest))) : W p l e R s m args below meth c H locs cells slots Q (F0 m pc ls (.ref (ra Z a o) :: rest)) := by
  obtain ⟨hb, h0, hf⟩ := ckn_t hf
  have k1 := kk _ hf
  rw [← rv_pos h0] at k1
  exact z_getN C hW hb (ci := 9) (fs := fl_X11 Z a (g.2.2 o)) rfl rfl wsX11_in 10 (by decide) mf_L_207 rfl (v := rv Z a (g.2.2 o 10)) rfl hd k1
theorem mf_X11_27 : Cond.fieldLink RX11 27 (TX11 11).1 (TX11 11).2.1 (TX11 11).2.2.1 ∈ TW := TW_of 773 (by decide +kernel) (by decide +kernel)
theorem zg_X11_27 (C : CQ p s m args meth c cc RX11 nL ret Z) (hW : XG Z h a g s.heap H locs) {o : Nat} {K : Nat → Option α} (hf : ckn (gk g o 0) (g.2.2 o 11) K = some out) (hd : decode cc pc = .ok (.getfield 27, 3)) (kk : ∀ z : Nat, K z = some out → W p l e R s m args below meth c H locs cells slots Q (F0 m (pc + 3) ls (.ref (ra Z a z) :: rest))) : W p l e R s m args below meth c H locs cells slots Q (F0 m pc ls (.ref (ra Z a o) :: rest)) := by
  obtain ⟨hb, h0, hf⟩ := ckn_t hf
  have k1 := kk _ hf
  rw [← rv_pos h0] at k1
  exact z_get C hW hb (ci := 9) (fs := fl_X11 Z a (g.2.2 o)) rfl rfl wsX11_in 11 (by decide) mf_X11_27 rfl (v := rv Z a (g.2.2 o 11)) rfl hd k1
theorem zp_X11_27 (C : CQ p s m args meth c cc RX11 nL ret Z) (hW : XG Z h a g s.heap H locs) {o : Nat} (hin : meth.name = "<init>") {x : Nat} {K : PL → Option α} (hf : ck (gk g o 0 && (rkb g x && decide (x < 2147483648))) (stp (gu g o 11 (nI x)) K) = some out) (hd : decode cc pc = .ok (.putfield 27, 3)) (kk : ∀ (g1 : PL) (H1 : Heap) (locs1 : List Loc), K g1 = some out → g1.1 = g.1 → XG Z h a g1 s.heap H1 locs1 → W p l e R s m args below meth c H1 locs1 cells slots Q (F0 m (pc + 3) ls rest)) : W p l e R s m args below meth c H locs cells slots Q (F0 m pc ls (.ref (ra Z a x) :: .ref (ra Z a o) :: rest)) := by
  obtain ⟨hb, hf⟩ := ck_t hf
  rw [Bool.and_eq_true, Bool.and_eq_true, decide_eq_true_eq] at hb
  obtain ⟨hb, hx1, hx2⟩ := hb
  have hpw : PW (gu g o 11 (nI x)) := PW_gu hW.2.2.2 (fun _ => rok_nI hx1 hx2) (fun q => by rw [(gk_t hb).2] at q; cases q)
  have e2 : celP Z a 0 (gl g o) ((gu g o 11 (nI x)).2.2 o) = .inr (9, (fl_X11 Z a (g.2.2 o)).set 11 (.ref (ra Z a x))) := by
    rw [gu_eq, ← rv_nI hx2]
    rfl
  exact z_putF C hW hb (ci := 9) (fs := fl_X11 Z a (g.2.2 o)) rfl rfl wsX11_in tyX11 tyX11_ok nmX11 11 (by decide) mf_X11_27 rfl rfl hin rfl (ty := .array .int) (by decide +kernel) rfl rfl (Nat.le_of_ble_eq_true rfl) e2 hpw hd (fun H1 locs1 q => kk _ H1 locs1 hf rfl q)
theorem mf_L_212 : (RL, 212, (TX11 11).1, (TX11 11).2.1, (TX11 11).2.2.1, "TranscriptCutterLaw") ∈ flk := by decide +kernel
theorem zg_L_212 (C : CQ p s m args meth c cc RL nL ret Z) (hW : XG Z h a g s.heap H locs) {o : Nat} {K : Nat → Option α} (hf : ckn (gk g o 0) (g.2.2 o 11) K = some out) (hd : decode cc pc = .ok (.getfield 212, 3)) (kk : ∀ z : Nat, K z = some out → W p l e R s m args below meth c H locs cells slots Q (F0 m (pc + 3) ls (.ref (ra Z a z) :: rest))) : W p l e R s m args below meth c H locs cells slots Q (F0 m pc ls (.ref (ra Z a o) :: rest)) := by
  obtain ⟨hb, h0, hf⟩ := ckn_t hf
  have k1 := kk _ hf
  rw [← rv_pos h0] at k1
  exact z_getN C hW hb (ci := 9) (fs := fl_X11 Z a (g.2.2 o)) rfl rfl wsX11_in 11 (by decide) mf_L_212 rfl (v := rv Z a (g.2.2 o 11)) rfl hd k1
theorem mf_X11_30 : Cond.fieldLink RX11 30 (TX11 12).1 (TX11 12).2.1 (TX11 12).2.2.1 ∈ TW := TW_of 775 (by decide +kernel) (by decide +kernel)
theorem zg_X11_30 (C : CQ p s m args meth c cc RX11 nL ret Z) (hW : XG Z h a g s.heap H locs) {o : Nat} {K : Nat → Option α} (hf : ckn (gk g o 0) (g.2.2 o 12) K = some out) (hd : decode cc pc = .ok (.getfield 30, 3)) (kk : ∀ z : Nat, K z = some out → W p l e R s m args below meth c H locs cells slots Q (F0 m (pc + 3) ls (.ref (ra Z a z) :: rest))) : W p l e R s m args below meth c H locs cells slots Q (F0 m pc ls (.ref (ra Z a o) :: rest)) := by
  obtain ⟨hb, h0, hf⟩ := ckn_t hf
  have k1 := kk _ hf
  rw [← rv_pos h0] at k1
  exact z_get C hW hb (ci := 9) (fs := fl_X11 Z a (g.2.2 o)) rfl rfl wsX11_in 12 (by decide) mf_X11_30 rfl (v := rv Z a (g.2.2 o 12)) rfl hd k1
theorem zp_X11_30 (C : CQ p s m args meth c cc RX11 nL ret Z) (hW : XG Z h a g s.heap H locs) {o : Nat} (hin : meth.name = "<init>") {x : Nat} {K : PL → Option α} (hf : ck (gk g o 0 && (rkb g x && decide (x < 2147483648))) (stp (gu g o 12 (nI x)) K) = some out) (hd : decode cc pc = .ok (.putfield 30, 3)) (kk : ∀ (g1 : PL) (H1 : Heap) (locs1 : List Loc), K g1 = some out → g1.1 = g.1 → XG Z h a g1 s.heap H1 locs1 → W p l e R s m args below meth c H1 locs1 cells slots Q (F0 m (pc + 3) ls rest)) : W p l e R s m args below meth c H locs cells slots Q (F0 m pc ls (.ref (ra Z a x) :: .ref (ra Z a o) :: rest)) := by
  obtain ⟨hb, hf⟩ := ck_t hf
  rw [Bool.and_eq_true, Bool.and_eq_true, decide_eq_true_eq] at hb
  obtain ⟨hb, hx1, hx2⟩ := hb
  have hpw : PW (gu g o 12 (nI x)) := PW_gu hW.2.2.2 (fun _ => rok_nI hx1 hx2) (fun q => by rw [(gk_t hb).2] at q; cases q)
  have e2 : celP Z a 0 (gl g o) ((gu g o 12 (nI x)).2.2 o) = .inr (9, (fl_X11 Z a (g.2.2 o)).set 12 (.ref (ra Z a x))) := by
    rw [gu_eq, ← rv_nI hx2]
    rfl
  exact z_putF C hW hb (ci := 9) (fs := fl_X11 Z a (g.2.2 o)) rfl rfl wsX11_in tyX11 tyX11_ok nmX11 12 (by decide) mf_X11_30 rfl rfl hin rfl (ty := .array .int) (by decide +kernel) rfl rfl (Nat.le_of_ble_eq_true rfl) e2 hpw hd (fun H1 locs1 q => kk _ H1 locs1 hf rfl q)
theorem mf_L_150 : (RL, 150, (TX11 12).1, (TX11 12).2.1, (TX11 12).2.2.1, "TranscriptCutterLaw") ∈ flk := by decide +kernel
theorem zg_L_150 (C : CQ p s m args meth c cc RL nL ret Z) (hW : XG Z h a g s.heap H locs) {o : Nat} {K : Nat → Option α} (hf : ckn (gk g o 0) (g.2.2 o 12) K = some out) (hd : decode cc pc = .ok (.getfield 150, 3)) (kk : ∀ z : Nat, K z = some out → W p l e R s m args below meth c H locs cells slots Q (F0 m (pc + 3) ls (.ref (ra Z a z) :: rest))) : W p l e R s m args below meth c H locs cells slots Q (F0 m pc ls (.ref (ra Z a o) :: rest)) := by
  obtain ⟨hb, h0, hf⟩ := ckn_t hf
  have k1 := kk _ hf
  rw [← rv_pos h0] at k1
  exact z_getN C hW hb (ci := 9) (fs := fl_X11 Z a (g.2.2 o)) rfl rfl wsX11_in 12 (by decide) mf_L_150 rfl (v := rv Z a (g.2.2 o 12)) rfl hd k1
theorem mf_X11_33 : Cond.fieldLink RX11 33 (TX11 13).1 (TX11 13).2.1 (TX11 13).2.2.1 ∈ TW := TW_of 777 (by decide +kernel) (by decide +kernel)
theorem zg_X11_33 (C : CQ p s m args meth c cc RX11 nL ret Z) (hW : XG Z h a g s.heap H locs) {o : Nat} {K : Nat → Option α} (hf : ckn (gk g o 0) (g.2.2 o 13) K = some out) (hd : decode cc pc = .ok (.getfield 33, 3)) (kk : ∀ z : Nat, K z = some out → W p l e R s m args below meth c H locs cells slots Q (F0 m (pc + 3) ls (.ref (ra Z a z) :: rest))) : W p l e R s m args below meth c H locs cells slots Q (F0 m pc ls (.ref (ra Z a o) :: rest)) := by
  obtain ⟨hb, h0, hf⟩ := ckn_t hf
  have k1 := kk _ hf
  rw [← rv_pos h0] at k1
  exact z_get C hW hb (ci := 9) (fs := fl_X11 Z a (g.2.2 o)) rfl rfl wsX11_in 13 (by decide) mf_X11_33 rfl (v := rv Z a (g.2.2 o 13)) rfl hd k1
theorem zp_X11_33 (C : CQ p s m args meth c cc RX11 nL ret Z) (hW : XG Z h a g s.heap H locs) {o : Nat} (hin : meth.name = "<init>") {x : Nat} {K : PL → Option α} (hf : ck (gk g o 0 && (rkb g x && decide (x < 2147483648))) (stp (gu g o 13 (nI x)) K) = some out) (hd : decode cc pc = .ok (.putfield 33, 3)) (kk : ∀ (g1 : PL) (H1 : Heap) (locs1 : List Loc), K g1 = some out → g1.1 = g.1 → XG Z h a g1 s.heap H1 locs1 → W p l e R s m args below meth c H1 locs1 cells slots Q (F0 m (pc + 3) ls rest)) : W p l e R s m args below meth c H locs cells slots Q (F0 m pc ls (.ref (ra Z a x) :: .ref (ra Z a o) :: rest)) := by
  obtain ⟨hb, hf⟩ := ck_t hf
  rw [Bool.and_eq_true, Bool.and_eq_true, decide_eq_true_eq] at hb
  obtain ⟨hb, hx1, hx2⟩ := hb
  have hpw : PW (gu g o 13 (nI x)) := PW_gu hW.2.2.2 (fun _ => rok_nI hx1 hx2) (fun q => by rw [(gk_t hb).2] at q; cases q)
  have e2 : celP Z a 0 (gl g o) ((gu g o 13 (nI x)).2.2 o) = .inr (9, (fl_X11 Z a (g.2.2 o)).set 13 (.ref (ra Z a x))) := by
    rw [gu_eq, ← rv_nI hx2]
    rfl
  exact z_putF C hW hb (ci := 9) (fs := fl_X11 Z a (g.2.2 o)) rfl rfl wsX11_in tyX11 tyX11_ok nmX11 13 (by decide) mf_X11_33 rfl rfl hin rfl (ty := .array .int) (by decide +kernel) rfl rfl (Nat.le_of_ble_eq_true rfl) e2 hpw hd (fun H1 locs1 q => kk _ H1 locs1 hf rfl q)
theorem mf_L_154 : (RL, 154, (TX11 13).1, (TX11 13).2.1, (TX11 13).2.2.1, "TranscriptCutterLaw") ∈ flk := by decide +kernel
theorem zg_L_154 (C : CQ p s m args meth c cc RL nL ret Z) (hW : XG Z h a g s.heap H locs) {o : Nat} {K : Nat → Option α} (hf : ckn (gk g o 0) (g.2.2 o 13) K = some out) (hd : decode cc pc = .ok (.getfield 154, 3)) (kk : ∀ z : Nat, K z = some out → W p l e R s m args below meth c H locs cells slots Q (F0 m (pc + 3) ls (.ref (ra Z a z) :: rest))) : W p l e R s m args below meth c H locs cells slots Q (F0 m pc ls (.ref (ra Z a o) :: rest)) := by
  obtain ⟨hb, h0, hf⟩ := ckn_t hf
  have k1 := kk _ hf
  rw [← rv_pos h0] at k1
  exact z_getN C hW hb (ci := 9) (fs := fl_X11 Z a (g.2.2 o)) rfl rfl wsX11_in 13 (by decide) mf_L_154 rfl (v := rv Z a (g.2.2 o 13)) rfl hd k1
theorem mf_X11_36 : Cond.fieldLink RX11 36 (TX11 14).1 (TX11 14).2.1 (TX11 14).2.2.1 ∈ TW := TW_of 779 (by decide +kernel) (by decide +kernel)
theorem zg_X11_36 (C : CQ p s m args meth c cc RX11 nL ret Z) (hW : XG Z h a g s.heap H locs) {o : Nat} {K : Nat → Option α} (hf : ckn (gk g o 0) (g.2.2 o 14) K = some out) (hd : decode cc pc = .ok (.getfield 36, 3)) (kk : ∀ z : Nat, K z = some out → W p l e R s m args below meth c H locs cells slots Q (F0 m (pc + 3) ls (.ref (ra Z a z) :: rest))) : W p l e R s m args below meth c H locs cells slots Q (F0 m pc ls (.ref (ra Z a o) :: rest)) := by
  obtain ⟨hb, h0, hf⟩ := ckn_t hf
  have k1 := kk _ hf
  rw [← rv_pos h0] at k1
  exact z_get C hW hb (ci := 9) (fs := fl_X11 Z a (g.2.2 o)) rfl rfl wsX11_in 14 (by decide) mf_X11_36 rfl (v := rv Z a (g.2.2 o 14)) rfl hd k1
theorem zp_X11_36 (C : CQ p s m args meth c cc RX11 nL ret Z) (hW : XG Z h a g s.heap H locs) {o : Nat} (hin : meth.name = "<init>") {x : Nat} {K : PL → Option α} (hf : ck (gk g o 0 && (rkb g x && decide (x < 2147483648))) (stp (gu g o 14 (nI x)) K) = some out) (hd : decode cc pc = .ok (.putfield 36, 3)) (kk : ∀ (g1 : PL) (H1 : Heap) (locs1 : List Loc), K g1 = some out → g1.1 = g.1 → XG Z h a g1 s.heap H1 locs1 → W p l e R s m args below meth c H1 locs1 cells slots Q (F0 m (pc + 3) ls rest)) : W p l e R s m args below meth c H locs cells slots Q (F0 m pc ls (.ref (ra Z a x) :: .ref (ra Z a o) :: rest)) := by
  obtain ⟨hb, hf⟩ := ck_t hf
  rw [Bool.and_eq_true, Bool.and_eq_true, decide_eq_true_eq] at hb
  obtain ⟨hb, hx1, hx2⟩ := hb
  have hpw : PW (gu g o 14 (nI x)) := PW_gu hW.2.2.2 (fun _ => rok_nI hx1 hx2) (fun q => by rw [(gk_t hb).2] at q; cases q)
  have e2 : celP Z a 0 (gl g o) ((gu g o 14 (nI x)).2.2 o) = .inr (9, (fl_X11 Z a (g.2.2 o)).set 14 (.ref (ra Z a x))) := by
    rw [gu_eq, ← rv_nI hx2]
    rfl
  exact z_putF C hW hb (ci := 9) (fs := fl_X11 Z a (g.2.2 o)) rfl rfl wsX11_in tyX11 tyX11_ok nmX11 14 (by decide) mf_X11_36 rfl rfl hin rfl (ty := .array .boolean) (by decide +kernel) rfl rfl (Nat.le_of_ble_eq_true rfl) e2 hpw hd (fun H1 locs1 q => kk _ H1 locs1 hf rfl q)
theorem mf_L_137 : (RL, 137, (TX11 14).1, (TX11 14).2.1, (TX11 14).2.2.1, "TranscriptCutterLaw") ∈ flk := by decide +kernel
theorem zg_L_137 (C : CQ p s m args meth c cc RL nL ret Z) (hW : XG Z h a g s.heap H locs) {o : Nat} {K : Nat → Option α} (hf : ckn (gk g o 0) (g.2.2 o 14) K = some out) (hd : decode cc pc = .ok (.getfield 137, 3)) (kk : ∀ z : Nat, K z = some out → W p l e R s m args below meth c H locs cells slots Q (F0 m (pc + 3) ls (.ref (ra Z a z) :: rest))) : W p l e R s m args below meth c H locs cells slots Q (F0 m pc ls (.ref (ra Z a o) :: rest)) := by
  obtain ⟨hb, h0, hf⟩ := ckn_t hf
  have k1 := kk _ hf
  rw [← rv_pos h0] at k1
  exact z_getN C hW hb (ci := 9) (fs := fl_X11 Z a (g.2.2 o)) rfl rfl wsX11_in 14 (by decide) mf_L_137 rfl (v := rv Z a (g.2.2 o 14)) rfl hd k1
theorem mf_X11_40 : Cond.fieldLink RX11 40 (TX11 15).1 (TX11 15).2.1 (TX11 15).2.2.1 ∈ TW := TW_of 781 (by decide +kernel) (by decide +kernel)
theorem zg_X11_40 (C : CQ p s m args meth c cc RX11 nL ret Z) (hW : XG Z h a g s.heap H locs) {o : Nat} {K : Nat → Option α} (hf : ckn (gk g o 0) (g.2.2 o 15) K = some out) (hd : decode cc pc = .ok (.getfield 40, 3)) (kk : ∀ z : Nat, K z = some out → W p l e R s m args below meth c H locs cells slots Q (F0 m (pc + 3) ls (.ref (ra Z a z) :: rest))) : W p l e R s m args below meth c H locs cells slots Q (F0 m pc ls (.ref (ra Z a o) :: rest)) := by
  obtain ⟨hb, h0, hf⟩ := ckn_t hf
  have k1 := kk _ hf
  rw [← rv_pos h0] at k1
  exact z_get C hW hb (ci := 9) (fs := fl_X11 Z a (g.2.2 o)) rfl rfl wsX11_in 15 (by decide) mf_X11_40 rfl (v := rv Z a (g.2.2 o 15)) rfl hd k1
theorem zp_X11_40 (C : CQ p s m args meth c cc RX11 nL ret Z) (hW : XG Z h a g s.heap H locs) {o : Nat} {x : Nat} {K : PL → Option α} (hf : ck (gk g o 0 && (rkb g x && decide (x < 2147483648))) (stp (gu g o 15 (nI x)) K) = some out) (hd : decode cc pc = .ok (.putfield 40, 3)) (kk : ∀ (g1 : PL) (H1 : Heap) (locs1 : List Loc), K g1 = some out → g1.1 = g.1 → XG Z h a g1 s.heap H1 locs1 → W p l e R s m args below meth c H1 locs1 cells slots Q (F0 m (pc + 3) ls rest)) : W p l e R s m args below meth c H locs cells slots Q (F0 m pc ls (.ref (ra Z a x) :: .ref (ra Z a o) :: rest)) := by
  obtain ⟨hb, hf⟩ := ck_t hf
  rw [Bool.and_eq_true, Bool.and_eq_true, decide_eq_true_eq] at hb
  obtain ⟨hb, hx1, hx2⟩ := hb
  have hpw : PW (gu g o 15 (nI x)) := PW_gu hW.2.2.2 (fun _ => rok_nI hx1 hx2) (fun q => by rw [(gk_t hb).2] at q; cases q)
  have e2 : celP Z a 0 (gl g o) ((gu g o 15 (nI x)).2.2 o) = .inr (9, (fl_X11 Z a (g.2.2 o)).set 15 (.ref (ra Z a x))) := by
    rw [gu_eq, ← rv_nI hx2]
    rfl
  exact z_put C hW hb (ci := 9) (fs := fl_X11 Z a (g.2.2 o)) rfl rfl wsX11_in tyX11 tyX11_ok nmX11 15 (by decide) mf_X11_40 rfl rfl (ty := .array .int) (by decide +kernel) rfl rfl (Nat.le_of_ble_eq_true rfl) e2 hpw hd (fun H1 locs1 q => kk _ H1 locs1 hf rfl q)
theorem mf_L_166 : (RL, 166, (TX11 15).1, (TX11 15).2.1, (TX11 15).2.2.1, "TranscriptCutterLaw") ∈ flk := by decide +kernel
theorem zg_L_166 (C : CQ p s m args meth c cc RL nL ret Z) (hW : XG Z h a g s.heap H locs) {o : Nat} {K : Nat → Option α} (hf : ckn (gk g o 0) (g.2.2 o 15) K = some out) (hd : decode cc pc = .ok (.getfield 166, 3)) (kk : ∀ z : Nat, K z = some out → W p l e R s m args below meth c H locs cells slots Q (F0 m (pc + 3) ls (.ref (ra Z a z) :: rest))) : W p l e R s m args below meth c H locs cells slots Q (F0 m pc ls (.ref (ra Z a o) :: rest)) := by
  obtain ⟨hb, h0, hf⟩ := ckn_t hf
  have k1 := kk _ hf
  rw [← rv_pos h0] at k1
  exact z_getN C hW hb (ci := 9) (fs := fl_X11 Z a (g.2.2 o)) rfl rfl wsX11_in 15 (by decide) mf_L_166 rfl (v := rv Z a (g.2.2 o 15)) rfl hd k1
theorem mf_X11_45 : Cond.fieldLink RX11 45 (TX11 16).1 (TX11 16).2.1 (TX11 16).2.2.1 ∈ TW := TW_of 783 (by decide +kernel) (by decide +kernel)
theorem zg_X11_45 (C : CQ p s m args meth c cc RX11 nL ret Z) (hW : XG Z h a g s.heap H locs) {o : Nat} {K : Nat → Option α} (hf : ckn (gk g o 0) (g.2.2 o 16) K = some out) (hd : decode cc pc = .ok (.getfield 45, 3)) (kk : ∀ z : Nat, K z = some out → W p l e R s m args below meth c H locs cells slots Q (F0 m (pc + 3) ls (.ref (ra Z a z) :: rest))) : W p l e R s m args below meth c H locs cells slots Q (F0 m pc ls (.ref (ra Z a o) :: rest)) := by
  obtain ⟨hb, h0, hf⟩ := ckn_t hf
  have k1 := kk _ hf
  rw [← rv_pos h0] at k1
  exact z_get C hW hb (ci := 9) (fs := fl_X11 Z a (g.2.2 o)) rfl rfl wsX11_in 16 (by decide) mf_X11_45 rfl (v := rv Z a (g.2.2 o 16)) rfl hd k1
theorem zp_X11_45 (C : CQ p s m args meth c cc RX11 nL ret Z) (hW : XG Z h a g s.heap H locs) {o : Nat} {x : Nat} {K : PL → Option α} (hf : ck (gk g o 0 && (rkb g x && decide (x < 2147483648))) (stp (gu g o 16 (nI x)) K) = some out) (hd : decode cc pc = .ok (.putfield 45, 3)) (kk : ∀ (g1 : PL) (H1 : Heap) (locs1 : List Loc), K g1 = some out → g1.1 = g.1 → XG Z h a g1 s.heap H1 locs1 → W p l e R s m args below meth c H1 locs1 cells slots Q (F0 m (pc + 3) ls rest)) : W p l e R s m args below meth c H locs cells slots Q (F0 m pc ls (.ref (ra Z a x) :: .ref (ra Z a o) :: rest)) := by
  obtain ⟨hb, hf⟩ := ck_t hf
  rw [Bool.and_eq_true, Bool.and_eq_true, decide_eq_true_eq] at hb
  obtain ⟨hb, hx1, hx2⟩ := hb
  have hpw : PW (gu g o 16 (nI x)) := PW_gu hW.2.2.2 (fun _ => rok_nI hx1 hx2) (fun q => by rw [(gk_t hb).2] at q; cases q)
  have e2 : celP Z a 0 (gl g o) ((gu g o 16 (nI x)).2.2 o) = .inr (9, (fl_X11 Z a (g.2.2 o)).set 16 (.ref (ra Z a x))) := by
    rw [gu_eq, ← rv_nI hx2]
    rfl
  exact z_put C hW hb (ci := 9) (fs := fl_X11 Z a (g.2.2 o)) rfl rfl wsX11_in tyX11 tyX11_ok nmX11 16 (by decide) mf_X11_45 rfl rfl (ty := .object "java/lang/String") (by decide +kernel) rfl rfl (Nat.le_of_ble_eq_true rfl) e2 hpw hd (fun H1 locs1 q => kk _ H1 locs1 hf rfl q)
theorem mf_L_176 : (RL, 176, (TX11 16).1, (TX11 16).2.1, (TX11 16).2.2.1, "TranscriptCutterLaw") ∈ flk := by decide +kernel
theorem zg_L_176 (C : CQ p s m args meth c cc RL nL ret Z) (hW : XG Z h a g s.heap H locs) {o : Nat} {K : Nat → Option α} (hf : ckn (gk g o 0) (g.2.2 o 16) K = some out) (hd : decode cc pc = .ok (.getfield 176, 3)) (kk : ∀ z : Nat, K z = some out → W p l e R s m args below meth c H locs cells slots Q (F0 m (pc + 3) ls (.ref (ra Z a z) :: rest))) : W p l e R s m args below meth c H locs cells slots Q (F0 m pc ls (.ref (ra Z a o) :: rest)) := by
  obtain ⟨hb, h0, hf⟩ := ckn_t hf
  have k1 := kk _ hf
  rw [← rv_pos h0] at k1
  exact z_getN C hW hb (ci := 9) (fs := fl_X11 Z a (g.2.2 o)) rfl rfl wsX11_in 16 (by decide) mf_L_176 rfl (v := rv Z a (g.2.2 o 16)) rfl hd k1
theorem mf_X12_7 : Cond.fieldLink RX12 7 (TX12 0).1 (TX12 0).2.1 (TX12 0).2.2.1 ∈ TW := TW_of 826 (by decide +kernel) (by decide +kernel)
theorem zg_X12_7 (C : CQ p s m args meth c cc RX12 nL ret Z) (hW : XG Z h a g s.heap H locs) {o : Nat} {K : Option α} (hf : ck (gk g o 1) K = some out) (hd : decode cc pc = .ok (.getfield 7, 3)) (kk : K = some out → W p l e R s m args below meth c H locs cells slots Q (F0 m (pc + 3) ls (.int (g.2.2 o 0) :: rest))) : W p l e R s m args below meth c H locs cells slots Q (F0 m pc ls (.ref (ra Z a o) :: rest)) :=
  z_get C hW (ck_t hf).1 (ci := 10) (fs := fl_X12 Z a (g.2.2 o)) rfl rfl wsX12_in 0 (by decide) mf_X12_7 rfl (v := .int (g.2.2 o 0)) rfl hd (kk (ck_t hf).2)
theorem zp_X12_7 (C : CQ p s m args meth c cc RX12 nL ret Z) (hW : XG Z h a g s.heap H locs) {o : Nat} {v : Int32} {K : PL → Option α} (hf : ck (gk g o 1) (stp (gu g o 0 v) K) = some out) (hd : decode cc pc = .ok (.putfield 7, 3)) (kk : ∀ (g1 : PL) (H1 : Heap) (locs1 : List Loc), K g1 = some out → g1.1 = g.1 → XG Z h a g1 s.heap H1 locs1 → W p l e R s m args below meth c H1 locs1 cells slots Q (F0 m (pc + 3) ls rest)) : W p l e R s m args below meth c H locs cells slots Q (F0 m pc ls (.int v :: .ref (ra Z a o) :: rest)) := by
  obtain ⟨hb, hf⟩ := ck_t hf
  have hpw : PW (gu g o 0 v) := PW_gu hW.2.2.2 (fun q => by rw [(gk_t hb).2] at q; cases q) (fun q => by rw [(gk_t hb).2] at q; cases q)
  have e2 : celP Z a 1 (gl g o) ((gu g o 0 v).2.2 o) = .inr (10, (fl_X12 Z a (g.2.2 o)).set 0 (.int v)) := by
    rw [gu_eq]
    rfl
  exact z_put C hW hb (ci := 10) (fs := fl_X12 Z a (g.2.2 o)) rfl rfl wsX12_in tyX12 tyX12_ok nmX12 0 (by decide) mf_X12_7 rfl rfl (ty := .int) (by decide +kernel) rfl rfl (Nat.le_of_ble_eq_true rfl) e2 hpw hd (fun H1 locs1 q => kk _ H1 locs1 hf rfl q)
end ZM
