/-! the pool in the world -/
def ra (Z : ZT) (a : Nat → Nat) (i : Nat) : Nat := if i < 1000000 then a i else Z.2.2.2.2 (2 * (i - 1000000) + 200)
def rv (Z : ZT) (a : Nat → Nat) (x : Int32) : Value := if x < 0 then .null else .ref (ra Z a (ix x))
def rvo (Z : ZT) (a : Nat → Nat) (x : Int32) : Option Nat := if x < 0 then none else some (ra Z a (ix x))
def celP (Z : ZT) (a : Nat → Nat) (kd n : Nat) (r : Nat → Int32) : va_E := match kd with
  | 0 => .inr (9, [.int (r 0), .int (r 1), .int (r 2), rv Z a (r 3), rv Z a (r 4), .int (r 5), .int (r 6), .int (r 7), rv Z a (r 8), rv Z a (r 9), rv Z a (r 10), rv Z a (r 11), rv Z a (r 12), rv Z a (r 13), rv Z a (r 14), rv Z a (r 15), rv Z a (r 16)])
  | 1 => .inr (10, [.int (r 0)])
  | 2 => .inr (11, [rv Z a (r 0), .int (r 1), .int (r 2), .int (r 3)])
  | 3 => .inr (12, [rv Z a (r 0), .int (r 1), .int (r 2), .int (r 3)])
  | 4 => .inl (Z.2.2.1 1, n, .inl r)
  | 5 => .inl (Z.2.2.1 2, n, .inl r)
  | 6 => .inl (Z.2.2.1 0, n, .inl r)
  | _ => .inl (Z.2.2.1 4, n, .inr (.inr (.inr (.inr (fun j => rvo Z a (r j))))))
def pl (Z : ZT) (a : Nat → Nat) (g : PL) : va_W := (List.range g.1).map (fun k => (a k, celP Z a (g.2.1 k).1 (g.2.1 k).2 (g.2.2 k)))
def rok (n : Nat) (x : Int32) : Prop := x < 0 ∨ ix x < n ∨ 1000000 ≤ ix x
def bfit (v : Int32) : Prop := fits .byte (.int v) = true
def PW (g : PL) : Prop := g.1 ≤ 900000 ∧ (∀ k, k < g.1 → ∀ j, isR (g.2.1 k).1 j = true → rok g.1 (g.2.2 k j)) ∧ (∀ k, k < g.1 → (g.2.1 k).1 = 6 → ∀ j, bfit (g.2.2 k j))
def AG (a : Nat → Nat) (g : PL) (a' : Nat → Nat) (g' : PL) : Prop := (∀ i, i < g.1 → a' i = a i) ∧ g.1 ≤ g'.1
theorem AG.rf (a : Nat → Nat) (g : PL) : AG a g a g := ⟨fun _ _ => rfl, Nat.le_refl _⟩
theorem AG.tr {a a1 a2 : Nat → Nat} {g g1 g2 : PL} (h : AG a g a1 g1) (k : AG a1 g1 a2 g2) : AG a g a2 g2 := ⟨fun i hi => (k.1 i (Nat.lt_of_lt_of_le hi h.2)).trans (h.1 i hi), Nat.le_trans h.2 k.2⟩
theorem AG.w {a a1 : Nat → Nat} {g g1 g2 : PL} (h : AG a g a1 g1) (e : g2.1 = g1.1) : AG a g a1 g2 := ⟨h.1, by rw [e]; exact h.2⟩
theorem pl_len {Z : ZT} {a : Nat → Nat} {g : PL} : (pl Z a g).length = g.1 := by unfold pl; rw [List.length_map, List.length_range]
theorem pl_at {Z : ZT} {a : Nat → Nat} {g : PL} {k : Nat} (hk : k < g.1) : (pl Z a g)[k]? = some (a k, celP Z a (g.2.1 k).1 (g.2.1 k).2 (g.2.2 k)) := by
  unfold pl
  rw [List.getElem?_map, List.getElem?_range hk]
  rfl
theorem wp_at {Z : ZT} {h : Hp} {a : Nat → Nat} {g : PL} {k : Nat} (hk : k < g.1) : (wl Z h (pl Z a g))[125 + k]? = some (a k, celP Z a (g.2.1 k).1 (g.2.1 k).2 (g.2.2 k)) := by
  rw [wl_gt (by omega), Nat.add_sub_cancel_left, pl_at hk]
theorem ra_lt {Z : ZT} {a : Nat → Nat} {k : Nat} (hk : k < 1000000) : ra Z a k = a k := if_pos hk
theorem ra_to {Z : ZT} {a a' : Nat → Nat} {g g' : PL} {x : Nat} (hp : PW g) (hA : AG a g a' g') (hx : rkb g x = true) : ra Z a' x = ra Z a x := by
  unfold rkb at hx
  rw [Bool.or_eq_true, decide_eq_true_eq, decide_eq_true_eq] at hx
  have := hp.1
  unfold ra
  rcases hx with hx | hx
  · rw [if_pos (by omega), if_pos (by omega)]; exact hA.1 x hx
  · rw [if_neg (by omega), if_neg (by omega)]
theorem ra_ok {Z : ZT} {a a' : Nat → Nat} {n : Nat} (hp : n ≤ 900000) (hA : ∀ i, i < n → a' i = a i) {x : Int32} (hx : rok n x) (h0 : ¬ x < 0) : ra Z a' (ix x) = ra Z a (ix x) := by
  unfold ra
  rcases hx with hx | hx | hx
  · exact absurd hx h0
  · rw [if_pos (by omega), if_pos (by omega)]; exact hA _ hx
  · rw [if_neg (by omega), if_neg (by omega)]
theorem rv_ok {Z : ZT} {a a' : Nat → Nat} {n : Nat} (hp : n ≤ 900000) (hA : ∀ i, i < n → a' i = a i) {x : Int32} (hx : rok n x) : rv Z a' x = rv Z a x := by
  unfold rv
  by_cases h : x < 0
  · rw [if_pos h, if_pos h]
  · rw [if_neg h, if_neg h, ra_ok hp hA hx h]
theorem rvo_ok {Z : ZT} {a a' : Nat → Nat} {n : Nat} (hp : n ≤ 900000) (hA : ∀ i, i < n → a' i = a i) {x : Int32} (hx : rok n x) : rvo Z a' x = rvo Z a x := by
  unfold rvo
  by_cases h : x < 0
  · rw [if_pos h, if_pos h]
  · rw [if_neg h, if_neg h, ra_ok hp hA hx h]
theorem celP_ok {Z : ZT} {a a' : Nat → Nat} {n : Nat} (hp : n ≤ 900000) (hA : ∀ i, i < n → a' i = a i) {kd len : Nat} {r : Nat → Int32} (hx : ∀ j, isR kd j = true → rok n (r j)) : celP Z a' kd len r = celP Z a kd len r := by
  have q : ∀ j, isR kd j = true → rv Z a' (r j) = rv Z a (r j) := fun j hj => rv_ok hp hA (hx j hj)
  match kd, q, hx with
  | 0, q, _ =>
    show (Sum.inr (9, _) : va_E) = Sum.inr (9, _)
    rw [q 3 rfl, q 4 rfl, q 8 rfl, q 9 rfl, q 10 rfl, q 11 rfl, q 12 rfl, q 13 rfl, q 14 rfl, q 15 rfl, q 16 rfl]
  | 1, _, _ => rfl
  | 2, q, _ =>
    show (Sum.inr (11, _) : va_E) = Sum.inr (11, _)
    rw [q 0 rfl]
  | 3, q, _ =>
    show (Sum.inr (12, _) : va_E) = Sum.inr (12, _)
    rw [q 0 rfl]
  | 4, _, _ => rfl
  | 5, _, _ => rfl
  | 6, _, _ => rfl
  | k + 7, _, hx =>
    show (Sum.inl (Z.2.2.1 4, len, .inr (.inr (.inr (.inr (fun j => rvo Z a' (r j)))))) : va_E) = Sum.inl (Z.2.2.1 4, len, .inr (.inr (.inr (.inr (fun j => rvo Z a (r j))))))
    have e : (fun j => rvo Z a' (r j)) = (fun j => rvo Z a (r j)) := funext (fun j => rvo_ok hp hA (hx j rfl))
    rw [e]
theorem pl_to {Z : ZT} {a a' : Nat → Nat} {g g' : PL} (hp : PW g) (hA : AG a g a' g') : pl Z a' g = pl Z a g := by
  unfold pl
  apply List.map_congr_left
  intro k hk
  have hk := List.mem_range.mp hk
  rw [hA.1 k hk, celP_ok hp.1 hA.1 (hp.2.1 k hk)]
theorem AG_new {a : Nat → Nat} {g : PL} {kd n q : Nat} {f : Nat → Int32} : AG a g (va_up a g.1 q) (gnew g kd n f) := ⟨fun i hi => by unfold va_up; rw [if_neg (by omega)], Nat.le_succ _⟩
theorem pl_new {Z : ZT} {a : Nat → Nat} {g : PL} {kd n q : Nat} {f : Nat → Int32} (hp : PW g) (hf : ∀ j, isR kd j = true → rok g.1 (f j)) : pl Z (va_up a g.1 q) (gnew g kd n f) = pl Z a g ++ [(q, celP Z a kd n f)] := by
  have e1 : pl Z (va_up a g.1 q) (gnew g kd n f) = ((List.range g.1).map (fun k => (va_up a g.1 q k, celP Z (va_up a g.1 q) ((gnew g kd n f).2.1 k).1 ((gnew g kd n f).2.1 k).2 ((gnew g kd n f).2.2 k)))) ++ [(va_up a g.1 q g.1, celP Z (va_up a g.1 q) ((gnew g kd n f).2.1 g.1).1 ((gnew g kd n f).2.1 g.1).2 ((gnew g kd n f).2.2 g.1))] := by
    show (List.range (g.1 + 1)).map _ = _
    rw [List.range_succ, List.map_append]
    rfl
  have hA : ∀ i, i < g.1 → va_up a g.1 q i = a i := (AG_new (a := a) (g := g) (kd := kd) (n := n) (q := q) (f := f)).1
  rw [e1]
  congr 1
  · unfold pl
    apply List.map_congr_left
    intro k hk
    have hk := List.mem_range.mp hk
    have h1 : (gnew g kd n f).2.1 k = g.2.1 k := if_neg (by omega)
    have h2 : (gnew g kd n f).2.2 k = g.2.2 k := if_neg (by omega)
    rw [h1, h2, hA k hk, celP_ok hp.1 hA (hp.2.1 k hk)]
  · have h1 : (gnew g kd n f).2.1 g.1 = (kd, n) := if_pos rfl
    have h2 : (gnew g kd n f).2.2 g.1 = f := if_pos rfl
    have h3 : va_up a g.1 q g.1 = q := if_pos rfl
    rw [h1, h2, h3, celP_ok hp.1 hA hf]
theorem rok.mono {n m : Nat} {x : Int32} (h : rok n x) (hnm : n ≤ m) : rok m x := by
  rcases h with h | h | h
  · exact Or.inl h
  · exact Or.inr (Or.inl (Nat.lt_of_lt_of_le h hnm))
  · exact Or.inr (Or.inr h)
theorem PW_new {g : PL} {kd n : Nat} {f : Nat → Int32} (hp : PW g) (hn : g.1 < 900000) (hf : ∀ j, isR kd j = true → rok g.1 (f j)) (hb : kd = 6 → ∀ j, bfit (f j)) : PW (gnew g kd n f) := by
  refine ⟨hn, fun k hk j hj => ?_, fun k hk h6 j => ?_⟩
  · by_cases e : k = g.1
    · subst e
      rw [show (gnew g kd n f).2.1 g.1 = (kd, n) from if_pos rfl] at hj
      rw [show (gnew g kd n f).2.2 g.1 = f from if_pos rfl]
      exact (hf j hj).mono (Nat.le_succ _)
    · rw [show (gnew g kd n f).2.1 k = g.2.1 k from if_neg e] at hj
      rw [show (gnew g kd n f).2.2 k = g.2.2 k from if_neg e]
      have hk' : k < g.1 + 1 := hk
      exact (hp.2.1 k (by omega) j hj).mono (Nat.le_succ _)
  · by_cases e : k = g.1
    · subst e
      rw [show (gnew g kd n f).2.1 g.1 = (kd, n) from if_pos rfl] at h6
      rw [show (gnew g kd n f).2.2 g.1 = f from if_pos rfl]
      exact hb h6 j
    · rw [show (gnew g kd n f).2.1 k = g.2.1 k from if_neg e] at h6
      rw [show (gnew g kd n f).2.2 k = g.2.2 k from if_neg e]
      have hk' : k < g.1 + 1 := hk
      exact hp.2.2 k (by omega) h6 j
/-- one object changes -/
theorem wp_set {Z : ZT} {h : Hp} {a : Nat → Nat} {g g' : PL} {k : Nat} (hk : k < g.1) (e1 : g'.1 = g.1) (e2 : g'.2.1 = g.2.1) (e3 : ∀ j, j ≠ k → g'.2.2 j = g.2.2 j) {e : va_E} (he : celP Z a (g.2.1 k).1 (g.2.1 k).2 (g'.2.2 k) = e) : (wl Z h (pl Z a g)).set (125 + k) (a k, e) = wl Z h (pl Z a g') := by
  apply List.ext_getElem?
  intro i
  have hl : (wl Z h (pl Z a g)).length = 125 + g.1 := by rw [wl_len, pl_len]
  by_cases hi : i = 125 + k
  · subst hi
    rw [List.getElem?_set_self (by rw [hl]; omega), wp_at (by rw [e1]; exact hk), e2, he]
  · rw [List.getElem?_set_ne (Ne.symm hi)]
    by_cases hl : i < 125
    · rw [wl_at hl, wl_at hl]
    · rw [wl_gt hl, wl_gt hl]
      by_cases hz : i - 125 < g.1
      · rw [pl_at hz, pl_at (by rw [e1]; exact hz), e2, e3 (i - 125) (by omega)]
      · rw [List.getElem?_eq_none (by rw [pl_len]; omega), List.getElem?_eq_none (by rw [pl_len, e1]; omega)]
theorem PW_gu {g : PL} {k j : Nat} {v : Int32} (hp : PW g) (h1 : isR (g.2.1 k).1 j = true → rok g.1 v) (h2 : (g.2.1 k).1 = 6 → bfit v) : PW (gu g k j v) := by
  refine ⟨hp.1, fun k' hk i hi => ?_, fun k' hk h6 i => ?_⟩
  · show rok g.1 (up g.2.2 k j v k' i)
    by_cases e : k' = k
    · subst e
      rw [up_eq]
      show rok g.1 (if i = j then v else g.2.2 k' i)
      by_cases z : i = j
      · rw [if_pos z]; exact h1 (by rw [← z]; exact hi)
      · rw [if_neg z]; exact hp.2.1 k' hk i hi
    · rw [up_ne _ _ e]; exact hp.2.1 k' hk i hi
  · show bfit (up g.2.2 k j v k' i)
    by_cases e : k' = k
    · subst e
      rw [up_eq]
      show bfit (if i = j then v else g.2.2 k' i)
      by_cases z : i = j
      · rw [if_pos z]; exact h2 h6
      · rw [if_neg z]; exact hp.2.2 k' hk h6 i
    · rw [up_ne _ _ e]; exact hp.2.2 k' hk h6 i
theorem wl_app {Z : ZT} {h : Hp} {t : va_W} {x : Nat × va_E} : wl Z h (t ++ [x]) = wl Z h t ++ [x] := by unfold wl; rw [List.append_assoc]
