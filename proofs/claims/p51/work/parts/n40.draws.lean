/-! draws; the words' turns: what they keep -/
/-- only the seed has changed -/
def D0 (g g' : PL) : Prop := g'.1 = g.1 ∧ g'.2.1 = g.2.1 ∧ ∀ o, ¬ o = 0 → g'.2.2 o = g.2.2 o
theorem D0.tr {a b c : PL} (p : D0 a b) (q : D0 b c) : D0 a c := ⟨q.1.trans p.1, q.2.1.trans p.2.1, fun o h => (q.2.2 o h).trans (p.2.2 o h)⟩
theorem D0.dk {g g' : PL} (w : D0 g g') (k : DK g) : DK g' := ⟨by rw [w.1]; exact k.n, by rw [w.1]; exact k.p, by rw [w.2.1]; exact k.k0, by rw [w.2.1]; exact k.k1, by rw [w.2.1]; exact k.k2, by rw [w.2.1]; exact k.k3, by rw [w.2.1]; exact k.kn, by rw [w.2.1]; exact k.kz, by rw [w.2.2 1 (by decide)]; exact k.f3, by rw [w.2.2 1 (by decide)]; exact k.f4, by rw [w.2.2 1 (by decide)]; exact k.f8⟩
theorem dr1 {g : PL} (hg : 0 < g.1) (hk : g.2.1 0 = (1, 0)) {n : Nat} {c : Int32} (hc : c = nI n) (h0 : 0 < n) (hn : n < 100000) : ∃ r g', fp_X12_next g 0 c = some (nI r, g') ∧ r < n ∧ D0 g g' := by
  obtain ⟨r, s, e, h⟩ := dr_next hg (by rw [hk]) h0 hn
  exact ⟨r, gu g 0 0 s, by rw [hc]; exact e, h, rfl, rfl, fun o ho => by rw [gu_h, up_o ho]⟩
theorem DK.dr {g : PL} (d : DK g) {n : Nat} {c : Int32} (hc : c = nI n) (h0 : 0 < n) (hn : n < 100000) : ∃ r g', fp_X12_next g 0 c = some (nI r, g') ∧ r < n ∧ D0 g g' := dr1 (by have := d.n; omega) d.k0 hc h0 hn
theorem DK.cg {g g' : PL} (k : DK g) (h1 : g.1 ≤ g'.1) (h2 : g'.1 ≤ 600000) (h3 : ∀ o, o < g.1 → g'.2.1 o = g.2.1 o) (h5 : ∀ j, 2 < j → ¬ j = 5 → ¬ j = 6 → ¬ j = 7 → ¬ j = 15 → ¬ j = 16 → g'.2.2 1 j = g.2.2 1 j) : DK g' := by
  have hn := k.n
  exact ⟨by omega, h2, by rw [h3 0 (by omega)]; exact k.k0, by rw [h3 1 (by omega)]; exact k.k1, by rw [h3 2 (by omega)]; exact k.k2, by rw [h3 3 (by omega)]; exact k.k3, fun j a b => by rw [h3 j (by omega)]; exact k.kn j a b, by rw [h3 10 (by omega)]; exact k.kz, by rw [h5 3 (by decide) (by decide) (by decide) (by decide) (by decide) (by decide)]; exact k.f3, by rw [h5 4 (by decide) (by decide) (by decide) (by decide) (by decide) (by decide)]; exact k.f4, fun j a b => by rw [h5 j (by omega) (by omega) (by omega) (by omega) (by omega) (by omega)]; exact k.f8 j a b⟩
/-- what the turns of the words keep of the pool: n words, no end or free frame beyond M -/
def WQ (g : PL) (R : Nat → Nat → Nat) (wid : Nat → Nat) (fr : Nat) (n : Nat) (M : Nat) : Prop :=
  (DK g) ∧
  (WO g R wid n) ∧
  (g.2.2 1 5 = nI n) ∧
  (R 0 4 = n) ∧
  (∀ w, w < n → fr < wid w ∧ g.2.2 (wid w) 3 = nI (R 5 w) ∧ R 5 w ≤ M ∧ R 4 w < R 5 w ∧ ∃ t, t < 3 ∧ g.2.2 (wid w) 1 = nI t ∧ R 2 w = 641 + t) ∧
  (∀ w v, w < n → v < n → wid w = wid v → w = v) ∧
  (g.2.1 fr = (4, 4)) ∧
  (12 ≤ fr ∧ fr < g.1) ∧
  (∀ s, s < R 0 2 → ∃ f, g.2.2 fr s = nI f ∧ f ≤ M ∧ ∀ w, w < n → R 3 w = s → R 5 w ≤ f) ∧
  (g.2.2 1 2 = nI (R 0 2)) ∧
  (1 ≤ R 0 2 ∧ R 0 2 ≤ 3 ∧ ∀ i, i < R 0 2 → R 1 i = 609 + i) ∧
  (R 0 10 = 0)
theorem WQ.d {g : PL} {R : Nat → Nat → Nat} {wid : Nat → Nat} {fr : Nat} {n : Nat} {M : Nat} (q : WQ g R wid fr n M) : DK g := q.1
theorem WQ.w {g : PL} {R : Nat → Nat → Nat} {wid : Nat → Nat} {fr : Nat} {n : Nat} {M : Nat} (q : WQ g R wid fr n M) : WO g R wid n := q.2.1
theorem WQ.n5 {g : PL} {R : Nat → Nat → Nat} {wid : Nat → Nat} {fr : Nat} {n : Nat} {M : Nat} (q : WQ g R wid fr n M) : g.2.2 1 5 = nI n := q.2.2.1
theorem WQ.rn {g : PL} {R : Nat → Nat → Nat} {wid : Nat → Nat} {fr : Nat} {n : Nat} {M : Nat} (q : WQ g R wid fr n M) : R 0 4 = n := q.2.2.2.1
theorem WQ.wx {g : PL} {R : Nat → Nat → Nat} {wid : Nat → Nat} {fr : Nat} {n : Nat} {M : Nat} (q : WQ g R wid fr n M) : ∀ w, w < n → fr < wid w ∧ g.2.2 (wid w) 3 = nI (R 5 w) ∧ R 5 w ≤ M ∧ R 4 w < R 5 w ∧ ∃ t, t < 3 ∧ g.2.2 (wid w) 1 = nI t ∧ R 2 w = 641 + t := q.2.2.2.2.1
theorem WQ.inj {g : PL} {R : Nat → Nat → Nat} {wid : Nat → Nat} {fr : Nat} {n : Nat} {M : Nat} (q : WQ g R wid fr n M) : ∀ w v, w < n → v < n → wid w = wid v → w = v := q.2.2.2.2.2.1
theorem WQ.fk {g : PL} {R : Nat → Nat → Nat} {wid : Nat → Nat} {fr : Nat} {n : Nat} {M : Nat} (q : WQ g R wid fr n M) : g.2.1 fr = (4, 4) := q.2.2.2.2.2.2.1
theorem WQ.fo {g : PL} {R : Nat → Nat → Nat} {wid : Nat → Nat} {fr : Nat} {n : Nat} {M : Nat} (q : WQ g R wid fr n M) : 12 ≤ fr ∧ fr < g.1 := q.2.2.2.2.2.2.2.1
theorem WQ.ff {g : PL} {R : Nat → Nat → Nat} {wid : Nat → Nat} {fr : Nat} {n : Nat} {M : Nat} (q : WQ g R wid fr n M) : ∀ s, s < R 0 2 → ∃ f, g.2.2 fr s = nI f ∧ f ≤ M ∧ ∀ w, w < n → R 3 w = s → R 5 w ≤ f := q.2.2.2.2.2.2.2.2.1
theorem WQ.s2 {g : PL} {R : Nat → Nat → Nat} {wid : Nat → Nat} {fr : Nat} {n : Nat} {M : Nat} (q : WQ g R wid fr n M) : g.2.2 1 2 = nI (R 0 2) := q.2.2.2.2.2.2.2.2.2.1
theorem WQ.sp {g : PL} {R : Nat → Nat → Nat} {wid : Nat → Nat} {fr : Nat} {n : Nat} {M : Nat} (q : WQ g R wid fr n M) : 1 ≤ R 0 2 ∧ R 0 2 ≤ 3 ∧ ∀ i, i < R 0 2 → R 1 i = 609 + i := q.2.2.2.2.2.2.2.2.2.2.1
theorem WQ.br {g : PL} {R : Nat → Nat → Nat} {wid : Nat → Nat} {fr : Nat} {n : Nat} {M : Nat} (q : WQ g R wid fr n M) : R 0 10 = 0 := q.2.2.2.2.2.2.2.2.2.2.2
theorem WQ.cg {g g' : PL} {R : Nat → Nat → Nat} {wid : Nat → Nat} {fr n M : Nat} (q : WQ g R wid fr n M) (h1 : g.1 ≤ g'.1) (h2 : g'.1 ≤ 600000) (h3 : ∀ o, o < g.1 → g'.2.1 o = g.2.1 o) (h4 : ∀ o, o < g.1 → ¬ o = 0 → ¬ o = 1 → ¬ o = 3 → g'.2.2 o = g.2.2 o) (h5 : ∀ j, 1 < j → ¬ j = 6 → ¬ j = 7 → ¬ j = 15 → ¬ j = 16 → g'.2.2 1 j = g.2.2 1 j) : WQ g' R wid fr n M := by
  have hf := q.fo
  have hd := q.d.n
  refine ⟨q.d.cg h1 h2 h3 (fun j a b c d e f => h5 j (by omega) c d e f), fun w hw => ?_, by rw [h5 5 (by decide) (by decide) (by decide) (by decide) (by decide)]; exact q.n5, q.rn, fun w hw => ?_, q.inj, by rw [h3 fr hf.2]; exact q.fk, ⟨hf.1, by omega⟩, ?_, by rw [h5 2 (by decide) (by decide) (by decide) (by decide) (by decide)]; exact q.s2, q.sp, q.br⟩
  · obtain ⟨w1, w2, w3, w4, w5, w6, w7, w8⟩ := q.w w hw
    rw [h4 2 (by omega) (by decide) (by decide) (by decide), h3 _ w3, h4 _ w3 (by omega) (by omega) (by omega)]
    exact ⟨w1, w2, by omega, w4, w5, w6, w7, w8⟩
  · obtain ⟨w1, w2, w3, -⟩ := q.w w hw
    obtain ⟨x1, x2, x3, x4, t, x5, x6, x7⟩ := q.wx w hw
    rw [h4 _ w3 (by omega) (by omega) (by omega)]
    exact ⟨x1, x2, x3, x4, t, x5, x6, x7⟩
  · rw [h4 fr hf.2 (by omega) (by omega) (by omega)]
    exact q.ff
theorem ins_old {R : Nat → Nat → Nat} {wid : Nat → Nat} {t tx sp st en p n w : Nat} (hR : R 0 4 = n) (ht : t ≤ n) (hw : w < n + 1) : (w = t ∧ insW wid t p w = p ∧ insR R t tx sp st en 2 w = tx ∧ insR R t tx sp st en 3 w = sp ∧ insR R t tx sp st en 4 w = st ∧ insR R t tx sp st en 5 w = en) ∨ (¬ w = t ∧ ∃ v, v < n ∧ v = (if w < t then w else w - 1) ∧ insW wid t p w = wid v ∧ insR R t tx sp st en 2 w = R 2 v ∧ insR R t tx sp st en 3 w = R 3 v ∧ insR R t tx sp st en 4 w = R 4 v ∧ insR R t tx sp st en 5 w = R 5 v) := by
  rw [ins_2, ins_3, ins_4, ins_5]
  by_cases b : w = t
  · refine Or.inl ⟨b, ?_, if_pos b, if_pos b, if_pos b, if_pos b⟩
    unfold insW
    rw [if_neg (by omega), if_pos b]
  · refine Or.inr ⟨b, ?_⟩
    rw [if_neg b, if_neg b, if_neg b, if_neg b]
    unfold insW
    by_cases a : w < t
    · rw [if_pos a, shR_o (by omega), shR_o (by omega), shR_o (by omega), shR_o (by omega)]
      exact ⟨w, by omega, rfl, if_pos a, rfl, rfl, rfl, rfl⟩
    · rw [if_neg a, if_neg b, hR, shR_i ⟨by omega, by omega, by omega, by omega⟩, shR_i ⟨by omega, by omega, by omega, by omega⟩, shR_i ⟨by omega, by omega, by omega, by omega⟩, shR_i ⟨by omega, by omega, by omega, by omega⟩]
      exact ⟨w - 1, by omega, rfl, if_neg a, rfl, rfl, rfl, rfl⟩
theorem imax_r {a b v : Nat} (ha : a < 1073741824) (hv : v < 1073741824) (hb : b < 1073741824) : imax (nI b) (nI a - nI v) = nI (max b (a - v)) := by
  by_cases q : v ≤ a
  · rw [sub_n q, imax_n (by omega) (by omega)]
  · have h : ¬ nI b < nI a - nI v := by
      rw [Int32.lt_iff_toInt_lt, tsub ha hv, nI_toInt (by omega)]; omega
    unfold imax
    rw [if_neg h, show max b (a - v) = b by omega]
section
variable {n0 : Nat} {g : PL}
theorem tlit4 : ST n0 g 1000004 [119, 111, 114, 100, 32, 115] := Or.inl ⟨by decide, by decide +kernel, by decide +kernel⟩
theorem tlit5 : ST n0 g 1000005 [32, 116] := Or.inl ⟨by decide, by decide +kernel, by decide +kernel⟩
theorem tlit6 : ST n0 g 1000006 [32] := Or.inl ⟨by decide, by decide +kernel, by decide +kernel⟩
theorem tlit7 : ST n0 g 1000007 [98, 114, 101, 97, 116, 104, 32] := Or.inl ⟨by decide, by decide +kernel, by decide +kernel⟩
theorem tlit8 : ST n0 g 1000008 [108, 101, 110, 103, 116, 104, 32] := Or.inl ⟨by decide, by decide +kernel, by decide +kernel⟩
theorem tlit9 : ST n0 g 1000009 [59, 104, 97, 110, 100, 108, 101, 32] := Or.inl ⟨by decide, by decide +kernel, by decide +kernel⟩
theorem in5 {u : PL} {p : Nat} (h1 : p < u.1) (h2 : u.2.1 p = (4, 5)) {i : Int32} (hi : inb i 5 = true) : (gk u p 4 && inb i (gl u p)) = true := by
  have e : gl u p = 5 := by show (u.2.1 p).2 = 5; rw [h2]
  rw [gk_i h1 (by rw [h2]), e, hi]
  rfl
end
