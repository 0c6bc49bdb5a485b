/-! a line of a speaker behind the drawn text -/
theorem st_lit {n0 : Nat} {g : PL} (i : Nat) (hi : i < 10) : ST n0 g (1000000 + i) ((txP.getD i []).map (fun v => v.toInt.toNat)) := by
  have h1 : ∀ i, i < 10 → isT (1000000 + i) = true ∧ tlP i = ((txP.getD i []).map (fun v => v.toInt.toNat)).length ∧ ∀ j, j < tlP i → tbP i j = nI (((txP.getD i []).map (fun v => v.toInt.toNat)).getD j 0) := by decide +kernel
  obtain ⟨a, b, c⟩ := h1 i hi
  refine Or.inl ⟨a, ?_, fun j hj => ?_⟩
  · rw [Nat.add_sub_cancel_left]; exact b
  · rw [Nat.add_sub_cancel_left]; exact c j (by rw [b]; exact hj)
theorem i2c_97 : ∀ s, s < 30 → i2c ((97 : Int32) + nI s) = nI (97 + s) := by decide +kernel
/-- the drawn text alone has changed, at most k new objects -/
def FT (k : Nat) (g g' : PL) : Prop := g.1 ≤ g'.1 ∧ g'.1 ≤ g.1 + k ∧ (∀ o, o < g.1 → g'.2.1 o = g.2.1 o) ∧ (∀ o, o < g.1 → ¬ o = 1 → g'.2.2 o = g.2.2 o) ∧ ∀ j, ¬ j = 16 → g'.2.2 1 j = g.2.2 1 j
theorem FT.dk {k : Nat} {g g' : PL} (f : FT k g g') (d : DK g) (hp : g'.1 ≤ 600000) : DK g' := by
  have hn := d.n
  obtain ⟨f1, f2, f3, f4, f5⟩ := f
  exact ⟨by omega, hp, by rw [f3 0 (by omega)]; exact d.k0, by rw [f3 1 (by omega)]; exact d.k1, by rw [f3 2 (by omega)]; exact d.k2, by rw [f3 3 (by omega)]; exact d.k3, fun j a b => by rw [f3 j (by omega)]; exact d.kn j a b, by rw [f3 10 (by omega)]; exact d.kz, by rw [f5 3 (by decide)]; exact d.f3, by rw [f5 4 (by decide)]; exact d.f4, fun j a b => by rw [f5 j (by omega)]; exact d.f8 j a b⟩
/-- a new builder, seen from before -/
theorem sb_open {g : PL} (hp : g.1 ≤ 600000) : ∃ u v, fp_J4_init_da8c8 (gnew g 2 0 (dfl 2)) g.1 = some u ∧ SB g.1 u g.1 v [] ∧ Fr g.1 2 g u := by
  obtain ⟨u, e, v, s, f⟩ := sb_new (n0 := g.1) (g := gnew g 2 0 (dfl 2)) (o := g.1) (Nat.le_refl _) (Nat.lt_succ_self _) (by rw [nw_k]) (by show g.1 + 1 ≤ 700000; omega) (by rw [nw_h]; rfl)
  exact ⟨u, v, e, s, (Fr.new (Nat.le_refl _)).tr f (by omega)⟩
/-- the text is put into the record -/
theorem tx_put {g u : PL} {x k : Nat} {ts : List Nat} (h1 : 1 < g.1) (h0 : u.2.1 1 = (0, 0)) (f : Fr g.1 k g u) (hs : ST u.1 u x ts) : ST (gu u 1 16 (nI x)).1 (gu u 1 16 (nI x)) x ts ∧ FT k g (gu u 1 16 (nI x)) := by
  refine ⟨?_, f.a, f.b, f.s, fun o h h2 => ?_, fun j hj => ?_⟩
  · rcases hs with s | ⟨w, s1, s2, s3, s4, s5, s6, s7, s8, s9⟩
    · exact Or.inl s
    · have hx : ¬ x = 1 := fun e => by
        rw [e, h0] at s5
        cases s5
      have hw : ¬ w = 1 := fun e => by
        rw [e, h0] at s8
        cases s8
      exact Or.inr ⟨w, s1, s2, s3, s4, s5, by rw [gu_h, up_o hx]; exact s6, by rw [gu_h, up_o hx]; exact s7, s8, fun i hi => by rw [gu_h, up_o hw]; exact s9 i hi⟩
  · rw [gu_h, up_o h2, f.h o h]
  · rw [gu_h, up_sn hj, f.h 1 h1]
section
variable {n0 : Nat} {g : PL} {o v x c n : Nat} {bs ts : List Nat}
theorem sb_str1 (s : SB n0 g o v bs) (hp : g.1 ≤ 700000) (ht : ST n0 g x ts) (hl : bs.length + ts.length ≤ 300) : ∃ u v', fp_J4_append_15ec4 g o x = some (o, u) ∧ SB n0 u o v' (bs ++ ts) ∧ Fr n0 1 g u := by
  obtain ⟨⟨o2, u⟩, e, q, v', s, f⟩ := sb_str s hp ht hl
  have q : o2 = o := q
  subst q
  exact ⟨u, v', e, s, f⟩
theorem sb_chr1 (s : SB n0 g o v bs) (hp : g.1 ≤ 700000) (hc : c < 128) (hl : bs.length + 1 ≤ 300) : ∃ u v', fp_J4_append_cf468 g o (nI c) = some (o, u) ∧ SB n0 u o v' (bs ++ [c]) ∧ Fr n0 1 g u := by
  obtain ⟨⟨o2, u⟩, e, q, v', s, f⟩ := sb_chr s hp hc hl
  have q : o2 = o := q
  subst q
  exact ⟨u, v', e, s, f⟩
theorem sb_num1 (s : SB n0 g o v bs) (hp : g.1 ≤ 700000) (hn : n < 1000) (hl : bs.length + 3 ≤ 300) : ∃ u v', fp_J4_append_bf812 g o (nI n) = some (o, u) ∧ SB n0 u o v' (bs ++ dgs n) ∧ Fr n0 1 g u := by
  obtain ⟨⟨o2, u⟩, e, q, v', s, f⟩ := sb_num s hp hn hl
  have q : o2 = o := q
  subst q
  exact ⟨u, v', e, s, f⟩
theorem sb_txt1 (s : SB n0 g o v bs) (hn0 : n0 ≤ g.1) (hp : g.1 ≤ 700000) : ∃ u, fp_J4_toString_0e30d g o = some (g.1, u) ∧ ST u.1 u g.1 bs ∧ Fr n0 2 g u ∧ u.1 = g.1 + 2 := by
  obtain ⟨⟨o2, u⟩, e, q, s, f, z⟩ := sb_txt s hn0 hp
  have q : o2 = g.1 := q
  subst q
  have z : u.1 = g.1 + 2 := z
  exact ⟨u, e, by rw [z]; exact s, f, z⟩
theorem tlit1 : ST n0 g 1000001 [115, 112, 101, 97, 107, 101, 114, 32, 115] := Or.inl ⟨by decide, by decide +kernel, by decide +kernel⟩
theorem tlit2 : ST n0 g 1000002 [59] := Or.inl ⟨by decide, by decide +kernel, by decide +kernel⟩
end
