/-! the class's acts by number -/
section
variable {h : Hp} {c d x : Nat} {R E : Nat → Nat → Nat} {hi : Nat → Nat → Nat → Nat}
/-- the class's side with its history -/
def KH (h : Hp) (c : Nat) (R E : Nat → Nat → Nat) : Prop := PQ h c R E ∧ ∃ d x hi, HC h d x hi
theorem k_rec (p : PQ h c R E) (hH : HC h d x hi) : ∃ u, f_X3_record h 18 = some u ∧ PQ u c R E ∧ HC u (dN d) ((x + 1) % 12) (hiN E d hi) := by
  have hk := p.k
  obtain ⟨u, e, k1, k2⟩ := c_record p.W p.E p.D hH
  refine ⟨u, e, ⟨p.W, p.E, p.X, p.C.fr (fun o ho => k2 _ (by omega) (by omega)), p.D.fr (fun k a b => k2 k (by omega) (by omega)), ?_, by rw [k2 3 (by decide) (by omega)]; exact p.p, p.k⟩, k1⟩
  have : ∀ k, k ≤ 12 → u k = h k := fun k hk => k2 k (by omega) (by omega)
  unfold CF
  rw [this 3 (by decide), this 4 (by decide), this 5 (by decide), this 6 (by decide), this 7 (by decide), this 8 (by decide), this 9 (by decide), this 10 (by decide), this 11 (by decide)]
  exact p.F
theorem k_cut (p : KH h c R E) {a b : Nat} (hab : a ≤ b) (hb : b < (trA R E).length) : ∃ u, ask12 h (nI a) (nI b) 0 = some (0, (nI (fs R E (E 0 1)) - nI (fs R (cutK R E (KC R E a (b + 1))) (cutK R E (KC R E a (b + 1)) 0 1)), u)) ∧ KH u c R (cutK R E (KC R E a (b + 1))) := by
  obtain ⟨p, d, x, hi, hH⟩ := p
  obtain ⟨h1, e1, p1, H1⟩ := k_rec p hH
  obtain ⟨h2, e2, D2, F2, H2⟩ := c_cutPlaces p.W p.E p.X p1.C p1.D p1.F p1.p p.k (a := a) (b := b) (by omega) hb
  have E2 := cutK_WE p.W p.E (K := KC R E a (b + 1)) (fun v hv => KC_le p.E hv)
  have X2 := cutK_WX p.W p.E p.X (K := KC R E a (b + 1)) (fun v _ hv => KC_1 hv)
  refine ⟨h2, ?_, ⟨p.W, E2, X2, H2.cr p.k p1.C, D2, F2, H2.2.trans p1.p, p.k⟩, _, _, _, H2.hc H1⟩
  unfold ask12 f_X10_cut
  rw [c_rPl p.q hab hb, bnd_some, if_pos rfl, e1, bnd_some, stp_eq, e2, bnd_some, p1.F.fr, F2.fr]
  rfl
theorem k_cutX (p : PQ h c R E) (h0 : (trA R E).length = 0) : ask12 h 0 0 0 = some (2, ((-2000000053), h)) := by
  unfold ask12 f_X10_cut
  rw [show f_X10_requirePlaces h 0 0 = some (2, nI 0) from c_rPl' p.q (x := 0) (y := 0) (Or.inl (Or.inr ⟨by decide, by rw [h0]; decide⟩)), bnd_some]
  rfl
theorem tr_place (p : PQ h c R E) {v : Nat} (hv : v < R 0 4) (hk : E 1 v = 1) : ∃ i, i < (trA R E).length ∧ (trA R E)[i]? = some v := by
  obtain ⟨s, hs, es⟩ := p.X.kept v hv hk
  have hblk := p.W.wb v hv
  have hmem : v ∈ trA R E := (mem_tr _).mpr ⟨s, hs, by rw [es]; exact hblk.2.1, by rw [es]; exact hblk.2.2, hk⟩
  obtain ⟨i, hp, e⟩ := List.getElem_of_mem hmem
  exact ⟨i, hp, by rw [List.getElem?_eq_getElem hp, e]⟩
theorem k_cutW (p : KH h c R E) {v : Nat} (hv : v < R 0 4) (hk : E 1 v = 1) : ∃ u, ask13 h (nI v) 0 0 = some (0, (stO R (cutK R E (K0 (E 1) v)) v, u)) ∧ KH u c R (cutK R E (K0 (E 1) v)) := by
  obtain ⟨p, d, x, hi, hH⟩ := p
  have hl := trA_le p.W p.E
  obtain ⟨g1, g2, g3, g4, g5, g6⟩ := w_facts p.W hv
  obtain ⟨i, hp, ep⟩ := tr_place p hv hk
  have e10 : h 10 v = nI i := by
    rw [p.F.wp v hv, sch_u (i := i) (by omega) (fun j hj z => by have := nodup_get (tr_nodup p.W p.E _ (Nat.le_refl _)) z ep; omega) (fun _ => ep), oI, if_pos hp]
  obtain ⟨h1, e1, p1, H1⟩ := k_rec p hH
  obtain ⟨h2, e2, D2, F2, H2⟩ := c_cutPlaces p.W p.E p.X p1.C p1.D p1.F p1.p p.k (a := i) (b := i) (by omega) hp
  have E2 := cutK_WE p.W p.E (K := KC R E i (i + 1)) (fun v hv => KC_le p.E hv)
  have X2 := cutK_WX p.W p.E p.X (K := KC R E i (i + 1)) (fun v _ hv => KC_1 hv)
  have C2 := H2.cr p.k p1.C
  have p2 := H2.2.trans p1.p
  have es2 := c_stateOf p.W E2 C2 D2 F2 p2 p.k hv
  have ek : KC R E i (i + 1) = K0 (E 1) v := KC_1w ep
  rw [ek] at es2 E2 X2 D2 F2
  refine ⟨h2, ?_, ⟨p.W, E2, X2, C2, D2, F2, p2, p.k⟩, _, _, _, H2.hc H1⟩
  unfold ask13 f_X10_cutWord
  rw [c_rW p.q hv, bnd_some, if_pos rfl, inb_t g1 (by omega), ck_true, ix_n (by omega), stp_eq, e10, if_neg (show ¬ nI i = (-1 : Int32) from fun z => by have := neg_n (a := i) (by omega); rw [← this]; exact z), e1, bnd_some, e2, bnd_some, es2, bnd_some]
  rfl
theorem k_cutWX (p : PQ h c R E) {v : Nat} (hv : v < R 0 4) (hk : ¬ E 1 v = 1) : ask13 h (nI v) 0 0 = some (3, ((-2000000054), h)) := by
  obtain ⟨g1, g2, g3, g4, g5, g6⟩ := w_facts p.W hv
  have e10 : h 10 v = -nI 1 := by
    rw [p.F.wp v hv, oI, if_neg]
    rw [sch_lt]
    rintro ⟨i, hp, e⟩
    exact hk (trA_get p.W p.E e).2
  unfold ask13 f_X10_cutWord
  rw [c_rW p.q hv, bnd_some, if_pos rfl, inb_t g1 (by omega), ck_true, ix_n (by omega), stp_eq, e10, if_pos (show -nI 1 = (-1 : Int32) from rfl)]
  rfl
theorem k_rest (p : KH h c R E) {a b : Nat} (hab : a ≤ b) (hb : b < R 0 4) : ∃ u, ask14 h (nI a) (nI b) 0 = some (0, (nI (rA R E a (b + 1 - a)).2, u)) ∧ KH u c R (rA R E a (b + 1 - a)).1 := by
  obtain ⟨p, d, x, hi, hH⟩ := p
  have h40 := p.W.w40
  obtain ⟨h1, e1, p1, H1⟩ := k_rec p hH
  obtain ⟨⟨v2, h2⟩, e2, e3, D2, F2, H2⟩ := c_keepAgain p.W p.E p.X p1.C p1.D p1.p p.k (a := a) (b := b) (by omega) hb
  have hWW := rA_W p.W p.E p.X (a := a) (b + 1 - a) (by omega)
  have e3 : v2 = nI (rA R E a (b + 1 - a)).2 := e3
  have D2 : CE h2 (rA R E a (b + 1 - a)).1 := D2
  have F2 : CF h2 R (rA R E a (b + 1 - a)).1 := F2
  have H2 : HF h1 h2 := H2
  subst e3
  refine ⟨h2, ?_, ⟨p.W, hWW.1, hWW.2, H2.cr p.k p1.C, D2, F2, H2.2.trans p1.p, p.k⟩, _, _, _, H2.hc H1⟩
  unfold ask14 f_X10_restore
  rw [c_rW p.q (show a < R 0 4 by omega), bnd_some, if_pos rfl, c_rW p.q hb, bnd_some, if_pos rfl, if_neg (ltn hab (by omega)), e1, bnd_some, e2, bnd_some]
  rfl
theorem k_move (p : KH h c R E) {a k t : Nat} {a3 : Int32} (hk : 0 < k) (ha : a + k ≤ E 0 1) (ht : t + k ≤ E 0 1) (m1 : ¬ a3 < -nI 1) (m2 : a3 < nI (E 0 1)) (m3 : a3 < nI a ∨ (¬ a3 < nI a ∧ nI (a + k - 1) < a3)) (m4 : (a3 < nI a ∧ a3 + nI 1 = nI t) ∨ (¬ a3 < nI a ∧ a3 + nI 1 - nI k = nI t)) : ∃ u, ask15 h (nI a) (nI (a + k - 1)) a3 = some (0, (nI t, u)) ∧ KH u c R (moveE R E a k t) := by
  obtain ⟨p, d, x, hi, hH⟩ := p
  have hn := p.n
  obtain ⟨h1, e1, p1, H1⟩ := k_rec p hH
  obtain ⟨⟨v2, h2⟩, e2, e3, D2, F2, H2⟩ := c_carryShots p.W p.E p1.C p1.D p1.p p.k (f := a) (k := k) (t := t) hk ha ht rfl m4
  have e3 : v2 = nI t := e3
  have D2 : CE h2 (moveE R E a k t) := D2
  have F2 : CF h2 R (moveE R E a k t) := F2
  have H2 : HF h1 h2 := H2
  subst e3
  refine ⟨h2, ?_, ⟨p.W, moveE_WE p.W p.E ha ht, moveE_WX (R := R) p.X hk ha ht, H2.cr p.k p1.C, D2, F2, H2.2.trans p1.p, p.k⟩, _, _, _, H2.hc H1⟩
  have fin : J_X10_move_77 (nI a) (nI (a + k - 1)) a3 h = some (0, (nI t, h2)) := by
    unfold J_X10_move_77
    rw [e1, bnd_some, e2, bnd_some]
  unfold ask15 f_X10_move
  rw [c_rS p.q (show a < E 0 1 by omega), bnd_some, if_pos rfl, c_rS p.q (show a + k - 1 < E 0 1 by omega), bnd_some, if_pos rfl, if_neg (ltn (show a ≤ a + k - 1 by omega) (by omega)), p.D.z, if_neg (show ¬ a3 < -1 from m1), if_pos m2]
  rcases m3 with m3 | ⟨m3, m5⟩
  · rw [if_pos m3, fin]; rfl
  · rw [if_neg m3, if_pos m5, fin]; rfl
theorem k_moveX (p : PQ h c R E) {a k : Nat} {a3 : Int32} (hk : 0 < k) (ha : a + k ≤ E 0 1) (m1 : ¬ a3 < -nI 1) (m2 : a3 < nI (E 0 1)) (m3 : ¬ a3 < nI a) (m4 : ¬ nI (a + k - 1) < a3) : ask15 h (nI a) (nI (a + k - 1)) a3 = some (2, ((-2000000053), h)) := by
  have hn := p.n
  unfold ask15 f_X10_move
  rw [c_rS p.q (show a < E 0 1 by omega), bnd_some, if_pos rfl, c_rS p.q (show a + k - 1 < E 0 1 by omega), bnd_some, if_pos rfl, if_neg (ltn (show a ≤ a + k - 1 by omega) (by omega)), p.D.z, if_neg (show ¬ a3 < -1 from m1), if_pos m2, if_neg m3, if_neg m4]
  rfl
theorem k_moveX0 (p : PQ h c R E) (h0 : E 0 1 = 0) : ask15 h 0 0 (-1) = some (1, ((-2000000050), h)) := by
  unfold ask15 f_X10_move
  rw [show f_X10_requireShot h 0 = some (1, nI 0) from c_rS' p.q (x := 0) (Or.inr ⟨by decide, by rw [h0]; decide⟩), bnd_some]
  rfl
theorem k_hand (p : KH h c R E) {b u v : Nat} (hb : b < R 0 13) (hu : u ≤ 999) (hv : v ≤ 999) : ∃ w, ask16 h (nI b) (nI u) (nI v) = some (0, ((if sch (fun s => E 2 s = b) (E 0 1) < E 0 1 then nI (plE R (setE (setE E 3 b u) 4 b v) b) else 0), w)) ∧ KH w c R (setE (setE E 3 b u) 4 b v) := by
  obtain ⟨p, d, x, hi, hH⟩ := p
  have hn := p.n
  have E2 : WE R (setE (setE E 3 b u) 4 b v) := by
    refine ⟨p.E.n, p.E.lt, p.E.inj, p.E.k1, fun j hj => ?_, fun j hj => ?_, p.E.fl⟩
    · show (if j = b then u else E 3 j) ≤ 999
      split
      · exact hu
      · exact p.E.hd j hj
    · show (if j = b then v else E 4 j) ≤ 999
      split
      · exact hv
      · exact p.E.tl j hj
  have X2 : WX R (setE (setE E 3 b u) 4 b v) := ⟨p.X.film, p.X.kept⟩
  obtain ⟨h1, e1, p1, H1⟩ := k_rec p hH
  have D1 := p1.D
  have D3 : CE (up (up h1 21 b (nI u)) 22 b (nI v)) (setE (setE E 3 b u) 4 b v) := by
    refine ⟨?_, fun j hj => ?_, fun j hj => ?_, fun j hj => ?_, fun j hj => ?_⟩
    · rw [up_o (by decide), up_o (by decide)]; exact D1.z
    · rw [up_o (by decide), up_o (by decide)]; exact D1.k j hj
    · rw [up_o (by decide), up_o (by decide)]; exact D1.o j hj
    · show _ = nI (if j = b then u else E 3 j)
      rw [up_o (by decide)]
      by_cases e : j = b
      · rw [e, up_ss, if_pos rfl]
      · rw [up_sn e, if_neg e]; exact D1.hd j hj
    · show _ = nI (if j = b then v else E 4 j)
      by_cases e : j = b
      · rw [e, up_ss, if_pos rfl]
      · rw [up_sn e, if_neg e, up_o (by decide)]; exact D1.tl j hj
  have H3 : HF h1 (up (up h1 21 b (nI u)) 22 b (nI v)) := HF.of (fun k hk => by rw [up_o (by omega), up_o (by omega)])
  obtain ⟨h2, e2, F2, L2⟩ := c_layOut p.W E2 (H3.cr p.k p1.C) D3 (H3.2.trans p1.p) p.k
  have D2 := L2.ce D3
  have H2 := H3.tr L2.hf
  have e8 := F2.bs b (by omega)
  have e8 : h2 8 b = oI (E 0 1) (sch (fun s => E 2 s = b) (E 0 1)) := e8
  refine ⟨h2, ?_, ⟨p.W, E2, X2, H2.cr p.k p1.C, D2, F2, H2.2.trans p1.p, p.k⟩, _, _, _, H2.hc H1⟩
  unfold ask16 f_X10_setHandles
  rw [c_rB p.q hb, bnd_some, if_pos rfl, if_neg (show ¬ nI u < 0 from nI_pos (by omega)), if_neg (show ¬ (999 : Int32) < nI u from ltn (b := u) (a := 999) hu (by omega)), if_neg (show ¬ nI v < 0 from nI_pos (by omega)), if_neg (show ¬ (999 : Int32) < nI v from ltn (b := v) (a := 999) hv (by omega)), e1, bnd_some, inb_t (show b < 40 by omega) (by omega), ck_true, ix_n (show b < 2147483648 by omega), stp_eq, ck_true, stp_eq, show f_X1_layOut (up (up h1 (18 + 3) b (nI u)) (18 + 4) b (nI v)) = _ from e2, bnd_some, ck_true, stp_eq, e8]
  by_cases z : sch (fun s => E 2 s = b) (E 0 1) < E 0 1
  · have fs2 := c_framesOfShot p.W E2 F2 (s := sch (fun s => E 2 s = b) (E 0 1)) z
    have eb : E 2 (sch (fun s => E 2 s = b) (E 0 1)) = b := (sch_spec (fun s => E 2 s = b) (E 0 1)).2.2 z
    rw [show setE (setE E 3 b u) 4 b v 2 (sch (fun s => E 2 s = b) (E 0 1)) = b from eb] at fs2
    rw [oI, if_pos z, if_pos z, if_neg (show ¬ nI (sch (fun s => E 2 s = b) (E 0 1)) = (-1 : Int32) from fun y => by have := neg_n (a := sch (fun s => E 2 s = b) (E 0 1)) (by omega); rw [← this]; exact y), fs2, bnd_some]
    rfl
  · rw [oI, if_neg z, if_neg z, if_pos (show -nI 1 = (-1 : Int32) from rfl)]
    rfl
end
