/-! the law's transcript -/
section
variable {g : PL} {R E : Nat → Nat → Nat} {wid : Nat → Nat} {f : Nat}
theorem DG.cg {g' : PL} (q : DG g R E wid f) (h1 : g.1 ≤ g'.1) (h2 : g'.1 ≤ 600000) (h3 : ∀ o, o < g.1 → g'.2.1 o = g.2.1 o) (h4 : ∀ o, o < g.1 → ¬ o = 0 → g'.2.2 o = g.2.2 o) : DG g' R E wid f := by
  have h12 := q.d.n
  have e1 := h4 1 (by omega) (by decide)
  have hf := q.fo
  refine ⟨q.d.cg h1 h2 h3 (fun j _ _ _ _ _ _ => by rw [e1]), by rw [e1]; exact q.n, by rw [e1]; exact q.bn, by rw [e1]; exact q.len, by rw [e1]; exact q.han, fun w hw => ?_, by rw [h4 4 (by omega) (by decide)]; exact q.first, by rw [h4 5 (by omega) (by decide)]; exact q.beg, by rw [h4 6 (by omega) (by decide)]; exact q.ends, by rw [h4 7 (by omega) (by decide)]; exact q.cut, by rw [h4 8 (by omega) (by decide)]; exact q.head, by rw [h4 9 (by omega) (by decide)]; exact q.tail, by rw [h4 10 (by omega) (by decide)]; exact q.out, by rw [e1]; exact q.film, ⟨hf.1, by omega⟩, by rw [h3 f hf.2]; exact q.fk, by rw [h4 f hf.2 (by omega)]; exact q.fv, q.fl⟩
  obtain ⟨w1, w2, w3, w4, w5⟩ := q.w w hw
  rw [h4 2 (by omega) (by decide), h3 _ w3, h4 _ w3 (by omega)]
  exact ⟨w1, w2, by omega, w4, w5⟩
theorem d_trans (hW : WR R) (hE : WE R E) (q : DG g R E wid f) (hp : g.1 ≤ 500000) : ∃ r u, fp_X11_transcript g 1 = some (r, u) ∧ g.1 ≤ r ∧ r < u.1 ∧ u.1 = g.1 + 2 ∧ u.2.1 r = (4, (trA R E).length) ∧ Arr (u.2.2 r) (trA R E) ∧ (∀ o, o < g.1 → u.2.1 o = g.2.1 o) ∧ ∀ o, o < g.1 → u.2.2 o = g.2.2 o := by
  have h1 := hE.n
  have h13 := hW.bw
  have h40 := hW.w40
  have hd := q.d.n
  have hfo := q.fo
  obtain ⟨u1, hu1⟩ : ∃ u, u = gnew g 4 (R 0 4) (fun _ => 0) := ⟨_, rfl⟩
  have n1 : u1.1 = g.1 + 1 := by rw [hu1]; rfl
  have k1 : ∀ o, o < g.1 → u1.2.1 o = g.2.1 o := fun o ho => by rw [hu1, nw_ko ho]
  have v1 : ∀ o, o < g.1 → u1.2.2 o = g.2.2 o := fun o ho => by rw [hu1, nw_ho ho]
  have kr : u1.2.1 g.1 = (4, R 0 4) := by rw [hu1, nw_k]
  have q1 : DG u1 R E wid f := q.cg (by omega) (by omega) k1 (fun o ho _ => v1 o ho)
  have key : Wp (fp_X11_transcript g 1) (fun a => g.1 ≤ a.1 ∧ a.1 < a.2.1 ∧ a.2.1 = g.1 + 2 ∧ a.2.2.1 a.1 = (4, (trA R E).length) ∧ Arr (a.2.2.2 a.1) (trA R E) ∧ (∀ o, o < g.1 → a.2.2.1 o = g.2.1 o) ∧ ∀ o, o < g.1 → a.2.2.2 o = g.2.2 o) := by
    unfold fp_X11_transcript
    rw [ck_of q.d.g1, ck_of (rkb_i (show 1 < g.1 by omega)), q.n, ix_n (show R 0 4 < 2147483648 by omega), ck_of (by rw [ngw_i (by omega) (by omega), decide_eq_true (nI_pos' (show R 0 4 < 2147483648 by omega))]; rfl), ← hu1, stp_eq, q1.rf, ck_of q1.gf, q1.lf, stp_eq]
    refine wp_for (i := 0) (E 0 1) (fun s x => ∃ g1, x = (nI (tr R E s).length, nI s, g1) ∧ O1 g.1 u1 g1 ∧ Arr (g1.2.2 g.1) (tr R E s)) (by omega) (Nat.zero_le _) ⟨u1, rfl, O1.rf _ _, Arr.nil _⟩ ?_
    rintro s x r hs ⟨g1, rfl, o1, ar⟩ kk
    have q2 : DG g1 R E wid f := q.cg (by rw [o1.1]; omega) (by rw [o1.1]; omega) (fun o ho => by rw [o1.2.1, k1 o ho]) (fun o ho _ => by rw [o1.2.2 o (by omega), v1 o ho])
    have hln0 := tr_le hW hE (s := s) (by omega)
    unfold Fp_X11_transcript_21
    dsimp only
    by_cases z : s < E 0 1
    · have hb := hE.lt s z
      have hln := tr_le hW hE (s := s + 1) (by omega)
      rw [tr_s, List.length_append] at hln
      have hbl := bw_le hW (b := E 2 s + 1) (by omega)
      have hlt := hW.wlt _ hb
      have p4 : g1.2.2 1 8 = nI 4 := q2.d.f8 8 (by decide) (by decide)
      rw [if_pos (lty z (by omega)), ck_of (q2.if z (by omega)), ix_n (show s < 2147483648 by omega), q2.fv s z, stp_eq, ckn_of q2.d.g1 p4 (by omega), ck_of (q2.d.i41 (p := 4) (by decide) (by decide) (by omega)), ix_n (show E 2 s < 2147483648 by omega), q2.first _ (by omega), stp_eq]
      refine wp_for (i := R 9 (E 2 s)) (R 9 (E 2 s + 1)) (fun w x => ∃ g2, x = (nI (tr R E s ++ kw R E (E 2 s) w).length, nI w, g2) ∧ R 9 (E 2 s) ≤ w ∧ O1 g.1 u1 g2 ∧ Arr (g2.2.2 g.1) (tr R E s ++ kw R E (E 2 s) w)) (by omega) (by omega) ⟨g1, by rw [kw_0, List.append_nil], Nat.le_refl _, o1, by rw [kw_0, List.append_nil]; exact ar⟩ ?_
      rintro w x r2 hw ⟨g2, rfl, hw0, o2, ar2⟩ kk2
      have q3 : DG g2 R E wid f := q.cg (by rw [o2.1]; omega) (by rw [o2.1]; omega) (fun o ho => by rw [o2.2.1, k1 o ho]) (fun o ho _ => by rw [o2.2.2 o (by omega), v1 o ho])
      have p4' : g2.2.2 1 8 = nI 4 := q3.d.f8 8 (by decide) (by decide)
      unfold Fp_X11_transcript_43
      dsimp only
      rw [ckn_of q3.d.g1 p4' (by omega), show nI (E 2 s) + (1 : Int32) = nI (E 2 s + 1) from nI_add _ 1, ck_of (q3.d.i41 (p := 4) (by decide) (by decide) (by omega)), ix_n (show E 2 s + 1 < 2147483648 by omega), q3.first _ (by omega)]
      by_cases y : w < R 9 (E 2 s + 1)
      · have hk1 := hE.k1 w (by omega)
        have hsub := kw_sub (R := R) (E := E) (b := E 2 s) (R 9 (E 2 s + 1) - (w + 1)) (w + 1) (by omega)
        rw [show w + 1 + (R 9 (E 2 s + 1) - (w + 1)) = R 9 (E 2 s + 1) by omega] at hsub
        rw [if_pos (lty y (by omega)), q3.r10, ck_of (q3.d.i10 (by omega)), ix_n (show w < 2147483648 by omega), q3.out w (by omega)]
        unfold Jp_X11_transcript_75
        by_cases e : E 1 w = 1
        · rw [kw_y hw0 e, List.length_append] at hsub
          have hsub : (kw R E (E 2 s) w).length + 1 ≤ (kw R E (E 2 s) (R 9 (E 2 s + 1))).length := hsub
          have hlen : (tr R E s ++ kw R E (E 2 s) w).length < R 0 4 := by rw [List.length_append]; omega
          have er : gl g2 g.1 = R 0 4 := by show (g2.2.1 g.1).2 = _; rw [o2.2.1, kr]
          rw [e, if_pos (show nI (1 - 1) = (0 : Int32) from rfl), show nI (tr R E s ++ kw R E (E 2 s) w).length + (1 : Int32) = nI ((tr R E s ++ kw R E (E 2 s) w).length + 1) from nI_add _ 1, stp_eq, ck_of (by rw [gk_i (show g.1 < g2.1 by rw [o2.1]; omega) (by rw [o2.2.1, kr]), er, inb_t hlen (by omega)]; rfl), ix_n (show (tr R E s ++ kw R E (E 2 s) w).length < 2147483648 by omega), stp_eq, show nI w + (1 : Int32) = nI (w + 1) from nI_add w 1, stp_eq]
          refine kk2 _ y ⟨gu g2 g.1 (tr R E s ++ kw R E (E 2 s) w).length (nI w), ?_, by omega, o2.tr (O1.up g.1 g2 _ _), ?_⟩
          · rw [kw_y hw0 e, ← List.append_assoc, List.length_append (as := tr R E s ++ kw R E (E 2 s) w)]
            rfl
          · rw [kw_y hw0 e, ← List.append_assoc]
            exact ar2.push
        · have e0 : E 1 w = 0 := by omega
          rw [e0, if_neg (show ¬ nI (1 - 0) = (0 : Int32) by decide), show nI w + (1 : Int32) = nI (w + 1) from nI_add w 1, stp_eq]
          refine kk2 _ y ⟨g2, by rw [kw_n hw0 e], by omega, o2, by rw [kw_n hw0 e]; exact ar2⟩
      · have e : w = R 9 (E 2 s + 1) := by omega
        subst e
        rw [if_neg (ltn (by omega) (by omega))]
        unfold Jp_X11_transcript_81
        rw [show nI s + (1 : Int32) = nI (s + 1) from nI_add s 1, stp_eq]
        exact kk _ z ⟨g2, by rw [tr_s], o2, by rw [tr_s]; exact ar2⟩
    · have e : s = E 0 1 := by omega
      subst e
      have ar : Arr (g1.2.2 g.1) (trA R E) := ar
      have hln0 : (trA R E).length ≤ R 0 4 := hln0
      have N1 : g1.1 = g.1 + 1 := by rw [o1.1, n1]
      have kr1 : g1.2.1 g.1 = (4, R 0 4) := by rw [o1.2.1, kr]
      have el : (tr R E (E 0 1)).length = (trA R E).length := rfl
      rw [if_neg (ltn (by omega) (by omega)), el]
      have K1 : (gnew g1 4 (trA R E).length (fun _ => 0)).2.1 g.1 = (4, R 0 4) := by rw [nw_ko (by omega)]; exact kr1
      have K2 : (gnew g1 4 (trA R E).length (fun _ => 0)).2.1 g1.1 = (4, (trA R E).length) := nw_k (f := fun _ => 0)
      have L1 : gl (gnew g1 4 (trA R E).length (fun _ => 0)) g.1 = R 0 4 := by show ((gnew g1 4 (trA R E).length (fun _ => 0)).2.1 g.1).2 = _; rw [K1]
      have L2 : gl (gnew g1 4 (trA R E).length (fun _ => 0)) g1.1 = (trA R E).length := by show ((gnew g1 4 (trA R E).length (fun _ => 0)).2.1 g1.1).2 = _; rw [K2]
      unfold Jp_X11_transcript_87
      rw [ck_of (rkb_i (show g.1 < g1.1 by omega)), ix_n (show (trA R E).length < 2147483648 by omega), ck_of (by rw [ngw_i (by omega) (by omega), decide_eq_true (nI_pos' (show (trA R E).length < 2147483648 by omega))]; rfl), stp_eq, L1, L2, ck_of (by rw [gk_i (show g.1 < (gnew g1 4 (trA R E).length (fun _ => 0)).1 by show g.1 < g1.1 + 1; omega) (by rw [K1]), gk_i (show g1.1 < (gnew g1 4 (trA R E).length (fun _ => 0)).1 from Nat.lt_succ_self _) (by rw [K2])]; exact cpok_i (a := 0) (b := 0) (by omega) (by omega) (by omega) (by omega) (by omega)), stp_eq]
      refine wp_some.mpr ⟨by show g.1 ≤ g1.1; omega, Nat.lt_succ_self _, by show g1.1 + 1 = _; omega, K2, fun p w hpw => ?_, fun o ho => ?_, fun o ho => ?_⟩
      · have hpl : p < (trA R E).length := (List.getElem?_eq_some_iff.mp hpw).1
        show (if g1.1 = g1.1 then va_cpy ((gnew g1 4 (trA R E).length (fun _ => 0)).2.2 g.1) ((gnew g1 4 (trA R E).length (fun _ => 0)).2.2 g1.1) (ix (nI 0)) (ix (nI 0)) (ix (nI (trA R E).length)) else _) p = _
        rw [if_pos rfl, ix_n (by omega), ix_n (by omega), pk_cpy_in (by omega) (by omega), nw_ho (by omega), show 0 + (p - 0) = p by omega]
        exact ar p w hpw
      · show (gnew g1 4 (trA R E).length (fun _ => 0)).2.1 o = _
        rw [nw_ko (by omega), o1.2.1, k1 o ho]
      · show (if o = g1.1 then _ else (gnew g1 4 (trA R E).length (fun _ => 0)).2.2 o) = _
        rw [if_neg (by omega), nw_ho (by omega), o1.2.2 o (by omega), v1 o ho]
  obtain ⟨⟨r, u⟩, e, a1, a2, a3, a4, a5, a6, a7⟩ := key
  exact ⟨r, u, e, a1, a2, a3, a4, a5, a6, a7⟩
end
