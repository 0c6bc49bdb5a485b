/-! texts in the pool: the builder -/
theorem ckn_of {α : Type} {b : Bool} {v : Int32} {c : Nat} {K : Nat → Option α} (hb : b = true) (hv : v = nI c) (hc : c < 2147483648) : ckn b v K = K c := by
  unfold ckn
  rw [hb, hv, ck_true, if_neg (nI_pos hc), ix_n hc]
theorem ck_of {α : Type} {b : Bool} {x : Option α} (hb : b = true) : ck b x = x := by rw [hb]; rfl
theorem gk_i {g : PL} {o kd : Nat} (h1 : o < g.1) (h2 : (g.2.1 o).1 = kd) : gk g o kd = true := by
  unfold gk
  rw [decide_eq_true h1, decide_eq_true h2]
  rfl
theorem rkb_i {g : PL} {o : Nat} (h1 : o < g.1) : rkb g o = true := by
  unfold rkb
  rw [decide_eq_true h1]
  rfl
theorem rkb_T {g : PL} {o : Nat} (h1 : 1000000 ≤ o) : rkb g o = true := by
  unfold rkb
  rw [decide_eq_true h1, Bool.or_true]
theorem ngw_i {g : PL} {n : Nat} (h1 : g.1 < 900000) (h2 : n ≤ 600) : ngw g n = true := by
  unfold ngw
  rw [decide_eq_true h1, decide_eq_true h2]
  rfl
theorem lt31 {o : Nat} (h : o < 900001) : decide (o < 2147483648) = true := decide_eq_true (by omega)
theorem gu_n (g : PL) (k j : Nat) (v : Int32) : (gu g k j v).1 = g.1 := rfl
theorem gu_s (g : PL) (k j : Nat) (v : Int32) : (gu g k j v).2.1 = g.2.1 := rfl
theorem gu_h (g : PL) (k j : Nat) (v : Int32) : (gu g k j v).2.2 = up g.2.2 k j v := rfl
theorem gl_u (g : PL) (k j : Nat) (v : Int32) (o : Nat) : gl (gu g k j v) o = gl g o := rfl
theorem gk_u (g : PL) (k j : Nat) (v : Int32) (o kd : Nat) : gk (gu g k j v) o kd = gk g o kd := rfl
theorem shr_z {n : Nat} (h : n < 2147483648) : nI n >>> (nI 0 &&& 31) = nI n := shr0 h
theorem shl_z (x : Int32) : x <<< (nI 0 &&& 31) = x := sb_shl0 x
theorem lty {a b : Nat} (h : a < b) (hb : b < 2147483648) : nI a < nI b := (nI_ltI (by omega) hb).mpr h
theorem ltn {a b : Nat} (h : b ≤ a) (ha : a < 2147483648) : ¬ nI a < nI b := fun q => by
  have := (nI_ltI ha (by omega)).mp q
  omega
theorem eqo {a b : Nat} (h : ¬ a = b) (ha : a < 2147483648) (hb : b < 2147483648) : ¬ nI a = nI b := fun q => h ((nI_eq ha hb).mp q)
/-- objects below n0 as they were, at most k new ones -/
def Fr (n0 : Nat) (k : Nat) (g : PL) (g' : PL) : Prop :=
  (g.1 ≤ g'.1) ∧
  (g'.1 ≤ g.1 + k) ∧
  (∀ o, o < g.1 → g'.2.1 o = g.2.1 o) ∧
  (∀ o, o < n0 → g'.2.2 o = g.2.2 o)
theorem Fr.a {n0 : Nat} {k : Nat} {g : PL} {g' : PL} (q : Fr n0 k g g') : g.1 ≤ g'.1 := q.1
theorem Fr.b {n0 : Nat} {k : Nat} {g : PL} {g' : PL} (q : Fr n0 k g g') : g'.1 ≤ g.1 + k := q.2.1
theorem Fr.s {n0 : Nat} {k : Nat} {g : PL} {g' : PL} (q : Fr n0 k g g') : ∀ o, o < g.1 → g'.2.1 o = g.2.1 o := q.2.2.1
theorem Fr.h {n0 : Nat} {k : Nat} {g : PL} {g' : PL} (q : Fr n0 k g g') : ∀ o, o < n0 → g'.2.2 o = g.2.2 o := q.2.2.2
theorem Fr.rf (n0 k : Nat) (g : PL) : Fr n0 k g g := ⟨Nat.le_refl _, Nat.le_add_right _ _, fun _ _ => rfl, fun _ _ => rfl⟩
theorem Fr.tr {n0 k1 k2 k : Nat} {g1 g2 g3 : PL} (p : Fr n0 k1 g1 g2) (q : Fr n0 k2 g2 g3) (hk : k1 + k2 ≤ k) : Fr n0 k g1 g3 := ⟨Nat.le_trans p.a q.a, by have := p.b; have := q.b; omega, fun o ho => (q.s o (Nat.lt_of_lt_of_le ho p.a)).trans (p.s o ho), fun o ho => (q.h o ho).trans (p.h o ho)⟩
theorem Fr.gu {n0 : Nat} {g : PL} {o j : Nat} {v : Int32} (ho : n0 ≤ o) : Fr n0 0 g (gu g o j v) := ⟨Nat.le_refl _, Nat.le_refl _, fun _ _ => rfl, fun k hk => up_o (by omega)⟩
theorem Fr.new {n0 : Nat} {g : PL} {kd n : Nat} {f : Nat → Int32} (h : n0 ≤ g.1) : Fr n0 1 g (gnew g kd n f) := ⟨Nat.le_succ _, Nat.le_refl _, fun o ho => if_neg (by omega), fun o ho => if_neg (by omega)⟩
theorem Fr.cp {n0 : Nat} {g : PL} {f : Nat → Int32} {d : Nat} {sp dp n : Int32} (h : n0 ≤ d) : Fr n0 0 g (gcp g f d sp dp n) := ⟨Nat.le_refl _, Nat.le_refl _, fun _ _ => rfl, fun o ho => if_neg (by omega)⟩
theorem Fr.mono {n0 n1 k : Nat} {g g' : PL} (p : Fr n0 k g g') (h : n1 ≤ n0) : Fr n1 k g g' := ⟨p.a, p.b, p.s, fun o ho => p.h o (by omega)⟩
theorem nw_k {g : PL} {kd n : Nat} {f : Nat → Int32} : (gnew g kd n f).2.1 g.1 = (kd, n) := if_pos rfl
theorem nw_h {g : PL} {kd n : Nat} {f : Nat → Int32} : (gnew g kd n f).2.2 g.1 = f := if_pos rfl
theorem nw_ko {g : PL} {kd n o : Nat} {f : Nat → Int32} (h : o < g.1) : (gnew g kd n f).2.1 o = g.2.1 o := if_neg (by omega)
theorem nw_ho {g : PL} {kd n o : Nat} {f : Nat → Int32} (h : o < g.1) : (gnew g kd n f).2.2 o = g.2.2 o := if_neg (by omega)
theorem nw_1 {g : PL} {kd n : Nat} {f : Nat → Int32} : (gnew g kd n f).1 = g.1 + 1 := rfl
/-- the builder at o, its bytes at v -/
def SB (n0 : Nat) (g : PL) (o : Nat) (v : Nat) (bs : List Nat) : Prop :=
  (n0 ≤ o) ∧
  (o < g.1) ∧
  ((g.2.1 o).1 = 2) ∧
  (g.2.2 o 1 = nI 0) ∧
  (g.2.2 o 3 = nI bs.length) ∧
  (g.2.2 o 0 = nI v) ∧
  (n0 ≤ v) ∧
  (¬ v = o) ∧
  (v < g.1) ∧
  ((g.2.1 v).1 = 6) ∧
  (bs.length ≤ (g.2.1 v).2) ∧
  ((g.2.1 v).2 ≤ 600) ∧
  (∀ i, i < bs.length → g.2.2 v i = nI (bs.getD i 0))
theorem SB.n {n0 : Nat} {g : PL} {o : Nat} {v : Nat} {bs : List Nat} (q : SB n0 g o v bs) : n0 ≤ o := q.1
theorem SB.o {n0 : Nat} {g : PL} {o : Nat} {v : Nat} {bs : List Nat} (q : SB n0 g o v bs) : o < g.1 := q.2.1
theorem SB.k {n0 : Nat} {g : PL} {o : Nat} {v : Nat} {bs : List Nat} (q : SB n0 g o v bs) : (g.2.1 o).1 = 2 := q.2.2.1
theorem SB.c {n0 : Nat} {g : PL} {o : Nat} {v : Nat} {bs : List Nat} (q : SB n0 g o v bs) : g.2.2 o 1 = nI 0 := q.2.2.2.1
theorem SB.l {n0 : Nat} {g : PL} {o : Nat} {v : Nat} {bs : List Nat} (q : SB n0 g o v bs) : g.2.2 o 3 = nI bs.length := q.2.2.2.2.1
theorem SB.w {n0 : Nat} {g : PL} {o : Nat} {v : Nat} {bs : List Nat} (q : SB n0 g o v bs) : g.2.2 o 0 = nI v := q.2.2.2.2.2.1
theorem SB.vn {n0 : Nat} {g : PL} {o : Nat} {v : Nat} {bs : List Nat} (q : SB n0 g o v bs) : n0 ≤ v := q.2.2.2.2.2.2.1
theorem SB.vo {n0 : Nat} {g : PL} {o : Nat} {v : Nat} {bs : List Nat} (q : SB n0 g o v bs) : ¬ v = o := q.2.2.2.2.2.2.2.1
theorem SB.vl {n0 : Nat} {g : PL} {o : Nat} {v : Nat} {bs : List Nat} (q : SB n0 g o v bs) : v < g.1 := q.2.2.2.2.2.2.2.2.1
theorem SB.vk {n0 : Nat} {g : PL} {o : Nat} {v : Nat} {bs : List Nat} (q : SB n0 g o v bs) : (g.2.1 v).1 = 6 := q.2.2.2.2.2.2.2.2.2.1
theorem SB.cap {n0 : Nat} {g : PL} {o : Nat} {v : Nat} {bs : List Nat} (q : SB n0 g o v bs) : bs.length ≤ (g.2.1 v).2 := q.2.2.2.2.2.2.2.2.2.2.1
theorem SB.c6 {n0 : Nat} {g : PL} {o : Nat} {v : Nat} {bs : List Nat} (q : SB n0 g o v bs) : (g.2.1 v).2 ≤ 600 := q.2.2.2.2.2.2.2.2.2.2.2.1
theorem SB.b {n0 : Nat} {g : PL} {o : Nat} {v : Nat} {bs : List Nat} (q : SB n0 g o v bs) : ∀ i, i < bs.length → g.2.2 v i = nI (bs.getD i 0) := q.2.2.2.2.2.2.2.2.2.2.2.2
theorem cpok_i {a b n x y : Nat} (hx : a + n ≤ x) (hy : b + n ≤ y) (ha : a < 2147483648) (hb : b < 2147483648) (hn : n < 2147483648) : cpok (nI a) (nI b) (nI n) x y = true := by
  unfold cpok
  rw [ix_n ha, ix_n hb, ix_n hn, decide_eq_true (nI_pos' ha), decide_eq_true (nI_pos' hb), decide_eq_true (nI_pos' hn), decide_eq_true hx, decide_eq_true hy]
  rfl
theorem le0_s {a b : Nat} (ha : a < 1073741824) (hb : b < 1073741824) : nI a - nI b ≤ (0 : Int32) ↔ a ≤ b := by
  rw [Int32.le_iff_toInt_le, tsub ha hb, show (0 : Int32).toInt = 0 from by decide]
  exact ⟨fun h => by omega, fun h => by omega⟩
theorem newLen {g : PL} {a b c : Nat} (h : a + max b c < 100000) (hp : 0 < a + max b c) : fp_J8_newLength_cabcc g (nI a) (nI b) (nI c) = some (nI (a + max b c)) := by
  unfold fp_J8_newLength_cabcc
  rw [imax_n (by omega) (by omega), nI_add, stp_eq, if_pos (show (0 : Int32) < _ from lty (a := 0) hp (by omega)), if_neg (show ¬ (2147483639 : Int32) < _ from ltn (a := 2147483639) (by omega) (by omega))]
theorem newCap {n0 : Nat} {g : PL} {o v m : Nat} {bs : List Nat} (s : SB n0 g o v bs) (hp : g.1 ≤ 800000) (hm : m ≤ 300) (q : (g.2.1 v).2 < m) : fp_J5_newCapacity_0f7a4 g o (nI m) = some (nI ((g.2.1 v).2 + max (m - (g.2.1 v).2) ((g.2.1 v).2 + 2))) := by
  have hvl := s.vl
  have ko := gk_i s.o s.k
  have kv := gk_i s.vl s.vk
  have hgl : gl g v = (g.2.1 v).2 := rfl
  unfold fp_J5_newCapacity_0f7a4
  rw [ckn_of ko s.w (by omega), ck_of kv, stp_eq, hgl, ck_of ko, s.c, shl_z, stp_eq, sub_n (by omega), stp_eq, ck_of ko, shl_z, li 2, nI_add, newLen (by omega) (by omega), bnd_some, if_neg (show ¬ nI _ = (2147483647 : Int32) from eqo (b := 2147483647) (by omega) (by omega) (by omega)), ck_of ko, shr_z (by omega)]
theorem copyOf {g : PL} {v M : Nat} (hv : v < g.1) (hk : (g.2.1 v).1 = 6) (hM : (g.2.1 v).2 < M) (h6 : M ≤ 600) (hp : g.1 ≤ 800000) : ∃ g', fp_J7_copyOf_9075b g v (nI M) = some (g.1, g') ∧ g'.1 = g.1 + 1 ∧ (∀ o, o < g.1 → g'.2.1 o = g.2.1 o ∧ g'.2.2 o = g.2.2 o) ∧ g'.2.1 g.1 = (6, M) ∧ ∀ i, i < (g.2.1 v).2 → g'.2.2 g.1 i = g.2.2 v i := by
  have kv := gk_i hv hk
  have hgl : gl g v = (g.2.1 v).2 := rfl
  have k1 : gk (gnew g 6 M (fun _ => 0)) v 6 = true := gk_i (by show v < g.1 + 1; omega) (by rw [nw_ko hv]; exact hk)
  have k2 : gk (gnew g 6 M (fun _ => 0)) g.1 6 = true := gk_i (by show g.1 < g.1 + 1; omega) (by rw [nw_k])
  have l1 : gl (gnew g 6 M (fun _ => 0)) v = (g.2.1 v).2 := by show ((gnew g 6 M (fun _ => 0)).2.1 v).2 = _; rw [nw_ko hv]
  have l2 : gl (gnew g 6 M (fun _ => 0)) g.1 = M := by show ((gnew g 6 M (fun _ => 0)).2.1 g.1).2 = _; rw [nw_k]
  unfold fp_J7_copyOf_9075b
  rw [ck_of kv, hgl, if_neg (eqo (by omega) (by omega) (by omega)), ck_of (rkb_i hv), ix_n (by omega), ck_of (by rw [decide_eq_true (nI_pos' (by omega)), ngw_i (by omega) h6]; rfl), stp_eq, ck_of k1, l1, l2, imin_n (by omega) (by omega), Nat.min_eq_left (by omega), ck_of (by rw [k1, k2]; exact cpok_i (a := 0) (b := 0) (by omega) (by omega) (by omega) (by omega) (by omega)), stp_eq]
  refine ⟨_, rfl, rfl, fun o ho => ⟨nw_ko (f := fun _ => 0) ho, ?_⟩, nw_k (f := fun _ => 0), fun i hi => ?_⟩
  · show (if o = g.1 then _ else (gnew g 6 M (fun _ => 0)).2.2 o) = _
    rw [if_neg (by omega), nw_ho ho]
  · show (if g.1 = g.1 then va_cpy ((gnew g 6 M (fun _ => 0)).2.2 v) ((gnew g 6 M (fun _ => 0)).2.2 g.1) (ix (nI 0)) (ix (nI 0)) (ix (nI (g.2.1 v).2)) else _) i = _
    rw [if_pos rfl, ix_n (by omega), ix_n (by omega), pk_cpy_in (by omega) (by omega), nw_ho hv]
    exact congrArg (g.2.2 v) (show 0 + (i - 0) = i by omega)
theorem sb_ens {n0 : Nat} {g : PL} {o v m : Nat} {bs : List Nat} (s : SB n0 g o v bs) (hp : g.1 ≤ 800000) (hm : m ≤ 300) (hbm : bs.length ≤ m) : Wp (fp_J5_ensureCapacityInternal_d00df g o (nI m)) (fun u => ∃ v', SB n0 u o v' bs ∧ m ≤ (u.2.1 v').2 ∧ Fr n0 1 g u) := by
  have ho := s.o
  have hn := s.n
  have hvl := s.vl
  have hvn := s.vn
  have hc6 := s.c6
  have hcap := s.cap
  have ko := gk_i s.o s.k
  have kv := gk_i s.vl s.vk
  have hgl : gl g v = (g.2.1 v).2 := rfl
  unfold fp_J5_ensureCapacityInternal_d00df
  rw [ckn_of ko s.w (by omega), ck_of kv, ck_of ko, s.c, hgl, shr_z (by omega), stp_eq]
  by_cases q : m ≤ (g.2.1 v).2
  · rw [if_pos ((le0_s (by omega) (by omega)).mpr q)]
    exact wp_some.mpr ⟨v, s, q, Fr.rf _ _ _⟩
  · obtain ⟨g', e1, e2, e3, e4, e5⟩ := copyOf (g := g) (v := v) (M := (g.2.1 v).2 + max (m - (g.2.1 v).2) ((g.2.1 v).2 + 2)) s.vl s.vk (by omega) (by omega) hp
    rw [if_neg (fun z => q ((le0_s (by omega) (by omega)).mp z)), ckn_of ko s.w (by omega), ck_of ko, newCap s hp hm (by omega), bnd_some, ck_of ko, ck_of (rkb_i s.o), shl_z, e1, bnd_some]
    have k3 : gk g' o 2 = true := gk_i (by omega) (by rw [(e3 o ho).1]; exact s.k)
    rw [ck_of (by rw [k3, rkb_i (show g.1 < g'.1 by omega), lt31 (by omega)]; rfl), stp_eq]
    have f1 : Fr n0 1 g g' := ⟨by omega, by omega, fun o ho => (e3 o ho).1, fun o ho => (e3 o (by omega)).2⟩
    refine wp_some.mpr ⟨g.1, ⟨s.n, by show o < g'.1; omega, by rw [gu_s, (e3 o ho).1]; exact s.k, by rw [gu_h, up_sn (by decide), (e3 o ho).2]; exact s.c, by rw [gu_h, up_sn (by decide), (e3 o ho).2]; exact s.l, by rw [gu_h, up_ss], by omega, by omega, by show g.1 < g'.1; omega, by rw [gu_s, e4], by rw [gu_s, e4]; show bs.length ≤ _; omega, by rw [gu_s, e4]; show _ ≤ 600; omega, fun i hi => ?_⟩, by rw [gu_s, e4]; show m ≤ _; omega, f1.tr (Fr.gu s.n) (Nat.le_refl _)⟩
    rw [gu_h, up_o (by omega), e5 i (by omega)]
    exact s.b i hi
/-- a text: one of the law's own, or one made before n0 -/
def ST (n0 : Nat) (g : PL) (x : Nat) (ts : List Nat) : Prop := (isT x = true ∧ tlP (x - 1000000) = ts.length ∧ ∀ i, i < ts.length → tbP (x - 1000000) i = nI (ts.getD i 0)) ∨ (∃ w, x < n0 ∧ w < n0 ∧ x < g.1 ∧ w < g.1 ∧ (g.2.1 x).1 = 3 ∧ g.2.2 x 0 = nI w ∧ g.2.2 x 1 = nI 0 ∧ g.2.1 w = (6, ts.length) ∧ ∀ i, i < ts.length → g.2.2 w i = nI (ts.getD i 0))
theorem ST.fr {n0 k x : Nat} {g g' : PL} {ts : List Nat} (s : ST n0 g x ts) (f : Fr n0 k g g') : ST n0 g' x ts := by
  rcases s with s | ⟨w, h1, h2, h3, h4, h5, h6, h7, h8, h9⟩
  · exact Or.inl s
  · exact Or.inr ⟨w, h1, h2, Nat.lt_of_lt_of_le h3 f.a, Nat.lt_of_lt_of_le h4 f.a, by rw [f.s x h3]; exact h5, by rw [f.h x h1]; exact h6, by rw [f.h x h1]; exact h7, by rw [f.s w h4]; exact h8, fun i hi => by rw [f.h w h2]; exact h9 i hi⟩
theorem ST.mono {n0 n1 x : Nat} {g : PL} {ts : List Nat} (s : ST n0 g x ts) (h : n0 ≤ n1) : ST n1 g x ts := by
  rcases s with s | ⟨w, h1, h2, r⟩
  · exact Or.inl s
  · exact Or.inr ⟨w, by omega, by omega, r⟩
theorem ST.ok {n0 x : Nat} {g : PL} {ts : List Nat} (s : ST n0 g x ts) (hp : g.1 ≤ 800000) : sOK g x = true ∧ sLen g x = ts.length ∧ (∀ i, i < ts.length → sB g x i = nI (ts.getD i 0)) ∧ rkb g x = true := by
  rcases s with ⟨h1, h2, h3⟩ | ⟨w, h1, h2, h3, h4, h5, h6, h7, h8, h9⟩
  · have hx := (isT_t h1).1
    refine ⟨?_, ?_, fun i hi => ?_, rkb_T hx⟩
    · unfold sOK
      rw [h1, Bool.true_or]
    · unfold sLen
      rw [if_pos hx, h2]
    · unfold sB
      rw [if_pos hx]
      exact h3 i hi
  · have hx : ¬ 1000000 ≤ x := by omega
    have hw : ix (g.2.2 x 0) = w := by rw [h6]; exact ix_n (by omega)
    refine ⟨?_, ?_, fun i hi => ?_, rkb_i h3⟩
    · unfold sOK
      rw [gk_i h3 h5, hw, gk_i h4 (by rw [h8]), h7, h6, decide_eq_true (show nI 0 = 0 from rfl), decide_eq_true (nI_pos (by omega))]
      exact Bool.or_true _
    · unfold sLen
      rw [if_neg hx, hw]
      show (g.2.1 w).2 = _
      rw [h8]
    · unfold sB
      rw [if_neg hx, hw]
      exact h9 i hi
theorem getD_app1 {a b : List Nat} {i : Nat} (h : i < a.length) : (a ++ b).getD i 0 = a.getD i 0 := by
  rw [List.getD_eq_getElem?_getD, List.getD_eq_getElem?_getD, List.getElem?_append_left h]
theorem getD_app2 {a b : List Nat} {i : Nat} (h : a.length ≤ i) : (a ++ b).getD i 0 = b.getD (i - a.length) 0 := by
  rw [List.getD_eq_getElem?_getD, List.getD_eq_getElem?_getD, List.getElem?_append_right h]
theorem len_n {n : Nat} (h : n < 900) : decide (n < 2147483648) = true := decide_eq_true (by omega)
/-- a text behind what the builder holds -/
theorem sb_str {n0 : Nat} {g : PL} {o v x : Nat} {bs ts : List Nat} (s : SB n0 g o v bs) (hp : g.1 ≤ 700000) (ht : ST n0 g x ts) (hl : bs.length + ts.length ≤ 300) : Wp (fp_J4_append_15ec4 g o x) (fun u => u.1 = o ∧ ∃ v', SB n0 u.2 o v' (bs ++ ts) ∧ Fr n0 1 g u.2) := by
  obtain ⟨t1, t2, t3, t4⟩ := ht.ok (by omega)
  have ko := gk_i s.o s.k
  unfold fp_J4_append_15ec4 fp_J5_append_cf1ce
  rw [ck_of (rkb_i s.o), ck_of ko, t1, t2, ck_of (by rw [len_n (by omega)]; rfl), stp_eq, ck_of ko, ck_of (rkb_i s.o), ck_of t4, ck_of ko, s.l, nI_add]
  refine wp_bnd_of (P := fun u1 => u1.1 = o ∧ ∃ v', SB n0 u1.2 o v' (bs ++ ts) ∧ Fr n0 1 g u1.2) ?_ (fun u1 h => wp_some.mpr ⟨rfl, h.2⟩)
  refine wp_bnd_of (sb_ens s (by omega) (by omega) (by omega)) ?_
  rintro g1 ⟨v', s1, hm, f1⟩
  have k1 := gk_i s1.o s1.k
  have kv := gk_i s1.vl s1.vk
  have ht1 := ht.fr f1
  have hp1 := f1.b
  obtain ⟨t1, t2, t3, t4⟩ := ht1.ok (by omega)
  have hcap := s1.c6
  have hvl := s1.vl
  rw [ck_of k1, ck_of k1]
  unfold fp_J5_putStringAt_47b60 fp_J5_inflateIfNeededFor_a7421
  rw [if_neg (show ¬ (1 : Int32) = 0 by decide), ck_of k1, ck_of k1, ck_of t1, if_pos (show g1.2.2 o 1 = 0 from s1.c), bnd_some, ckn_of k1 s1.w (by omega), ck_of k1, s1.l, t2]
  rw [ck_of (by rw [s1.c, t1]; rfl), ck_of (by rw [kv]; exact cpok_i (a := 0) (by omega) hm (by omega) (by omega) (by omega)), stp_eq, bnd_some]
  have e1 : (gcp g1 (sB g1 x) v' 0 (nI bs.length) (nI ts.length)).1 = g1.1 := rfl
  have ne : ¬ o = v' := fun e => s1.vo e.symm
  have e2 : ∀ j, (gcp g1 (sB g1 x) v' 0 (nI bs.length) (nI ts.length)).2.2 o j = g1.2.2 o j := fun j => by
    show (if o = v' then _ else g1.2.2 o) j = _
    rw [if_neg ne]
  have k2 : gk (gcp g1 (sB g1 x) v' 0 (nI bs.length) (nI ts.length)) o 2 = true := k1
  rw [ck_of (decide_eq_true e1), ck_of k2, ck_of k2, e2, s1.l, nI_add, stp_eq]
  refine wp_some.mpr ⟨rfl, v', ⟨s1.n, s1.o, s1.k, by rw [gu_h, up_sn (by decide), e2]; exact s1.c, by rw [gu_h, up_ss, List.length_append], by rw [gu_h, up_sn (by decide), e2]; exact s1.w, s1.vn, s1.vo, s1.vl, s1.vk, by rw [List.length_append]; exact hm, hcap, fun i hi => ?_⟩, (f1.tr (Fr.cp s1.vn) (k := 1) (by omega)).tr (Fr.gu s1.n) (by omega)⟩
  rw [List.length_append] at hi
  rw [gu_h, up_o s1.vo]
  show (if v' = v' then va_cpy (sB g1 x) (g1.2.2 v') (ix 0) (ix (nI bs.length)) (ix (nI ts.length)) else _) i = _
  rw [if_pos rfl, ix_n (by omega), ix_n (by omega)]
  by_cases q : i < bs.length
  · rw [pk_cpy_out (by omega), getD_app1 q]
    exact s1.b i q
  · rw [pk_cpy_in (by omega) (by omega), getD_app2 (by omega), show ix 0 + (i - bs.length) = i - bs.length from Nat.zero_add _]
    exact t3 _ (by omega)
theorem i2b_128 : ∀ c, c < 128 → i2b (nI c) = nI c := by decide +kernel
/-- a sign behind what the builder holds -/
theorem sb_chr {n0 : Nat} {g : PL} {o v c : Nat} {bs : List Nat} (s : SB n0 g o v bs) (hp : g.1 ≤ 700000) (hc : c < 128) (hl : bs.length + 1 ≤ 300) : Wp (fp_J4_append_cf468 g o (nI c)) (fun u => u.1 = o ∧ ∃ v', SB n0 u.2 o v' (bs ++ [c]) ∧ Fr n0 1 g u.2) := by
  have ko := gk_i s.o s.k
  unfold fp_J4_append_cf468 fp_J5_append_3fe6f
  rw [ck_of (rkb_i s.o), ck_of ko, ck_of ko, ck_of (rkb_i s.o), ck_of ko, s.l, li 1, nI_add]
  refine wp_bnd_of (P := fun u1 => u1.1 = o ∧ ∃ v', SB n0 u1.2 o v' (bs ++ [c]) ∧ Fr n0 1 g u1.2) ?_ (fun u1 h => wp_some.mpr ⟨rfl, h.2⟩)
  refine wp_bnd_of (sb_ens s (by omega) (by omega) (by omega)) ?_
  rintro g1 ⟨v', s1, hm, f1⟩
  have k1 := gk_i s1.o s1.k
  have kv := gk_i s1.vl s1.vk
  have hp1 := f1.b
  have hcap := s1.c6
  have hvl := s1.vl
  have el : fp_J5_isLatin1_aae02 g1 o = some (nI 1) := by
    unfold fp_J5_isLatin1_aae02
    rw [if_neg (show ¬ (1 : Int32) = 0 by decide), ck_of k1, if_pos (show g1.2.2 o 1 = 0 from s1.c)]
    rfl
  have ec : fp_J1_canEncode_fc78d g1 (nI c) = some (nI 1) := by
    unfold fp_J1_canEncode_fc78d
    rw [if_neg (show ¬ (255 : Int32) < nI c from ltn (a := 255) (by omega) (by omega))]
    rfl
  rw [ck_of k1, el, bnd_some, if_neg (show ¬ (nI 1 : Int32) = 0 by decide), ec, bnd_some, if_neg (show ¬ (nI 1 : Int32) = 0 by decide), ckn_of k1 s1.w (by omega), ck_of k1, ck_of k1, s1.l, nI_add, stp_eq]
  have kv2 : gk (gu g1 o 3 (nI (bs.length + 1))) v' 6 = true := kv
  have hgl : gl (gu g1 o 3 (nI (bs.length + 1))) v' = (g1.2.1 v').2 := rfl
  rw [ck_of (by rw [kv2, hgl, inb_t (by omega) (by omega)]; rfl), stp_eq, i2b_128 c hc, i2b_128 c hc, ix_n (by omega)]
  refine wp_some.mpr ⟨rfl, v', ⟨s1.n, s1.o, s1.k, ?_, ?_, ?_, s1.vn, s1.vo, s1.vl, s1.vk, by rw [List.length_append]; exact hm, hcap, fun i hi => ?_⟩, (f1.tr (Fr.gu s1.n) (k := 1) (by omega)).tr (Fr.gu s1.vn) (by omega)⟩
  · rw [gu_h, gu_h, up_o (fun e => s1.vo e.symm), up_sn (by decide)]; exact s1.c
  · rw [gu_h, gu_h, up_o (fun e => s1.vo e.symm), up_ss, List.length_append]; rfl
  · rw [gu_h, gu_h, up_o (fun e => s1.vo e.symm), up_sn (by decide)]; exact s1.w
  · rw [List.length_append] at hi
    have hi : i < bs.length + 1 := hi
    rw [gu_h, gu_h]
    by_cases q : i < bs.length
    · rw [up_sn (by omega), up_o s1.vo, getD_app1 q]
      exact s1.b i q
    · have e : i = bs.length := by omega
      subst e
      rw [up_ss, getD_app2 (Nat.le_refl _), Nat.sub_self]
      rfl
/-- a new builder -/
theorem sb_new {n0 : Nat} {g : PL} {o : Nat} (hn : n0 ≤ o) (ho : o < g.1) (hk : (g.2.1 o).1 = 2) (hp : g.1 ≤ 700000) (hc : g.2.2 o 3 = nI 0) : Wp (fp_J4_init_da8c8 g o) (fun u => ∃ v, SB n0 u o v [] ∧ Fr n0 1 g u) := by
  have k1 : gk (gnew g 6 16 (fun _ => 0)) o 2 = true := gk_i (by show o < g.1 + 1; omega) (by rw [nw_ko ho]; exact hk)
  unfold fp_J4_init_da8c8 fp_J5_init_d00df
  rw [if_neg (show ¬ (1 : Int32) = 0 by decide), ck_of (rkb_i ho), li 16, ix_n (by omega), ck_of (by rw [decide_eq_true (nI_pos' (show 16 < 2147483648 by omega)), ngw_i (by omega) (by omega)]; rfl), stp_eq, ck_of (by rw [k1, rkb_i (show g.1 < g.1 + 1 by omega), lt31 (by omega)]; rfl), stp_eq]
  have k2 : gk (gu (gnew g 6 16 (fun _ => 0)) o 0 (nI g.1)) o 2 = true := k1
  rw [ck_of k2, stp_eq, bnd_some]
  refine wp_some.mpr ⟨g.1, ⟨hn, by show o < g.1 + 1; omega, by rw [gu_s, gu_s, nw_ko ho]; exact hk, by rw [gu_h, up_ss]; rfl, by rw [gu_h, up_sn (by decide), gu_h, up_sn (by decide), nw_ho ho]; exact hc, by rw [gu_h, up_sn (by decide), gu_h, up_ss], by omega, by omega, by show g.1 < g.1 + 1; omega, by rw [gu_s, gu_s, nw_k], by rw [gu_s, gu_s, nw_k]; exact Nat.zero_le _, by rw [gu_s, gu_s, nw_k]; show 16 ≤ 600; omega, fun i hi => absurd hi (Nat.not_lt_zero _)⟩, ((Fr.new (by omega)).tr (Fr.gu hn) (k := 1) (by omega)).tr (Fr.gu hn) (by omega)⟩
