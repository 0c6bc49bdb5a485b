theorem k_0 : knd 0 = 8 := by decide
theorem k_1 : knd 1 = 7 := by decide
theorem a_2 : arC 2 10 900 = true := by decide
theorem k_3 : knd 3 = 1 := by decide
theorem a_4 : arC 4 11 40 = true := by decide
theorem a_5 : arC 5 11 40 = true := by decide
theorem a_6 : arC 6 11 40 = true := by decide
theorem a_7 : arC 7 11 41 = true := by decide
theorem a_8 : arC 8 11 40 = true := by decide
theorem a_9 : arC 9 11 40 = true := by decide
theorem a_10 : arC 10 11 40 = true := by decide
theorem a_11 : arC 11 11 41 = true := by decide
theorem a_12 : arC 12 11 40 = true := by decide
theorem k_13 : knd 13 = 3 := by decide
theorem k_15 : knd 15 = 5 := by decide
theorem k_16 : knd 16 = 2 := by decide
theorem a_17 : arC 17 10 1000 = true := by decide
theorem k_18 : knd 18 = 0 := by decide
theorem a_19 : arC 19 12 40 = true := by decide
theorem a_20 : arC 20 11 40 = true := by decide
theorem a_21 : arC 21 11 40 = true := by decide
theorem a_22 : arC 22 11 40 = true := by decide
theorem k_23 : knd 23 = 0 := by decide
theorem a_24 : arC 24 12 40 = true := by decide
theorem a_25 : arC 25 11 40 = true := by decide
theorem a_26 : arC 26 11 40 = true := by decide
theorem a_27 : arC 27 11 40 = true := by decide
theorem k_28 : knd 28 = 0 := by decide
theorem a_29 : arC 29 12 40 = true := by decide
theorem a_30 : arC 30 11 40 = true := by decide
theorem a_31 : arC 31 11 40 = true := by decide
theorem a_32 : arC 32 11 40 = true := by decide
theorem k_33 : knd 33 = 0 := by decide
theorem a_34 : arC 34 12 40 = true := by decide
theorem a_35 : arC 35 11 40 = true := by decide
theorem a_36 : arC 36 11 40 = true := by decide
theorem a_37 : arC 37 11 40 = true := by decide
theorem k_38 : knd 38 = 0 := by decide
theorem a_39 : arC 39 12 40 = true := by decide
theorem a_40 : arC 40 11 40 = true := by decide
theorem a_41 : arC 41 11 40 = true := by decide
theorem a_42 : arC 42 11 40 = true := by decide
theorem k_43 : knd 43 = 0 := by decide
theorem a_44 : arC 44 12 40 = true := by decide
theorem a_45 : arC 45 11 40 = true := by decide
theorem a_46 : arC 46 11 40 = true := by decide
theorem a_47 : arC 47 11 40 = true := by decide
theorem k_48 : knd 48 = 0 := by decide
theorem a_49 : arC 49 12 40 = true := by decide
theorem a_50 : arC 50 11 40 = true := by decide
theorem a_51 : arC 51 11 40 = true := by decide
theorem a_52 : arC 52 11 40 = true := by decide
theorem k_53 : knd 53 = 0 := by decide
theorem a_54 : arC 54 12 40 = true := by decide
theorem a_55 : arC 55 11 40 = true := by decide
theorem a_56 : arC 56 11 40 = true := by decide
theorem a_57 : arC 57 11 40 = true := by decide
theorem k_58 : knd 58 = 0 := by decide
theorem a_59 : arC 59 12 40 = true := by decide
theorem a_60 : arC 60 11 40 = true := by decide
theorem a_61 : arC 61 11 40 = true := by decide
theorem a_62 : arC 62 11 40 = true := by decide
theorem k_63 : knd 63 = 0 := by decide
theorem a_64 : arC 64 12 40 = true := by decide
theorem a_65 : arC 65 11 40 = true := by decide
theorem a_66 : arC 66 11 40 = true := by decide
theorem a_67 : arC 67 11 40 = true := by decide
theorem k_68 : knd 68 = 0 := by decide
theorem a_69 : arC 69 12 40 = true := by decide
theorem a_70 : arC 70 11 40 = true := by decide
theorem a_71 : arC 71 11 40 = true := by decide
theorem a_72 : arC 72 11 40 = true := by decide
theorem k_73 : knd 73 = 0 := by decide
theorem a_74 : arC 74 12 40 = true := by decide
theorem a_75 : arC 75 11 40 = true := by decide
theorem a_76 : arC 76 11 40 = true := by decide
theorem a_77 : arC 77 11 40 = true := by decide
theorem k_78 : knd 78 = 0 := by decide
theorem a_79 : arC 79 12 40 = true := by decide
theorem a_80 : arC 80 11 40 = true := by decide
theorem a_81 : arC 81 11 40 = true := by decide
theorem a_82 : arC 82 11 40 = true := by decide
theorem k_83 : knd 83 = 4 := by decide
theorem a_84 : arC 84 11 4 = true := by decide
theorem a_85 : arC 85 11 40 = true := by decide
theorem a_86 : arC 86 11 40 = true := by decide
theorem a_87 : arC 87 11 40 = true := by decide
theorem a_88 : arC 88 11 40 = true := by decide
theorem a_89 : arC 89 11 40 = true := by decide
theorem a_90 : arC 90 11 12 = true := by decide
theorem a_91 : arC 91 11 12 = true := by decide
theorem a_92 : arC 92 11 41 = true := by decide
theorem a_93 : arC 93 11 40 = true := by decide
theorem a_94 : arC 94 11 40 = true := by decide
theorem a_95 : arC 95 11 40 = true := by decide
theorem a_96 : arC 96 12 40 = true := by decide
theorem k_97 : knd 97 = 4 := by decide
theorem a_98 : arC 98 11 4 = true := by decide
theorem a_99 : arC 99 11 40 = true := by decide
theorem a_100 : arC 100 11 40 = true := by decide
theorem a_101 : arC 101 11 40 = true := by decide
theorem a_102 : arC 102 11 40 = true := by decide
theorem a_103 : arC 103 11 40 = true := by decide
theorem a_104 : arC 104 11 12 = true := by decide
theorem a_105 : arC 105 11 12 = true := by decide
theorem a_106 : arC 106 11 41 = true := by decide
theorem a_107 : arC 107 11 40 = true := by decide
theorem a_108 : arC 108 11 40 = true := by decide
theorem a_109 : arC 109 11 40 = true := by decide
theorem a_110 : arC 110 12 40 = true := by decide
theorem k_111 : knd 111 = 6 := by decide
theorem a_112 : arC 112 11 30 = true := by decide
theorem a_113 : arC 113 11 30 = true := by decide
theorem a_114 : arC 114 11 30 = true := by decide
theorem a_115 : arC 115 11 30 = true := by decide
theorem a_116 : arC 116 11 60 = true := by decide
theorem a_117 : arC 117 11 360 = true := by decide
theorem k_118 : knd 118 = 6 := by decide
theorem a_119 : arC 119 11 30 = true := by decide
theorem a_120 : arC 120 11 30 = true := by decide
theorem a_121 : arC 121 11 30 = true := by decide
theorem a_122 : arC 122 11 30 = true := by decide
theorem a_123 : arC 123 11 60 = true := by decide
theorem a_124 : arC 124 11 360 = true := by decide
theorem o_X0_0 {k : Nat} (h : knd k = 0) : arC (k + 1) 12 40 = true := by
  have h1 : ∀ k, k < 125 → knd k = 0 → arC (k + 1) 12 40 = true := by decide +kernel
  exact h1 k (k_lt h (by decide)) h
theorem o_X0_2 {k : Nat} (h : knd k = 0) : arC (k + 2) 11 40 = true := by
  have h1 : ∀ k, k < 125 → knd k = 0 → arC (k + 2) 11 40 = true := by decide +kernel
  exact h1 k (k_lt h (by decide)) h
theorem o_X0_3 {k : Nat} (h : knd k = 0) : arC (k + 3) 11 40 = true := by
  have h1 : ∀ k, k < 125 → knd k = 0 → arC (k + 3) 11 40 = true := by decide +kernel
  exact h1 k (k_lt h (by decide)) h
theorem o_X0_4 {k : Nat} (h : knd k = 0) : arC (k + 4) 11 40 = true := by
  have h1 : ∀ k, k < 125 → knd k = 0 → arC (k + 4) 11 40 = true := by decide +kernel
  exact h1 k (k_lt h (by decide)) h
theorem o_X4_3 {k : Nat} (h : knd k = 4) : arC (k + 1) 11 4 = true := by
  have h1 : ∀ k, k < 125 → knd k = 4 → arC (k + 1) 11 4 = true := by decide +kernel
  exact h1 k (k_lt h (by decide)) h
theorem o_X4_5 {k : Nat} (h : knd k = 4) : arC (k + 2) 11 40 = true := by
  have h1 : ∀ k, k < 125 → knd k = 4 → arC (k + 2) 11 40 = true := by decide +kernel
  exact h1 k (k_lt h (by decide)) h
theorem o_X4_6 {k : Nat} (h : knd k = 4) : arC (k + 3) 11 40 = true := by
  have h1 : ∀ k, k < 125 → knd k = 4 → arC (k + 3) 11 40 = true := by decide +kernel
  exact h1 k (k_lt h (by decide)) h
theorem o_X4_7 {k : Nat} (h : knd k = 4) : arC (k + 4) 11 40 = true := by
  have h1 : ∀ k, k < 125 → knd k = 4 → arC (k + 4) 11 40 = true := by decide +kernel
  exact h1 k (k_lt h (by decide)) h
theorem o_X4_8 {k : Nat} (h : knd k = 4) : arC (k + 5) 11 40 = true := by
  have h1 : ∀ k, k < 125 → knd k = 4 → arC (k + 5) 11 40 = true := by decide +kernel
  exact h1 k (k_lt h (by decide)) h
theorem o_X4_9 {k : Nat} (h : knd k = 4) : arC (k + 6) 11 40 = true := by
  have h1 : ∀ k, k < 125 → knd k = 4 → arC (k + 6) 11 40 = true := by decide +kernel
  exact h1 k (k_lt h (by decide)) h
theorem o_X4_11 {k : Nat} (h : knd k = 4) : arC (k + 7) 11 12 = true := by
  have h1 : ∀ k, k < 125 → knd k = 4 → arC (k + 7) 11 12 = true := by decide +kernel
  exact h1 k (k_lt h (by decide)) h
theorem o_X4_12 {k : Nat} (h : knd k = 4) : arC (k + 8) 11 12 = true := by
  have h1 : ∀ k, k < 125 → knd k = 4 → arC (k + 8) 11 12 = true := by decide +kernel
  exact h1 k (k_lt h (by decide)) h
theorem o_X4_14 {k : Nat} (h : knd k = 4) : arC (k + 9) 11 41 = true := by
  have h1 : ∀ k, k < 125 → knd k = 4 → arC (k + 9) 11 41 = true := by decide +kernel
  exact h1 k (k_lt h (by decide)) h
theorem o_X4_15 {k : Nat} (h : knd k = 4) : arC (k + 10) 11 40 = true := by
  have h1 : ∀ k, k < 125 → knd k = 4 → arC (k + 10) 11 40 = true := by decide +kernel
  exact h1 k (k_lt h (by decide)) h
theorem o_X4_16 {k : Nat} (h : knd k = 4) : arC (k + 11) 11 40 = true := by
  have h1 : ∀ k, k < 125 → knd k = 4 → arC (k + 11) 11 40 = true := by decide +kernel
  exact h1 k (k_lt h (by decide)) h
theorem o_X4_17 {k : Nat} (h : knd k = 4) : arC (k + 12) 11 40 = true := by
  have h1 : ∀ k, k < 125 → knd k = 4 → arC (k + 12) 11 40 = true := by decide +kernel
  exact h1 k (k_lt h (by decide)) h
theorem o_X4_18 {k : Nat} (h : knd k = 4) : arC (k + 13) 12 40 = true := by
  have h1 : ∀ k, k < 125 → knd k = 4 → arC (k + 13) 12 40 = true := by decide +kernel
  exact h1 k (k_lt h (by decide)) h
theorem o_X6_1 {k : Nat} (h : knd k = 6) : arC (k + 1) 11 30 = true := by
  have h1 : ∀ k, k < 125 → knd k = 6 → arC (k + 1) 11 30 = true := by decide +kernel
  exact h1 k (k_lt h (by decide)) h
theorem o_X6_2 {k : Nat} (h : knd k = 6) : arC (k + 2) 11 30 = true := by
  have h1 : ∀ k, k < 125 → knd k = 6 → arC (k + 2) 11 30 = true := by decide +kernel
  exact h1 k (k_lt h (by decide)) h
theorem o_X6_3 {k : Nat} (h : knd k = 6) : arC (k + 3) 11 30 = true := by
  have h1 : ∀ k, k < 125 → knd k = 6 → arC (k + 3) 11 30 = true := by decide +kernel
  exact h1 k (k_lt h (by decide)) h
theorem o_X6_4 {k : Nat} (h : knd k = 6) : arC (k + 4) 11 30 = true := by
  have h1 : ∀ k, k < 125 → knd k = 6 → arC (k + 4) 11 30 = true := by decide +kernel
  exact h1 k (k_lt h (by decide)) h
theorem o_X6_5 {k : Nat} (h : knd k = 6) : arC (k + 5) 11 60 = true := by
  have h1 : ∀ k, k < 125 → knd k = 6 → arC (k + 5) 11 60 = true := by decide +kernel
  exact h1 k (k_lt h (by decide)) h
theorem o_X6_6 {k : Nat} (h : knd k = 6) : arC (k + 6) 11 360 = true := by
  have h1 : ∀ k, k < 125 → knd k = 6 → arC (k + 6) 11 360 = true := by decide +kernel
  exact h1 k (k_lt h (by decide)) h
theorem k_ed {i : Int32} (h : inb i 12 = true) : knd (23 + 5 * ix i) = 0 := by
  have h1 : ∀ j, j < 12 → knd (23 + 5 * j) = 0 := by decide +kernel
  unfold inb at h
  rw [Bool.and_eq_true, decide_eq_true_eq, decide_eq_true_eq] at h
  exact h1 _ h.2
theorem x_aald {p : Program} {l : Launch} {e : Env} {R : Room} {s : State} {m : MethodId} {args : Array Value} {below : List Frame} {meth : Method} {c : Code} {H : Heap} {locs : List Loc} {cells slots : Nat} {Q : State → Prop} {cc : ByteArray} {pc nL : Nat} {ret : Option FieldType} {ls : Array Slot} {rest : List Value} {Z : ZT} {h : Hp} {g : va_W} {own : String} (C : CX p s m args meth c cc own nL ret Z g) (hW : XW Z h g s.heap H locs) {i : Int32} {α : Type} {K : Nat → Option α} {out : α} (hf : ck (inb i 12) (stp (23 + 5 * ix i) K) = some out) (hd : decode cc pc = .ok (.aaload, 1)) (k : ∀ q : Nat, knd q = 0 → K q = some out → W p l e R s m args below meth c H locs cells slots Q (F0 m (pc + 1) ls (.ref (Z.1 q) :: rest))) : W p l e R s m args below meth c H locs cells slots Q (F0 m pc ls (.int i :: .ref (Z.1 14) :: rest)) := by
  have hc := ck_t hf
  have hw : (wl Z h g)[14]? = some (Z.1 14, .inl (Z.2.2.1 3, 12, .inr (.inr (.inr (.inr (fun j => some (Z.1 (23 + 5 * j)))))))) := wl_at (by decide)
  exact va_aldq C.1 C.2.1 C.2.2.2.2.2.2.2.1 hW.1 14 3 hw rfl (inb_in hc.1) hd (k _ (k_ed hc.1) hc.2)
