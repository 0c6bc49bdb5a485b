section XLW
variable {p : Program} {l : Launch} {e : Env} {R : Room} {s : State} {m : MethodId} {args : Array Value} {below : List Frame} {meth : Method} {c : Code} {H : Heap} {locs : List Loc} {cells slots : Nat} {Q : State → Prop} {cc : ByteArray} {pc nL i : Nat} {ret : Option FieldType} {ls : Array Slot} {rest : List Value} {Z : ZT} {own : String}
theorem x_ldcSW (C : CX p s m args meth c cc own nL ret Z) {index : Nat} {tt : String} (hm : (own, index, tt, i) ∈ strs) (hd : decode cc pc = .ok (.ldc_w index, 3)) (k : W p l e R s m args below meth c H locs cells slots Q (F0 m (pc + 3) ls (.ref (Z.2.2.2.2 (2 * i)) :: rest))) : W p l e R s m args below meth c H locs cells slots Q (F0 m pc ls rest) := by
  have hZ := C.2.2.2.2.2.2.2.2.2.2.2.1 _ hm
  intro T hT X
  obtain ⟨t, a1, b1⟩ := k T hT X
  exact ⟨t, X.ldcStringW C.1 C.2.2.2.1 (text := tt) (a := Z.2.2.2.2 (2 * i)) hZ.1 hZ.2 (g := F0 m pc ls rest) rfl (by rw [C.2.1]; exact hd) t a1, b1⟩
end XLW
