/-! longs of the machine as whole numbers -/
def lV (z : Int) : Int64 := Int64.ofInt z
theorem lV_toInt {z : Int} (h : iR z) : (lV z).toInt = z := Int64.toInt_ofInt_of_le (by have := h.1; omega) (by have := h.2; omega)
theorem iV_l {z : Int} (h : iR z) : (iV z).toInt64 = lV z := by
  apply Int64.toInt_inj.mp
  rw [Int32.toInt_toInt64, iV_toInt h, lV_toInt h]
def zcmp (a b : Int) : Int := if b < a then 1 else if a = b then 0 else -1
theorem zcmp_r (a b : Int) : (b < a ∧ zcmp a b = 1) ∨ (a = b ∧ zcmp a b = 0) ∨ (a < b ∧ zcmp a b = -1) := by
  unfold zcmp
  split
  · omega
  · split <;> omega
theorem lV_cmp {a b : Int} (ha : iR a) (hb : iR b) : lg_cmp (lV a) (lV b) = iV (zcmp a b) := by
  have h1 : lV b < lV a ↔ b < a := by rw [Int64.lt_iff_toInt_lt, lV_toInt ha, lV_toInt hb]
  have h2 : lV a = lV b ↔ a = b := ⟨fun h => by rw [← lV_toInt ha, ← lV_toInt hb, h], fun h => by rw [h]⟩
  unfold lg_cmp zcmp
  by_cases q1 : b < a
  · rw [if_pos (h1.mpr q1), if_pos q1]; rfl
  · rw [if_neg (fun h => q1 (h1.mp h)), if_neg q1]
    by_cases q2 : a = b
    · rw [if_pos (h2.mpr q2), if_pos q2]; rfl
    · rw [if_neg (fun h => q2 (h2.mp h)), if_neg q2]; rfl
section ZL
variable {p : Program} {l : Launch} {e : Env} {R : Room} {s : State} {m : MethodId} {args : Array Value} {below : List Frame} {meth : Method} {c : Code} {H : Heap} {locs : List Loc} {cells slots : Nat} {Q : State → Prop}
variable {cc : ByteArray} {pc : Nat} {ls : Array Slot} {rest : List Value}
theorem z_i2l (hexec : p.tables.exec = Jvm.exec) (hb : c.code = cc) {x : Int} (hx : iR x) (hdg : decode cc pc = .ok (.i2l, 1)) (k : W p l e R s m args below meth c H locs cells slots Q (F0 m (pc + 1) ls (.long (lV x) :: rest))) : W p l e R s m args below meth c H locs cells slots Q (F0 m pc ls (.int (iV x) :: rest)) := lv_i2l hexec hb hdg (iV_l hx) k
theorem z_lcmp (hexec : p.tables.exec = Jvm.exec) (hb : c.code = cc) {x y : Int} (hx : iR x) (hy : iR y) (hdg : decode cc pc = .ok (.lcmp, 1)) (k : W p l e R s m args below meth c H locs cells slots Q (F0 m (pc + 1) ls (.int (iV (zcmp x y)) :: rest))) : W p l e R s m args below meth c H locs cells slots Q (F0 m pc ls (.long (lV y) :: .long (lV x) :: rest)) := W.lcmp hexec hb hdg (z_top (lV_cmp hx hy) k)
theorem z_toL {x : Int64} {z : Int} (h : x = lV z) (k : W p l e R s m args below meth c H locs cells slots Q (F0 m pc ls (.long (lV z) :: rest))) : W p l e R s m args below meth c H locs cells slots Q (F0 m pc ls (.long x :: rest)) := by rw [h]; exact k
end ZL
