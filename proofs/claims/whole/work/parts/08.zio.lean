theorem zR_r (k : Nat) : -1 ≤ zR k ∧ zR k ≤ 1 := by
  match k with
  | 0 | 1 | 2 | 3 | 4 | 5 | 6 => decide
  | _ + 7 => simp [zR]
theorem zB_r (k : Nat) : -1 ≤ zB k ∧ zB k ≤ 1 := by
  match k with
  | 0 | 1 | 2 | 3 | 4 | 5 | 6 => decide
  | _ + 7 => simp [zB]
theorem zabs_r (z : Int) : 0 ≤ zabs z ∧ (zabs z = z ∨ zabs z = -z) := by unfold zabs; split <;> omega
theorem iV_and7 (z : Int) : iV z &&& iV 7 = iV (z % 8) := by
  apply Int32.toBitVec.inj
  show BitVec.ofInt 32 z &&& BitVec.ofInt 32 7 = BitVec.ofInt 32 (z % 8)
  apply BitVec.eq_of_toNat_eq
  rw [BitVec.toNat_and, BitVec.toNat_ofInt, BitVec.toNat_ofInt, BitVec.toNat_ofInt]
  have h : ((7 : Int) % ((2 ^ 32 : Nat) : Int)).toNat = 2 ^ 3 - 1 := by decide
  rw [h, Nat.and_two_pow_sub_one_eq_mod]
  omega
theorem iV_and3 (z : Int) : iV z &&& iV 3 = iV (z % 4) := by
  apply Int32.toBitVec.inj
  show BitVec.ofInt 32 z &&& BitVec.ofInt 32 3 = BitVec.ofInt 32 (z % 4)
  apply BitVec.eq_of_toNat_eq
  rw [BitVec.toNat_and, BitVec.toNat_ofInt, BitVec.toNat_ofInt, BitVec.toNat_ofInt]
  have h : ((3 : Int) % ((2 ^ 32 : Nat) : Int)).toNat = 2 ^ 2 - 1 := by decide
  rw [h, Nat.and_two_pow_sub_one_eq_mod]
  omega
theorem iV_and31 (z : Int) : iV z &&& iV 31 = iV (z % 32) := by
  apply Int32.toBitVec.inj
  show BitVec.ofInt 32 z &&& BitVec.ofInt 32 31 = BitVec.ofInt 32 (z % 32)
  apply BitVec.eq_of_toNat_eq
  rw [BitVec.toNat_and, BitVec.toNat_ofInt, BitVec.toNat_ofInt, BitVec.toNat_ofInt]
  have h : ((31 : Int) % ((2 ^ 32 : Nat) : Int)).toNat = 2 ^ 5 - 1 := by decide
  rw [h, Nat.and_two_pow_sub_one_eq_mod]
  omega
theorem iV_c128 : ∀ k : Fin 128, vp_nar .char (iV ((k : Nat) : Int)) = iV ((k : Nat) : Int) ∧ ((iV ((k : Nat) : Int)).toUInt32 % 65536).toInt32 = iV ((k : Nat) : Int) := by decide +kernel
theorem iV_char {z : Int} (h : 0 ≤ z ∧ z < 128) : vp_nar .char (iV z) = iV z ∧ ((iV z).toUInt32 % 65536).toInt32 = iV z := by
  have := iV_c128 ⟨z.toNat, by omega⟩
  have hz : ((z.toNat : Nat) : Int) = z := by omega
  simpa [hz] using this
theorem iV_bool {z : Int} (h : z = 0 ∨ z = 1) : vp_nar .boolean (iV z) = iV z ∧ narrow .boolean (.int (iV z)) = .int (iV z) := by
  rcases h with rfl | rfl
  · exact ⟨by decide, by decide⟩
  · exact ⟨by decide, by decide⟩
theorem iV_min {x y : Int} (hx : iR x) (hy : iR y) : (if iV y < iV x then iV y else iV x) = iV (min x y) := by
  by_cases h : y < x
  · rw [if_pos ((iV_lt hy hx).mpr h)]; congr 1; omega
  · rw [if_neg (fun q => h ((iV_lt hy hx).mp q))]; congr 1; omega
theorem bP_01 (q : Prop) : bP q = 0 ∨ bP q = 1 := by
  by_cases h : q
  · exact Or.inr (bP_t h)
  · exact Or.inl (bP_f h)
theorem lv_nil {ls : Array Slot} {nL : Nat} {lv : List (Nat × Value)} (h : lv_has ls nL lv) : lv_has ls nL [] := ⟨h.1, h.2.1, fun q hq => by cases hq⟩
theorem lv_cons {ls : Array Slot} {nL : Nat} {lv : List (Nat × Value)} {i : Nat} {v : Value} (h : ls[i]? = some (.val v)) (hl : lv_has ls nL lv) : lv_has ls nL ((i, v) :: lv) := ⟨hl.1, hl.2.1, fun q hq => by
  rcases List.mem_cons.mp hq with rfl | hq
  · exact h
  · exact hl.2.2 q hq⟩
theorem lv_i {ls : Array Slot} {nL : Nat} {lv : List (Nat × Value)} (h : lv_has ls nL lv) (k : Nat) {i : Nat} {a z : Int} (hk : lv[k]? = some (i, .int (iV a))) (hz : a = z) : ls[i]? = some (.val (.int (iV z))) := by
  rw [← hz]; exact lv_at h k hk
theorem z_castP {D : va_G} {cl : List vw_C} {w w1 : va_W} {H : Heap} (e : w = w1) (h : va_P D cl w H) : va_P D cl w1 H := e ▸ h
theorem z_castD {A : Nat → Prop} {w w1 : va_W} (e : w = w1) (h : va_D A w) : va_D A w1 := e ▸ h
section ZI
variable {p : Program} {l : Launch} {e : Env} {R : Room} {s : State} {m : MethodId} {args : Array Value} {below : List Frame} {meth : Method} {c : Code} {H : Heap} {locs : List Loc} {cells slots : Nat} {Q : State → Prop}
variable {cc : ByteArray} {pc : Nat} {ls : Array Slot} {rest : List Value} {G : zG} {A : Nat → Prop} {w : va_W} {a : Nat} {H0 : Heap}
theorem z_iand7 (hexec : p.tables.exec = Jvm.exec) (hb : c.code = cc) {x : Int} (hdg : decode cc pc = .ok (.iand, 1)) (k : W p l e R s m args below meth c H locs cells slots Q (F0 m (pc + 1) ls (.int (iV (x % 8)) :: rest))) : W p l e R s m args below meth c H locs cells slots Q (F0 m pc ls (.int (iV 7) :: .int (iV x) :: rest)) := lv_iand hexec hb hdg (z_top (iV_and7 x) k)
theorem z_iand3 (hexec : p.tables.exec = Jvm.exec) (hb : c.code = cc) {x : Int} (hdg : decode cc pc = .ok (.iand, 1)) (k : W p l e R s m args below meth c H locs cells slots Q (F0 m (pc + 1) ls (.int (iV (x % 4)) :: rest))) : W p l e R s m args below meth c H locs cells slots Q (F0 m pc ls (.int (iV 3) :: .int (iV x) :: rest)) := lv_iand hexec hb hdg (z_top (iV_and3 x) k)
theorem z_iand31 (hexec : p.tables.exec = Jvm.exec) (hb : c.code = cc) {x : Int} (hdg : decode cc pc = .ok (.iand, 1)) (k : W p l e R s m args below meth c H locs cells slots Q (F0 m (pc + 1) ls (.int (iV (x % 32)) :: rest))) : W p l e R s m args below meth c H locs cells slots Q (F0 m pc ls (.int (iV 31) :: .int (iV x) :: rest)) := lv_iand hexec hb hdg (z_top (iV_and31 x) k)
theorem z_i2c (hexec : p.tables.exec = Jvm.exec) (hb : c.code = cc) {x : Int} (h : 0 ≤ x ∧ x < 128) (hdg : decode cc pc = .ok (.i2c, 1)) (k : W p l e R s m args below meth c H locs cells slots Q (F0 m (pc + 1) ls (.int (iV x) :: rest))) : W p l e R s m args below meth c H locs cells slots Q (F0 m pc ls (.int (iV x) :: rest)) := lv_i2c hexec hb hdg (iV_char h).2 k
theorem z_iald {n : Nat} {f : Nat → Int} {i : Int} (hexec : p.tables.exec = Jvm.exec) (hb : c.code = cc) (hK : zK G s) (hP : va_P G.1 vwCl w H) (q0 : Nat) (ha : w[q0]? = some (a, .inl (G.2.1, n, .inl (fun k => iV (f k))))) (h0 : 0 ≤ i) (h1 : i < n) (hn : n < 2147483648) (hdg : decode cc pc = .ok (.iaload, 1))
    (kk : W p l e R s m args below meth c H locs cells slots Q (F0 m (pc + 1) ls (.int (iV (f i.toNat)) :: rest))) : W p l e R s m args below meth c H locs cells slots Q (F0 m pc ls (.int (iV i) :: .ref a :: rest)) := va_iald hexec hb hK hP q0 0 ha rfl (iV_in h0 h1 hn) hdg (by rw [iV_nat ⟨by omega, by omega⟩]; exact kk)
theorem z_zald {n : Nat} {f : Nat → Int} {i : Int} (hexec : p.tables.exec = Jvm.exec) (hb : c.code = cc) (hK : zK G s) (hP : va_P G.1 vwCl w H) (q0 : Nat) (ha : w[q0]? = some (a, .inl (G.2.2.1, n, .inl (fun k => iV (f k))))) (h0 : 0 ≤ i) (h1 : i < n) (hn : n < 2147483648) (hdg : decode cc pc = .ok (.baload, 1))
    (kk : W p l e R s m args below meth c H locs cells slots Q (F0 m (pc + 1) ls (.int (iV (f i.toNat)) :: rest))) : W p l e R s m args below meth c H locs cells slots Q (F0 m pc ls (.int (iV i) :: .ref a :: rest)) := va_zald hexec hb hK hP q0 1 ha rfl (iV_in h0 h1 hn) hdg (by rw [iV_nat ⟨by omega, by omega⟩]; exact kk)
theorem z_cald {n : Nat} {f : Nat → Int} {i : Int} (hexec : p.tables.exec = Jvm.exec) (hb : c.code = cc) (hK : zK G s) (hP : va_P G.1 vwCl w H) (q0 : Nat) (ha : w[q0]? = some (a, .inl (G.2.2.2.1, n, .inl (fun k => iV (f k))))) (h0 : 0 ≤ i) (h1 : i < n) (hn : n < 2147483648) (hdg : decode cc pc = .ok (.caload, 1))
    (kk : W p l e R s m args below meth c H locs cells slots Q (F0 m (pc + 1) ls (.int (iV (f i.toNat)) :: rest))) : W p l e R s m args below meth c H locs cells slots Q (F0 m pc ls (.int (iV i) :: .ref a :: rest)) := va_cald hexec hb hK hP q0 2 ha rfl (iV_in h0 h1 hn) hdg (by rw [iV_nat ⟨by omega, by omega⟩]; exact kk)
theorem z_iast {n : Nat} {f : Nat → Int} {i v : Int} (hexec : p.tables.exec = Jvm.exec) (hb : c.code = cc) (hK : zK G s) (hP : va_P G.1 vwCl w H) (hD : va_D A w) (hS : va_S A H0 H locs) (q0 : Nat) (ha : w[q0]? = some (a, .inl (G.2.1, n, .inl (fun k => iV (f k))))) (h0 : 0 ≤ i) (h1 : i < n) (hn : n < 2147483648) (hdg : decode cc pc = .ok (.iastore, 1))
    (kk : ∀ (H1 : Heap) (locs1 : List Loc), va_P G.1 vwCl (w.set q0 (a, .inl (G.2.1, n, .inl (fun k => iV (uI f i.toNat v k))))) H1 → va_D A (w.set q0 (a, .inl (G.2.1, n, .inl (fun k => iV (uI f i.toNat v k))))) → va_S A H0 H1 locs1 → W p l e R s m args below meth c H1 locs1 cells slots Q (F0 m (pc + 1) ls rest)) : W p l e R s m args below meth c H locs cells slots Q (F0 m pc ls (.int (iV v) :: .int (iV i) :: .ref a :: rest)) := va_iast hexec hb hK hP hD hS q0 0 ha rfl (iV_in h0 h1 hn) hdg (by rw [iV_nat ⟨by omega, by omega⟩, uI_eq]; exact kk)
theorem z_zast {n : Nat} {f : Nat → Int} {i v : Int} (hexec : p.tables.exec = Jvm.exec) (hb : c.code = cc) (hK : zK G s) (hP : va_P G.1 vwCl w H) (hD : va_D A w) (hS : va_S A H0 H locs) (q0 : Nat) (ha : w[q0]? = some (a, .inl (G.2.2.1, n, .inl (fun k => iV (f k))))) (h0 : 0 ≤ i) (h1 : i < n) (hn : n < 2147483648) (hv : v = 0 ∨ v = 1) (hdg : decode cc pc = .ok (.bastore, 1))
    (kk : ∀ (H1 : Heap) (locs1 : List Loc), va_P G.1 vwCl (w.set q0 (a, .inl (G.2.2.1, n, .inl (fun k => iV (uI f i.toNat v k))))) H1 → va_D A (w.set q0 (a, .inl (G.2.2.1, n, .inl (fun k => iV (uI f i.toNat v k))))) → va_S A H0 H1 locs1 → W p l e R s m args below meth c H1 locs1 cells slots Q (F0 m (pc + 1) ls rest)) : W p l e R s m args below meth c H locs cells slots Q (F0 m pc ls (.int (iV v) :: .int (iV i) :: .ref a :: rest)) := va_zast hexec hb hK hP hD hS q0 1 ha rfl (iV_in h0 h1 hn) hdg (by rw [iV_nat ⟨by omega, by omega⟩, (iV_bool hv).1, uI_eq]; exact kk)
theorem z_cast {n : Nat} {f : Nat → Int} {i v : Int} (hexec : p.tables.exec = Jvm.exec) (hb : c.code = cc) (hK : zK G s) (hP : va_P G.1 vwCl w H) (hD : va_D A w) (hS : va_S A H0 H locs) (q0 : Nat) (ha : w[q0]? = some (a, .inl (G.2.2.2.1, n, .inl (fun k => iV (f k))))) (h0 : 0 ≤ i) (h1 : i < n) (hn : n < 2147483648) (hv : 0 ≤ v ∧ v < 128) (hdg : decode cc pc = .ok (.castore, 1))
    (kk : ∀ (H1 : Heap) (locs1 : List Loc), va_P G.1 vwCl (w.set q0 (a, .inl (G.2.2.2.1, n, .inl (fun k => iV (uI f i.toNat v k))))) H1 → va_D A (w.set q0 (a, .inl (G.2.2.2.1, n, .inl (fun k => iV (uI f i.toNat v k))))) → va_S A H0 H1 locs1 → W p l e R s m args below meth c H1 locs1 cells slots Q (F0 m (pc + 1) ls rest)) : W p l e R s m args below meth c H locs cells slots Q (F0 m pc ls (.int (iV v) :: .int (iV i) :: .ref a :: rest)) := va_cast hexec hb hK hP hD hS q0 2 ha rfl (iV_in h0 h1 hn) hdg (by rw [iV_nat ⟨by omega, by omega⟩, (iV_char hv).1, uI_eq]; exact kk)
theorem z_ti {t N : Nat} {f : Nat → Int} {i : Int} (hexec : p.tables.exec = Jvm.exec) (hb : c.code = cc) (hT : va_T .int t N (fun k => .int (iV (f k))) A s s.heap) (hS : va_S A s.heap H locs) (h0 : 0 ≤ i) (h1 : i < N ∧ N < 2147483648) (hdg : decode cc pc = .ok (.iaload, 1))
    (kk : W p l e R s m args below meth c H locs cells slots Q (F0 m (pc + 1) ls (.int (iV (f i.toNat)) :: rest))) : W p l e R s m args below meth c H locs cells slots Q (F0 m pc ls (.int (iV i) :: .ref t :: rest)) := va_ti hexec hb hT hS (iV_in h0 h1.1 (by omega)) (v := .int (iV (f i.toNat))) (by rw [iV_nat ⟨by omega, by omega⟩]) hdg kk
theorem z_ret {E : Int} (hexec : p.tables.exec = Jvm.exec) (hb : c.code = cc) (hr : meth.sig.returnType = some .int) (hlocks : meth.locks = false) (hS : va_S (zF s.heap.size) s.heap H locs) (hdg : decode cc pc = .ok (.ireturn, 1)) : W p l e R s m args below meth c H locs 0 0 (MQ below (zQr E s.heap.size) args s 0 0 (zF s.heap.size)) (F0 m pc ls [.int (iV E)]) := W.iret hexec hb hr (fun t ht hW => ⟨⟨iV E, (), rfl, rfl, trivial⟩, hS.F ht⟩) hS.2.2 hdg hlocks
theorem z_retb {q : Prop} (hexec : p.tables.exec = Jvm.exec) (hb : c.code = cc) (hr : meth.sig.returnType = some .boolean) (hlocks : meth.locks = false) (hS : va_S (zF s.heap.size) s.heap H locs) (hdg : decode cc pc = .ok (.ireturn, 1)) : W p l e R s m args below meth c H locs 0 0 (MQ below (zQr (bP q) s.heap.size) args s 0 0 (zF s.heap.size)) (F0 m pc ls [.int (iV (bP q))]) := W.zret hexec hb hr (iV_bool (bP_01 q)).2 (fun t ht hW => ⟨⟨iV (bP q), (), rfl, rfl, trivial⟩, hS.F ht⟩) hS.2.2 hdg hlocks
theorem z_retw {E : Int} {w0 : va_W} (hexec : p.tables.exec = Jvm.exec) (hb : c.code = cc) (hr : meth.sig.returnType = some .int) (hlocks : meth.locks = false) (hP : va_P G.1 vwCl w H) (hS : va_S (va_A w0 s.heap.size) s.heap H locs) (hdg : decode cc pc = .ok (.ireturn, 1)) : W p l e R s m args below meth c H locs 0 0 (MQ below (zQw G E w0 w s.heap.size) args s 0 0 (va_A w0 s.heap.size)) (F0 m pc ls [.int (iV E)]) := W.iret hexec hb hr (fun t ht hW => ⟨⟨iV E, (), rfl, rfl, by show va_P G.1 vwCl w t.heap; rw [ht]; exact hP⟩, hS.F ht⟩) hS.2.2 hdg hlocks
theorem z_retwb {q : Prop} {w0 : va_W} (hexec : p.tables.exec = Jvm.exec) (hb : c.code = cc) (hr : meth.sig.returnType = some .boolean) (hlocks : meth.locks = false) (hP : va_P G.1 vwCl w H) (hS : va_S (va_A w0 s.heap.size) s.heap H locs) (hdg : decode cc pc = .ok (.ireturn, 1)) : W p l e R s m args below meth c H locs 0 0 (MQ below (zQw G (bP q) w0 w s.heap.size) args s 0 0 (va_A w0 s.heap.size)) (F0 m pc ls [.int (iV (bP q))]) := W.zret hexec hb hr (iV_bool (bP_01 q)).2 (fun t ht hW => ⟨⟨iV (bP q), (), rfl, rfl, by show va_P G.1 vwCl w t.heap; rw [ht]; exact hP⟩, hS.F ht⟩) hS.2.2 hdg hlocks
theorem z_retv {w0 : va_W} (hexec : p.tables.exec = Jvm.exec) (hb : c.code = cc) (hr : meth.sig.returnType = none) (hlocks : meth.locks = false) (hP : va_P G.1 vwCl w H) (hS : va_S (va_A w0 s.heap.size) s.heap H locs) (hdg : decode cc pc = .ok (.return_, 1)) : W p l e R s m args below meth c H locs 0 0 (MQ below (zQv G w0 w s.heap.size) args s 0 0 (va_A w0 s.heap.size)) (F0 m pc ls []) := W.vret hexec hb hr (fun t ht hW => ⟨⟨(), rfl, trivial, by show va_P G.1 vwCl w t.heap; rw [ht]; exact hP⟩, hS.F ht⟩) hS.2.2 hdg hlocks
theorem z_mabs {own : String} {index : Nat} {x : Int} (hexec : p.tables.exec = Jvm.exec) (hb : c.code = cc) (hml : c.maxLocals = ls.size) (hown : s.vm.findClass own = some m.cls) (hlink : (Cond.methodLink own index Lib.Math.abs.name).before args s = true) (hstat : (Cond.static Lib.Math.abs.name).before args s = true) (hini : (Cond.initialized "java/lang/Math").before args s = true) (hcode : (Cond.code Lib.Math.abs.name Lib.Math.abs.code 1 (some .int)).before args s = true)
    (hframes : 1 ≤ R.frames) (hlocals : (rest.map fun v => v.category).sum + 13 ≤ R.locals) (hc : cells ≤ R.cells) (hs : slots ≤ R.slots) (hx : iR x) (hdg : decode cc pc = .ok (.invokestatic index, 3))
    (kk : W p l e R s m args below meth c H locs cells slots Q (F0 m (pc + 3) ls (.int (iV (zabs x)) :: rest))) : W p l e R s m args below meth c H locs cells slots Q (F0 m pc ls (.int (iV x) :: rest)) := va_mabs hexec hb hml hown hlink hstat hini hcode hframes hlocals hc hs hdg (z_top (iV_abs hx) kk)
theorem z_mmax {own : String} {index : Nat} {x y : Int} (hexec : p.tables.exec = Jvm.exec) (hb : c.code = cc) (hml : c.maxLocals = ls.size) (hown : s.vm.findClass own = some m.cls) (hlink : (Cond.methodLink own index Lib.Math.max.name).before args s = true) (hstat : (Cond.static Lib.Math.max.name).before args s = true) (hini : (Cond.initialized "java/lang/Math").before args s = true) (hcode : (Cond.code Lib.Math.max.name Lib.Math.max.code 2 (some .int)).before args s = true)
    (hframes : 1 ≤ R.frames) (hlocals : (rest.map fun v => v.category).sum + 13 ≤ R.locals) (hc : cells ≤ R.cells) (hs : slots ≤ R.slots) (hx : iR x) (hy : iR y) (hdg : decode cc pc = .ok (.invokestatic index, 3))
    (kk : W p l e R s m args below meth c H locs cells slots Q (F0 m (pc + 3) ls (.int (iV (max x y)) :: rest))) : W p l e R s m args below meth c H locs cells slots Q (F0 m pc ls (.int (iV y) :: .int (iV x) :: rest)) := va_mmax hexec hb hml hown hlink hstat hini hcode hframes hlocals hc hs hdg (z_top (by
      by_cases h : x < y
      · rw [if_pos ((iV_lt hx hy).mpr h)]; congr 1; omega
      · rw [if_neg (fun q => h ((iV_lt hx hy).mp q))]; congr 1; omega) kk)
theorem z_mmin {own : String} {index : Nat} {x y : Int} (hexec : p.tables.exec = Jvm.exec) (hb : c.code = cc) (hml : c.maxLocals = ls.size) (hown : s.vm.findClass own = some m.cls) (hlink : (Cond.methodLink own index Lib.Math.min.name).before args s = true) (hstat : (Cond.static Lib.Math.min.name).before args s = true) (hini : (Cond.initialized "java/lang/Math").before args s = true) (hcode : (Cond.code Lib.Math.min.name Lib.Math.min.code 2 (some .int)).before args s = true)
    (hframes : 1 ≤ R.frames) (hlocals : (rest.map fun v => v.category).sum + 13 ≤ R.locals) (hc : cells ≤ R.cells) (hs : slots ≤ R.slots) (hx : iR x) (hy : iR y) (hdg : decode cc pc = .ok (.invokestatic index, 3))
    (kk : W p l e R s m args below meth c H locs cells slots Q (F0 m (pc + 3) ls (.int (iV (min x y)) :: rest))) : W p l e R s m args below meth c H locs cells slots Q (F0 m pc ls (.int (iV y) :: .int (iV x) :: rest)) := va_mmin hexec hb hml hown hlink hstat hini hcode hframes hlocals hc hs hdg (z_top (iV_min hx hy) kk)
theorem z_tsw {dflt lo hi : Int} {offs : Array Int} {len : Nat} {x k off : Int} {tgt : Nat} (hexec : p.tables.exec = Jvm.exec) (hb : c.code = cc) (hdg : decode cc pc = .ok (.tableswitch dflt lo hi offs, len)) (h : x = k) (ho : iR k ∧ ¬ k < lo ∧ ¬ hi < k ∧ offs[(k - lo).toNat]? = some off) (ht : (pc : Int) + off = (tgt : Int))
    (kk : W p l e R s m args below meth c H locs cells slots Q (F0 m tgt ls rest)) : W p l e R s m args below meth c H locs cells slots Q (F0 m pc ls (.int (iV x) :: rest)) := by
  subst h
  obtain ⟨h1, h2, h3, h4⟩ := ho
  exact lv_tableIn hexec hb hdg (by rw [iV_toInt h1]; exact h2) (by rw [iV_toInt h1]; exact h3) (by rw [iV_toInt h1]; exact h4) ht kk
theorem z_tswd {dflt lo hi : Int} {offs : Array Int} {len : Nat} {x : Int} {tgt : Nat} (hexec : p.tables.exec = Jvm.exec) (hb : c.code = cc) (hx : iR x) (hdg : decode cc pc = .ok (.tableswitch dflt lo hi offs, len)) (h : x < lo ∨ hi < x) (ht : (pc : Int) + dflt = (tgt : Int))
    (kk : W p l e R s m args below meth c H locs cells slots Q (F0 m tgt ls rest)) : W p l e R s m args below meth c H locs cells slots Q (F0 m pc ls (.int (iV x) :: rest)) := lv_tableOut hexec hb hdg (by rw [iV_toInt hx]; exact h) ht kk
theorem z_lsw {dflt : Int} {ps : Array (Int × Int)} {len : Nat} {x k off : Int} {tgt : Nat} (hexec : p.tables.exec = Jvm.exec) (hb : c.code = cc) (hdg : decode cc pc = .ok (.lookupswitch dflt ps, len)) (h : x = k) (ho : iR k ∧ (ps.toList.zip (ps.toList.drop 1)).all (fun (a, next) => a.1 < next.1) = true ∧ Op.lookupswitch.offset ps.toList dflt k = off) (ht : (pc : Int) + off = (tgt : Int))
    (kk : W p l e R s m args below meth c H locs cells slots Q (F0 m tgt ls rest)) : W p l e R s m args below meth c H locs cells slots Q (F0 m pc ls (.int (iV x) :: rest)) := by
  subst h
  obtain ⟨h1, h2, h3⟩ := ho
  exact lv_lookup hexec hb hdg h2 (by rw [iV_toInt h1]; exact h3) ht kk
theorem z_osd (ps : List (Int × Int)) (d x : Int) (h : ∀ q ∈ ps, q.1 ≠ x) : Op.lookupswitch.offset ps d x = d := by
  induction ps with
  | nil => rfl
  | cons q r ih =>
    obtain ⟨a, o⟩ := q
    rw [Op.lookupswitch.offset_cons, if_neg (h (a, o) List.mem_cons_self)]
    exact ih (fun q hq => h q (List.mem_cons_of_mem _ hq))
theorem z_lswd {dflt : Int} {ps : Array (Int × Int)} {len : Nat} {x : Int} {tgt : Nat} (hexec : p.tables.exec = Jvm.exec) (hb : c.code = cc) (hx : iR x) (hdg : decode cc pc = .ok (.lookupswitch dflt ps, len)) (hp : (ps.toList.zip (ps.toList.drop 1)).all (fun (a, next) => a.1 < next.1) = true) (h : ∀ q ∈ ps.toList, q.1 ≠ x) (ht : (pc : Int) + dflt = (tgt : Int))
    (kk : W p l e R s m args below meth c H locs cells slots Q (F0 m tgt ls rest)) : W p l e R s m args below meth c H locs cells slots Q (F0 m pc ls (.int (iV x) :: rest)) := lv_lookup hexec hb hdg hp (by rw [iV_toInt hx]; exact z_osd _ _ _ h) ht kk
theorem z_callVwv {own C : String} {index : Nat} {y : MethodName} {bytes : ByteArray} {maxL nL n : Nat} {ret : Option FieldType} {rm : Room} {As st : List Value} {wc w w1 w2 : va_W} {b : Nat} {ci : Nat} {fs : List Value} {T : u_T} {N : Nat}
    (X : p.tables.exec = Jvm.exec ∧ c.code = cc ∧ c.maxLocals = nL ∧ s.vm.findClass own = some m.cls ∧ (∀ w ∈ zT, w.before args s = true) ∧ zK G s ∧ zSt A s s.heap ∧ ∀ q, s.heap.size ≤ q → A q)
    (hP : va_P G.1 vwCl w H) (hD : va_D A w) (hS : va_S A s.heap H locs) (hls : ls.size = nL)
    (hM : Met l y (Cond.code y bytes maxL ret :: zT) rm (zPw G (.ref b :: As) wc H.size) (zQv G wc w1 H.size) 0 0 (va_A wc H.size))
    (hlink : Cond.methodLink own index y ∈ zT) (hm : zM C y bytes maxL ret n)
    (hR : rm.cells = 0 ∧ rm.slots = 0 ∧ rm.frames + 1 ≤ R.frames ∧ 8 + (maxL + 11) + rm.locals ≤ R.locals)
    (isC isR : List Nat) (c1 : isC.map (fun i => w[i]?) = wc.map some) (c2 : isC.map (fun i => w2[i]?) = w1.map some) (c3 : isR.map (fun i => w2[i]?) = isR.map (fun i => w[i]?))
    (c4 : (List.range w2.length).all (fun i => isR.contains i || isC.contains i) = true ∧ va_nd isC = true) (c5 : w2.map Prod.fst = w.map Prod.fst) (c6 : isR.all (fun i => !isC.contains i) = true) (q0 : Nat) (hr1 : wc[q0]? = some (b, .inr (ci, fs))) (hr2 : vwCl[ci]? = some (C, T, N))
    (hn : As.length = n) (hst : st = As.reverse ++ .ref b :: rest) (hrest : (rest.map fun v => v.category).sum ≤ 8)
    (hdg : decode cc pc = .ok (.invokevirtual index, 3)) (hcs : cells ≤ R.cells ∧ slots ≤ R.slots)
    (kk : ∀ (H1 : Heap) (locs1 : List Loc), va_P G.1 vwCl w2 H1 → va_D A w2 → va_S A s.heap H1 locs1 → W p l e R s m args below meth c H1 locs1 cells slots Q (F0 m (pc + 3) ls rest)) : W p l e R s m args below meth c H locs cells slots Q (F0 m pc ls st) := by
  subst hst
  obtain ⟨hx, hb, hml, hown, hts, hK, hSt, hA⟩ := X
  have hPc := hP.sub isC (z_fm c1)
  have hDc := hD.sub isC c4.2 c1
  have hF := va_free (wc := wc) hD hS hA isC c1
  refine va_callv (va_runV (As := As) (rest := rest) ⟨hx, hb, hml, hown, hts⟩ hM (zcwV hts hlink hm hR.1 hR.2.1 hR.2.2) ⟨zPw_blind, va_recv hK hPc (ci := ci) (q0 := q0) hr2 hr1, fun U hU hW => ⟨rfl, by rw [hU], by rw [hU]; exact hPc, va_K.moved hW.alike hK, hSt.call hS hF hU hW, hDc.weaken (fun _ _ _ _ => trivial)⟩⟩ rfl hn hls rfl (lv_room hrest) hdg hcs) hS (fun q _ h => hF q h) hF (fun u t H1 locs1 ht hvm hw hB hz hk hS1 => ?_)
  rw [ht] at hB
  obtain ⟨hP2, hD2⟩ := z_joinw hP hD isC isR c1 c2 c3 c4.1 c5 c6 hk hB
  exact kk H1 locs1 hP2 hD2 hS1
theorem z_callVw {own C : String} {index : Nat} {y : MethodName} {bytes : ByteArray} {maxL nL n : Nat} {ret : Option FieldType} {rm : Room} {As st : List Value} {wc w w1 w2 : va_W} {E : Int} {b : Nat} {ci : Nat} {fs : List Value} {T : u_T} {N : Nat}
    (X : p.tables.exec = Jvm.exec ∧ c.code = cc ∧ c.maxLocals = nL ∧ s.vm.findClass own = some m.cls ∧ (∀ w ∈ zT, w.before args s = true) ∧ zK G s ∧ zSt A s s.heap ∧ ∀ q, s.heap.size ≤ q → A q)
    (hP : va_P G.1 vwCl w H) (hD : va_D A w) (hS : va_S A s.heap H locs) (hls : ls.size = nL)
    (hM : Met l y (Cond.code y bytes maxL ret :: zT) rm (zPw G (.ref b :: As) wc H.size) (zQw G E wc w1 H.size) 0 0 (va_A wc H.size))
    (hlink : Cond.methodLink own index y ∈ zT) (hm : zM C y bytes maxL ret n)
    (hR : rm.cells = 0 ∧ rm.slots = 0 ∧ rm.frames + 1 ≤ R.frames ∧ 8 + (maxL + 11) + rm.locals ≤ R.locals)
    (isC isR : List Nat) (c1 : isC.map (fun i => w[i]?) = wc.map some) (c2 : isC.map (fun i => w2[i]?) = w1.map some) (c3 : isR.map (fun i => w2[i]?) = isR.map (fun i => w[i]?))
    (c4 : (List.range w2.length).all (fun i => isR.contains i || isC.contains i) = true ∧ va_nd isC = true) (c5 : w2.map Prod.fst = w.map Prod.fst) (c6 : isR.all (fun i => !isC.contains i) = true) (q0 : Nat) (hr1 : wc[q0]? = some (b, .inr (ci, fs))) (hr2 : vwCl[ci]? = some (C, T, N))
    (hn : As.length = n) (hst : st = As.reverse ++ .ref b :: rest) (hrest : (rest.map fun v => v.category).sum ≤ 8)
    (hdg : decode cc pc = .ok (.invokevirtual index, 3)) (hcs : cells ≤ R.cells ∧ slots ≤ R.slots)
    (kk : ∀ (H1 : Heap) (locs1 : List Loc), va_P G.1 vwCl w2 H1 → va_D A w2 → va_S A s.heap H1 locs1 → W p l e R s m args below meth c H1 locs1 cells slots Q (F0 m (pc + 3) ls (.int (iV E) :: rest))) : W p l e R s m args below meth c H locs cells slots Q (F0 m pc ls st) := by
  subst hst
  obtain ⟨hx, hb, hml, hown, hts, hK, hSt, hA⟩ := X
  have hPc := hP.sub isC (z_fm c1)
  have hDc := hD.sub isC c4.2 c1
  have hF := va_free (wc := wc) hD hS hA isC c1
  refine va_calli (va_runV (As := As) (rest := rest) ⟨hx, hb, hml, hown, hts⟩ hM (zcwV hts hlink hm hR.1 hR.2.1 hR.2.2) ⟨zPw_blind, va_recv hK hPc (ci := ci) (q0 := q0) hr2 hr1, fun U hU hW => ⟨rfl, by rw [hU], by rw [hU]; exact hPc, va_K.moved hW.alike hK, hSt.call hS hF hU hW, hDc.weaken (fun _ _ _ _ => trivial)⟩⟩ rfl hn hls rfl (lv_room hrest) hdg hcs) hS (fun q _ h => hF q h) hF (fun r u t H1 locs1 ht hvm hw hB hz hk hS1 => ?_)
  have hr : r = iV E := hw
  subst hr
  rw [ht] at hB
  obtain ⟨hP2, hD2⟩ := z_joinw hP hD isC isR c1 c2 c3 c4.1 c5 c6 hk hB
  exact kk H1 locs1 hP2 hD2 hS1
theorem z_callSwv {own C : String} {index : Nat} {y : MethodName} {bytes : ByteArray} {maxL nL n : Nat} {ret : Option FieldType} {rm : Room} {As st : List Value} {wc w w1 w2 : va_W}
    (X : p.tables.exec = Jvm.exec ∧ c.code = cc ∧ c.maxLocals = nL ∧ s.vm.findClass own = some m.cls ∧ (∀ w ∈ zT, w.before args s = true) ∧ zK G s ∧ zSt A s s.heap ∧ ∀ q, s.heap.size ≤ q → A q)
    (hP : va_P G.1 vwCl w H) (hD : va_D A w) (hS : va_S A s.heap H locs) (hls : ls.size = nL)
    (hM : Met l y (Cond.code y bytes maxL ret :: zT) rm (zPw G As wc H.size) (zQv G wc w1 H.size) 0 0 (va_A wc H.size))
    (hlink : Cond.methodLink own index y ∈ zT) (hm : zMs C y bytes maxL ret n)
    (hR : rm.cells = 0 ∧ rm.slots = 0 ∧ rm.frames + 1 ≤ R.frames ∧ 8 + (maxL + 11) + rm.locals ≤ R.locals)
    (isC isR : List Nat) (c1 : isC.map (fun i => w[i]?) = wc.map some) (c2 : isC.map (fun i => w2[i]?) = w1.map some) (c3 : isR.map (fun i => w2[i]?) = isR.map (fun i => w[i]?))
    (c4 : (List.range w2.length).all (fun i => isR.contains i || isC.contains i) = true ∧ va_nd isC = true) (c5 : w2.map Prod.fst = w.map Prod.fst) (c6 : isR.all (fun i => !isC.contains i) = true)
    (hn : As.length = n) (hst : st = As.reverse ++ rest) (hrest : (rest.map fun v => v.category).sum ≤ 8)
    (hdg : decode cc pc = .ok (.invokestatic index, 3)) (hcs : cells ≤ R.cells ∧ slots ≤ R.slots)
    (kk : ∀ (H1 : Heap) (locs1 : List Loc), va_P G.1 vwCl w2 H1 → va_D A w2 → va_S A s.heap H1 locs1 → W p l e R s m args below meth c H1 locs1 cells slots Q (F0 m (pc + 3) ls rest)) : W p l e R s m args below meth c H locs cells slots Q (F0 m pc ls st) := by
  subst hst
  obtain ⟨hx, hb, hml, hown, hts, hK, hSt, hA⟩ := X
  have hPc := hP.sub isC (z_fm c1)
  have hDc := hD.sub isC c4.2 c1
  have hF := va_free (wc := wc) hD hS hA isC c1
  refine va_callv (va_runS (As := As) (rest := rest) ⟨hx, hb, hml, hown, hts⟩ hM (zcwS hts hlink hm hR.1 hR.2.1 hR.2.2) ⟨zPw_blind, fun U hU hW => ⟨rfl, by rw [hU], by rw [hU]; exact hPc, va_K.moved hW.alike hK, hSt.call hS hF hU hW, hDc.weaken (fun _ _ _ _ => trivial)⟩⟩ rfl hn hls rfl (lv_room hrest) hdg hcs) hS (fun q _ h => hF q h) hF (fun u t H1 locs1 ht hvm hw hB hz hk hS1 => ?_)
  rw [ht] at hB
  obtain ⟨hP2, hD2⟩ := z_joinw hP hD isC isR c1 c2 c3 c4.1 c5 c6 hk hB
  exact kk H1 locs1 hP2 hD2 hS1
theorem z_callSw {own C : String} {index : Nat} {y : MethodName} {bytes : ByteArray} {maxL nL n : Nat} {ret : Option FieldType} {rm : Room} {As st : List Value} {wc w w1 w2 : va_W} {E : Int}
    (X : p.tables.exec = Jvm.exec ∧ c.code = cc ∧ c.maxLocals = nL ∧ s.vm.findClass own = some m.cls ∧ (∀ w ∈ zT, w.before args s = true) ∧ zK G s ∧ zSt A s s.heap ∧ ∀ q, s.heap.size ≤ q → A q)
    (hP : va_P G.1 vwCl w H) (hD : va_D A w) (hS : va_S A s.heap H locs) (hls : ls.size = nL)
    (hM : Met l y (Cond.code y bytes maxL ret :: zT) rm (zPw G As wc H.size) (zQw G E wc w1 H.size) 0 0 (va_A wc H.size))
    (hlink : Cond.methodLink own index y ∈ zT) (hm : zMs C y bytes maxL ret n)
    (hR : rm.cells = 0 ∧ rm.slots = 0 ∧ rm.frames + 1 ≤ R.frames ∧ 8 + (maxL + 11) + rm.locals ≤ R.locals)
    (isC isR : List Nat) (c1 : isC.map (fun i => w[i]?) = wc.map some) (c2 : isC.map (fun i => w2[i]?) = w1.map some) (c3 : isR.map (fun i => w2[i]?) = isR.map (fun i => w[i]?))
    (c4 : (List.range w2.length).all (fun i => isR.contains i || isC.contains i) = true ∧ va_nd isC = true) (c5 : w2.map Prod.fst = w.map Prod.fst) (c6 : isR.all (fun i => !isC.contains i) = true)
    (hn : As.length = n) (hst : st = As.reverse ++ rest) (hrest : (rest.map fun v => v.category).sum ≤ 8)
    (hdg : decode cc pc = .ok (.invokestatic index, 3)) (hcs : cells ≤ R.cells ∧ slots ≤ R.slots)
    (kk : ∀ (H1 : Heap) (locs1 : List Loc), va_P G.1 vwCl w2 H1 → va_D A w2 → va_S A s.heap H1 locs1 → W p l e R s m args below meth c H1 locs1 cells slots Q (F0 m (pc + 3) ls (.int (iV E) :: rest))) : W p l e R s m args below meth c H locs cells slots Q (F0 m pc ls st) := by
  subst hst
  obtain ⟨hx, hb, hml, hown, hts, hK, hSt, hA⟩ := X
  have hPc := hP.sub isC (z_fm c1)
  have hDc := hD.sub isC c4.2 c1
  have hF := va_free (wc := wc) hD hS hA isC c1
  refine va_calli (va_runS (As := As) (rest := rest) ⟨hx, hb, hml, hown, hts⟩ hM (zcwS hts hlink hm hR.1 hR.2.1 hR.2.2) ⟨zPw_blind, fun U hU hW => ⟨rfl, by rw [hU], by rw [hU]; exact hPc, va_K.moved hW.alike hK, hSt.call hS hF hU hW, hDc.weaken (fun _ _ _ _ => trivial)⟩⟩ rfl hn hls rfl (lv_room hrest) hdg hcs) hS (fun q _ h => hF q h) hF (fun r u t H1 locs1 ht hvm hw hB hz hk hS1 => ?_)
  have hr : r = iV E := hw
  subst hr
  rw [ht] at hB
  obtain ⟨hP2, hD2⟩ := z_joinw hP hD isC isR c1 c2 c3 c4.1 c5 c6 hk hB
  exact kk H1 locs1 hP2 hD2 hS1
end ZI
