/-! ints of the machine as whole numbers -/
def iV (z : Int) : Int32 := Int32.ofInt z
abbrev iR (z : Int) : Prop := -2147483648 ≤ z ∧ z < 2147483648
theorem iV_toInt {z : Int} (h : iR z) : (iV z).toInt = z := Int32.toInt_ofInt_of_le h.1 h.2
theorem iV_of (v : Int32) : iV v.toInt = v := Int32.ofInt_toInt v
theorem iR_of (v : Int32) : iR v.toInt := ⟨Int32.le_toInt v, Int32.toInt_lt v⟩
theorem iV_add (a b : Int) : iV a + iV b = iV (a + b) := (Int32.ofInt_add a b).symm
theorem iV_sub (a b : Int) : iV a - iV b = iV (a - b) := (Int32.ofInt_sub a b).symm
theorem iV_mul (a b : Int) : iV a * iV b = iV (a * b) := (Int32.ofInt_mul a b).symm
theorem iV_neg (a : Int) : -iV a = iV (-a) := (Int32.ofInt_neg a).symm
theorem iV_inj {a b : Int} (ha : iR a) (hb : iR b) (h : iV a = iV b) : a = b := by rw [← iV_toInt ha, ← iV_toInt hb, h]
theorem iV_lt {a b : Int} (ha : iR a) (hb : iR b) : iV a < iV b ↔ a < b := by rw [Int32.lt_iff_toInt_lt, iV_toInt ha, iV_toInt hb]
theorem iV_le {a b : Int} (ha : iR a) (hb : iR b) : iV a ≤ iV b ↔ a ≤ b := by rw [Int32.le_iff_toInt_le, iV_toInt ha, iV_toInt hb]
theorem iV_nat {z : Int} (h : iR z) : (iV z).toNatClampNeg = z.toNat := Int32.toNatClampNeg_ofInt_of_le h.1 h.2
theorem iV_in {z : Int} {n : Nat} (h0 : 0 ≤ z) (h1 : z < n) (hn : n < 2147483648) : vp_in (iV z) n := by
  have hr : iR z := ⟨by omega, by omega⟩
  rw [vp_in_iff, iV_toInt hr]; exact ⟨h0, h1⟩
theorem iV_div {a b : Int} (h0 : 0 ≤ a) (ha : a < 2147483648) (hb0 : 0 < b) (hb : b < 2147483648) : iV a / iV b = iV (a / b) := by
  have hra : iR a := ⟨by omega, ha⟩
  have hrb : iR b := ⟨by omega, hb⟩
  have hq : a / b ≤ a := Int.ediv_le_self b h0
  have hq0 : 0 ≤ a / b := Int.ediv_nonneg h0 (by omega)
  apply Int32.toInt_inj.mp
  rw [Int32.toInt_div_of_ne_right _ _ (by intro h; have := congrArg Int32.toInt h; rw [iV_toInt hrb] at this; simp at this; omega), iV_toInt hra, iV_toInt hrb, iV_toInt ⟨by omega, by omega⟩, Int.tdiv_eq_ediv_of_nonneg h0]
theorem iV_mod {a b : Int} (h0 : 0 ≤ a) (ha : a < 2147483648) (hb0 : 0 < b) (hb : b < 2147483648) : iV a % iV b = iV (a % b) := by
  have hra : iR a := ⟨by omega, ha⟩
  have hrb : iR b := ⟨by omega, hb⟩
  have hq : a % b < b := Int.emod_lt_of_pos a hb0
  have hq0 : 0 ≤ a % b := Int.emod_nonneg a (by omega)
  apply Int32.toInt_inj.mp
  rw [Int32.toInt_mod, iV_toInt hra, iV_toInt hrb, iV_toInt ⟨by omega, by omega⟩, Int.tmod_eq_emod_of_nonneg h0]
/-- truth as a number -/
noncomputable def bP (q : Prop) : Int := @ite Int q (Classical.propDecidable q) 1 0
theorem bP_t {q : Prop} (h : q) : bP q = 1 := by unfold bP; exact if_pos h
theorem bP_f {q : Prop} (h : ¬ q) : bP q = 0 := by unfold bP; exact if_neg h
theorem bP_r (q : Prop) : 0 ≤ bP q ∧ bP q ≤ 1 := by
  by_cases h : q
  · rw [bP_t h]; omega
  · rw [bP_f h]; omega
theorem bP_c {q r : Prop} (h : q ↔ r) : bP q = bP r := by
  by_cases hq : q
  · rw [bP_t hq, bP_t (h.mp hq)]
  · rw [bP_f hq, bP_f (fun x => hq (h.mpr x))]
theorem bP_0 {q : Prop} (h : bP q = 0) : ¬ q := fun hq => by rw [bP_t hq] at h; omega
theorem bP_1 {q : Prop} (h : ¬ bP q = 0) : q := by
  by_cases hq : q
  · exact hq
  · exact absurd (bP_f hq) h
def zabs (z : Int) : Int := if 0 ≤ z then z else -z
theorem iV_abs {z : Int} (h : iR z) : (if (0 : Int32) ≤ iV z then iV z else 0 - iV z) = iV (zabs z) := by
  have h0 : (0 : Int32) = iV 0 := rfl
  unfold zabs
  rw [h0]
  by_cases hz : 0 ≤ z
  · rw [if_pos ((iV_le ⟨by omega, by omega⟩ h).mpr hz), if_pos hz]
  · rw [if_neg (fun q => hz ((iV_le ⟨by omega, by omega⟩ h).mp q)), if_neg hz, iV_sub]
    congr 1; omega
/-- an array of ints as a row of whole numbers -/
def uI (g : Nat → Int) (i : Nat) (v : Int) : Nat → Int := fun k => if k = i then v else g k
theorem uI_eq (g : Nat → Int) (i : Nat) (v : Int) : upd (fun k => iV (g k)) i (iV v) = fun k => iV (uI g i v k) := by
  funext k
  unfold upd uI
  by_cases h : k = i
  · simp [h]
  · simp [h]
theorem uI_same (g : Nat → Int) (i : Nat) (v : Int) : uI g i v i = v := by simp [uI]
theorem uI_ne (g : Nat → Int) {i k : Nat} (v : Int) (h : k ≠ i) : uI g i v k = g k := by simp [uI, h]
theorem iV_rem {a b : Int} (h0 : 0 ≤ a) (ha : a < 2147483648) (hb0 : 0 < b) (hb : b < 2147483648) : iV a - iV a / iV b * iV b = iV (a % b) := by
  rw [iV_div h0 ha hb0 hb, iV_mul, iV_sub]
  congr 1
  have := Int.mul_ediv_add_emod a b
  rw [Int.mul_comm] at this
  omega
theorem iV_ne0 {b : Int} (hb0 : 0 < b) (hb : b < 2147483648) : ¬ iV b = 0 := fun h => by
  have h2 : b = 0 := iV_inj ⟨by omega, hb⟩ ⟨by omega, by omega⟩ (h.trans rfl)
  omega
theorem zr0 : iR 0 := ⟨by omega, by omega⟩
theorem bP_R (q : Prop) : iR (bP q) := by have := bP_r q; exact ⟨by omega, by omega⟩
section ZR
variable {p : Program} {l : Launch} {e : Env} {R : Room} {s : State} {m : MethodId} {args : Array Value} {below : List Frame} {meth : Method} {c : Code} {H : Heap} {locs : List Loc} {cells slots : Nat} {Q : State → Prop}
variable {cc : ByteArray} {pc : Nat} {ls : Array Slot} {rest : List Value}
theorem z_top {x : Int32} {z : Int} (h : x = iV z) (k : W p l e R s m args below meth c H locs cells slots Q (F0 m pc ls (.int (iV z) :: rest))) : W p l e R s m args below meth c H locs cells slots Q (F0 m pc ls (.int x :: rest)) := by rw [h]; exact k
theorem z_eq {a z : Int} (h : a = z) (k : W p l e R s m args below meth c H locs cells slots Q (F0 m pc ls (.int (iV z) :: rest))) : W p l e R s m args below meth c H locs cells slots Q (F0 m pc ls (.int (iV a) :: rest)) := by rw [h]; exact k
theorem z_iadd (hexec : p.tables.exec = Jvm.exec) (hb : c.code = cc) {x y : Int} (hdg : decode cc pc = .ok (.iadd, 1)) (k : W p l e R s m args below meth c H locs cells slots Q (F0 m (pc + 1) ls (.int (iV (x + y)) :: rest))) : W p l e R s m args below meth c H locs cells slots Q (F0 m pc ls (.int (iV y) :: .int (iV x) :: rest)) := lv_iadd hexec hb hdg (z_top (iV_add x y) k)
theorem z_isub (hexec : p.tables.exec = Jvm.exec) (hb : c.code = cc) {x y : Int} (hdg : decode cc pc = .ok (.isub, 1)) (k : W p l e R s m args below meth c H locs cells slots Q (F0 m (pc + 1) ls (.int (iV (x - y)) :: rest))) : W p l e R s m args below meth c H locs cells slots Q (F0 m pc ls (.int (iV y) :: .int (iV x) :: rest)) := lv_isub hexec hb hdg (z_top (iV_sub x y) k)
theorem z_imul (hexec : p.tables.exec = Jvm.exec) (hb : c.code = cc) {x y : Int} (hdg : decode cc pc = .ok (.imul, 1)) (k : W p l e R s m args below meth c H locs cells slots Q (F0 m (pc + 1) ls (.int (iV (x * y)) :: rest))) : W p l e R s m args below meth c H locs cells slots Q (F0 m pc ls (.int (iV y) :: .int (iV x) :: rest)) := lv_imul hexec hb hdg (z_top (iV_mul x y) k)
theorem z_ineg (hexec : p.tables.exec = Jvm.exec) (hb : c.code = cc) {x : Int} (hdg : decode cc pc = .ok (.ineg, 1)) (k : W p l e R s m args below meth c H locs cells slots Q (F0 m (pc + 1) ls (.int (iV (-x)) :: rest))) : W p l e R s m args below meth c H locs cells slots Q (F0 m pc ls (.int (iV x) :: rest)) := lv_ineg hexec hb hdg (z_top (iV_neg x) k)
theorem z_idiv (hexec : p.tables.exec = Jvm.exec) (hb : c.code = cc) {x y : Int} (h0 : 0 ≤ x ∧ x < 2147483648) (h1 : 0 < y ∧ y < 2147483648) (hdg : decode cc pc = .ok (.idiv, 1)) (k : W p l e R s m args below meth c H locs cells slots Q (F0 m (pc + 1) ls (.int (iV (x / y)) :: rest))) : W p l e R s m args below meth c H locs cells slots Q (F0 m pc ls (.int (iV y) :: .int (iV x) :: rest)) := lv_idiv hexec hb hdg (iV_ne0 h1.1 h1.2) (z_top (iV_div h0.1 h0.2 h1.1 h1.2) k)
theorem z_irem (hexec : p.tables.exec = Jvm.exec) (hb : c.code = cc) {x y : Int} (h0 : 0 ≤ x ∧ x < 2147483648) (h1 : 0 < y ∧ y < 2147483648) (hdg : decode cc pc = .ok (.irem, 1)) (k : W p l e R s m args below meth c H locs cells slots Q (F0 m (pc + 1) ls (.int (iV (x % y)) :: rest))) : W p l e R s m args below meth c H locs cells slots Q (F0 m pc ls (.int (iV y) :: .int (iV x) :: rest)) := lv_irem hexec hb hdg (iV_ne0 h1.1 h1.2) (z_top (iV_rem h0.1 h0.2 h1.1 h1.2) k)
theorem z_iinc (hexec : p.tables.exec = Jvm.exec) (hb : c.code = cc) {i nL k : Nat} {n x : Int} {lv lv' : List (Nat × Value)} (hdg : decode cc pc = .ok (.iinc i n, 3)) (h : lv_has ls nL lv) (hk : lv[k]? = some (i, .int (iV x))) (hn : i < nL) (hl : (i, Value.int (iV (x + n))) :: lv.filter (fun q => !(q.1 == i) && !(q.1 + 1 == i && q.2.category == 2)) = lv')
    (kk : ∀ ls' : Array Slot, lv_has ls' nL lv' → W p l e R s m args below meth c H locs cells slots Q (F0 m (pc + 3) ls' rest)) : W p l e R s m args below meth c H locs cells slots Q (F0 m pc ls rest) := lv_iinc hexec hb hdg h hk (iV_add x n) hn hl kk
theorem z_icmp_eq (hexec : p.tables.exec = Jvm.exec) (hb : c.code = cc) {x y : Int} {off : Int} {tgt : Nat} (hx : iR x) (hy : iR y) (hdg : decode cc pc = .ok (.if_icmp .eq off, 3)) (ht : (pc : Int) + off = (tgt : Int))
    (kt : x = y → W p l e R s m args below meth c H locs cells slots Q (F0 m tgt ls rest)) (kf : ¬ x = y → W p l e R s m args below meth c H locs cells slots Q (F0 m (pc + 3) ls rest)) : W p l e R s m args below meth c H locs cells slots Q (F0 m pc ls (.int (iV y) :: .int (iV x) :: rest)) := lv_icmp_eq hexec hb hdg ht (fun q => kt (iV_inj hx hy q)) (fun q => kf (fun h => q (by rw [h])))
theorem z_if_eq (hexec : p.tables.exec = Jvm.exec) (hb : c.code = cc) {x : Int} {off : Int} {tgt : Nat} (hx : iR x) (hdg : decode cc pc = .ok (.ifCond .eq off, 3)) (ht : (pc : Int) + off = (tgt : Int))
    (kt : x = 0 → W p l e R s m args below meth c H locs cells slots Q (F0 m tgt ls rest)) (kf : ¬ x = 0 → W p l e R s m args below meth c H locs cells slots Q (F0 m (pc + 3) ls rest)) : W p l e R s m args below meth c H locs cells slots Q (F0 m pc ls (.int (iV x) :: rest)) := lv_if_eq hexec hb hdg ht (fun q => kt (iV_inj hx zr0 q)) (fun q => kf (fun h => q (by rw [h]; rfl)))
theorem z_icmp_ne (hexec : p.tables.exec = Jvm.exec) (hb : c.code = cc) {x y : Int} {off : Int} {tgt : Nat} (hx : iR x) (hy : iR y) (hdg : decode cc pc = .ok (.if_icmp .ne off, 3)) (ht : (pc : Int) + off = (tgt : Int))
    (kt : ¬ x = y → W p l e R s m args below meth c H locs cells slots Q (F0 m tgt ls rest)) (kf : x = y → W p l e R s m args below meth c H locs cells slots Q (F0 m (pc + 3) ls rest)) : W p l e R s m args below meth c H locs cells slots Q (F0 m pc ls (.int (iV y) :: .int (iV x) :: rest)) := lv_icmp_ne hexec hb hdg ht (fun q => kt (fun h => q (by rw [h]))) (fun q => kf (iV_inj hx hy q))
theorem z_if_ne (hexec : p.tables.exec = Jvm.exec) (hb : c.code = cc) {x : Int} {off : Int} {tgt : Nat} (hx : iR x) (hdg : decode cc pc = .ok (.ifCond .ne off, 3)) (ht : (pc : Int) + off = (tgt : Int))
    (kt : ¬ x = 0 → W p l e R s m args below meth c H locs cells slots Q (F0 m tgt ls rest)) (kf : x = 0 → W p l e R s m args below meth c H locs cells slots Q (F0 m (pc + 3) ls rest)) : W p l e R s m args below meth c H locs cells slots Q (F0 m pc ls (.int (iV x) :: rest)) := lv_if_ne hexec hb hdg ht (fun q => kt (fun h => q (by rw [h]; rfl))) (fun q => kf (iV_inj hx zr0 q))
theorem z_icmp_lt (hexec : p.tables.exec = Jvm.exec) (hb : c.code = cc) {x y : Int} {off : Int} {tgt : Nat} (hx : iR x) (hy : iR y) (hdg : decode cc pc = .ok (.if_icmp .lt off, 3)) (ht : (pc : Int) + off = (tgt : Int))
    (kt : x < y → W p l e R s m args below meth c H locs cells slots Q (F0 m tgt ls rest)) (kf : ¬ x < y → W p l e R s m args below meth c H locs cells slots Q (F0 m (pc + 3) ls rest)) : W p l e R s m args below meth c H locs cells slots Q (F0 m pc ls (.int (iV y) :: .int (iV x) :: rest)) := lv_icmp_lt hexec hb hdg ht (fun q => kt ((iV_lt hx hy).mp q)) (fun q => kf (fun h => q ((iV_lt hx hy).mpr h)))
theorem z_if_lt (hexec : p.tables.exec = Jvm.exec) (hb : c.code = cc) {x : Int} {off : Int} {tgt : Nat} (hx : iR x) (hdg : decode cc pc = .ok (.ifCond .lt off, 3)) (ht : (pc : Int) + off = (tgt : Int))
    (kt : x < 0 → W p l e R s m args below meth c H locs cells slots Q (F0 m tgt ls rest)) (kf : ¬ x < 0 → W p l e R s m args below meth c H locs cells slots Q (F0 m (pc + 3) ls rest)) : W p l e R s m args below meth c H locs cells slots Q (F0 m pc ls (.int (iV x) :: rest)) := lv_if_lt hexec hb hdg ht (fun q => kt ((iV_lt hx zr0).mp q)) (fun q => kf (fun h => q ((iV_lt hx zr0).mpr h)))
theorem z_icmp_ge (hexec : p.tables.exec = Jvm.exec) (hb : c.code = cc) {x y : Int} {off : Int} {tgt : Nat} (hx : iR x) (hy : iR y) (hdg : decode cc pc = .ok (.if_icmp .ge off, 3)) (ht : (pc : Int) + off = (tgt : Int))
    (kt : y ≤ x → W p l e R s m args below meth c H locs cells slots Q (F0 m tgt ls rest)) (kf : ¬ y ≤ x → W p l e R s m args below meth c H locs cells slots Q (F0 m (pc + 3) ls rest)) : W p l e R s m args below meth c H locs cells slots Q (F0 m pc ls (.int (iV y) :: .int (iV x) :: rest)) := lv_icmp_ge hexec hb hdg ht (fun q => kt ((iV_le hy hx).mp q)) (fun q => kf (fun h => q ((iV_le hy hx).mpr h)))
theorem z_if_ge (hexec : p.tables.exec = Jvm.exec) (hb : c.code = cc) {x : Int} {off : Int} {tgt : Nat} (hx : iR x) (hdg : decode cc pc = .ok (.ifCond .ge off, 3)) (ht : (pc : Int) + off = (tgt : Int))
    (kt : 0 ≤ x → W p l e R s m args below meth c H locs cells slots Q (F0 m tgt ls rest)) (kf : ¬ 0 ≤ x → W p l e R s m args below meth c H locs cells slots Q (F0 m (pc + 3) ls rest)) : W p l e R s m args below meth c H locs cells slots Q (F0 m pc ls (.int (iV x) :: rest)) := lv_if_ge hexec hb hdg ht (fun q => kt ((iV_le zr0 hx).mp q)) (fun q => kf (fun h => q ((iV_le zr0 hx).mpr h)))
theorem z_icmp_gt (hexec : p.tables.exec = Jvm.exec) (hb : c.code = cc) {x y : Int} {off : Int} {tgt : Nat} (hx : iR x) (hy : iR y) (hdg : decode cc pc = .ok (.if_icmp .gt off, 3)) (ht : (pc : Int) + off = (tgt : Int))
    (kt : y < x → W p l e R s m args below meth c H locs cells slots Q (F0 m tgt ls rest)) (kf : ¬ y < x → W p l e R s m args below meth c H locs cells slots Q (F0 m (pc + 3) ls rest)) : W p l e R s m args below meth c H locs cells slots Q (F0 m pc ls (.int (iV y) :: .int (iV x) :: rest)) := lv_icmp_gt hexec hb hdg ht (fun q => kt ((iV_lt hy hx).mp q)) (fun q => kf (fun h => q ((iV_lt hy hx).mpr h)))
theorem z_if_gt (hexec : p.tables.exec = Jvm.exec) (hb : c.code = cc) {x : Int} {off : Int} {tgt : Nat} (hx : iR x) (hdg : decode cc pc = .ok (.ifCond .gt off, 3)) (ht : (pc : Int) + off = (tgt : Int))
    (kt : 0 < x → W p l e R s m args below meth c H locs cells slots Q (F0 m tgt ls rest)) (kf : ¬ 0 < x → W p l e R s m args below meth c H locs cells slots Q (F0 m (pc + 3) ls rest)) : W p l e R s m args below meth c H locs cells slots Q (F0 m pc ls (.int (iV x) :: rest)) := lv_if_gt hexec hb hdg ht (fun q => kt ((iV_lt zr0 hx).mp q)) (fun q => kf (fun h => q ((iV_lt zr0 hx).mpr h)))
theorem z_icmp_le (hexec : p.tables.exec = Jvm.exec) (hb : c.code = cc) {x y : Int} {off : Int} {tgt : Nat} (hx : iR x) (hy : iR y) (hdg : decode cc pc = .ok (.if_icmp .le off, 3)) (ht : (pc : Int) + off = (tgt : Int))
    (kt : x ≤ y → W p l e R s m args below meth c H locs cells slots Q (F0 m tgt ls rest)) (kf : ¬ x ≤ y → W p l e R s m args below meth c H locs cells slots Q (F0 m (pc + 3) ls rest)) : W p l e R s m args below meth c H locs cells slots Q (F0 m pc ls (.int (iV y) :: .int (iV x) :: rest)) := lv_icmp_le hexec hb hdg ht (fun q => kt ((iV_le hx hy).mp q)) (fun q => kf (fun h => q ((iV_le hx hy).mpr h)))
theorem z_if_le (hexec : p.tables.exec = Jvm.exec) (hb : c.code = cc) {x : Int} {off : Int} {tgt : Nat} (hx : iR x) (hdg : decode cc pc = .ok (.ifCond .le off, 3)) (ht : (pc : Int) + off = (tgt : Int))
    (kt : x ≤ 0 → W p l e R s m args below meth c H locs cells slots Q (F0 m tgt ls rest)) (kf : ¬ x ≤ 0 → W p l e R s m args below meth c H locs cells slots Q (F0 m (pc + 3) ls rest)) : W p l e R s m args below meth c H locs cells slots Q (F0 m pc ls (.int (iV x) :: rest)) := lv_if_le hexec hb hdg ht (fun q => kt ((iV_le hx zr0).mp q)) (fun q => kf (fun h => q ((iV_le hx zr0).mpr h)))
theorem z_ifb_eq (hexec : p.tables.exec = Jvm.exec) (hb : c.code = cc) {x : Prop} {off : Int} {tgt : Nat} (hdg : decode cc pc = .ok (.ifCond .eq off, 3)) (ht : (pc : Int) + off = (tgt : Int))
    (kt : ¬ x → W p l e R s m args below meth c H locs cells slots Q (F0 m tgt ls rest)) (kf : x → W p l e R s m args below meth c H locs cells slots Q (F0 m (pc + 3) ls rest)) : W p l e R s m args below meth c H locs cells slots Q (F0 m pc ls (.int (iV (bP x)) :: rest)) := z_if_eq hexec hb (bP_R x) hdg ht (fun q => kt (bP_0 q)) (fun q => kf (bP_1 q))
theorem z_ifb_ne (hexec : p.tables.exec = Jvm.exec) (hb : c.code = cc) {x : Prop} {off : Int} {tgt : Nat} (hdg : decode cc pc = .ok (.ifCond .ne off, 3)) (ht : (pc : Int) + off = (tgt : Int))
    (kt : x → W p l e R s m args below meth c H locs cells slots Q (F0 m tgt ls rest)) (kf : ¬ x → W p l e R s m args below meth c H locs cells slots Q (F0 m (pc + 3) ls rest)) : W p l e R s m args below meth c H locs cells slots Q (F0 m pc ls (.int (iV (bP x)) :: rest)) := z_if_ne hexec hb (bP_R x) hdg ht (fun q => kt (bP_1 q)) (fun q => kf (bP_0 q))
end ZR
