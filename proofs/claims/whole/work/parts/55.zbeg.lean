theorem bg_K {args : Array Value} {s : State} (hts : ∀ w ∈ lw_tbl, w.before args s = true) : ∃ G : zG, zK G s := by
  have hz : ∀ w ∈ zT, w.before args s = true := fun w h => hts w (zt_in h)
  obtain ⟨c0, i0, k0⟩ := u_known hz inX0 (hz _ wd_32)
  obtain ⟨c1, i1, k1⟩ := u_known hz inX1 (hz _ wd_135)
  obtain ⟨c2, i2, k2⟩ := u_known hz inX2 (hz _ wd_188)
  obtain ⟨c3, i3, k3⟩ := u_known hz inX3 (hz _ wd_97)
  obtain ⟨c4, i4, k4⟩ := u_known hz inX4 (hz _ wd_26)
  obtain ⟨c5, i5, k5⟩ := u_known hz inX5 (hz _ wd_117)
  obtain ⟨c6, i6, k6⟩ := u_known hz inX6 (hz _ wd_153)
  obtain ⟨c7, i7, k7⟩ := u_known hz inX7 (hz _ wd_53)
  obtain ⟨c8, i8, k8⟩ := u_known hz inX8 (hz _ wd_18)
  obtain ⟨c9, i9, k9⟩ := u_known hz inX9 (hz _ wd_745)
  obtain ⟨cI, dI, pI, fI, gI, hI⟩ := Cond.arrayClass_spec (hz _ wd_51)
  obtain ⟨cZ, dZ, pZ, fZ, gZ, hZ⟩ := Cond.arrayClass_spec (hz _ wd_200)
  obtain ⟨cC, dC, pC, fC, gC, hC⟩ := Cond.arrayClass_spec (hz _ wd_133)
  obtain ⟨pO, cO, dO, fO, nO, gO, hO, jO⟩ := Cond.arrayOver_spec (hts _ wd_103)
  refine ⟨(((fun j : Nat => match j with | 0 => c0 | 1 => c1 | 2 => c2 | 3 => c3 | 4 => c4 | 5 => c5 | 6 => c6 | 7 => c7 | 8 => c8 | _ => c9), (fun j : Nat => match j with | 0 => i0 | 1 => i1 | 2 => i2 | 3 => i3 | 4 => i4 | 5 => i5 | 6 => i6 | 7 => i7 | 8 => i8 | _ => i9)), cI, cZ, cC, cO), fun c q hq => ?_, fun k q hk => ?_⟩
  · match c, hq with
    | 0, hq => have e : (RX0, TX0, 3) = q := Option.some.inj hq; subst e; exact k0
    | 1, hq => have e : (RX1, TX1, 3) = q := Option.some.inj hq; subst e; exact k1
    | 2, hq => have e : (RX2, TX2, 2) = q := Option.some.inj hq; subst e; exact k2
    | 3, hq => have e : (RX3, TX3, 3) = q := Option.some.inj hq; subst e; exact k3
    | 4, hq => have e : (RX4, TX4, 4) = q := Option.some.inj hq; subst e; exact k4
    | 5, hq => have e : (RX5, TX5, 3) = q := Option.some.inj hq; subst e; exact k5
    | 6, hq => have e : (RX6, TX6, 9) = q := Option.some.inj hq; subst e; exact k6
    | 7, hq => have e : (RX7, TX7, 4) = q := Option.some.inj hq; subst e; exact k7
    | 8, hq => have e : (RX8, TX8, 7) = q := Option.some.inj hq; subst e; exact k8
    | 9, hq => have e : (RX9, TX9, 18) = q := Option.some.inj hq; subst e; exact k9
    | n + 10, hq => exact absurd (show (none : Option vw_C) = some q from hq) (fun h => by cases h)
  · match k, hk with
    | 0, hk => have e : (cI, FieldType.int) = q := Option.some.inj hk; subst e; exact ⟨fun n z => ⟨fun k h => (by cases h), dI, gI, pI, hI⟩, fI⟩
    | 1, hk => have e : (cZ, FieldType.boolean) = q := Option.some.inj hk; subst e; exact ⟨fun n z => ⟨fun k h => (by cases h), dZ, gZ, pZ, hZ⟩, fZ⟩
    | 2, hk => have e : (cC, FieldType.char) = q := Option.some.inj hk; subst e; exact ⟨fun n z => ⟨fun k h => (by cases h), dC, gC, pC, hC⟩, fC⟩
    | 3, hk => have e : (cO, FieldType.object "HillStrokes$Picture") = q := Option.some.inj hk; subst e; exact ⟨fun n z => ⟨fun k h => (by cases h), dO, gO, pO, hO⟩, dO, pO, gO, hO, fO, jO⟩
    | n + 4, hk => exact absurd (show (none : Option (ClassId × FieldType)) = some q from hk) (fun h => by cases h)
theorem bg_eR : ∀ j : Nat, j < 8 → Cond.eq (Term.elem (Term.static "HillStrokes" "STEP_RIGHT" "[I") (.int (Int32.ofNat j))) (.int (iV (zR j))) ∈ flatC (Jvm.Cond.and given_1 narrow_1) := by decide +kernel
theorem bg_tR {args : Array Value} {s : State} (hts : ∀ w ∈ lw_tbl, w.before args s = true) (hs : ∀ w ∈ flatC (Jvm.Cond.and given_1 narrow_1), w.before args s = true) : ∃ t : Nat, va_Z "HillStrokes" "STEP_RIGHT" "[I" (.ref t) (fun q => s.heap.size ≤ q) s s.heap ∧ va_T .int t 8 (fun k => .int (iV (zR k))) (fun q => s.heap.size ≤ q) s s.heap := by
  have hA : ∀ a : Nat, a < s.heap.size → ¬ (fun q : Nat => s.heap.size ≤ q) a := fun a h => Nat.not_le.mpr h
  obtain ⟨t, ht, hT⟩ := va_Tof (args := args) (tm := (Term.static "HillStrokes" "STEP_RIGHT" "[I")) (ty := .int) (N := 8) (f := fun k => .int (iV (zR k))) (by decide) (hs _ (by decide +kernel)) (va_eqt (hs _ (by decide +kernel))) (fun j hj => va_eqt (hs _ (bg_eR j hj))) hA
  exact ⟨t, va_Zref (hts _ wd_461) (hts _ (zt_in wd_1)) ht hA, hT⟩
theorem bg_eB : ∀ j : Nat, j < 8 → Cond.eq (Term.elem (Term.static "HillStrokes" "STEP_DOWN" "[I") (.int (Int32.ofNat j))) (.int (iV (zB j))) ∈ flatC (Jvm.Cond.and given_1 narrow_1) := by decide +kernel
theorem bg_tB {args : Array Value} {s : State} (hts : ∀ w ∈ lw_tbl, w.before args s = true) (hs : ∀ w ∈ flatC (Jvm.Cond.and given_1 narrow_1), w.before args s = true) : ∃ t : Nat, va_Z "HillStrokes" "STEP_DOWN" "[I" (.ref t) (fun q => s.heap.size ≤ q) s s.heap ∧ va_T .int t 8 (fun k => .int (iV (zB k))) (fun q => s.heap.size ≤ q) s s.heap := by
  have hA : ∀ a : Nat, a < s.heap.size → ¬ (fun q : Nat => s.heap.size ≤ q) a := fun a h => Nat.not_le.mpr h
  obtain ⟨t, ht, hT⟩ := va_Tof (args := args) (tm := (Term.static "HillStrokes" "STEP_DOWN" "[I")) (ty := .int) (N := 8) (f := fun k => .int (iV (zB k))) (by decide) (hs _ (by decide +kernel)) (va_eqt (hs _ (by decide +kernel))) (fun j hj => va_eqt (hs _ (bg_eB j hj))) hA
  exact ⟨t, va_Zref (hts _ wd_463) (hts _ (zt_in wd_1)) ht hA, hT⟩
theorem bg_St {args : Array Value} {s : State} (hts : ∀ w ∈ lw_tbl, w.before args s = true) (hs : ∀ w ∈ flatC (Jvm.Cond.and given_1 narrow_1), w.before args s = true) : zSt (fun q => s.heap.size ≤ q) s s.heap := ⟨bg_tR hts hs, bg_tB hts hs, va_Nw.of rfl (hts _ wd_460), va_Nw.of rfl (hts _ wd_462)⟩
theorem bg_Nw {args : Array Value} {s : State} (hts : ∀ w ∈ lw_tbl, w.before args s = true) : zNw s := by
  refine ⟨fun q hq => ?_, va_AO.of (hts _ wd_103)⟩
  rcases List.mem_cons.mp hq with rfl | hq
  · exact va_Nw.of rfl (hts _ wd_27)
  rcases List.mem_cons.mp hq with rfl | hq
  · exact va_Nw.of rfl (hts _ wd_33)
  rcases List.mem_cons.mp hq with rfl | hq
  · exact va_Nw.of rfl (hts _ wd_54)
  rcases List.mem_cons.mp hq with rfl | hq
  · exact va_Nw.of rfl (hts _ wd_104)
  rcases List.mem_cons.mp hq with rfl | hq
  · exact va_Nw.of rfl (hts _ wd_118)
  rcases List.mem_cons.mp hq with rfl | hq
  · exact va_Nw.of rfl (hts _ wd_136)
  rcases List.mem_cons.mp hq with rfl | hq
  · exact va_Nw.of rfl (hts _ wd_154)
  rcases List.mem_cons.mp hq with rfl | hq
  · exact va_Nw.of rfl (hts _ wd_189)
  exact absurd hq List.not_mem_nil
theorem bg_eS : ∀ j : Nat, j < 76 → Cond.eq (Term.elem (Term.field (Term.string "HillStrokes" 54) "java/lang/String" "value" "[B") (.int (Int32.ofNat j))) (.int (iV (zTx j))) ∈ flatC (Jvm.Cond.and given_1 narrow_1) := by decide +kernel
theorem bg_Str {args : Array Value} {s : State} (hts : ∀ w ∈ lw_tbl, w.before args s = true) (hs : ∀ w ∈ flatC (Jvm.Cond.and given_1 narrow_1), w.before args s = true) : ∃ q v : Nat, zStr q v (fun q => s.heap.size ≤ q) s s.heap ∧ vk_R RX8 54 "g77;r0012100;r0135310;r1258521;r1369631;r0257520;r0134310;r0011100;l7007;s4;" q s := by
  have hA : ∀ a : Nat, a < s.heap.size → ¬ (fun q : Nat => s.heap.size ≤ q) a := fun a h => Nat.not_le.mpr h
  have hex : (Cond.exactly (Term.string "HillStrokes" 54) "java/lang/String").before args s = true := hs _ (by decide +kernel)
  obtain ⟨a, c, cA, kA, q1, q2, q3, q4, q5, q6, -⟩ := Cond.exactly_spec (args := args) (first := s) (o := none) (s := s) (idx := []) (t := (Term.string "HillStrokes" 54)) (cls := "java/lang/String") hex
  obtain ⟨t, ht, hT⟩ := va_Tof (args := args) (tm := (Term.field (Term.string "HillStrokes" 54) "java/lang/String" "value" "[B")) (ty := .byte) (N := 76) (f := fun j => .int (iV (zTx j))) (A := fun q => s.heap.size ≤ q) (by decide) (hs _ (by decide +kernel)) (va_eqt (hs _ (by decide +kernel))) (fun j hj => va_eqt (hs _ (bg_eS j hj))) hA
  have hco : (Cond.eq (Term.field (Term.string "HillStrokes" 54) "java/lang/String" "coder" "B") (.int (iV 0))).before args s = true := hs _ (by decide +kernel)
  have hcs : (Cond.eq (Term.static "java/lang/String" "COMPACT_STRINGS" "Z") (.int (iV 1))).before args s = true := hs _ (by decide +kernel)
  refine ⟨a, t, ⟨⟨cA, q3, q5, by rw [q6]; exact q2, hA a (Array.getElem?_eq_some_iff.mp q3).1⟩, vk_OFof q1 (va_eqt hco) hA, vk_OFof q1 ht hA, hT, va_Zof (hts _ wd_215) (hts _ (zt_in wd_10)) (va_eqt hcs) hA, va_Zqof (hts _ wd_231) (hts _ (zt_in wd_12)) (hs _ (by decide +kernel)) hA⟩, ?_⟩
  exact vk_R.of (A := args) (hts _ wd_201) q1
