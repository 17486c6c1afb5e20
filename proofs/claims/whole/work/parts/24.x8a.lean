theorem c_X5_readInto_b (l : Launch) (G : zG) (sz : Nat) (k0 : Nat) (kl : Nat) (kn : Int) (tx : Nat → Int) (kr : Int) (aA : Nat → Nat) (pP : pT) (hkn : 0 ≤ kn ∧ kn ≤ 200) (htx : ∀ k : Nat, 0 ≤ tx k ∧ tx k < 128) (hO1 : pOK pP) : Met l yX5_readInto (Cond.code yX5_readInto cX5_readInto 5 (some .int) :: zT) (zRm 4 90) (zPw G [.ref k0, .ref (aA 0)] ([(k0, .inr (5, [.int (iV kn), .ref kl, .int (iV kr)])), (kl, .inl (G.2.2.2.1, 200, .inl (fun k => iV (tx k))))] ++ zPic G aA pP) sz) (zQw G (kRd tx kn 200 (pClear pP) 0 0).1 ([(k0, .inr (5, [.int (iV kn), .ref kl, .int (iV kr)])), (kl, .inl (G.2.2.2.1, 200, .inl (fun k => iV (tx k))))] ++ zPic G aA pP) ([(k0, .inr (5, [.int (iV kn), .ref kl, .int (iV ((kRd tx kn 200 (pClear pP) 0 0).2.2))])), (kl, .inl (G.2.2.2.1, 200, .inl (fun k => iV (tx k))))] ++ zPic G aA ((kRd tx kn 200 (pClear pP) 0 0).2.1)) sz) 0 0 (va_A ([(k0, .inr (5, [.int (iV kn), .ref kl, .int (iV kr)])), (kl, .inl (G.2.2.2.1, 200, .inl (fun k => iV (tx k))))] ++ zPic G aA pP) sz) := c_X5_readInto l G sz k0 kl kn tx kr aA pP hkn htx hO1
theorem kX8_number : zMs RX8 yX8_number cX8_number 2 (some .int) 2 := ⟨wd_381, wd_1, wd_382, rfl, by decide +kernel⟩
theorem kX8_orNone : zMs RX8 yX8_orNone cX8_orNone 1 (some .int) 1 := ⟨wd_481, wd_1, wd_482, rfl, by decide +kernel⟩
theorem kX8_isQuarter : zMs RX8 yX8_isQuarter cX8_isQuarter 1 (some .boolean) 1 := ⟨wd_424, wd_1, wd_425, rfl, by decide +kernel⟩
theorem kX8_isDirection : zMs RX8 yX8_isDirection cX8_isDirection 1 (some .boolean) 1 := ⟨wd_427, wd_1, wd_428, rfl, by decide +kernel⟩
theorem kX8_isShadeNumber : zMs RX8 yX8_isShadeNumber cX8_isShadeNumber 1 (some .boolean) 1 := ⟨wd_434, wd_1, wd_435, rfl, by decide +kernel⟩
theorem kX8_flow : zM RX8 yX8_flow cX8_flow 5 (some .int) 3 := ⟨wd_561, wd_562, wd_1, wd_563, rfl, by decide +kernel⟩
theorem kX8_basin : zM RX8 yX8_basin cX8_basin 3 (some .int) 2 := ⟨wd_578, wd_579, wd_1, wd_580, rfl, by decide +kernel⟩
theorem kX8_contrast : zM RX8 yX8_contrast cX8_contrast 3 (some .int) 2 := ⟨wd_588, wd_589, wd_1, wd_590, rfl, by decide +kernel⟩
theorem kX8_why : zM RX8 yX8_why cX8_why 3 (some .int) 2 := ⟨wd_667, wd_668, wd_1, wd_669, rfl, by decide +kernel⟩
theorem kX8_whose : zM RX8 yX8_whose cX8_whose 3 (some .int) 2 := ⟨wd_717, wd_718, wd_1, wd_719, rfl, by decide +kernel⟩
theorem kX8_stroke : zM RX8 yX8_stroke cX8_stroke 5 (some .int) 2 := ⟨wd_712, wd_713, wd_1, wd_714, rfl, by decide +kernel⟩
theorem kX8_count : zM RX8 yX8_count cX8_count 2 (some .int) 1 := ⟨wd_725, wd_726, wd_1, wd_727, rfl, by decide +kernel⟩
theorem kX8_write : zM RX8 yX8_write cX8_write 2 (some .int) 1 := ⟨wd_330, wd_331, wd_1, wd_332, rfl, by decide +kernel⟩
theorem kX8_wipe : zM RX8 yX8_wipe cX8_wipe 2 (some .int) 0 := ⟨wd_335, wd_336, wd_1, wd_337, rfl, by decide +kernel⟩
theorem kX8_fault : zM RX8 yX8_fault cX8_fault 1 (some .int) 0 := ⟨wd_339, wd_340, wd_1, wd_341, rfl, by decide +kernel⟩
theorem kX8_lay : zM RX8 yX8_lay cX8_lay 2 (some .int) 0 := ⟨wd_343, wd_344, wd_1, wd_345, rfl, by decide +kernel⟩
set_option maxHeartbeats 4000000 in
set_option maxRecDepth 100000 in
theorem c_X8_number (l : Launch) (G : zG) (sz : Nat) (xI : Int) (yI : Int) (hrxI : iR xI) (hryI : iR yI) : Met l yX8_number (Cond.code yX8_number cX8_number 2 (some .int) :: zT) (zRm 0 0) (zPr G [.int (iV xI), .int (iV yI)] [] sz) (zQr (9 * yI + xI) sz) 0 0 (zF sz) := by
  refine Met.ofW (cc := cX8_number) (maxL := 2) (ret := (some .int)) (by decide) rfl ?_
  intro p e s m args below meth c s₁ B hml hv
  obtain ⟨rfl, hsz, hP, hK, hSt⟩ := hv
  have hx := B.exec
  have hb := B.bytes
  have hr := B.returns
  have hts : ∀ w ∈ zT, w.before _ s = true := fun w h => atoms_spec (ws := (Cond.code yX8_number cX8_number 2 (some .int) :: zT)) B.pre w (List.mem_cons_of_mem _ h)
  have hown : s.vm.findClass RX8 = some m.cls := findClass_of_methodNamed B.named
  have hlocks := B.notSynchronized
  subst hsz
  have hA : ∀ q : Nat, s.heap.size ≤ q → zF s.heap.size q := fun _ h => h
  have hS : va_S (zF s.heap.size) s.heap s.heap [] := va_S.rf
  have hP : va_P G.1 vwCl [] s.heap := hP
  have X := And.intro hx (And.intro hb (And.intro hml (And.intro hown (And.intro hts (And.intro hK (And.intro hSt hA))))))
  have hl := lv_entry ([.int (iV xI), .int (iV yI)]) (n := 2) (Nat.le_of_ble_eq_true rfl)
  rw [lg_entry_eq]
  generalize (lg_sl ([.int (iV xI), .int (iV yI)]) ++ List.replicate (2 - (lg_sl ([.int (iV xI), .int (iV yI)])).length) Slot.unset).toArray = ls at hl ⊢
  have hl : lv_has ls 2 [(0, .int (iV xI)), (1, .int (iV yI))] := hl
  refine lv_bipush (v := iV 9) hx hb dX8_number_0 (by decide) ?_
  refine lv_iload_n hx hb dX8_number_2 rfl (lv_at hl 1 rfl) ?_
  refine z_imul hx hb dX8_number_3 ?_
  refine lv_iload_n hx hb dX8_number_4 rfl (lv_at hl 0 rfl) ?_
  refine z_iadd hx hb dX8_number_5 ?_
  refine z_eq (z := (9 * yI + xI)) (by first | rfl | omega) ?_
  exact z_ret hx hb hr hlocks hS dX8_number_6

set_option maxHeartbeats 4000000 in
set_option maxRecDepth 100000 in
theorem c_X8_orNone (l : Launch) (G : zG) (sz : Nat) (zI : Int) (hrzI : iR zI) : Met l yX8_orNone (Cond.code yX8_orNone cX8_orNone 1 (some .int) :: zT) (zRm 0 0) (zPr G [.int (iV zI)] [] sz) (zQr (cNone zI) sz) 0 0 (zF sz) := by
  refine Met.ofW (cc := cX8_orNone) (maxL := 1) (ret := (some .int)) (by decide) rfl ?_
  intro p e s m args below meth c s₁ B hml hv
  obtain ⟨rfl, hsz, hP, hK, hSt⟩ := hv
  have hx := B.exec
  have hb := B.bytes
  have hr := B.returns
  have hts : ∀ w ∈ zT, w.before _ s = true := fun w h => atoms_spec (ws := (Cond.code yX8_orNone cX8_orNone 1 (some .int) :: zT)) B.pre w (List.mem_cons_of_mem _ h)
  have hown : s.vm.findClass RX8 = some m.cls := findClass_of_methodNamed B.named
  have hlocks := B.notSynchronized
  subst hsz
  have hA : ∀ q : Nat, s.heap.size ≤ q → zF s.heap.size q := fun _ h => h
  have hS : va_S (zF s.heap.size) s.heap s.heap [] := va_S.rf
  have hP : va_P G.1 vwCl [] s.heap := hP
  have X := And.intro hx (And.intro hb (And.intro hml (And.intro hown (And.intro hts (And.intro hK (And.intro hSt hA))))))
  have hl := lv_entry ([.int (iV zI)]) (n := 1) (Nat.le_of_ble_eq_true rfl)
  rw [lg_entry_eq]
  generalize (lg_sl ([.int (iV zI)]) ++ List.replicate (1 - (lg_sl ([.int (iV zI)])).length) Slot.unset).toArray = ls at hl ⊢
  have hl : lv_has ls 1 [(0, .int (iV zI))] := hl
  refine lv_iload_n hx hb dX8_orNone_0 rfl (lv_at hl 0 rfl) ?_
  refine lv_iconst (v := iV (-1)) hx hb dX8_orNone_1 (by decide) ?_
  refine z_icmp_ne (tgt := 10) hx hb (by omega) ⟨by decide, by decide⟩ dX8_orNone_2 (by decide) (fun c_1 => ?_) (fun c_1 => ?_)
  · refine lv_iload_n hx hb dX8_orNone_10 rfl (lv_at hl 0 rfl) ?_
    refine z_eq (z := cNone zI) (by unfold cNone; first | rw [if_pos (by assumption)] | rw [if_neg (by assumption)]) ?_
    exact z_ret hx hb hr hlocks hS dX8_orNone_11
  · refine lv_bipush (v := iV (-4)) hx hb dX8_orNone_5 (by decide) ?_
    refine lv_goto (tgt := 11) hx hb dX8_orNone_7 (by decide) ?_
    refine z_eq (z := cNone zI) (by unfold cNone; first | rw [if_pos (by assumption)] | rw [if_neg (by assumption)]) ?_
    exact z_ret hx hb hr hlocks hS dX8_orNone_11

set_option maxHeartbeats 4000000 in
set_option maxRecDepth 100000 in
theorem c_X8_isQuarter (l : Launch) (G : zG) (sz : Nat) (zI : Int) (hrzI : iR zI) : Met l yX8_isQuarter (Cond.code yX8_isQuarter cX8_isQuarter 1 (some .boolean) :: zT) (zRm 0 0) (zPr G [.int (iV zI)] [] sz) (zQr (bP (0 ≤ zI ∧ zI < 4)) sz) 0 0 (zF sz) := by
  refine Met.ofW (cc := cX8_isQuarter) (maxL := 1) (ret := (some .boolean)) (by decide) rfl ?_
  intro p e s m args below meth c s₁ B hml hv
  obtain ⟨rfl, hsz, hP, hK, hSt⟩ := hv
  have hx := B.exec
  have hb := B.bytes
  have hr := B.returns
  have hts : ∀ w ∈ zT, w.before _ s = true := fun w h => atoms_spec (ws := (Cond.code yX8_isQuarter cX8_isQuarter 1 (some .boolean) :: zT)) B.pre w (List.mem_cons_of_mem _ h)
  have hown : s.vm.findClass RX8 = some m.cls := findClass_of_methodNamed B.named
  have hlocks := B.notSynchronized
  subst hsz
  have hA : ∀ q : Nat, s.heap.size ≤ q → zF s.heap.size q := fun _ h => h
  have hS : va_S (zF s.heap.size) s.heap s.heap [] := va_S.rf
  have hP : va_P G.1 vwCl [] s.heap := hP
  have X := And.intro hx (And.intro hb (And.intro hml (And.intro hown (And.intro hts (And.intro hK (And.intro hSt hA))))))
  have hl := lv_entry ([.int (iV zI)]) (n := 1) (Nat.le_of_ble_eq_true rfl)
  rw [lg_entry_eq]
  generalize (lg_sl ([.int (iV zI)]) ++ List.replicate (1 - (lg_sl ([.int (iV zI)])).length) Slot.unset).toArray = ls at hl ⊢
  have hl : lv_has ls 1 [(0, .int (iV zI))] := hl
  refine lv_iload_n hx hb dX8_isQuarter_0 rfl (lv_at hl 0 rfl) ?_
  refine z_if_lt (tgt := 13) hx hb (by omega) dX8_isQuarter_1 (by decide) (fun c_1 => ?_) (fun c_1 => ?_)
  · refine lv_iconst (v := iV 0) hx hb dX8_isQuarter_13 (by decide) ?_
    refine z_eq (z := bP (0 ≤ zI ∧ zI < 4)) (by first | exact (bP_t (by omega)).symm | exact (bP_f (by omega)).symm) ?_
    exact z_retb hx hb hr hlocks hS dX8_isQuarter_14
  · refine lv_iload_n hx hb dX8_isQuarter_4 rfl (lv_at hl 0 rfl) ?_
    refine lv_iconst (v := iV 4) hx hb dX8_isQuarter_5 (by decide) ?_
    refine z_icmp_ge (tgt := 13) hx hb (by omega) ⟨by decide, by decide⟩ dX8_isQuarter_6 (by decide) (fun c_2 => ?_) (fun c_2 => ?_)
    · refine lv_iconst (v := iV 0) hx hb dX8_isQuarter_13 (by decide) ?_
      refine z_eq (z := bP (0 ≤ zI ∧ zI < 4)) (by first | exact (bP_t (by omega)).symm | exact (bP_f (by omega)).symm) ?_
      exact z_retb hx hb hr hlocks hS dX8_isQuarter_14
    · refine lv_iconst (v := iV 1) hx hb dX8_isQuarter_9 (by decide) ?_
      refine lv_goto (tgt := 14) hx hb dX8_isQuarter_10 (by decide) ?_
      refine z_eq (z := bP (0 ≤ zI ∧ zI < 4)) (by first | exact (bP_t (by omega)).symm | exact (bP_f (by omega)).symm) ?_
      exact z_retb hx hb hr hlocks hS dX8_isQuarter_14

set_option maxHeartbeats 4000000 in
set_option maxRecDepth 100000 in
theorem c_X8_isDirection (l : Launch) (G : zG) (sz : Nat) (zI : Int) (hrzI : iR zI) : Met l yX8_isDirection (Cond.code yX8_isDirection cX8_isDirection 1 (some .boolean) :: zT) (zRm 0 0) (zPr G [.int (iV zI)] [] sz) (zQr (bP (0 ≤ zI ∧ zI < 8)) sz) 0 0 (zF sz) := by
  refine Met.ofW (cc := cX8_isDirection) (maxL := 1) (ret := (some .boolean)) (by decide) rfl ?_
  intro p e s m args below meth c s₁ B hml hv
  obtain ⟨rfl, hsz, hP, hK, hSt⟩ := hv
  have hx := B.exec
  have hb := B.bytes
  have hr := B.returns
  have hts : ∀ w ∈ zT, w.before _ s = true := fun w h => atoms_spec (ws := (Cond.code yX8_isDirection cX8_isDirection 1 (some .boolean) :: zT)) B.pre w (List.mem_cons_of_mem _ h)
  have hown : s.vm.findClass RX8 = some m.cls := findClass_of_methodNamed B.named
  have hlocks := B.notSynchronized
  subst hsz
  have hA : ∀ q : Nat, s.heap.size ≤ q → zF s.heap.size q := fun _ h => h
  have hS : va_S (zF s.heap.size) s.heap s.heap [] := va_S.rf
  have hP : va_P G.1 vwCl [] s.heap := hP
  have X := And.intro hx (And.intro hb (And.intro hml (And.intro hown (And.intro hts (And.intro hK (And.intro hSt hA))))))
  have hl := lv_entry ([.int (iV zI)]) (n := 1) (Nat.le_of_ble_eq_true rfl)
  rw [lg_entry_eq]
  generalize (lg_sl ([.int (iV zI)]) ++ List.replicate (1 - (lg_sl ([.int (iV zI)])).length) Slot.unset).toArray = ls at hl ⊢
  have hl : lv_has ls 1 [(0, .int (iV zI))] := hl
  refine lv_iload_n hx hb dX8_isDirection_0 rfl (lv_at hl 0 rfl) ?_
  refine z_if_lt (tgt := 14) hx hb (by omega) dX8_isDirection_1 (by decide) (fun c_1 => ?_) (fun c_1 => ?_)
  · refine lv_iconst (v := iV 0) hx hb dX8_isDirection_14 (by decide) ?_
    refine z_eq (z := bP (0 ≤ zI ∧ zI < 8)) (by first | exact (bP_t (by omega)).symm | exact (bP_f (by omega)).symm) ?_
    exact z_retb hx hb hr hlocks hS dX8_isDirection_15
  · refine lv_iload_n hx hb dX8_isDirection_4 rfl (lv_at hl 0 rfl) ?_
    refine lv_bipush (v := iV 8) hx hb dX8_isDirection_5 (by decide) ?_
    refine z_icmp_ge (tgt := 14) hx hb (by omega) ⟨by decide, by decide⟩ dX8_isDirection_7 (by decide) (fun c_2 => ?_) (fun c_2 => ?_)
    · refine lv_iconst (v := iV 0) hx hb dX8_isDirection_14 (by decide) ?_
      refine z_eq (z := bP (0 ≤ zI ∧ zI < 8)) (by first | exact (bP_t (by omega)).symm | exact (bP_f (by omega)).symm) ?_
      exact z_retb hx hb hr hlocks hS dX8_isDirection_15
    · refine lv_iconst (v := iV 1) hx hb dX8_isDirection_10 (by decide) ?_
      refine lv_goto (tgt := 15) hx hb dX8_isDirection_11 (by decide) ?_
      refine z_eq (z := bP (0 ≤ zI ∧ zI < 8)) (by first | exact (bP_t (by omega)).symm | exact (bP_f (by omega)).symm) ?_
      exact z_retb hx hb hr hlocks hS dX8_isDirection_15

set_option maxHeartbeats 4000000 in
set_option maxRecDepth 100000 in
theorem c_X8_isShadeNumber (l : Launch) (G : zG) (sz : Nat) (zI : Int) (hrzI : iR zI) : Met l yX8_isShadeNumber (Cond.code yX8_isShadeNumber cX8_isShadeNumber 1 (some .boolean) :: zT) (zRm 0 0) (zPr G [.int (iV zI)] [] sz) (zQr (bP (2 ≤ zI ∧ zI ≤ 6)) sz) 0 0 (zF sz) := by
  refine Met.ofW (cc := cX8_isShadeNumber) (maxL := 1) (ret := (some .boolean)) (by decide) rfl ?_
  intro p e s m args below meth c s₁ B hml hv
  obtain ⟨rfl, hsz, hP, hK, hSt⟩ := hv
  have hx := B.exec
  have hb := B.bytes
  have hr := B.returns
  have hts : ∀ w ∈ zT, w.before _ s = true := fun w h => atoms_spec (ws := (Cond.code yX8_isShadeNumber cX8_isShadeNumber 1 (some .boolean) :: zT)) B.pre w (List.mem_cons_of_mem _ h)
  have hown : s.vm.findClass RX8 = some m.cls := findClass_of_methodNamed B.named
  have hlocks := B.notSynchronized
  subst hsz
  have hA : ∀ q : Nat, s.heap.size ≤ q → zF s.heap.size q := fun _ h => h
  have hS : va_S (zF s.heap.size) s.heap s.heap [] := va_S.rf
  have hP : va_P G.1 vwCl [] s.heap := hP
  have X := And.intro hx (And.intro hb (And.intro hml (And.intro hown (And.intro hts (And.intro hK (And.intro hSt hA))))))
  have hl := lv_entry ([.int (iV zI)]) (n := 1) (Nat.le_of_ble_eq_true rfl)
  rw [lg_entry_eq]
  generalize (lg_sl ([.int (iV zI)]) ++ List.replicate (1 - (lg_sl ([.int (iV zI)])).length) Slot.unset).toArray = ls at hl ⊢
  have hl : lv_has ls 1 [(0, .int (iV zI))] := hl
  refine lv_iload_n hx hb dX8_isShadeNumber_0 rfl (lv_at hl 0 rfl) ?_
  refine lv_iconst (v := iV 2) hx hb dX8_isShadeNumber_1 (by decide) ?_
  refine z_icmp_lt (tgt := 15) hx hb (by omega) ⟨by decide, by decide⟩ dX8_isShadeNumber_2 (by decide) (fun c_1 => ?_) (fun c_1 => ?_)
  · refine lv_iconst (v := iV 0) hx hb dX8_isShadeNumber_15 (by decide) ?_
    refine z_eq (z := bP (2 ≤ zI ∧ zI ≤ 6)) (by first | exact (bP_t (by omega)).symm | exact (bP_f (by omega)).symm) ?_
    exact z_retb hx hb hr hlocks hS dX8_isShadeNumber_16
  · refine lv_iload_n hx hb dX8_isShadeNumber_5 rfl (lv_at hl 0 rfl) ?_
    refine lv_bipush (v := iV 6) hx hb dX8_isShadeNumber_6 (by decide) ?_
    refine z_icmp_gt (tgt := 15) hx hb (by omega) ⟨by decide, by decide⟩ dX8_isShadeNumber_8 (by decide) (fun c_2 => ?_) (fun c_2 => ?_)
    · refine lv_iconst (v := iV 0) hx hb dX8_isShadeNumber_15 (by decide) ?_
      refine z_eq (z := bP (2 ≤ zI ∧ zI ≤ 6)) (by first | exact (bP_t (by omega)).symm | exact (bP_f (by omega)).symm) ?_
      exact z_retb hx hb hr hlocks hS dX8_isShadeNumber_16
    · refine lv_iconst (v := iV 1) hx hb dX8_isShadeNumber_11 (by decide) ?_
      refine lv_goto (tgt := 16) hx hb dX8_isShadeNumber_12 (by decide) ?_
      refine z_eq (z := bP (2 ≤ zI ∧ zI ≤ 6)) (by first | exact (bP_t (by omega)).symm | exact (bP_f (by omega)).symm) ?_
      exact z_retb hx hb hr hlocks hS dX8_isShadeNumber_16

set_option maxHeartbeats 4000000 in
set_option maxRecDepth 100000 in
theorem c_X8_flow (l : Launch) (G : zG) (sz : Nat) (o0 : Nat) (aA : Nat → Nat) (aS : Nat → Nat) (b0 : Nat) (k0 : Nat) (l0 : Nat) (x0 : Nat) (v0 : Nat) (pP : pT) (xI : Int) (yI : Int) (zI : Int) (hO1 : pOK pP) (hrxI : iR xI) (hryI : iR yI) (hrzI : iR zI) : Met l yX8_flow (Cond.code yX8_flow cX8_flow 5 (some .int) :: zT) (zRm 5 120) (zPr G [.ref o0, .int (iV xI), .int (iV yI), .int (iV zI)] [(o0, .inr (8, [.ref (aA 0), .ref (aS 0), .ref b0, .ref k0, .ref l0, .ref x0, .ref v0])), (aA 0, .inr (4, [.ref (aA 1), .ref (aA 3), .ref (aA 7), .int (iV (pS pP))])), (aA 1, .inr (0, [.int (iV (pW pP)), .int (iV (pH pP)), .ref (aA 2)])), (aA 2, .inl (G.2.1, 81, .inl (fun k => iV (pG pP k)))), (aA 3, .inr (7, [.int (iV (pN pP)), .ref (aA 4), .ref (aA 5), .ref (aA 6)])), (aA 4, .inl (G.2.1, 20, .inl (fun k => iV (pL pP k)))), (aA 5, .inl (G.2.1, 20, .inl (fun k => iV (pE pP k)))), (aA 6, .inl (G.2.1, 120, .inl (fun k => iV (pC pP k)))), (aA 7, .inl (G.2.1, 4, .inl (fun k => iV (pQ pP k))))] sz) (zQr (cFlow pP xI yI zI) sz) 0 0 (zF sz) := by
  refine Met.ofW (cc := cX8_flow) (maxL := 5) (ret := (some .int)) (by decide) rfl ?_
  intro p e s m args below meth c s₁ B hml hv
  obtain ⟨rfl, hsz, hP, hK, hSt⟩ := hv
  have hx := B.exec
  have hb := B.bytes
  have hr := B.returns
  have hts : ∀ w ∈ zT, w.before _ s = true := fun w h => atoms_spec (ws := (Cond.code yX8_flow cX8_flow 5 (some .int) :: zT)) B.pre w (List.mem_cons_of_mem _ h)
  have hown : s.vm.findClass RX8 = some m.cls := findClass_of_methodNamed B.named
  have hlocks := B.notSynchronized
  subst hsz
  have hA : ∀ q : Nat, s.heap.size ≤ q → zF s.heap.size q := fun _ h => h
  have hS : va_S (zF s.heap.size) s.heap s.heap [] := va_S.rf
  have hP : va_P G.1 vwCl [(o0, .inr (8, [.ref (aA 0), .ref (aS 0), .ref b0, .ref k0, .ref l0, .ref x0, .ref v0])), (aA 0, .inr (4, [.ref (aA 1), .ref (aA 3), .ref (aA 7), .int (iV (pS pP))])), (aA 1, .inr (0, [.int (iV (pW pP)), .int (iV (pH pP)), .ref (aA 2)])), (aA 2, .inl (G.2.1, 81, .inl (fun k => iV (pG pP k)))), (aA 3, .inr (7, [.int (iV (pN pP)), .ref (aA 4), .ref (aA 5), .ref (aA 6)])), (aA 4, .inl (G.2.1, 20, .inl (fun k => iV (pL pP k)))), (aA 5, .inl (G.2.1, 20, .inl (fun k => iV (pE pP k)))), (aA 6, .inl (G.2.1, 120, .inl (fun k => iV (pC pP k)))), (aA 7, .inl (G.2.1, 4, .inl (fun k => iV (pQ pP k))))] s.heap := hP
  have X := And.intro hx (And.intro hb (And.intro hml (And.intro hown (And.intro hts (And.intro hK (And.intro hSt hA))))))
  have hl := lv_entry ([.ref o0, .int (iV xI), .int (iV yI), .int (iV zI)]) (n := 5) (Nat.le_of_ble_eq_true rfl)
  rw [lg_entry_eq]
  generalize (lg_sl ([.ref o0, .int (iV xI), .int (iV yI), .int (iV zI)]) ++ List.replicate (5 - (lg_sl ([.ref o0, .int (iV xI), .int (iV yI), .int (iV zI)])).length) Slot.unset).toArray = ls at hl ⊢
  have hl : lv_has ls 5 [(0, .ref o0), (1, .int (iV xI)), (2, .int (iV yI)), (3, .int (iV zI))] := hl
  have hG := hO1.1
  have hO := hO1.2.1
  have hQ := hO1.2.2
  obtain ⟨hW0, hW9, hH0, hH9, hg⟩ := id hG
  obtain ⟨hn0, hn20, hlF, hcF⟩ := id hO
  refine lv_aload_n hx hb dX8_flow_0 rfl (lv_at hl 0 rfl) ?_
  refine va_get (D := G.1) (ci := 8) (v := .ref (aA 0)) (C := RX8) (T := TX8) (N := 7) hx hb hts inX8 hown hK hP 0 rfl rfl 0 (by decide) (hts _ wd_306) (fun _ h9 => h9) rfl dX8_flow_1 ?_
  refine va_get (D := G.1) (ci := 4) (v := .ref (aA 1)) (C := RX4) (T := TX4) (N := 4) hx hb hts inX4 hown hK hP 1 rfl rfl 0 (by decide) (hts _ wd_77) (fun _ h9 => h9) rfl dX8_flow_4 ?_
  refine lv_iload_n hx hb dX8_flow_7 rfl (lv_at hl 1 rfl) ?_
  refine lv_iload_n hx hb dX8_flow_8 rfl (lv_at hl 2 rfl) ?_
  refine z_callV X hP hS hl.1 (c_X0_has l G _ (aA 1) (aA 2) (pW pP) (pH pP) (pG pP) xI yI (by first | assumption | omega) (by first | assumption | omega) (by first | assumption | omega)) wd_376 kX0_has ⟨rfl, rfl, Nat.le_of_ble_eq_true rfl, Nat.le_of_ble_eq_true rfl⟩ [2, 3] rfl 0 rfl rfl rfl rfl (Nat.le_of_ble_eq_true rfl) dX8_flow_9 ⟨Nat.zero_le _, Nat.zero_le _⟩ (fun H locs hP hS => ?_)
  refine z_ifb_eq (tgt := 24) hx hb dX8_flow_12 (by decide) (fun c_1 => ?_) (fun c_1 => ?_)
  · refine lv_iconst (v := iV (-1)) hx hb dX8_flow_24 (by decide) ?_
    refine z_eq (z := cFlow pP xI yI zI) (by unfold cFlow; first | rw [if_neg (by omega)] | (rw [if_pos (by omega), if_pos (by assumption)]) | (rw [if_pos (by omega), if_neg (by assumption)])) ?_
    exact z_ret hx hb hr hlocks hS dX8_flow_25
  · refine lv_iload_n hx hb dX8_flow_15 rfl (lv_at hl 3 rfl) ?_
    refine z_if_lt (tgt := 24) hx hb (by omega) dX8_flow_16 (by decide) (fun c_2 => ?_) (fun c_2 => ?_)
    · refine lv_iconst (v := iV (-1)) hx hb dX8_flow_24 (by decide) ?_
      refine z_eq (z := cFlow pP xI yI zI) (by unfold cFlow; first | rw [if_neg (by omega)] | (rw [if_pos (by omega), if_pos (by assumption)]) | (rw [if_pos (by omega), if_neg (by assumption)])) ?_
      exact z_ret hx hb hr hlocks hS dX8_flow_25
    · refine lv_iload_n hx hb dX8_flow_19 rfl (lv_at hl 3 rfl) ?_
      refine lv_iconst (v := iV 1) hx hb dX8_flow_20 (by decide) ?_
      refine z_icmp_le (tgt := 26) hx hb (by omega) ⟨by decide, by decide⟩ dX8_flow_21 (by decide) (fun c_3 => ?_) (fun c_3 => ?_)
      · refine lv_iload_n hx hb dX8_flow_26 rfl (lv_at hl 1 rfl) ?_
        refine lv_iload_n hx hb dX8_flow_27 rfl (lv_at hl 2 rfl) ?_
        refine z_callS X hP hS hl.1 (c_X8_number l G _ xI yI (by first | assumption | omega) (by first | assumption | omega)) wd_380 kX8_number ⟨rfl, rfl, Nat.le_of_ble_eq_true rfl, Nat.le_of_ble_eq_true rfl⟩ [] rfl rfl rfl (Nat.le_of_ble_eq_true rfl) dX8_flow_28 ⟨Nat.zero_le _, Nat.zero_le _⟩ (fun H locs hP hS => ?_)
        refine lv_istore (lv' := [(4, .int (iV (9 * yI + xI))), (0, .ref o0), (1, .int (iV xI)), (2, .int (iV yI)), (3, .int (iV zI))]) hx hb dX8_flow_31 hl (by decide) rfl (fun ls hl => ?_)
        refine lv_iload_n hx hb dX8_flow_33 rfl (lv_at hl 4 rfl) ?_
        refine z_if_ne (tgt := 52) hx hb (by omega) dX8_flow_34 (by decide) (fun c_4 => ?_) (fun c_4 => ?_)
        · refine lv_aload_n hx hb dX8_flow_52 rfl (lv_at hl 1 rfl) ?_
          refine va_get (D := G.1) (ci := 8) (v := .ref (aA 0)) (C := RX8) (T := TX8) (N := 7) hx hb hts inX8 hown hK hP 0 rfl rfl 0 (by decide) (hts _ wd_306) (fun _ h9 => h9) rfl dX8_flow_53 ?_
          refine va_get (D := G.1) (ci := 4) (v := .ref (aA 1)) (C := RX4) (T := TX4) (N := 4) hx hb hts inX4 hown hK hP 1 rfl rfl 0 (by decide) (hts _ wd_77) (fun _ h9 => h9) rfl dX8_flow_56 ?_
          refine lv_iload hx hb dX8_flow_59 (lv_at hl 0 rfl) ?_
          refine z_callV X hP hS hl.1 (c_X0_stepsToPit l G _ (aA 1) (aA 2) (pW pP) (pH pP) (pG pP) (9 * yI + xI) (by first | assumption | omega) (by first | assumption | omega)) wd_573 kX0_stepsToPit ⟨rfl, rfl, Nat.le_of_ble_eq_true rfl, Nat.le_of_ble_eq_true rfl⟩ [2, 3] rfl 0 rfl rfl rfl rfl (Nat.le_of_ble_eq_true rfl) dX8_flow_61 ⟨Nat.zero_le _, Nat.zero_le _⟩ (fun H locs hP hS => ?_)
          have f_5 := gStF_r (W := (pW pP)) (H := (pH pP)) (g := (pG pP)) 81 (9 * yI + xI)
          refine z_eq (z := cFlow pP xI yI zI) (by unfold cFlow; first | rw [if_neg (by omega)] | (rw [if_pos (by omega), if_pos (by assumption)]) | (rw [if_pos (by omega), if_neg (by assumption)])) ?_
          exact z_ret hx hb hr hlocks hS dX8_flow_64
        · refine lv_aload_n hx hb dX8_flow_37 rfl (lv_at hl 1 rfl) ?_
          refine va_get (D := G.1) (ci := 8) (v := .ref (aA 0)) (C := RX8) (T := TX8) (N := 7) hx hb hts inX8 hown hK hP 0 rfl rfl 0 (by decide) (hts _ wd_306) (fun _ h9 => h9) rfl dX8_flow_38 ?_
          refine va_get (D := G.1) (ci := 4) (v := .ref (aA 1)) (C := RX4) (T := TX4) (N := 4) hx hb hts inX4 hown hK hP 1 rfl rfl 0 (by decide) (hts _ wd_77) (fun _ h9 => h9) rfl dX8_flow_41 ?_
          refine lv_iload hx hb dX8_flow_44 (lv_at hl 0 rfl) ?_
          refine z_callV X hP hS hl.1 (c_X0_pitOf l G _ (aA 1) (aA 2) (pW pP) (pH pP) (pG pP) (9 * yI + xI) (by first | assumption | omega) (by first | assumption | omega)) wd_564 kX0_pitOf ⟨rfl, rfl, Nat.le_of_ble_eq_true rfl, Nat.le_of_ble_eq_true rfl⟩ [2, 3] rfl 0 rfl rfl rfl rfl (Nat.le_of_ble_eq_true rfl) dX8_flow_46 ⟨Nat.zero_le _, Nat.zero_le _⟩ (fun H locs hP hS => ?_)
          have f_6 := gPitF_r hG 81 (9 * yI + xI) (by omega)
          refine lv_goto (tgt := 64) hx hb dX8_flow_49 (by decide) ?_
          refine z_eq (z := cFlow pP xI yI zI) (by unfold cFlow; first | rw [if_neg (by omega)] | (rw [if_pos (by omega), if_pos (by assumption)]) | (rw [if_pos (by omega), if_neg (by assumption)])) ?_
          exact z_ret hx hb hr hlocks hS dX8_flow_64
      · refine lv_iconst (v := iV (-1)) hx hb dX8_flow_24 (by decide) ?_
        refine z_eq (z := cFlow pP xI yI zI) (by unfold cFlow; first | rw [if_neg (by omega)] | (rw [if_pos (by omega), if_pos (by assumption)]) | (rw [if_pos (by omega), if_neg (by assumption)])) ?_
        exact z_ret hx hb hr hlocks hS dX8_flow_25

set_option maxHeartbeats 4000000 in
set_option maxRecDepth 100000 in
theorem c_X8_basin (l : Launch) (G : zG) (sz : Nat) (o0 : Nat) (aA : Nat → Nat) (aS : Nat → Nat) (b0 : Nat) (k0 : Nat) (l0 : Nat) (x0 : Nat) (v0 : Nat) (pP : pT) (xI : Int) (yI : Int) (hO1 : pOK pP) (hrxI : iR xI) (hryI : iR yI) : Met l yX8_basin (Cond.code yX8_basin cX8_basin 3 (some .int) :: zT) (zRm 6 143) (zPr G [.ref o0, .int (iV xI), .int (iV yI)] [(o0, .inr (8, [.ref (aA 0), .ref (aS 0), .ref b0, .ref k0, .ref l0, .ref x0, .ref v0])), (aA 0, .inr (4, [.ref (aA 1), .ref (aA 3), .ref (aA 7), .int (iV (pS pP))])), (aA 1, .inr (0, [.int (iV (pW pP)), .int (iV (pH pP)), .ref (aA 2)])), (aA 2, .inl (G.2.1, 81, .inl (fun k => iV (pG pP k)))), (aA 3, .inr (7, [.int (iV (pN pP)), .ref (aA 4), .ref (aA 5), .ref (aA 6)])), (aA 4, .inl (G.2.1, 20, .inl (fun k => iV (pL pP k)))), (aA 5, .inl (G.2.1, 20, .inl (fun k => iV (pE pP k)))), (aA 6, .inl (G.2.1, 120, .inl (fun k => iV (pC pP k)))), (aA 7, .inl (G.2.1, 4, .inl (fun k => iV (pQ pP k))))] sz) (zQr (cBasin pP xI yI) sz) 0 0 (zF sz) := by
  refine Met.ofW (cc := cX8_basin) (maxL := 3) (ret := (some .int)) (by decide) rfl ?_
  intro p e s m args below meth c s₁ B hml hv
  obtain ⟨rfl, hsz, hP, hK, hSt⟩ := hv
  have hx := B.exec
  have hb := B.bytes
  have hr := B.returns
  have hts : ∀ w ∈ zT, w.before _ s = true := fun w h => atoms_spec (ws := (Cond.code yX8_basin cX8_basin 3 (some .int) :: zT)) B.pre w (List.mem_cons_of_mem _ h)
  have hown : s.vm.findClass RX8 = some m.cls := findClass_of_methodNamed B.named
  have hlocks := B.notSynchronized
  subst hsz
  have hA : ∀ q : Nat, s.heap.size ≤ q → zF s.heap.size q := fun _ h => h
  have hS : va_S (zF s.heap.size) s.heap s.heap [] := va_S.rf
  have hP : va_P G.1 vwCl [(o0, .inr (8, [.ref (aA 0), .ref (aS 0), .ref b0, .ref k0, .ref l0, .ref x0, .ref v0])), (aA 0, .inr (4, [.ref (aA 1), .ref (aA 3), .ref (aA 7), .int (iV (pS pP))])), (aA 1, .inr (0, [.int (iV (pW pP)), .int (iV (pH pP)), .ref (aA 2)])), (aA 2, .inl (G.2.1, 81, .inl (fun k => iV (pG pP k)))), (aA 3, .inr (7, [.int (iV (pN pP)), .ref (aA 4), .ref (aA 5), .ref (aA 6)])), (aA 4, .inl (G.2.1, 20, .inl (fun k => iV (pL pP k)))), (aA 5, .inl (G.2.1, 20, .inl (fun k => iV (pE pP k)))), (aA 6, .inl (G.2.1, 120, .inl (fun k => iV (pC pP k)))), (aA 7, .inl (G.2.1, 4, .inl (fun k => iV (pQ pP k))))] s.heap := hP
  have X := And.intro hx (And.intro hb (And.intro hml (And.intro hown (And.intro hts (And.intro hK (And.intro hSt hA))))))
  have hl := lv_entry ([.ref o0, .int (iV xI), .int (iV yI)]) (n := 3) (Nat.le_of_ble_eq_true rfl)
  rw [lg_entry_eq]
  generalize (lg_sl ([.ref o0, .int (iV xI), .int (iV yI)]) ++ List.replicate (3 - (lg_sl ([.ref o0, .int (iV xI), .int (iV yI)])).length) Slot.unset).toArray = ls at hl ⊢
  have hl : lv_has ls 3 [(0, .ref o0), (1, .int (iV xI)), (2, .int (iV yI))] := hl
  have hG := hO1.1
  have hO := hO1.2.1
  have hQ := hO1.2.2
  obtain ⟨hW0, hW9, hH0, hH9, hg⟩ := id hG
  obtain ⟨hn0, hn20, hlF, hcF⟩ := id hO
  refine lv_aload_n hx hb dX8_basin_0 rfl (lv_at hl 0 rfl) ?_
  refine va_get (D := G.1) (ci := 8) (v := .ref (aA 0)) (C := RX8) (T := TX8) (N := 7) hx hb hts inX8 hown hK hP 0 rfl rfl 0 (by decide) (hts _ wd_306) (fun _ h9 => h9) rfl dX8_basin_1 ?_
  refine va_get (D := G.1) (ci := 4) (v := .ref (aA 1)) (C := RX4) (T := TX4) (N := 4) hx hb hts inX4 hown hK hP 1 rfl rfl 0 (by decide) (hts _ wd_77) (fun _ h9 => h9) rfl dX8_basin_4 ?_
  refine lv_iload_n hx hb dX8_basin_7 rfl (lv_at hl 1 rfl) ?_
  refine lv_iload_n hx hb dX8_basin_8 rfl (lv_at hl 2 rfl) ?_
  refine z_callV X hP hS hl.1 (c_X0_has l G _ (aA 1) (aA 2) (pW pP) (pH pP) (pG pP) xI yI (by first | assumption | omega) (by first | assumption | omega) (by first | assumption | omega)) wd_376 kX0_has ⟨rfl, rfl, Nat.le_of_ble_eq_true rfl, Nat.le_of_ble_eq_true rfl⟩ [2, 3] rfl 0 rfl rfl rfl rfl (Nat.le_of_ble_eq_true rfl) dX8_basin_9 ⟨Nat.zero_le _, Nat.zero_le _⟩ (fun H locs hP hS => ?_)
  refine z_ifb_ne (tgt := 17) hx hb dX8_basin_12 (by decide) (fun c_1 => ?_) (fun c_1 => ?_)
  · refine lv_aload_n hx hb dX8_basin_17 rfl (lv_at hl 0 rfl) ?_
    refine va_get (D := G.1) (ci := 8) (v := .ref (aA 0)) (C := RX8) (T := TX8) (N := 7) hx hb hts inX8 hown hK hP 0 rfl rfl 0 (by decide) (hts _ wd_306) (fun _ h9 => h9) rfl dX8_basin_18 ?_
    refine va_get (D := G.1) (ci := 4) (v := .ref (aA 1)) (C := RX4) (T := TX4) (N := 4) hx hb hts inX4 hown hK hP 1 rfl rfl 0 (by decide) (hts _ wd_77) (fun _ h9 => h9) rfl dX8_basin_21 ?_
    refine lv_iload_n hx hb dX8_basin_24 rfl (lv_at hl 1 rfl) ?_
    refine lv_iload_n hx hb dX8_basin_25 rfl (lv_at hl 2 rfl) ?_
    refine z_callS X hP hS hl.1 (c_X8_number l G _ xI yI (by first | assumption | omega) (by first | assumption | omega)) wd_380 kX8_number ⟨rfl, rfl, Nat.le_of_ble_eq_true rfl, Nat.le_of_ble_eq_true rfl⟩ [] rfl rfl rfl (Nat.le_of_ble_eq_true rfl) dX8_basin_26 ⟨Nat.zero_le _, Nat.zero_le _⟩ (fun H locs hP hS => ?_)
    refine z_callV X hP hS hl.1 (c_X0_cellsFlowingTo l G _ (aA 1) (aA 2) (pW pP) (pH pP) (pG pP) (9 * yI + xI) (by first | assumption | omega) (by first | assumption | omega)) wd_581 kX0_cellsFlowingTo ⟨rfl, rfl, Nat.le_of_ble_eq_true rfl, Nat.le_of_ble_eq_true rfl⟩ [2, 3] rfl 0 rfl rfl rfl rfl (Nat.le_of_ble_eq_true rfl) dX8_basin_29 ⟨Nat.zero_le _, Nat.zero_le _⟩ (fun H locs hP hS => ?_)
    have f_2 := sumN_r (P := fun k => gIn (pW pP) (pH pP) (Nat.cast k : Int) ∧ gPitF (pW pP) (pH pP) (pG pP) 81 (Nat.cast k : Int) = (9 * yI + xI)) 81
    refine z_eq (z := cBasin pP xI yI) (by unfold cBasin; first | rw [if_neg (by assumption)] | rw [if_pos (by assumption)]) ?_
    exact z_ret hx hb hr hlocks hS dX8_basin_32
  · refine lv_iconst (v := iV (-1)) hx hb dX8_basin_15 (by decide) ?_
    refine z_eq (z := cBasin pP xI yI) (by unfold cBasin; first | rw [if_neg (by assumption)] | rw [if_pos (by assumption)]) ?_
    exact z_ret hx hb hr hlocks hS dX8_basin_16

set_option maxHeartbeats 4000000 in
set_option maxRecDepth 100000 in
theorem c_X8_contrast (l : Launch) (G : zG) (sz : Nat) (o0 : Nat) (aA : Nat → Nat) (aS : Nat → Nat) (b0 : Nat) (k0 : Nat) (l0 : Nat) (x0 : Nat) (v0 : Nat) (pP : pT) (qI : Int) (dI : Int) (hO1 : pOK pP) (hrqI : iR qI) (hrdI : iR dI) : Met l yX8_contrast (Cond.code yX8_contrast cX8_contrast 3 (some .int) :: zT) (zRm 5 121) (zPr G [.ref o0, .int (iV qI), .int (iV dI)] [(o0, .inr (8, [.ref (aA 0), .ref (aS 0), .ref b0, .ref k0, .ref l0, .ref x0, .ref v0])), (aA 0, .inr (4, [.ref (aA 1), .ref (aA 3), .ref (aA 7), .int (iV (pS pP))])), (aA 1, .inr (0, [.int (iV (pW pP)), .int (iV (pH pP)), .ref (aA 2)])), (aA 2, .inl (G.2.1, 81, .inl (fun k => iV (pG pP k)))), (aA 3, .inr (7, [.int (iV (pN pP)), .ref (aA 4), .ref (aA 5), .ref (aA 6)])), (aA 4, .inl (G.2.1, 20, .inl (fun k => iV (pL pP k)))), (aA 5, .inl (G.2.1, 20, .inl (fun k => iV (pE pP k)))), (aA 6, .inl (G.2.1, 120, .inl (fun k => iV (pC pP k)))), (aA 7, .inl (G.2.1, 4, .inl (fun k => iV (pQ pP k))))] sz) (zQr (cContrast pP qI dI) sz) 0 0 (zF sz) := by
  refine Met.ofW (cc := cX8_contrast) (maxL := 3) (ret := (some .int)) (by decide) rfl ?_
  intro p e s m args below meth c s₁ B hml hv
  obtain ⟨rfl, hsz, hP, hK, hSt⟩ := hv
  have hx := B.exec
  have hb := B.bytes
  have hr := B.returns
  have hts : ∀ w ∈ zT, w.before _ s = true := fun w h => atoms_spec (ws := (Cond.code yX8_contrast cX8_contrast 3 (some .int) :: zT)) B.pre w (List.mem_cons_of_mem _ h)
  have hown : s.vm.findClass RX8 = some m.cls := findClass_of_methodNamed B.named
  have hlocks := B.notSynchronized
  subst hsz
  have hA : ∀ q : Nat, s.heap.size ≤ q → zF s.heap.size q := fun _ h => h
  have hS : va_S (zF s.heap.size) s.heap s.heap [] := va_S.rf
  have hP : va_P G.1 vwCl [(o0, .inr (8, [.ref (aA 0), .ref (aS 0), .ref b0, .ref k0, .ref l0, .ref x0, .ref v0])), (aA 0, .inr (4, [.ref (aA 1), .ref (aA 3), .ref (aA 7), .int (iV (pS pP))])), (aA 1, .inr (0, [.int (iV (pW pP)), .int (iV (pH pP)), .ref (aA 2)])), (aA 2, .inl (G.2.1, 81, .inl (fun k => iV (pG pP k)))), (aA 3, .inr (7, [.int (iV (pN pP)), .ref (aA 4), .ref (aA 5), .ref (aA 6)])), (aA 4, .inl (G.2.1, 20, .inl (fun k => iV (pL pP k)))), (aA 5, .inl (G.2.1, 20, .inl (fun k => iV (pE pP k)))), (aA 6, .inl (G.2.1, 120, .inl (fun k => iV (pC pP k)))), (aA 7, .inl (G.2.1, 4, .inl (fun k => iV (pQ pP k))))] s.heap := hP
  have X := And.intro hx (And.intro hb (And.intro hml (And.intro hown (And.intro hts (And.intro hK (And.intro hSt hA))))))
  have hl := lv_entry ([.ref o0, .int (iV qI), .int (iV dI)]) (n := 3) (Nat.le_of_ble_eq_true rfl)
  rw [lg_entry_eq]
  generalize (lg_sl ([.ref o0, .int (iV qI), .int (iV dI)]) ++ List.replicate (3 - (lg_sl ([.ref o0, .int (iV qI), .int (iV dI)])).length) Slot.unset).toArray = ls at hl ⊢
  have hl : lv_has ls 3 [(0, .ref o0), (1, .int (iV qI)), (2, .int (iV dI))] := hl
  have hG := hO1.1
  have hO := hO1.2.1
  have hQ := hO1.2.2
  obtain ⟨hW0, hW9, hH0, hH9, hg⟩ := id hG
  obtain ⟨hn0, hn20, hlF, hcF⟩ := id hO
  refine lv_iload_n hx hb dX8_contrast_0 rfl (lv_at hl 1 rfl) ?_
  refine z_callS X hP hS hl.1 (c_X8_isQuarter l G _ qI (by first | assumption | omega)) wd_423 kX8_isQuarter ⟨rfl, rfl, Nat.le_of_ble_eq_true rfl, Nat.le_of_ble_eq_true rfl⟩ [] rfl rfl rfl (Nat.le_of_ble_eq_true rfl) dX8_contrast_1 ⟨Nat.zero_le _, Nat.zero_le _⟩ (fun H locs hP hS => ?_)
  refine z_ifb_eq (tgt := 14) hx hb dX8_contrast_4 (by decide) (fun c_1 => ?_) (fun c_1 => ?_)
  · refine lv_iconst (v := iV (-1)) hx hb dX8_contrast_14 (by decide) ?_
    refine z_eq (z := cContrast pP qI dI) (by unfold cContrast; first | rw [if_neg (by omega)] | rw [if_pos (by omega)]) ?_
    exact z_ret hx hb hr hlocks hS dX8_contrast_15
  · refine lv_iload_n hx hb dX8_contrast_7 rfl (lv_at hl 2 rfl) ?_
    refine z_callS X hP hS hl.1 (c_X8_isDirection l G _ dI (by first | assumption | omega)) wd_426 kX8_isDirection ⟨rfl, rfl, Nat.le_of_ble_eq_true rfl, Nat.le_of_ble_eq_true rfl⟩ [] rfl rfl rfl (Nat.le_of_ble_eq_true rfl) dX8_contrast_8 ⟨Nat.zero_le _, Nat.zero_le _⟩ (fun H locs hP hS => ?_)
    refine z_ifb_ne (tgt := 16) hx hb dX8_contrast_11 (by decide) (fun c_2 => ?_) (fun c_2 => ?_)
    · refine lv_aload_n hx hb dX8_contrast_16 rfl (lv_at hl 0 rfl) ?_
      refine va_get (D := G.1) (ci := 8) (v := .ref (aA 0)) (C := RX8) (T := TX8) (N := 7) hx hb hts inX8 hown hK hP 0 rfl rfl 0 (by decide) (hts _ wd_306) (fun _ h9 => h9) rfl dX8_contrast_17 ?_
      refine va_get (D := G.1) (ci := 4) (v := .ref (aA 1)) (C := RX4) (T := TX4) (N := 4) hx hb hts inX4 hown hK hP 1 rfl rfl 0 (by decide) (hts _ wd_77) (fun _ h9 => h9) rfl dX8_contrast_20 ?_
      refine lv_iload_n hx hb dX8_contrast_23 rfl (lv_at hl 1 rfl) ?_
      refine lv_iload_n hx hb dX8_contrast_24 rfl (lv_at hl 2 rfl) ?_
      refine z_callV X hP hS hl.1 (c_X0_contrastOf l G _ (aA 1) (aA 2) (pW pP) (pH pP) (pG pP) qI dI (by first | assumption | omega) (by first | assumption | omega) (by first | assumption | omega)) wd_591 kX0_contrastOf ⟨rfl, rfl, Nat.le_of_ble_eq_true rfl, Nat.le_of_ble_eq_true rfl⟩ [2, 3] rfl 0 rfl rfl rfl rfl (Nat.le_of_ble_eq_true rfl) dX8_contrast_25 ⟨Nat.zero_le _, Nat.zero_le _⟩ (fun H locs hP hS => ?_)
      have f_3 := gContrast_r hG qI dI
      refine z_eq (z := cContrast pP qI dI) (by unfold cContrast; first | rw [if_neg (by omega)] | rw [if_pos (by omega)]) ?_
      exact z_ret hx hb hr hlocks hS dX8_contrast_28
    · refine lv_iconst (v := iV (-1)) hx hb dX8_contrast_14 (by decide) ?_
      refine z_eq (z := cContrast pP qI dI) (by unfold cContrast; first | rw [if_neg (by omega)] | rw [if_pos (by omega)]) ?_
      exact z_ret hx hb hr hlocks hS dX8_contrast_15

set_option maxHeartbeats 4000000 in
set_option maxRecDepth 100000 in
theorem c_X8_why (l : Launch) (G : zG) (sz : Nat) (o0 : Nat) (aA : Nat → Nat) (aS : Nat → Nat) (b0 : Nat) (k0 : Nat) (l0 : Nat) (x0 : Nat) (v0 : Nat) (pP : pT) (xI : Int) (yI : Int) (hO1 : pOK pP) (hrxI : iR xI) (hryI : iR yI) : Met l yX8_why (Cond.code yX8_why cX8_why 3 (some .int) :: zT) (zRm 5 118) (zPr G [.ref o0, .int (iV xI), .int (iV yI)] [(o0, .inr (8, [.ref (aA 0), .ref (aS 0), .ref b0, .ref k0, .ref l0, .ref x0, .ref v0])), (aA 0, .inr (4, [.ref (aA 1), .ref (aA 3), .ref (aA 7), .int (iV (pS pP))])), (aA 1, .inr (0, [.int (iV (pW pP)), .int (iV (pH pP)), .ref (aA 2)])), (aA 2, .inl (G.2.1, 81, .inl (fun k => iV (pG pP k)))), (aA 3, .inr (7, [.int (iV (pN pP)), .ref (aA 4), .ref (aA 5), .ref (aA 6)])), (aA 4, .inl (G.2.1, 20, .inl (fun k => iV (pL pP k)))), (aA 5, .inl (G.2.1, 20, .inl (fun k => iV (pE pP k)))), (aA 6, .inl (G.2.1, 120, .inl (fun k => iV (pC pP k)))), (aA 7, .inl (G.2.1, 4, .inl (fun k => iV (pQ pP k))))] sz) (zQr (cWhy pP xI yI) sz) 0 0 (zF sz) := by
  refine Met.ofW (cc := cX8_why) (maxL := 3) (ret := (some .int)) (by decide) rfl ?_
  intro p e s m args below meth c s₁ B hml hv
  obtain ⟨rfl, hsz, hP, hK, hSt⟩ := hv
  have hx := B.exec
  have hb := B.bytes
  have hr := B.returns
  have hts : ∀ w ∈ zT, w.before _ s = true := fun w h => atoms_spec (ws := (Cond.code yX8_why cX8_why 3 (some .int) :: zT)) B.pre w (List.mem_cons_of_mem _ h)
  have hown : s.vm.findClass RX8 = some m.cls := findClass_of_methodNamed B.named
  have hlocks := B.notSynchronized
  subst hsz
  have hA : ∀ q : Nat, s.heap.size ≤ q → zF s.heap.size q := fun _ h => h
  have hS : va_S (zF s.heap.size) s.heap s.heap [] := va_S.rf
  have hP : va_P G.1 vwCl [(o0, .inr (8, [.ref (aA 0), .ref (aS 0), .ref b0, .ref k0, .ref l0, .ref x0, .ref v0])), (aA 0, .inr (4, [.ref (aA 1), .ref (aA 3), .ref (aA 7), .int (iV (pS pP))])), (aA 1, .inr (0, [.int (iV (pW pP)), .int (iV (pH pP)), .ref (aA 2)])), (aA 2, .inl (G.2.1, 81, .inl (fun k => iV (pG pP k)))), (aA 3, .inr (7, [.int (iV (pN pP)), .ref (aA 4), .ref (aA 5), .ref (aA 6)])), (aA 4, .inl (G.2.1, 20, .inl (fun k => iV (pL pP k)))), (aA 5, .inl (G.2.1, 20, .inl (fun k => iV (pE pP k)))), (aA 6, .inl (G.2.1, 120, .inl (fun k => iV (pC pP k)))), (aA 7, .inl (G.2.1, 4, .inl (fun k => iV (pQ pP k))))] s.heap := hP
  have X := And.intro hx (And.intro hb (And.intro hml (And.intro hown (And.intro hts (And.intro hK (And.intro hSt hA))))))
  have hl := lv_entry ([.ref o0, .int (iV xI), .int (iV yI)]) (n := 3) (Nat.le_of_ble_eq_true rfl)
  rw [lg_entry_eq]
  generalize (lg_sl ([.ref o0, .int (iV xI), .int (iV yI)]) ++ List.replicate (3 - (lg_sl ([.ref o0, .int (iV xI), .int (iV yI)])).length) Slot.unset).toArray = ls at hl ⊢
  have hl : lv_has ls 3 [(0, .ref o0), (1, .int (iV xI)), (2, .int (iV yI))] := hl
  have hG := hO1.1
  have hO := hO1.2.1
  have hQ := hO1.2.2
  obtain ⟨hW0, hW9, hH0, hH9, hg⟩ := id hG
  obtain ⟨hn0, hn20, hlF, hcF⟩ := id hO
  refine lv_aload_n hx hb dX8_why_0 rfl (lv_at hl 0 rfl) ?_
  refine va_get (D := G.1) (ci := 8) (v := .ref (aA 0)) (C := RX8) (T := TX8) (N := 7) hx hb hts inX8 hown hK hP 0 rfl rfl 0 (by decide) (hts _ wd_306) (fun _ h9 => h9) rfl dX8_why_1 ?_
  refine va_get (D := G.1) (ci := 4) (v := .ref (aA 1)) (C := RX4) (T := TX4) (N := 4) hx hb hts inX4 hown hK hP 1 rfl rfl 0 (by decide) (hts _ wd_77) (fun _ h9 => h9) rfl dX8_why_4 ?_
  refine lv_iload_n hx hb dX8_why_7 rfl (lv_at hl 1 rfl) ?_
  refine lv_iload_n hx hb dX8_why_8 rfl (lv_at hl 2 rfl) ?_
  refine z_callV X hP hS hl.1 (c_X0_has l G _ (aA 1) (aA 2) (pW pP) (pH pP) (pG pP) xI yI (by first | assumption | omega) (by first | assumption | omega) (by first | assumption | omega)) wd_376 kX0_has ⟨rfl, rfl, Nat.le_of_ble_eq_true rfl, Nat.le_of_ble_eq_true rfl⟩ [2, 3] rfl 0 rfl rfl rfl rfl (Nat.le_of_ble_eq_true rfl) dX8_why_9 ⟨Nat.zero_le _, Nat.zero_le _⟩ (fun H locs hP hS => ?_)
  refine z_ifb_ne (tgt := 17) hx hb dX8_why_12 (by decide) (fun c_1 => ?_) (fun c_1 => ?_)
  · refine lv_aload_n hx hb dX8_why_17 rfl (lv_at hl 0 rfl) ?_
    refine va_get (D := G.1) (ci := 8) (v := .ref (aA 0)) (C := RX8) (T := TX8) (N := 7) hx hb hts inX8 hown hK hP 0 rfl rfl 0 (by decide) (hts _ wd_306) (fun _ h9 => h9) rfl dX8_why_18 ?_
    refine lv_iload_n hx hb dX8_why_21 rfl (lv_at hl 1 rfl) ?_
    refine lv_iload_n hx hb dX8_why_22 rfl (lv_at hl 2 rfl) ?_
    refine z_callS X hP hS hl.1 (c_X8_number l G _ xI yI (by first | assumption | omega) (by first | assumption | omega)) wd_380 kX8_number ⟨rfl, rfl, Nat.le_of_ble_eq_true rfl, Nat.le_of_ble_eq_true rfl⟩ [] rfl rfl rfl (Nat.le_of_ble_eq_true rfl) dX8_why_23 ⟨Nat.zero_le _, Nat.zero_le _⟩ (fun H locs hP hS => ?_)
    refine z_callV X hP hS hl.1 (c_X4_hindrance l G _ aA pP (9 * yI + xI) (by first | assumption | omega) (by first | assumption | omega)) wd_670 kX4_hindrance ⟨rfl, rfl, Nat.le_of_ble_eq_true rfl, Nat.le_of_ble_eq_true rfl⟩ [1, 2, 3, 4, 5, 6, 7, 8] rfl 0 rfl rfl rfl rfl (Nat.le_of_ble_eq_true rfl) dX8_why_26 ⟨Nat.zero_le _, Nat.zero_le _⟩ (fun H locs hP hS => ?_)
    have f_2 := pWhy_r pP (9 * yI + xI)
    refine z_eq (z := cWhy pP xI yI) (by unfold cWhy; first | rw [if_neg (by assumption)] | rw [if_pos (by assumption)]) ?_
    exact z_ret hx hb hr hlocks hS dX8_why_29
  · refine lv_iconst (v := iV (-1)) hx hb dX8_why_15 (by decide) ?_
    refine z_eq (z := cWhy pP xI yI) (by unfold cWhy; first | rw [if_neg (by assumption)] | rw [if_pos (by assumption)]) ?_
    exact z_ret hx hb hr hlocks hS dX8_why_16

set_option maxHeartbeats 4000000 in
set_option maxRecDepth 100000 in
theorem c_X8_whose (l : Launch) (G : zG) (sz : Nat) (o0 : Nat) (aA : Nat → Nat) (aS : Nat → Nat) (b0 : Nat) (k0 : Nat) (l0 : Nat) (x0 : Nat) (v0 : Nat) (pP : pT) (xI : Int) (yI : Int) (hO1 : pOK pP) (hrxI : iR xI) (hryI : iR yI) : Met l yX8_whose (Cond.code yX8_whose cX8_whose 3 (some .int) :: zT) (zRm 3 66) (zPr G [.ref o0, .int (iV xI), .int (iV yI)] [(o0, .inr (8, [.ref (aA 0), .ref (aS 0), .ref b0, .ref k0, .ref l0, .ref x0, .ref v0])), (aA 0, .inr (4, [.ref (aA 1), .ref (aA 3), .ref (aA 7), .int (iV (pS pP))])), (aA 1, .inr (0, [.int (iV (pW pP)), .int (iV (pH pP)), .ref (aA 2)])), (aA 2, .inl (G.2.1, 81, .inl (fun k => iV (pG pP k)))), (aA 3, .inr (7, [.int (iV (pN pP)), .ref (aA 4), .ref (aA 5), .ref (aA 6)])), (aA 4, .inl (G.2.1, 20, .inl (fun k => iV (pL pP k)))), (aA 5, .inl (G.2.1, 20, .inl (fun k => iV (pE pP k)))), (aA 6, .inl (G.2.1, 120, .inl (fun k => iV (pC pP k)))), (aA 7, .inl (G.2.1, 4, .inl (fun k => iV (pQ pP k))))] sz) (zQr (cWhose pP xI yI) sz) 0 0 (zF sz) := by
  refine Met.ofW (cc := cX8_whose) (maxL := 3) (ret := (some .int)) (by decide) rfl ?_
  intro p e s m args below meth c s₁ B hml hv
  obtain ⟨rfl, hsz, hP, hK, hSt⟩ := hv
  have hx := B.exec
  have hb := B.bytes
  have hr := B.returns
  have hts : ∀ w ∈ zT, w.before _ s = true := fun w h => atoms_spec (ws := (Cond.code yX8_whose cX8_whose 3 (some .int) :: zT)) B.pre w (List.mem_cons_of_mem _ h)
  have hown : s.vm.findClass RX8 = some m.cls := findClass_of_methodNamed B.named
  have hlocks := B.notSynchronized
  subst hsz
  have hA : ∀ q : Nat, s.heap.size ≤ q → zF s.heap.size q := fun _ h => h
  have hS : va_S (zF s.heap.size) s.heap s.heap [] := va_S.rf
  have hP : va_P G.1 vwCl [(o0, .inr (8, [.ref (aA 0), .ref (aS 0), .ref b0, .ref k0, .ref l0, .ref x0, .ref v0])), (aA 0, .inr (4, [.ref (aA 1), .ref (aA 3), .ref (aA 7), .int (iV (pS pP))])), (aA 1, .inr (0, [.int (iV (pW pP)), .int (iV (pH pP)), .ref (aA 2)])), (aA 2, .inl (G.2.1, 81, .inl (fun k => iV (pG pP k)))), (aA 3, .inr (7, [.int (iV (pN pP)), .ref (aA 4), .ref (aA 5), .ref (aA 6)])), (aA 4, .inl (G.2.1, 20, .inl (fun k => iV (pL pP k)))), (aA 5, .inl (G.2.1, 20, .inl (fun k => iV (pE pP k)))), (aA 6, .inl (G.2.1, 120, .inl (fun k => iV (pC pP k)))), (aA 7, .inl (G.2.1, 4, .inl (fun k => iV (pQ pP k))))] s.heap := hP
  have X := And.intro hx (And.intro hb (And.intro hml (And.intro hown (And.intro hts (And.intro hK (And.intro hSt hA))))))
  have hl := lv_entry ([.ref o0, .int (iV xI), .int (iV yI)]) (n := 3) (Nat.le_of_ble_eq_true rfl)
  rw [lg_entry_eq]
  generalize (lg_sl ([.ref o0, .int (iV xI), .int (iV yI)]) ++ List.replicate (3 - (lg_sl ([.ref o0, .int (iV xI), .int (iV yI)])).length) Slot.unset).toArray = ls at hl ⊢
  have hl : lv_has ls 3 [(0, .ref o0), (1, .int (iV xI)), (2, .int (iV yI))] := hl
  have hG := hO1.1
  have hO := hO1.2.1
  have hQ := hO1.2.2
  obtain ⟨hW0, hW9, hH0, hH9, hg⟩ := id hG
  obtain ⟨hn0, hn20, hlF, hcF⟩ := id hO
  refine lv_aload_n hx hb dX8_whose_0 rfl (lv_at hl 0 rfl) ?_
  refine va_get (D := G.1) (ci := 8) (v := .ref (aA 0)) (C := RX8) (T := TX8) (N := 7) hx hb hts inX8 hown hK hP 0 rfl rfl 0 (by decide) (hts _ wd_306) (fun _ h9 => h9) rfl dX8_whose_1 ?_
  refine va_get (D := G.1) (ci := 4) (v := .ref (aA 1)) (C := RX4) (T := TX4) (N := 4) hx hb hts inX4 hown hK hP 1 rfl rfl 0 (by decide) (hts _ wd_77) (fun _ h9 => h9) rfl dX8_whose_4 ?_
  refine lv_iload_n hx hb dX8_whose_7 rfl (lv_at hl 1 rfl) ?_
  refine lv_iload_n hx hb dX8_whose_8 rfl (lv_at hl 2 rfl) ?_
  refine z_callV X hP hS hl.1 (c_X0_has l G _ (aA 1) (aA 2) (pW pP) (pH pP) (pG pP) xI yI (by first | assumption | omega) (by first | assumption | omega) (by first | assumption | omega)) wd_376 kX0_has ⟨rfl, rfl, Nat.le_of_ble_eq_true rfl, Nat.le_of_ble_eq_true rfl⟩ [2, 3] rfl 0 rfl rfl rfl rfl (Nat.le_of_ble_eq_true rfl) dX8_whose_9 ⟨Nat.zero_le _, Nat.zero_le _⟩ (fun H locs hP hS => ?_)
  refine z_ifb_ne (tgt := 17) hx hb dX8_whose_12 (by decide) (fun c_1 => ?_) (fun c_1 => ?_)
  · refine lv_aload_n hx hb dX8_whose_17 rfl (lv_at hl 0 rfl) ?_
    refine va_get (D := G.1) (ci := 8) (v := .ref (aA 0)) (C := RX8) (T := TX8) (N := 7) hx hb hts inX8 hown hK hP 0 rfl rfl 0 (by decide) (hts _ wd_306) (fun _ h9 => h9) rfl dX8_whose_18 ?_
    refine va_get (D := G.1) (ci := 4) (v := .ref (aA 3)) (C := RX4) (T := TX4) (N := 4) hx hb hts inX4 hown hK hP 1 rfl rfl 1 (by decide) (hts _ wd_79) (fun _ h9 => h9) rfl dX8_whose_21 ?_
    refine lv_iload_n hx hb dX8_whose_24 rfl (lv_at hl 1 rfl) ?_
    refine lv_iload_n hx hb dX8_whose_25 rfl (lv_at hl 2 rfl) ?_
    refine z_callS X hP hS hl.1 (c_X8_number l G _ xI yI (by first | assumption | omega) (by first | assumption | omega)) wd_380 kX8_number ⟨rfl, rfl, Nat.le_of_ble_eq_true rfl, Nat.le_of_ble_eq_true rfl⟩ [] rfl rfl rfl (Nat.le_of_ble_eq_true rfl) dX8_whose_26 ⟨Nat.zero_le _, Nat.zero_le _⟩ (fun H locs hP hS => ?_)
    refine z_callV X hP hS hl.1 (c_X7_ownerOf l G _ (aA 3) (aA 4) (aA 5) (aA 6) (pN pP) (pL pP) (pE pP) (pC pP) (9 * yI + xI) (by first | assumption | omega) (by first | assumption | omega)) wd_720 kX7_ownerOf ⟨rfl, rfl, Nat.le_of_ble_eq_true rfl, Nat.le_of_ble_eq_true rfl⟩ [4, 5, 6, 7] rfl 0 rfl rfl rfl rfl (Nat.le_of_ble_eq_true rfl) dX8_whose_29 ⟨Nat.zero_le _, Nat.zero_le _⟩ (fun H locs hP hS => ?_)
    have hsw := sOwn_r (pL pP) (sT (pC pP)) (9 * yI + xI) (pN pP).toNat 0 (by omega)
    refine z_callS X hP hS hl.1 (c_X8_orNone l G _ (sOwn (pL pP) (sT (pC pP)) (9 * yI + xI) (pN pP).toNat 0) (by first | assumption | omega)) wd_480 kX8_orNone ⟨rfl, rfl, Nat.le_of_ble_eq_true rfl, Nat.le_of_ble_eq_true rfl⟩ [] rfl rfl rfl (Nat.le_of_ble_eq_true rfl) dX8_whose_32 ⟨Nat.zero_le _, Nat.zero_le _⟩ (fun H locs hP hS => ?_)
    refine z_eq (z := cWhose pP xI yI) (by unfold cWhose; first | rw [if_neg (by assumption)] | rw [if_pos (by assumption)]) ?_
    exact z_ret hx hb hr hlocks hS dX8_whose_35
  · refine lv_iconst (v := iV (-1)) hx hb dX8_whose_15 (by decide) ?_
    refine z_eq (z := cWhose pP xI yI) (by unfold cWhose; first | rw [if_neg (by assumption)] | rw [if_pos (by assumption)]) ?_
    exact z_ret hx hb hr hlocks hS dX8_whose_16

set_option maxHeartbeats 4000000 in
set_option maxRecDepth 100000 in
theorem c_X8_stroke (l : Launch) (G : zG) (sz : Nat) (o0 : Nat) (aA : Nat → Nat) (aS : Nat → Nat) (b0 : Nat) (k0 : Nat) (l0 : Nat) (x0 : Nat) (v0 : Nat) (pP : pT) (sI : Int) (kI : Int) (hO1 : pOK pP) (hone : ∀ s : Nat, (Nat.cast s : Int) < pN pP → 1 ≤ pL pP s) (hrsI : iR sI) (hrkI : iR kI) : Met l yX8_stroke (Cond.code yX8_stroke cX8_stroke 5 (some .int) :: zT) (zRm 2 43) (zPr G [.ref o0, .int (iV sI), .int (iV kI)] [(o0, .inr (8, [.ref (aA 0), .ref (aS 0), .ref b0, .ref k0, .ref l0, .ref x0, .ref v0])), (aA 0, .inr (4, [.ref (aA 1), .ref (aA 3), .ref (aA 7), .int (iV (pS pP))])), (aA 1, .inr (0, [.int (iV (pW pP)), .int (iV (pH pP)), .ref (aA 2)])), (aA 2, .inl (G.2.1, 81, .inl (fun k => iV (pG pP k)))), (aA 3, .inr (7, [.int (iV (pN pP)), .ref (aA 4), .ref (aA 5), .ref (aA 6)])), (aA 4, .inl (G.2.1, 20, .inl (fun k => iV (pL pP k)))), (aA 5, .inl (G.2.1, 20, .inl (fun k => iV (pE pP k)))), (aA 6, .inl (G.2.1, 120, .inl (fun k => iV (pC pP k)))), (aA 7, .inl (G.2.1, 4, .inl (fun k => iV (pQ pP k))))] sz) (zQr (cStroke pP sI kI) sz) 0 0 (zF sz) := by
  refine Met.ofW (cc := cX8_stroke) (maxL := 5) (ret := (some .int)) (by decide) rfl ?_
  intro p e s m args below meth c s₁ B hml hv
  obtain ⟨rfl, hsz, hP, hK, hSt⟩ := hv
  have hx := B.exec
  have hb := B.bytes
  have hr := B.returns
  have hts : ∀ w ∈ zT, w.before _ s = true := fun w h => atoms_spec (ws := (Cond.code yX8_stroke cX8_stroke 5 (some .int) :: zT)) B.pre w (List.mem_cons_of_mem _ h)
  have hown : s.vm.findClass RX8 = some m.cls := findClass_of_methodNamed B.named
  have hlocks := B.notSynchronized
  subst hsz
  have hA : ∀ q : Nat, s.heap.size ≤ q → zF s.heap.size q := fun _ h => h
  have hS : va_S (zF s.heap.size) s.heap s.heap [] := va_S.rf
  have hP : va_P G.1 vwCl [(o0, .inr (8, [.ref (aA 0), .ref (aS 0), .ref b0, .ref k0, .ref l0, .ref x0, .ref v0])), (aA 0, .inr (4, [.ref (aA 1), .ref (aA 3), .ref (aA 7), .int (iV (pS pP))])), (aA 1, .inr (0, [.int (iV (pW pP)), .int (iV (pH pP)), .ref (aA 2)])), (aA 2, .inl (G.2.1, 81, .inl (fun k => iV (pG pP k)))), (aA 3, .inr (7, [.int (iV (pN pP)), .ref (aA 4), .ref (aA 5), .ref (aA 6)])), (aA 4, .inl (G.2.1, 20, .inl (fun k => iV (pL pP k)))), (aA 5, .inl (G.2.1, 20, .inl (fun k => iV (pE pP k)))), (aA 6, .inl (G.2.1, 120, .inl (fun k => iV (pC pP k)))), (aA 7, .inl (G.2.1, 4, .inl (fun k => iV (pQ pP k))))] s.heap := hP
  have X := And.intro hx (And.intro hb (And.intro hml (And.intro hown (And.intro hts (And.intro hK (And.intro hSt hA))))))
  have hl := lv_entry ([.ref o0, .int (iV sI), .int (iV kI)]) (n := 5) (Nat.le_of_ble_eq_true rfl)
  rw [lg_entry_eq]
  generalize (lg_sl ([.ref o0, .int (iV sI), .int (iV kI)]) ++ List.replicate (5 - (lg_sl ([.ref o0, .int (iV sI), .int (iV kI)])).length) Slot.unset).toArray = ls at hl ⊢
  have hl : lv_has ls 5 [(0, .ref o0), (1, .int (iV sI)), (2, .int (iV kI))] := hl
  have hG := hO1.1
  have hO := hO1.2.1
  have hQ := hO1.2.2
  obtain ⟨hW0, hW9, hH0, hH9, hg⟩ := id hG
  obtain ⟨hn0, hn20, hlF, hcF⟩ := id hO
  refine lv_aload_n hx hb dX8_stroke_0 rfl (lv_at hl 0 rfl) ?_
  refine va_get (D := G.1) (ci := 8) (v := .ref (aA 0)) (C := RX8) (T := TX8) (N := 7) hx hb hts inX8 hown hK hP 0 rfl rfl 0 (by decide) (hts _ wd_306) (fun _ h9 => h9) rfl dX8_stroke_1 ?_
  refine va_get (D := G.1) (ci := 4) (v := .ref (aA 3)) (C := RX4) (T := TX4) (N := 4) hx hb hts inX4 hown hK hP 1 rfl rfl 1 (by decide) (hts _ wd_79) (fun _ h9 => h9) rfl dX8_stroke_4 ?_
  refine lv_astore_n (lv' := [(3, .ref (aA 3)), (0, .ref o0), (1, .int (iV sI)), (2, .int (iV kI))]) hx hb dX8_stroke_7 rfl hl (by decide) rfl (fun ls hl => ?_)
  refine lv_aload_n hx hb dX8_stroke_8 rfl (lv_at hl 0 rfl) ?_
  refine lv_iload_n hx hb dX8_stroke_9 rfl (lv_at hl 2 rfl) ?_
  refine z_callV X hP hS hl.1 (c_X7_has l G _ (aA 3) (aA 4) (aA 5) (aA 6) (pN pP) (pL pP) (pE pP) (pC pP) sI (by first | assumption | omega) (by first | assumption | omega)) wd_698 kX7_has ⟨rfl, rfl, Nat.le_of_ble_eq_true rfl, Nat.le_of_ble_eq_true rfl⟩ [4, 5, 6, 7] rfl 0 rfl rfl rfl rfl (Nat.le_of_ble_eq_true rfl) dX8_stroke_10 ⟨Nat.zero_le _, Nat.zero_le _⟩ (fun H locs hP hS => ?_)
  refine z_ifb_eq (tgt := 22) hx hb dX8_stroke_13 (by decide) (fun c_1 => ?_) (fun c_1 => ?_)
  · refine lv_iconst (v := iV (-1)) hx hb dX8_stroke_22 (by decide) ?_
    refine z_eq (z := cStroke pP sI kI) (by unfold cStroke; first | rw [if_neg (by omega)] | (rw [if_pos (by omega)]; first | rw [if_pos (by assumption)] | rw [if_neg (by assumption), if_pos (by assumption)] | rw [if_neg (by assumption), if_neg (by assumption), if_pos (by assumption)] | rw [if_neg (by assumption), if_neg (by assumption), if_neg (by assumption)])) ?_
    exact z_ret hx hb hr hlocks hS dX8_stroke_23
  · refine lv_iload_n hx hb dX8_stroke_16 rfl (lv_at hl 3 rfl) ?_
    refine lv_bipush (v := iV (-3)) hx hb dX8_stroke_17 (by decide) ?_
    refine z_icmp_ge (tgt := 24) hx hb (by omega) ⟨by decide, by decide⟩ dX8_stroke_19 (by decide) (fun c_2 => ?_) (fun c_2 => ?_)
    · refine lv_aload_n hx hb dX8_stroke_24 rfl (lv_at hl 0 rfl) ?_
      refine va_get (D := G.1) (ci := 7) (v := .ref (aA 4)) (C := RX7) (T := TX7) (N := 4) hx hb hts inX7 hown hK hP 4 rfl rfl 1 (by decide) (hts _ wd_61) (fun _ h9 => h9) rfl dX8_stroke_25 ?_
      refine lv_iload_n hx hb dX8_stroke_28 rfl (lv_at hl 2 rfl) ?_
      refine z_iald (G := G) (f := pL pP) hx hb hK hP 5 rfl (by omega) (by omega) (by decide) dX8_stroke_29 ?_
      have f_3 := hlF sI.toNat
      refine lv_istore (lv' := [(4, .int (iV (pL pP sI.toNat))), (3, .ref (aA 3)), (0, .ref o0), (1, .int (iV sI)), (2, .int (iV kI))]) hx hb dX8_stroke_30 hl (by decide) rfl (fun ls hl => ?_)
      refine lv_iload_n hx hb dX8_stroke_32 rfl (lv_at hl 4 rfl) ?_
      refine lv_iconst (v := iV (-1)) hx hb dX8_stroke_33 (by decide) ?_
      refine z_icmp_ne (tgt := 40) hx hb (by omega) ⟨by decide, by decide⟩ dX8_stroke_34 (by decide) (fun c_4 => ?_) (fun c_4 => ?_)
      · refine lv_iload_n hx hb dX8_stroke_40 rfl (lv_at hl 4 rfl) ?_
        refine lv_bipush (v := iV (-2)) hx hb dX8_stroke_41 (by decide) ?_
        refine z_icmp_ne (tgt := 53) hx hb (by omega) ⟨by decide, by decide⟩ dX8_stroke_43 (by decide) (fun c_5 => ?_) (fun c_5 => ?_)
        · refine lv_iload_n hx hb dX8_stroke_53 rfl (lv_at hl 4 rfl) ?_
          refine lv_bipush (v := iV (-3)) hx hb dX8_stroke_54 (by decide) ?_
          refine z_icmp_ne (tgt := 96) hx hb (by omega) ⟨by decide, by decide⟩ dX8_stroke_56 (by decide) (fun c_6 => ?_) (fun c_6 => ?_)
          · refine lv_aload_n hx hb dX8_stroke_96 rfl (lv_at hl 1 rfl) ?_
            refine lv_iload_n hx hb dX8_stroke_97 rfl (lv_at hl 3 rfl) ?_
            refine lv_iload_n hx hb dX8_stroke_98 rfl (lv_at hl 4 rfl) ?_
            refine z_callV X hP hS hl.1 (c_X7_cellAt l G _ (aA 3) (aA 4) (aA 5) (aA 6) (pN pP) (pL pP) (pE pP) (pC pP) sI kI (by first | assumption | omega) (by first | assumption | omega) (by first | assumption | omega)) wd_715 kX7_cellAt ⟨rfl, rfl, Nat.le_of_ble_eq_true rfl, Nat.le_of_ble_eq_true rfl⟩ [4, 5, 6, 7] rfl 0 rfl rfl rfl rfl (Nat.le_of_ble_eq_true rfl) dX8_stroke_99 ⟨Nat.zero_le _, Nat.zero_le _⟩ (fun H locs hP hS => ?_)
            have hs2 := sAt_R hO sI kI
            refine z_callS X hP hS hl.1 (c_X8_orNone l G _ (sAt (pL pP) (pC pP) sI kI) (by first | assumption | omega)) wd_480 kX8_orNone ⟨rfl, rfl, Nat.le_of_ble_eq_true rfl, Nat.le_of_ble_eq_true rfl⟩ [] rfl rfl rfl (Nat.le_of_ble_eq_true rfl) dX8_stroke_102 ⟨Nat.zero_le _, Nat.zero_le _⟩ (fun H locs hP hS => ?_)
            refine z_eq (z := cStroke pP sI kI) (by unfold cStroke; first | rw [if_neg (by omega)] | (rw [if_pos (by omega)]; first | rw [if_pos (by assumption)] | rw [if_neg (by assumption), if_pos (by assumption)] | rw [if_neg (by assumption), if_neg (by assumption), if_pos (by assumption)] | rw [if_neg (by assumption), if_neg (by assumption), if_neg (by assumption)])) ?_
            exact z_ret hx hb hr hlocks hS dX8_stroke_105
          · have h1l := hone sI.toNat (by omega)
            have hs0 := sAt_r hO (s := sI) (k := 0) (by omega)
            have hs1 := sAt_r hO (s := sI) (k := pL pP sI.toNat - 1) (by omega)
            refine lv_aload_n hx hb dX8_stroke_59 rfl (lv_at hl 2 rfl) ?_
            refine va_get (D := G.1) (ci := 8) (v := .ref (aA 0)) (C := RX8) (T := TX8) (N := 7) hx hb hts inX8 hown hK hP 0 rfl rfl 0 (by decide) (hts _ wd_306) (fun _ h9 => h9) rfl dX8_stroke_60 ?_
            refine va_get (D := G.1) (ci := 4) (v := .ref (aA 1)) (C := RX4) (T := TX4) (N := 4) hx hb hts inX4 hown hK hP 1 rfl rfl 0 (by decide) (hts _ wd_77) (fun _ h9 => h9) rfl dX8_stroke_63 ?_
            refine lv_aload_n hx hb dX8_stroke_66 rfl (lv_at hl 1 rfl) ?_
            refine lv_iload_n hx hb dX8_stroke_67 rfl (lv_at hl 3 rfl) ?_
            refine lv_iconst (v := iV 0) hx hb dX8_stroke_68 (by decide) ?_
            refine z_callV X hP hS hl.1 (c_X7_cellAt l G _ (aA 3) (aA 4) (aA 5) (aA 6) (pN pP) (pL pP) (pE pP) (pC pP) sI 0 (by first | assumption | omega) (by first | assumption | omega) (by first | assumption | omega)) wd_715 kX7_cellAt ⟨rfl, rfl, Nat.le_of_ble_eq_true rfl, Nat.le_of_ble_eq_true rfl⟩ [4, 5, 6, 7] rfl 0 rfl rfl rfl rfl (Nat.le_of_ble_eq_true rfl) dX8_stroke_69 ⟨Nat.zero_le _, Nat.zero_le _⟩ (fun H locs hP hS => ?_)
            refine z_callV X hP hS hl.1 (c_X0_height l G _ (aA 1) (aA 2) (pW pP) (pH pP) (pG pP) (sAt (pL pP) (pC pP) sI 0) (by first | assumption | omega) (by first | assumption | omega)) wd_383 kX0_height ⟨rfl, rfl, Nat.le_of_ble_eq_true rfl, Nat.le_of_ble_eq_true rfl⟩ [2, 3] rfl 0 rfl rfl rfl rfl (Nat.le_of_ble_eq_true rfl) dX8_stroke_72 ⟨Nat.zero_le _, Nat.zero_le _⟩ (fun H locs hP hS => ?_)
            have f_7 := gAt_r hG ((sAt (pL pP) (pC pP) sI 0) % 9) ((sAt (pL pP) (pC pP) sI 0) / 9)
            refine lv_aload_n hx hb dX8_stroke_75 rfl (lv_at hl 2 rfl) ?_
            refine va_get (D := G.1) (ci := 8) (v := .ref (aA 0)) (C := RX8) (T := TX8) (N := 7) hx hb hts inX8 hown hK hP 0 rfl rfl 0 (by decide) (hts _ wd_306) (fun _ h9 => h9) rfl dX8_stroke_76 ?_
            refine va_get (D := G.1) (ci := 4) (v := .ref (aA 1)) (C := RX4) (T := TX4) (N := 4) hx hb hts inX4 hown hK hP 1 rfl rfl 0 (by decide) (hts _ wd_77) (fun _ h9 => h9) rfl dX8_stroke_79 ?_
            refine lv_aload_n hx hb dX8_stroke_82 rfl (lv_at hl 1 rfl) ?_
            refine lv_iload_n hx hb dX8_stroke_83 rfl (lv_at hl 3 rfl) ?_
            refine lv_iload hx hb dX8_stroke_84 (lv_at hl 0 rfl) ?_
            refine lv_iconst (v := iV 1) hx hb dX8_stroke_86 (by decide) ?_
            refine z_isub hx hb dX8_stroke_87 ?_
            refine z_callV X hP hS hl.1 (c_X7_cellAt l G _ (aA 3) (aA 4) (aA 5) (aA 6) (pN pP) (pL pP) (pE pP) (pC pP) sI ((pL pP sI.toNat) - 1) (by first | assumption | omega) (by first | assumption | omega) (by first | assumption | omega)) wd_715 kX7_cellAt ⟨rfl, rfl, Nat.le_of_ble_eq_true rfl, Nat.le_of_ble_eq_true rfl⟩ [4, 5, 6, 7] rfl 0 rfl rfl rfl rfl (Nat.le_of_ble_eq_true rfl) dX8_stroke_88 ⟨Nat.zero_le _, Nat.zero_le _⟩ (fun H locs hP hS => ?_)
            refine z_callV X hP hS hl.1 (c_X0_height l G _ (aA 1) (aA 2) (pW pP) (pH pP) (pG pP) (sAt (pL pP) (pC pP) sI ((pL pP sI.toNat) - 1)) (by first | assumption | omega) (by first | assumption | omega)) wd_383 kX0_height ⟨rfl, rfl, Nat.le_of_ble_eq_true rfl, Nat.le_of_ble_eq_true rfl⟩ [2, 3] rfl 0 rfl rfl rfl rfl (Nat.le_of_ble_eq_true rfl) dX8_stroke_91 ⟨Nat.zero_le _, Nat.zero_le _⟩ (fun H locs hP hS => ?_)
            have f_8 := gAt_r hG ((sAt (pL pP) (pC pP) sI ((pL pP sI.toNat) - 1)) % 9) ((sAt (pL pP) (pC pP) sI ((pL pP sI.toNat) - 1)) / 9)
            refine z_isub hx hb dX8_stroke_94 ?_
            refine z_eq (z := cStroke pP sI kI) (by unfold cStroke; first | rw [if_neg (by omega)] | (rw [if_pos (by omega)]; first | rw [if_pos (by assumption)] | rw [if_neg (by assumption), if_pos (by assumption)] | rw [if_neg (by assumption), if_neg (by assumption), if_pos (by assumption)] | rw [if_neg (by assumption), if_neg (by assumption), if_neg (by assumption)])) ?_
            exact z_ret hx hb hr hlocks hS dX8_stroke_95
        · refine lv_aload_n hx hb dX8_stroke_46 rfl (lv_at hl 1 rfl) ?_
          refine va_get (D := G.1) (ci := 7) (v := .ref (aA 5)) (C := RX7) (T := TX7) (N := 4) hx hb hts inX7 hown hK hP 4 rfl rfl 2 (by decide) (hts _ wd_63) (fun _ h9 => h9) rfl dX8_stroke_47 ?_
          refine lv_iload_n hx hb dX8_stroke_50 rfl (lv_at hl 3 rfl) ?_
          refine z_iald (G := G) (f := pE pP) hx hb hK hP 6 rfl (by omega) (by omega) (by decide) dX8_stroke_51 ?_
          refine z_eq (z := cStroke pP sI kI) (by unfold cStroke; first | rw [if_neg (by omega)] | (rw [if_pos (by omega)]; first | rw [if_pos (by assumption)] | rw [if_neg (by assumption), if_pos (by assumption)] | rw [if_neg (by assumption), if_neg (by assumption), if_pos (by assumption)] | rw [if_neg (by assumption), if_neg (by assumption), if_neg (by assumption)])) ?_
          exact z_ret hx hb hr hlocks hS dX8_stroke_52
      · refine lv_iload hx hb dX8_stroke_37 (lv_at hl 0 rfl) ?_
        refine z_eq (z := cStroke pP sI kI) (by unfold cStroke; first | rw [if_neg (by omega)] | (rw [if_pos (by omega)]; first | rw [if_pos (by assumption)] | rw [if_neg (by assumption), if_pos (by assumption)] | rw [if_neg (by assumption), if_neg (by assumption), if_pos (by assumption)] | rw [if_neg (by assumption), if_neg (by assumption), if_neg (by assumption)])) ?_
        exact z_ret hx hb hr hlocks hS dX8_stroke_39
    · refine lv_iconst (v := iV (-1)) hx hb dX8_stroke_22 (by decide) ?_
      refine z_eq (z := cStroke pP sI kI) (by unfold cStroke; first | rw [if_neg (by omega)] | (rw [if_pos (by omega)]; first | rw [if_pos (by assumption)] | rw [if_neg (by assumption), if_pos (by assumption)] | rw [if_neg (by assumption), if_neg (by assumption), if_pos (by assumption)] | rw [if_neg (by assumption), if_neg (by assumption), if_neg (by assumption)])) ?_
      exact z_ret hx hb hr hlocks hS dX8_stroke_23

set_option maxHeartbeats 4000000 in
set_option maxRecDepth 100000 in
theorem c_X8_count (l : Launch) (G : zG) (sz : Nat) (o0 : Nat) (aA : Nat → Nat) (aS : Nat → Nat) (b0 : Nat) (k0 : Nat) (l0 : Nat) (x0 : Nat) (v0 : Nat) (pP : pT) (bk : Nat) (bs : Int) (bn : Int) (kl : Nat) (kn : Int) (kr : Int) (wI_ : Int) (hO1 : pOK pP) (hrwI_ : iR wI_) : Met l yX8_count (Cond.code yX8_count cX8_count 2 (some .int) :: zT) (zRm 5 119) (zPr G [.ref o0, .int (iV wI_)] [(o0, .inr (8, [.ref (aA 0), .ref (aS 0), .ref b0, .ref k0, .ref l0, .ref x0, .ref v0])), (aA 0, .inr (4, [.ref (aA 1), .ref (aA 3), .ref (aA 7), .int (iV (pS pP))])), (aA 1, .inr (0, [.int (iV (pW pP)), .int (iV (pH pP)), .ref (aA 2)])), (aA 2, .inl (G.2.1, 81, .inl (fun k => iV (pG pP k)))), (aA 3, .inr (7, [.int (iV (pN pP)), .ref (aA 4), .ref (aA 5), .ref (aA 6)])), (aA 4, .inl (G.2.1, 20, .inl (fun k => iV (pL pP k)))), (aA 5, .inl (G.2.1, 20, .inl (fun k => iV (pE pP k)))), (aA 6, .inl (G.2.1, 120, .inl (fun k => iV (pC pP k)))), (aA 7, .inl (G.2.1, 4, .inl (fun k => iV (pQ pP k)))), (b0, .inr (3, [.int (iV bs), .int (iV bn), .ref bk])), (k0, .inr (5, [.int (iV kn), .ref kl, .int (iV kr)]))] sz) (zQr (cCount pP bs kn wI_) sz) 0 0 (zF sz) := by
  refine Met.ofW (cc := cX8_count) (maxL := 2) (ret := (some .int)) (by decide) rfl ?_
  intro p e s m args below meth c s₁ B hml hv
  obtain ⟨rfl, hsz, hP, hK, hSt⟩ := hv
  have hx := B.exec
  have hb := B.bytes
  have hr := B.returns
  have hts : ∀ w ∈ zT, w.before _ s = true := fun w h => atoms_spec (ws := (Cond.code yX8_count cX8_count 2 (some .int) :: zT)) B.pre w (List.mem_cons_of_mem _ h)
  have hown : s.vm.findClass RX8 = some m.cls := findClass_of_methodNamed B.named
  have hlocks := B.notSynchronized
  subst hsz
  have hA : ∀ q : Nat, s.heap.size ≤ q → zF s.heap.size q := fun _ h => h
  have hS : va_S (zF s.heap.size) s.heap s.heap [] := va_S.rf
  have hP : va_P G.1 vwCl [(o0, .inr (8, [.ref (aA 0), .ref (aS 0), .ref b0, .ref k0, .ref l0, .ref x0, .ref v0])), (aA 0, .inr (4, [.ref (aA 1), .ref (aA 3), .ref (aA 7), .int (iV (pS pP))])), (aA 1, .inr (0, [.int (iV (pW pP)), .int (iV (pH pP)), .ref (aA 2)])), (aA 2, .inl (G.2.1, 81, .inl (fun k => iV (pG pP k)))), (aA 3, .inr (7, [.int (iV (pN pP)), .ref (aA 4), .ref (aA 5), .ref (aA 6)])), (aA 4, .inl (G.2.1, 20, .inl (fun k => iV (pL pP k)))), (aA 5, .inl (G.2.1, 20, .inl (fun k => iV (pE pP k)))), (aA 6, .inl (G.2.1, 120, .inl (fun k => iV (pC pP k)))), (aA 7, .inl (G.2.1, 4, .inl (fun k => iV (pQ pP k)))), (b0, .inr (3, [.int (iV bs), .int (iV bn), .ref bk])), (k0, .inr (5, [.int (iV kn), .ref kl, .int (iV kr)]))] s.heap := hP
  have X := And.intro hx (And.intro hb (And.intro hml (And.intro hown (And.intro hts (And.intro hK (And.intro hSt hA))))))
  have hl := lv_entry ([.ref o0, .int (iV wI_)]) (n := 2) (Nat.le_of_ble_eq_true rfl)
  rw [lg_entry_eq]
  generalize (lg_sl ([.ref o0, .int (iV wI_)]) ++ List.replicate (2 - (lg_sl ([.ref o0, .int (iV wI_)])).length) Slot.unset).toArray = ls at hl ⊢
  have hl : lv_has ls 2 [(0, .ref o0), (1, .int (iV wI_))] := hl
  have hG := hO1.1
  have hO := hO1.2.1
  have hQ := hO1.2.2
  obtain ⟨hW0, hW9, hH0, hH9, hg⟩ := id hG
  obtain ⟨hn0, hn20, hlF, hcF⟩ := id hO
  refine lv_iload_n hx hb dX8_count_0 rfl (lv_at hl 1 rfl) ?_
  by_cases h_1 : wI_ = 0
  · refine z_tsw (tgt := 60) (k := 0) (off := 59) hx hb dX8_count_1 h_1 (by decide) (by decide) ?_
    refine lv_aload_n hx hb dX8_count_60 rfl (lv_at hl 0 rfl) ?_
    refine va_get (D := G.1) (ci := 8) (v := .ref (aA 0)) (C := RX8) (T := TX8) (N := 7) hx hb hts inX8 hown hK hP 0 rfl rfl 0 (by decide) (hts _ wd_306) (fun _ h9 => h9) rfl dX8_count_61 ?_
    refine va_get (D := G.1) (ci := 4) (v := .ref (aA 1)) (C := RX4) (T := TX4) (N := 4) hx hb hts inX4 hown hK hP 1 rfl rfl 0 (by decide) (hts _ wd_77) (fun _ h9 => h9) rfl dX8_count_64 ?_
    refine va_get (D := G.1) (ci := 0) (v := .int (iV (pW pP))) (C := RX0) (T := TX0) (N := 3) hx hb hts inX0 hown hK hP 2 rfl rfl 0 (by decide) (hts _ wd_38) (fun _ h9 => h9) rfl dX8_count_67 ?_
    refine z_eq (z := cCount pP bs kn wI_) (by unfold cCount; first | rw [if_pos (by assumption)] | rw [if_neg (by assumption), if_pos (by assumption)] | rw [if_neg (by assumption), if_neg (by assumption), if_pos (by assumption)] | rw [if_neg (by assumption), if_neg (by assumption), if_neg (by assumption), if_pos (by assumption)] | rw [if_neg (by assumption), if_neg (by assumption), if_neg (by assumption), if_neg (by assumption), if_pos (by assumption)] | rw [if_neg (by assumption), if_neg (by assumption), if_neg (by assumption), if_neg (by assumption), if_neg (by assumption), if_pos (by assumption)] | rw [if_neg (by assumption), if_neg (by assumption), if_neg (by assumption), if_neg (by assumption), if_neg (by assumption), if_neg (by assumption), if_pos (by assumption)] | rw [if_neg (by assumption), if_neg (by assumption), if_neg (by assumption), if_neg (by assumption), if_neg (by assumption), if_neg (by assumption), if_neg (by assumption), if_pos (by assumption)] | rw [if_neg (by assumption), if_neg (by assumption), if_neg (by assumption), if_neg (by assumption), if_neg (by assumption), if_neg (by assumption), if_neg (by assumption), if_neg (by assumption), if_pos (by assumption)] | rw [if_neg (by assumption), if_neg (by assumption), if_neg (by assumption), if_neg (by assumption), if_neg (by assumption), if_neg (by assumption), if_neg (by assumption), if_neg (by assumption), if_neg (by assumption), if_pos (by assumption)] | rw [if_neg (by assumption), if_neg (by assumption), if_neg (by assumption), if_neg (by assumption), if_neg (by assumption), if_neg (by assumption), if_neg (by assumption), if_neg (by assumption), if_neg (by assumption), if_neg (by assumption), if_pos (by assumption)] | rw [if_neg (by assumption), if_neg (by assumption), if_neg (by assumption), if_neg (by assumption), if_neg (by assumption), if_neg (by assumption), if_neg (by assumption), if_neg (by assumption), if_neg (by assumption), if_neg (by assumption), if_neg (by assumption)]) ?_
    exact z_ret hx hb hr hlocks hS dX8_count_70
  by_cases h_2 : wI_ = 1
  · refine z_tsw (tgt := 71) (k := 1) (off := 70) hx hb dX8_count_1 h_2 (by decide) (by decide) ?_
    refine lv_aload_n hx hb dX8_count_71 rfl (lv_at hl 0 rfl) ?_
    refine va_get (D := G.1) (ci := 8) (v := .ref (aA 0)) (C := RX8) (T := TX8) (N := 7) hx hb hts inX8 hown hK hP 0 rfl rfl 0 (by decide) (hts _ wd_306) (fun _ h9 => h9) rfl dX8_count_72 ?_
    refine va_get (D := G.1) (ci := 4) (v := .ref (aA 1)) (C := RX4) (T := TX4) (N := 4) hx hb hts inX4 hown hK hP 1 rfl rfl 0 (by decide) (hts _ wd_77) (fun _ h9 => h9) rfl dX8_count_75 ?_
    refine va_get (D := G.1) (ci := 0) (v := .int (iV (pH pP))) (C := RX0) (T := TX0) (N := 3) hx hb hts inX0 hown hK hP 2 rfl rfl 1 (by decide) (hts _ wd_41) (fun _ h9 => h9) rfl dX8_count_78 ?_
    refine z_eq (z := cCount pP bs kn wI_) (by unfold cCount; first | rw [if_pos (by assumption)] | rw [if_neg (by assumption), if_pos (by assumption)] | rw [if_neg (by assumption), if_neg (by assumption), if_pos (by assumption)] | rw [if_neg (by assumption), if_neg (by assumption), if_neg (by assumption), if_pos (by assumption)] | rw [if_neg (by assumption), if_neg (by assumption), if_neg (by assumption), if_neg (by assumption), if_pos (by assumption)] | rw [if_neg (by assumption), if_neg (by assumption), if_neg (by assumption), if_neg (by assumption), if_neg (by assumption), if_pos (by assumption)] | rw [if_neg (by assumption), if_neg (by assumption), if_neg (by assumption), if_neg (by assumption), if_neg (by assumption), if_neg (by assumption), if_pos (by assumption)] | rw [if_neg (by assumption), if_neg (by assumption), if_neg (by assumption), if_neg (by assumption), if_neg (by assumption), if_neg (by assumption), if_neg (by assumption), if_pos (by assumption)] | rw [if_neg (by assumption), if_neg (by assumption), if_neg (by assumption), if_neg (by assumption), if_neg (by assumption), if_neg (by assumption), if_neg (by assumption), if_neg (by assumption), if_pos (by assumption)] | rw [if_neg (by assumption), if_neg (by assumption), if_neg (by assumption), if_neg (by assumption), if_neg (by assumption), if_neg (by assumption), if_neg (by assumption), if_neg (by assumption), if_neg (by assumption), if_pos (by assumption)] | rw [if_neg (by assumption), if_neg (by assumption), if_neg (by assumption), if_neg (by assumption), if_neg (by assumption), if_neg (by assumption), if_neg (by assumption), if_neg (by assumption), if_neg (by assumption), if_neg (by assumption), if_pos (by assumption)] | rw [if_neg (by assumption), if_neg (by assumption), if_neg (by assumption), if_neg (by assumption), if_neg (by assumption), if_neg (by assumption), if_neg (by assumption), if_neg (by assumption), if_neg (by assumption), if_neg (by assumption), if_neg (by assumption)]) ?_
    exact z_ret hx hb hr hlocks hS dX8_count_81
  by_cases h_3 : wI_ = 2
  · refine z_tsw (tgt := 82) (k := 2) (off := 81) hx hb dX8_count_1 h_3 (by decide) (by decide) ?_
    refine lv_aload_n hx hb dX8_count_82 rfl (lv_at hl 0 rfl) ?_
    refine va_get (D := G.1) (ci := 8) (v := .ref (aA 0)) (C := RX8) (T := TX8) (N := 7) hx hb hts inX8 hown hK hP 0 rfl rfl 0 (by decide) (hts _ wd_306) (fun _ h9 => h9) rfl dX8_count_83 ?_
    refine va_get (D := G.1) (ci := 4) (v := .int (iV (pS pP))) (C := RX4) (T := TX4) (N := 4) hx hb hts inX4 hown hK hP 1 rfl rfl 3 (by decide) (hts _ wd_85) (fun _ h9 => h9) rfl dX8_count_86 ?_
    refine z_eq (z := cCount pP bs kn wI_) (by unfold cCount; first | rw [if_pos (by assumption)] | rw [if_neg (by assumption), if_pos (by assumption)] | rw [if_neg (by assumption), if_neg (by assumption), if_pos (by assumption)] | rw [if_neg (by assumption), if_neg (by assumption), if_neg (by assumption), if_pos (by assumption)] | rw [if_neg (by assumption), if_neg (by assumption), if_neg (by assumption), if_neg (by assumption), if_pos (by assumption)] | rw [if_neg (by assumption), if_neg (by assumption), if_neg (by assumption), if_neg (by assumption), if_neg (by assumption), if_pos (by assumption)] | rw [if_neg (by assumption), if_neg (by assumption), if_neg (by assumption), if_neg (by assumption), if_neg (by assumption), if_neg (by assumption), if_pos (by assumption)] | rw [if_neg (by assumption), if_neg (by assumption), if_neg (by assumption), if_neg (by assumption), if_neg (by assumption), if_neg (by assumption), if_neg (by assumption), if_pos (by assumption)] | rw [if_neg (by assumption), if_neg (by assumption), if_neg (by assumption), if_neg (by assumption), if_neg (by assumption), if_neg (by assumption), if_neg (by assumption), if_neg (by assumption), if_pos (by assumption)] | rw [if_neg (by assumption), if_neg (by assumption), if_neg (by assumption), if_neg (by assumption), if_neg (by assumption), if_neg (by assumption), if_neg (by assumption), if_neg (by assumption), if_neg (by assumption), if_pos (by assumption)] | rw [if_neg (by assumption), if_neg (by assumption), if_neg (by assumption), if_neg (by assumption), if_neg (by assumption), if_neg (by assumption), if_neg (by assumption), if_neg (by assumption), if_neg (by assumption), if_neg (by assumption), if_pos (by assumption)] | rw [if_neg (by assumption), if_neg (by assumption), if_neg (by assumption), if_neg (by assumption), if_neg (by assumption), if_neg (by assumption), if_neg (by assumption), if_neg (by assumption), if_neg (by assumption), if_neg (by assumption), if_neg (by assumption)]) ?_
    exact z_ret hx hb hr hlocks hS dX8_count_89
  by_cases h_4 : wI_ = 3
  · refine z_tsw (tgt := 90) (k := 3) (off := 89) hx hb dX8_count_1 h_4 (by decide) (by decide) ?_
    refine lv_aload_n hx hb dX8_count_90 rfl (lv_at hl 0 rfl) ?_
    refine va_get (D := G.1) (ci := 8) (v := .ref (aA 0)) (C := RX8) (T := TX8) (N := 7) hx hb hts inX8 hown hK hP 0 rfl rfl 0 (by decide) (hts _ wd_306) (fun _ h9 => h9) rfl dX8_count_91 ?_
    refine va_get (D := G.1) (ci := 4) (v := .ref (aA 3)) (C := RX4) (T := TX4) (N := 4) hx hb hts inX4 hown hK hP 1 rfl rfl 1 (by decide) (hts _ wd_79) (fun _ h9 => h9) rfl dX8_count_94 ?_
    refine va_get (D := G.1) (ci := 7) (v := .int (iV (pN pP))) (C := RX7) (T := TX7) (N := 4) hx hb hts inX7 hown hK hP 4 rfl rfl 0 (by decide) (hts _ wd_59) (fun _ h9 => h9) rfl dX8_count_97 ?_
    refine z_eq (z := cCount pP bs kn wI_) (by unfold cCount; first | rw [if_pos (by assumption)] | rw [if_neg (by assumption), if_pos (by assumption)] | rw [if_neg (by assumption), if_neg (by assumption), if_pos (by assumption)] | rw [if_neg (by assumption), if_neg (by assumption), if_neg (by assumption), if_pos (by assumption)] | rw [if_neg (by assumption), if_neg (by assumption), if_neg (by assumption), if_neg (by assumption), if_pos (by assumption)] | rw [if_neg (by assumption), if_neg (by assumption), if_neg (by assumption), if_neg (by assumption), if_neg (by assumption), if_pos (by assumption)] | rw [if_neg (by assumption), if_neg (by assumption), if_neg (by assumption), if_neg (by assumption), if_neg (by assumption), if_neg (by assumption), if_pos (by assumption)] | rw [if_neg (by assumption), if_neg (by assumption), if_neg (by assumption), if_neg (by assumption), if_neg (by assumption), if_neg (by assumption), if_neg (by assumption), if_pos (by assumption)] | rw [if_neg (by assumption), if_neg (by assumption), if_neg (by assumption), if_neg (by assumption), if_neg (by assumption), if_neg (by assumption), if_neg (by assumption), if_neg (by assumption), if_pos (by assumption)] | rw [if_neg (by assumption), if_neg (by assumption), if_neg (by assumption), if_neg (by assumption), if_neg (by assumption), if_neg (by assumption), if_neg (by assumption), if_neg (by assumption), if_neg (by assumption), if_pos (by assumption)] | rw [if_neg (by assumption), if_neg (by assumption), if_neg (by assumption), if_neg (by assumption), if_neg (by assumption), if_neg (by assumption), if_neg (by assumption), if_neg (by assumption), if_neg (by assumption), if_neg (by assumption), if_pos (by assumption)] | rw [if_neg (by assumption), if_neg (by assumption), if_neg (by assumption), if_neg (by assumption), if_neg (by assumption), if_neg (by assumption), if_neg (by assumption), if_neg (by assumption), if_neg (by assumption), if_neg (by assumption), if_neg (by assumption)]) ?_
    exact z_ret hx hb hr hlocks hS dX8_count_100
  by_cases h_5 : wI_ = 4
  · refine z_tsw (tgt := 101) (k := 4) (off := 100) hx hb dX8_count_1 h_5 (by decide) (by decide) ?_
    refine lv_aload_n hx hb dX8_count_101 rfl (lv_at hl 0 rfl) ?_
    refine va_get (D := G.1) (ci := 8) (v := .ref (aA 0)) (C := RX8) (T := TX8) (N := 7) hx hb hts inX8 hown hK hP 0 rfl rfl 0 (by decide) (hts _ wd_306) (fun _ h9 => h9) rfl dX8_count_102 ?_
    refine va_get (D := G.1) (ci := 4) (v := .ref (aA 3)) (C := RX4) (T := TX4) (N := 4) hx hb hts inX4 hown hK hP 1 rfl rfl 1 (by decide) (hts _ wd_79) (fun _ h9 => h9) rfl dX8_count_105 ?_
    refine z_callV X hP hS hl.1 (c_X7_cellsInAll l G _ (aA 3) (aA 4) (aA 5) (aA 6) (pN pP) (pL pP) (pE pP) (pC pP) (by first | assumption | omega)) wd_728 kX7_cellsInAll ⟨rfl, rfl, Nat.le_of_ble_eq_true rfl, Nat.le_of_ble_eq_true rfl⟩ [4, 5, 6, 7] rfl 0 rfl rfl rfl rfl (Nat.le_of_ble_eq_true rfl) dX8_count_108 ⟨Nat.zero_le _, Nat.zero_le _⟩ (fun H locs hP hS => ?_)
    refine z_eq (z := cCount pP bs kn wI_) (by unfold cCount; first | rw [if_pos (by assumption)] | rw [if_neg (by assumption), if_pos (by assumption)] | rw [if_neg (by assumption), if_neg (by assumption), if_pos (by assumption)] | rw [if_neg (by assumption), if_neg (by assumption), if_neg (by assumption), if_pos (by assumption)] | rw [if_neg (by assumption), if_neg (by assumption), if_neg (by assumption), if_neg (by assumption), if_pos (by assumption)] | rw [if_neg (by assumption), if_neg (by assumption), if_neg (by assumption), if_neg (by assumption), if_neg (by assumption), if_pos (by assumption)] | rw [if_neg (by assumption), if_neg (by assumption), if_neg (by assumption), if_neg (by assumption), if_neg (by assumption), if_neg (by assumption), if_pos (by assumption)] | rw [if_neg (by assumption), if_neg (by assumption), if_neg (by assumption), if_neg (by assumption), if_neg (by assumption), if_neg (by assumption), if_neg (by assumption), if_pos (by assumption)] | rw [if_neg (by assumption), if_neg (by assumption), if_neg (by assumption), if_neg (by assumption), if_neg (by assumption), if_neg (by assumption), if_neg (by assumption), if_neg (by assumption), if_pos (by assumption)] | rw [if_neg (by assumption), if_neg (by assumption), if_neg (by assumption), if_neg (by assumption), if_neg (by assumption), if_neg (by assumption), if_neg (by assumption), if_neg (by assumption), if_neg (by assumption), if_pos (by assumption)] | rw [if_neg (by assumption), if_neg (by assumption), if_neg (by assumption), if_neg (by assumption), if_neg (by assumption), if_neg (by assumption), if_neg (by assumption), if_neg (by assumption), if_neg (by assumption), if_neg (by assumption), if_pos (by assumption)] | rw [if_neg (by assumption), if_neg (by assumption), if_neg (by assumption), if_neg (by assumption), if_neg (by assumption), if_neg (by assumption), if_neg (by assumption), if_neg (by assumption), if_neg (by assumption), if_neg (by assumption), if_neg (by assumption)]) ?_
    exact z_ret hx hb hr hlocks hS dX8_count_111
  by_cases h_6 : wI_ = 5
  · refine z_tsw (tgt := 112) (k := 5) (off := 111) hx hb dX8_count_1 h_6 (by decide) (by decide) ?_
    refine lv_aload_n hx hb dX8_count_112 rfl (lv_at hl 0 rfl) ?_
    refine va_get (D := G.1) (ci := 8) (v := .ref (aA 0)) (C := RX8) (T := TX8) (N := 7) hx hb hts inX8 hown hK hP 0 rfl rfl 0 (by decide) (hts _ wd_306) (fun _ h9 => h9) rfl dX8_count_113 ?_
    refine va_get (D := G.1) (ci := 4) (v := .ref (aA 1)) (C := RX4) (T := TX4) (N := 4) hx hb hts inX4 hown hK hP 1 rfl rfl 0 (by decide) (hts _ wd_77) (fun _ h9 => h9) rfl dX8_count_116 ?_
    refine lv_iconst (v := iV 0) hx hb dX8_count_119 (by decide) ?_
    refine z_callV X hP hS hl.1 (c_X0_cellsOfKind l G _ (aA 1) (aA 2) (pW pP) (pH pP) (pG pP) 0 (by first | assumption | omega) (by first | assumption | omega)) wd_732 kX0_cellsOfKind ⟨rfl, rfl, Nat.le_of_ble_eq_true rfl, Nat.le_of_ble_eq_true rfl⟩ [2, 3] rfl 0 rfl rfl rfl rfl (Nat.le_of_ble_eq_true rfl) dX8_count_120 ⟨Nat.zero_le _, Nat.zero_le _⟩ (fun H locs hP hS => ?_)
    have f_7 := sumN_r (P := fun k => gIn (pW pP) (pH pP) (Nat.cast k : Int) ∧ gKind (pW pP) (pH pP) (pG pP) ((Nat.cast k : Int) % 9) ((Nat.cast k : Int) / 9) 0) 81
    refine z_eq (z := cCount pP bs kn wI_) (by unfold cCount; first | rw [if_pos (by assumption)] | rw [if_neg (by assumption), if_pos (by assumption)] | rw [if_neg (by assumption), if_neg (by assumption), if_pos (by assumption)] | rw [if_neg (by assumption), if_neg (by assumption), if_neg (by assumption), if_pos (by assumption)] | rw [if_neg (by assumption), if_neg (by assumption), if_neg (by assumption), if_neg (by assumption), if_pos (by assumption)] | rw [if_neg (by assumption), if_neg (by assumption), if_neg (by assumption), if_neg (by assumption), if_neg (by assumption), if_pos (by assumption)] | rw [if_neg (by assumption), if_neg (by assumption), if_neg (by assumption), if_neg (by assumption), if_neg (by assumption), if_neg (by assumption), if_pos (by assumption)] | rw [if_neg (by assumption), if_neg (by assumption), if_neg (by assumption), if_neg (by assumption), if_neg (by assumption), if_neg (by assumption), if_neg (by assumption), if_pos (by assumption)] | rw [if_neg (by assumption), if_neg (by assumption), if_neg (by assumption), if_neg (by assumption), if_neg (by assumption), if_neg (by assumption), if_neg (by assumption), if_neg (by assumption), if_pos (by assumption)] | rw [if_neg (by assumption), if_neg (by assumption), if_neg (by assumption), if_neg (by assumption), if_neg (by assumption), if_neg (by assumption), if_neg (by assumption), if_neg (by assumption), if_neg (by assumption), if_pos (by assumption)] | rw [if_neg (by assumption), if_neg (by assumption), if_neg (by assumption), if_neg (by assumption), if_neg (by assumption), if_neg (by assumption), if_neg (by assumption), if_neg (by assumption), if_neg (by assumption), if_neg (by assumption), if_pos (by assumption)] | rw [if_neg (by assumption), if_neg (by assumption), if_neg (by assumption), if_neg (by assumption), if_neg (by assumption), if_neg (by assumption), if_neg (by assumption), if_neg (by assumption), if_neg (by assumption), if_neg (by assumption), if_neg (by assumption)]) ?_
    exact z_ret hx hb hr hlocks hS dX8_count_123
  by_cases h_8 : wI_ = 6
  · refine z_tsw (tgt := 124) (k := 6) (off := 123) hx hb dX8_count_1 h_8 (by decide) (by decide) ?_
    refine lv_aload_n hx hb dX8_count_124 rfl (lv_at hl 0 rfl) ?_
    refine va_get (D := G.1) (ci := 8) (v := .ref (aA 0)) (C := RX8) (T := TX8) (N := 7) hx hb hts inX8 hown hK hP 0 rfl rfl 0 (by decide) (hts _ wd_306) (fun _ h9 => h9) rfl dX8_count_125 ?_
    refine va_get (D := G.1) (ci := 4) (v := .ref (aA 1)) (C := RX4) (T := TX4) (N := 4) hx hb hts inX4 hown hK hP 1 rfl rfl 0 (by decide) (hts _ wd_77) (fun _ h9 => h9) rfl dX8_count_128 ?_
    refine lv_iconst (v := iV 1) hx hb dX8_count_131 (by decide) ?_
    refine z_callV X hP hS hl.1 (c_X0_cellsOfKind l G _ (aA 1) (aA 2) (pW pP) (pH pP) (pG pP) 1 (by first | assumption | omega) (by first | assumption | omega)) wd_732 kX0_cellsOfKind ⟨rfl, rfl, Nat.le_of_ble_eq_true rfl, Nat.le_of_ble_eq_true rfl⟩ [2, 3] rfl 0 rfl rfl rfl rfl (Nat.le_of_ble_eq_true rfl) dX8_count_132 ⟨Nat.zero_le _, Nat.zero_le _⟩ (fun H locs hP hS => ?_)
    have f_9 := sumN_r (P := fun k => gIn (pW pP) (pH pP) (Nat.cast k : Int) ∧ gKind (pW pP) (pH pP) (pG pP) ((Nat.cast k : Int) % 9) ((Nat.cast k : Int) / 9) 1) 81
    refine z_eq (z := cCount pP bs kn wI_) (by unfold cCount; first | rw [if_pos (by assumption)] | rw [if_neg (by assumption), if_pos (by assumption)] | rw [if_neg (by assumption), if_neg (by assumption), if_pos (by assumption)] | rw [if_neg (by assumption), if_neg (by assumption), if_neg (by assumption), if_pos (by assumption)] | rw [if_neg (by assumption), if_neg (by assumption), if_neg (by assumption), if_neg (by assumption), if_pos (by assumption)] | rw [if_neg (by assumption), if_neg (by assumption), if_neg (by assumption), if_neg (by assumption), if_neg (by assumption), if_pos (by assumption)] | rw [if_neg (by assumption), if_neg (by assumption), if_neg (by assumption), if_neg (by assumption), if_neg (by assumption), if_neg (by assumption), if_pos (by assumption)] | rw [if_neg (by assumption), if_neg (by assumption), if_neg (by assumption), if_neg (by assumption), if_neg (by assumption), if_neg (by assumption), if_neg (by assumption), if_pos (by assumption)] | rw [if_neg (by assumption), if_neg (by assumption), if_neg (by assumption), if_neg (by assumption), if_neg (by assumption), if_neg (by assumption), if_neg (by assumption), if_neg (by assumption), if_pos (by assumption)] | rw [if_neg (by assumption), if_neg (by assumption), if_neg (by assumption), if_neg (by assumption), if_neg (by assumption), if_neg (by assumption), if_neg (by assumption), if_neg (by assumption), if_neg (by assumption), if_pos (by assumption)] | rw [if_neg (by assumption), if_neg (by assumption), if_neg (by assumption), if_neg (by assumption), if_neg (by assumption), if_neg (by assumption), if_neg (by assumption), if_neg (by assumption), if_neg (by assumption), if_neg (by assumption), if_pos (by assumption)] | rw [if_neg (by assumption), if_neg (by assumption), if_neg (by assumption), if_neg (by assumption), if_neg (by assumption), if_neg (by assumption), if_neg (by assumption), if_neg (by assumption), if_neg (by assumption), if_neg (by assumption), if_neg (by assumption)]) ?_
    exact z_ret hx hb hr hlocks hS dX8_count_135
  by_cases h_10 : wI_ = 7
  · refine z_tsw (tgt := 136) (k := 7) (off := 135) hx hb dX8_count_1 h_10 (by decide) (by decide) ?_
    refine lv_aload_n hx hb dX8_count_136 rfl (lv_at hl 0 rfl) ?_
    refine va_get (D := G.1) (ci := 8) (v := .ref (aA 0)) (C := RX8) (T := TX8) (N := 7) hx hb hts inX8 hown hK hP 0 rfl rfl 0 (by decide) (hts _ wd_306) (fun _ h9 => h9) rfl dX8_count_137 ?_
    refine va_get (D := G.1) (ci := 4) (v := .ref (aA 1)) (C := RX4) (T := TX4) (N := 4) hx hb hts inX4 hown hK hP 1 rfl rfl 0 (by decide) (hts _ wd_77) (fun _ h9 => h9) rfl dX8_count_140 ?_
    refine lv_iconst (v := iV 2) hx hb dX8_count_143 (by decide) ?_
    refine z_callV X hP hS hl.1 (c_X0_cellsOfKind l G _ (aA 1) (aA 2) (pW pP) (pH pP) (pG pP) 2 (by first | assumption | omega) (by first | assumption | omega)) wd_732 kX0_cellsOfKind ⟨rfl, rfl, Nat.le_of_ble_eq_true rfl, Nat.le_of_ble_eq_true rfl⟩ [2, 3] rfl 0 rfl rfl rfl rfl (Nat.le_of_ble_eq_true rfl) dX8_count_144 ⟨Nat.zero_le _, Nat.zero_le _⟩ (fun H locs hP hS => ?_)
    have f_11 := sumN_r (P := fun k => gIn (pW pP) (pH pP) (Nat.cast k : Int) ∧ gKind (pW pP) (pH pP) (pG pP) ((Nat.cast k : Int) % 9) ((Nat.cast k : Int) / 9) 2) 81
    refine z_eq (z := cCount pP bs kn wI_) (by unfold cCount; first | rw [if_pos (by assumption)] | rw [if_neg (by assumption), if_pos (by assumption)] | rw [if_neg (by assumption), if_neg (by assumption), if_pos (by assumption)] | rw [if_neg (by assumption), if_neg (by assumption), if_neg (by assumption), if_pos (by assumption)] | rw [if_neg (by assumption), if_neg (by assumption), if_neg (by assumption), if_neg (by assumption), if_pos (by assumption)] | rw [if_neg (by assumption), if_neg (by assumption), if_neg (by assumption), if_neg (by assumption), if_neg (by assumption), if_pos (by assumption)] | rw [if_neg (by assumption), if_neg (by assumption), if_neg (by assumption), if_neg (by assumption), if_neg (by assumption), if_neg (by assumption), if_pos (by assumption)] | rw [if_neg (by assumption), if_neg (by assumption), if_neg (by assumption), if_neg (by assumption), if_neg (by assumption), if_neg (by assumption), if_neg (by assumption), if_pos (by assumption)] | rw [if_neg (by assumption), if_neg (by assumption), if_neg (by assumption), if_neg (by assumption), if_neg (by assumption), if_neg (by assumption), if_neg (by assumption), if_neg (by assumption), if_pos (by assumption)] | rw [if_neg (by assumption), if_neg (by assumption), if_neg (by assumption), if_neg (by assumption), if_neg (by assumption), if_neg (by assumption), if_neg (by assumption), if_neg (by assumption), if_neg (by assumption), if_pos (by assumption)] | rw [if_neg (by assumption), if_neg (by assumption), if_neg (by assumption), if_neg (by assumption), if_neg (by assumption), if_neg (by assumption), if_neg (by assumption), if_neg (by assumption), if_neg (by assumption), if_neg (by assumption), if_pos (by assumption)] | rw [if_neg (by assumption), if_neg (by assumption), if_neg (by assumption), if_neg (by assumption), if_neg (by assumption), if_neg (by assumption), if_neg (by assumption), if_neg (by assumption), if_neg (by assumption), if_neg (by assumption), if_neg (by assumption)]) ?_
    exact z_ret hx hb hr hlocks hS dX8_count_147
  by_cases h_12 : wI_ = 8
  · refine z_tsw (tgt := 148) (k := 8) (off := 147) hx hb dX8_count_1 h_12 (by decide) (by decide) ?_
    refine lv_aload_n hx hb dX8_count_148 rfl (lv_at hl 0 rfl) ?_
    refine va_get (D := G.1) (ci := 8) (v := .ref b0) (C := RX8) (T := TX8) (N := 7) hx hb hts inX8 hown hK hP 0 rfl rfl 2 (by decide) (hts _ wd_308) (fun _ h9 => h9) rfl dX8_count_149 ?_
    refine va_get (D := G.1) (ci := 3) (v := .int (iV bs)) (C := RX3) (T := TX3) (N := 3) hx hb hts inX3 hown hK hP 9 rfl rfl 0 (by decide) (hts _ wd_106) (fun _ h9 => h9) rfl dX8_count_152 ?_
    refine z_eq (z := cCount pP bs kn wI_) (by unfold cCount; first | rw [if_pos (by assumption)] | rw [if_neg (by assumption), if_pos (by assumption)] | rw [if_neg (by assumption), if_neg (by assumption), if_pos (by assumption)] | rw [if_neg (by assumption), if_neg (by assumption), if_neg (by assumption), if_pos (by assumption)] | rw [if_neg (by assumption), if_neg (by assumption), if_neg (by assumption), if_neg (by assumption), if_pos (by assumption)] | rw [if_neg (by assumption), if_neg (by assumption), if_neg (by assumption), if_neg (by assumption), if_neg (by assumption), if_pos (by assumption)] | rw [if_neg (by assumption), if_neg (by assumption), if_neg (by assumption), if_neg (by assumption), if_neg (by assumption), if_neg (by assumption), if_pos (by assumption)] | rw [if_neg (by assumption), if_neg (by assumption), if_neg (by assumption), if_neg (by assumption), if_neg (by assumption), if_neg (by assumption), if_neg (by assumption), if_pos (by assumption)] | rw [if_neg (by assumption), if_neg (by assumption), if_neg (by assumption), if_neg (by assumption), if_neg (by assumption), if_neg (by assumption), if_neg (by assumption), if_neg (by assumption), if_pos (by assumption)] | rw [if_neg (by assumption), if_neg (by assumption), if_neg (by assumption), if_neg (by assumption), if_neg (by assumption), if_neg (by assumption), if_neg (by assumption), if_neg (by assumption), if_neg (by assumption), if_pos (by assumption)] | rw [if_neg (by assumption), if_neg (by assumption), if_neg (by assumption), if_neg (by assumption), if_neg (by assumption), if_neg (by assumption), if_neg (by assumption), if_neg (by assumption), if_neg (by assumption), if_neg (by assumption), if_pos (by assumption)] | rw [if_neg (by assumption), if_neg (by assumption), if_neg (by assumption), if_neg (by assumption), if_neg (by assumption), if_neg (by assumption), if_neg (by assumption), if_neg (by assumption), if_neg (by assumption), if_neg (by assumption), if_neg (by assumption)]) ?_
    exact z_ret hx hb hr hlocks hS dX8_count_155
  by_cases h_13 : wI_ = 9
  · refine z_tsw (tgt := 156) (k := 9) (off := 155) hx hb dX8_count_1 h_13 (by decide) (by decide) ?_
    refine lv_aload_n hx hb dX8_count_156 rfl (lv_at hl 0 rfl) ?_
    refine va_get (D := G.1) (ci := 8) (v := .ref k0) (C := RX8) (T := TX8) (N := 7) hx hb hts inX8 hown hK hP 0 rfl rfl 3 (by decide) (hts _ wd_309) (fun _ h9 => h9) rfl dX8_count_157 ?_
    refine va_get (D := G.1) (ci := 5) (v := .int (iV kn)) (C := RX5) (T := TX5) (N := 3) hx hb hts inX5 hown hK hP 10 rfl rfl 0 (by decide) (hts _ wd_123) (fun _ h9 => h9) rfl dX8_count_160 ?_
    refine z_eq (z := cCount pP bs kn wI_) (by unfold cCount; first | rw [if_pos (by assumption)] | rw [if_neg (by assumption), if_pos (by assumption)] | rw [if_neg (by assumption), if_neg (by assumption), if_pos (by assumption)] | rw [if_neg (by assumption), if_neg (by assumption), if_neg (by assumption), if_pos (by assumption)] | rw [if_neg (by assumption), if_neg (by assumption), if_neg (by assumption), if_neg (by assumption), if_pos (by assumption)] | rw [if_neg (by assumption), if_neg (by assumption), if_neg (by assumption), if_neg (by assumption), if_neg (by assumption), if_pos (by assumption)] | rw [if_neg (by assumption), if_neg (by assumption), if_neg (by assumption), if_neg (by assumption), if_neg (by assumption), if_neg (by assumption), if_pos (by assumption)] | rw [if_neg (by assumption), if_neg (by assumption), if_neg (by assumption), if_neg (by assumption), if_neg (by assumption), if_neg (by assumption), if_neg (by assumption), if_pos (by assumption)] | rw [if_neg (by assumption), if_neg (by assumption), if_neg (by assumption), if_neg (by assumption), if_neg (by assumption), if_neg (by assumption), if_neg (by assumption), if_neg (by assumption), if_pos (by assumption)] | rw [if_neg (by assumption), if_neg (by assumption), if_neg (by assumption), if_neg (by assumption), if_neg (by assumption), if_neg (by assumption), if_neg (by assumption), if_neg (by assumption), if_neg (by assumption), if_pos (by assumption)] | rw [if_neg (by assumption), if_neg (by assumption), if_neg (by assumption), if_neg (by assumption), if_neg (by assumption), if_neg (by assumption), if_neg (by assumption), if_neg (by assumption), if_neg (by assumption), if_neg (by assumption), if_pos (by assumption)] | rw [if_neg (by assumption), if_neg (by assumption), if_neg (by assumption), if_neg (by assumption), if_neg (by assumption), if_neg (by assumption), if_neg (by assumption), if_neg (by assumption), if_neg (by assumption), if_neg (by assumption), if_neg (by assumption)]) ?_
    exact z_ret hx hb hr hlocks hS dX8_count_163
  by_cases h_14 : wI_ = 10
  · refine z_tsw (tgt := 164) (k := 10) (off := 163) hx hb dX8_count_1 h_14 (by decide) (by decide) ?_
    refine lv_aload_n hx hb dX8_count_164 rfl (lv_at hl 0 rfl) ?_
    refine va_get (D := G.1) (ci := 8) (v := .ref (aA 0)) (C := RX8) (T := TX8) (N := 7) hx hb hts inX8 hown hK hP 0 rfl rfl 0 (by decide) (hts _ wd_306) (fun _ h9 => h9) rfl dX8_count_165 ?_
    refine va_get (D := G.1) (ci := 4) (v := .ref (aA 1)) (C := RX4) (T := TX4) (N := 4) hx hb hts inX4 hown hK hP 1 rfl rfl 0 (by decide) (hts _ wd_77) (fun _ h9 => h9) rfl dX8_count_168 ?_
    refine z_callV X hP hS hl.1 (c_X0_heightsTogether l G _ (aA 1) (aA 2) (pW pP) (pH pP) (pG pP) (by first | assumption | omega)) wd_740 kX0_heightsTogether ⟨rfl, rfl, Nat.le_of_ble_eq_true rfl, Nat.le_of_ble_eq_true rfl⟩ [2, 3] rfl 0 rfl rfl rfl rfl (Nat.le_of_ble_eq_true rfl) dX8_count_171 ⟨Nat.zero_le _, Nat.zero_le _⟩ (fun H locs hP hS => ?_)
    refine z_eq (z := cCount pP bs kn wI_) (by unfold cCount; first | rw [if_pos (by assumption)] | rw [if_neg (by assumption), if_pos (by assumption)] | rw [if_neg (by assumption), if_neg (by assumption), if_pos (by assumption)] | rw [if_neg (by assumption), if_neg (by assumption), if_neg (by assumption), if_pos (by assumption)] | rw [if_neg (by assumption), if_neg (by assumption), if_neg (by assumption), if_neg (by assumption), if_pos (by assumption)] | rw [if_neg (by assumption), if_neg (by assumption), if_neg (by assumption), if_neg (by assumption), if_neg (by assumption), if_pos (by assumption)] | rw [if_neg (by assumption), if_neg (by assumption), if_neg (by assumption), if_neg (by assumption), if_neg (by assumption), if_neg (by assumption), if_pos (by assumption)] | rw [if_neg (by assumption), if_neg (by assumption), if_neg (by assumption), if_neg (by assumption), if_neg (by assumption), if_neg (by assumption), if_neg (by assumption), if_pos (by assumption)] | rw [if_neg (by assumption), if_neg (by assumption), if_neg (by assumption), if_neg (by assumption), if_neg (by assumption), if_neg (by assumption), if_neg (by assumption), if_neg (by assumption), if_pos (by assumption)] | rw [if_neg (by assumption), if_neg (by assumption), if_neg (by assumption), if_neg (by assumption), if_neg (by assumption), if_neg (by assumption), if_neg (by assumption), if_neg (by assumption), if_neg (by assumption), if_pos (by assumption)] | rw [if_neg (by assumption), if_neg (by assumption), if_neg (by assumption), if_neg (by assumption), if_neg (by assumption), if_neg (by assumption), if_neg (by assumption), if_neg (by assumption), if_neg (by assumption), if_neg (by assumption), if_pos (by assumption)] | rw [if_neg (by assumption), if_neg (by assumption), if_neg (by assumption), if_neg (by assumption), if_neg (by assumption), if_neg (by assumption), if_neg (by assumption), if_neg (by assumption), if_neg (by assumption), if_neg (by assumption), if_neg (by assumption)]) ?_
    exact z_ret hx hb hr hlocks hS dX8_count_174
  refine z_tswd (tgt := 175) hx hb (by omega) dX8_count_1 (by omega) (by decide) ?_
  refine lv_iconst (v := iV (-1)) hx hb dX8_count_175 (by decide) ?_
  refine z_eq (z := cCount pP bs kn wI_) (by unfold cCount; first | rw [if_pos (by assumption)] | rw [if_neg (by assumption), if_pos (by assumption)] | rw [if_neg (by assumption), if_neg (by assumption), if_pos (by assumption)] | rw [if_neg (by assumption), if_neg (by assumption), if_neg (by assumption), if_pos (by assumption)] | rw [if_neg (by assumption), if_neg (by assumption), if_neg (by assumption), if_neg (by assumption), if_pos (by assumption)] | rw [if_neg (by assumption), if_neg (by assumption), if_neg (by assumption), if_neg (by assumption), if_neg (by assumption), if_pos (by assumption)] | rw [if_neg (by assumption), if_neg (by assumption), if_neg (by assumption), if_neg (by assumption), if_neg (by assumption), if_neg (by assumption), if_pos (by assumption)] | rw [if_neg (by assumption), if_neg (by assumption), if_neg (by assumption), if_neg (by assumption), if_neg (by assumption), if_neg (by assumption), if_neg (by assumption), if_pos (by assumption)] | rw [if_neg (by assumption), if_neg (by assumption), if_neg (by assumption), if_neg (by assumption), if_neg (by assumption), if_neg (by assumption), if_neg (by assumption), if_neg (by assumption), if_pos (by assumption)] | rw [if_neg (by assumption), if_neg (by assumption), if_neg (by assumption), if_neg (by assumption), if_neg (by assumption), if_neg (by assumption), if_neg (by assumption), if_neg (by assumption), if_neg (by assumption), if_pos (by assumption)] | rw [if_neg (by assumption), if_neg (by assumption), if_neg (by assumption), if_neg (by assumption), if_neg (by assumption), if_neg (by assumption), if_neg (by assumption), if_neg (by assumption), if_neg (by assumption), if_neg (by assumption), if_pos (by assumption)] | rw [if_neg (by assumption), if_neg (by assumption), if_neg (by assumption), if_neg (by assumption), if_neg (by assumption), if_neg (by assumption), if_neg (by assumption), if_neg (by assumption), if_neg (by assumption), if_neg (by assumption), if_neg (by assumption)]) ?_
  exact z_ret hx hb hr hlocks hS dX8_count_176

set_option maxHeartbeats 4000000 in
set_option maxRecDepth 100000 in
theorem c_X8_write (l : Launch) (G : zG) (sz : Nat) (o0 : Nat) (aA : Nat → Nat) (aS : Nat → Nat) (b0 : Nat) (k0 : Nat) (l0 : Nat) (x0 : Nat) (v0 : Nat) (kl : Nat) (kn : Int) (tx : Nat → Int) (kr : Int) (le : Int) (hkn : 0 ≤ kn ∧ kn ≤ 200) (htx : ∀ k : Nat, 0 ≤ tx k ∧ tx k < 128) (hrle : iR le) : Met l yX8_write (Cond.code yX8_write cX8_write 2 (some .int) :: zT) (zRm 1 21) (zPw G [.ref o0, .int (iV le)] [(o0, .inr (8, [.ref (aA 0), .ref (aS 0), .ref b0, .ref k0, .ref l0, .ref x0, .ref v0])), (k0, .inr (5, [.int (iV kn), .ref kl, .int (iV kr)])), (kl, .inl (G.2.2.2.1, 200, .inl (fun k => iV (tx k))))] sz) (zQw G ((cWrite kn tx le).1) [(o0, .inr (8, [.ref (aA 0), .ref (aS 0), .ref b0, .ref k0, .ref l0, .ref x0, .ref v0])), (k0, .inr (5, [.int (iV kn), .ref kl, .int (iV kr)])), (kl, .inl (G.2.2.2.1, 200, .inl (fun k => iV (tx k))))] [(o0, .inr (8, [.ref (aA 0), .ref (aS 0), .ref b0, .ref k0, .ref l0, .ref x0, .ref v0])), (k0, .inr (5, [.int (iV ((cWrite kn tx le).2.1)), .ref kl, .int (iV kr)])), (kl, .inl (G.2.2.2.1, 200, .inl (fun k => iV ((cWrite kn tx le).2.2 k))))] sz) 0 0 (va_A [(o0, .inr (8, [.ref (aA 0), .ref (aS 0), .ref b0, .ref k0, .ref l0, .ref x0, .ref v0])), (k0, .inr (5, [.int (iV kn), .ref kl, .int (iV kr)])), (kl, .inl (G.2.2.2.1, 200, .inl (fun k => iV (tx k))))] sz) := by
  refine Met.ofW (cc := cX8_write) (maxL := 2) (ret := (some .int)) (by decide) rfl ?_
  intro p e s m args below meth c s₁ B hml hv
  obtain ⟨rfl, hsz, hP, hK, hSt, hD0⟩ := hv
  have hx := B.exec
  have hb := B.bytes
  have hr := B.returns
  have hts : ∀ w ∈ zT, w.before _ s = true := fun w h => atoms_spec (ws := (Cond.code yX8_write cX8_write 2 (some .int) :: zT)) B.pre w (List.mem_cons_of_mem _ h)
  have hown : s.vm.findClass RX8 = some m.cls := findClass_of_methodNamed B.named
  have hlocks := B.notSynchronized
  subst hsz
  have hD : va_D (va_A [(o0, .inr (8, [.ref (aA 0), .ref (aS 0), .ref b0, .ref k0, .ref l0, .ref x0, .ref v0])), (k0, .inr (5, [.int (iV kn), .ref kl, .int (iV kr)])), (kl, .inl (G.2.2.2.1, 200, .inl (fun k => iV (tx k))))] s.heap.size) [(o0, .inr (8, [.ref (aA 0), .ref (aS 0), .ref b0, .ref k0, .ref l0, .ref x0, .ref v0])), (k0, .inr (5, [.int (iV kn), .ref kl, .int (iV kr)])), (kl, .inl (G.2.2.2.1, 200, .inl (fun k => iV (tx k))))] := hD0.self
  have hA : ∀ q : Nat, s.heap.size ≤ q → va_A [(o0, .inr (8, [.ref (aA 0), .ref (aS 0), .ref b0, .ref k0, .ref l0, .ref x0, .ref v0])), (k0, .inr (5, [.int (iV kn), .ref kl, .int (iV kr)])), (kl, .inl (G.2.2.2.1, 200, .inl (fun k => iV (tx k))))] s.heap.size q := fun q h => Or.inr h
  have hS : va_S (va_A [(o0, .inr (8, [.ref (aA 0), .ref (aS 0), .ref b0, .ref k0, .ref l0, .ref x0, .ref v0])), (k0, .inr (5, [.int (iV kn), .ref kl, .int (iV kr)])), (kl, .inl (G.2.2.2.1, 200, .inl (fun k => iV (tx k))))] s.heap.size) s.heap s.heap [] := va_S.rf
  have hP : va_P G.1 vwCl [(o0, .inr (8, [.ref (aA 0), .ref (aS 0), .ref b0, .ref k0, .ref l0, .ref x0, .ref v0])), (k0, .inr (5, [.int (iV kn), .ref kl, .int (iV kr)])), (kl, .inl (G.2.2.2.1, 200, .inl (fun k => iV (tx k))))] s.heap := hP
  have X := And.intro hx (And.intro hb (And.intro hml (And.intro hown (And.intro hts (And.intro hK (And.intro hSt hA))))))
  have hl := lv_entry ([.ref o0, .int (iV le)]) (n := 2) (Nat.le_of_ble_eq_true rfl)
  rw [lg_entry_eq]
  generalize (lg_sl ([.ref o0, .int (iV le)]) ++ List.replicate (2 - (lg_sl ([.ref o0, .int (iV le)])).length) Slot.unset).toArray = ls at hl ⊢
  have hl : lv_has ls 2 [(0, .ref o0), (1, .int (iV le))] := hl
  refine lv_iload_n hx hb dX8_write_0 rfl (lv_at hl 1 rfl) ?_
  refine lv_bipush (v := iV 32) hx hb dX8_write_1 (by decide) ?_
  refine z_icmp_lt (tgt := 12) hx hb (by omega) ⟨by decide, by decide⟩ dX8_write_3 (by decide) (fun c_1 => ?_) (fun c_1 => ?_)
  · refine lv_iconst (v := iV (-1)) hx hb dX8_write_12 (by decide) ?_
    refine z_eq (z := (cWrite kn tx le).1) (by unfold cWrite; first | rw [if_neg (by omega)] | (rw [if_pos (by omega)]; first | rw [if_neg (by omega)] | rw [if_pos (by omega)])) ?_
    have hP : va_P G.1 vwCl [(o0, .inr (8, [.ref (aA 0), .ref (aS 0), .ref b0, .ref k0, .ref l0, .ref x0, .ref v0])), (k0, .inr (5, [.int (iV ((cWrite kn tx le).2.1)), .ref kl, .int (iV kr)])), (kl, .inl (G.2.2.2.1, 200, .inl (fun k => iV ((cWrite kn tx le).2.2 k))))] _ := z_castP (by unfold cWrite; first | rw [if_neg (by omega)] | (rw [if_pos (by omega)]; first | rw [if_neg (by omega)] | rw [if_pos (by omega)])) hP
    exact z_retw hx hb hr hlocks hP hS dX8_write_13
  · refine lv_iload_n hx hb dX8_write_6 rfl (lv_at hl 1 rfl) ?_
    refine lv_bipush (v := iV 126) hx hb dX8_write_7 (by decide) ?_
    refine z_icmp_le (tgt := 14) hx hb (by omega) ⟨by decide, by decide⟩ dX8_write_9 (by decide) (fun c_2 => ?_) (fun c_2 => ?_)
    · refine lv_aload_n hx hb dX8_write_14 rfl (lv_at hl 0 rfl) ?_
      refine va_get (D := G.1) (ci := 8) (v := .ref k0) (C := RX8) (T := TX8) (N := 7) hx hb hts inX8 hown hK hP 0 rfl rfl 3 (by decide) (hts _ wd_309) (fun _ h9 => h9) rfl dX8_write_15 ?_
      refine va_get (D := G.1) (ci := 5) (v := .int (iV kn)) (C := RX5) (T := TX5) (N := 3) hx hb hts inX5 hown hK hP 1 rfl rfl 0 (by decide) (hts _ wd_123) (fun _ h9 => h9) rfl dX8_write_18 ?_
      refine lv_sipush (v := iV 200) hx hb dX8_write_21 (by decide) ?_
      refine z_icmp_lt (tgt := 30) hx hb (by omega) ⟨by decide, by decide⟩ dX8_write_24 (by decide) (fun c_3 => ?_) (fun c_3 => ?_)
      · refine lv_aload_n hx hb dX8_write_30 rfl (lv_at hl 0 rfl) ?_
        refine va_get (D := G.1) (ci := 8) (v := .ref k0) (C := RX8) (T := TX8) (N := 7) hx hb hts inX8 hown hK hP 0 rfl rfl 3 (by decide) (hts _ wd_309) (fun _ h9 => h9) rfl dX8_write_31 ?_
        refine lv_iload_n hx hb dX8_write_34 rfl (lv_at hl 1 rfl) ?_
        refine z_callVwv (w2 := [(o0, .inr (8, [.ref (aA 0), .ref (aS 0), .ref b0, .ref k0, .ref l0, .ref x0, .ref v0])), (k0, .inr (5, [.int (iV (kn + 1)), .ref kl, .int (iV kr)])), (kl, .inl (G.2.2.2.1, 200, .inl (fun k => iV (uI tx kn.toNat le k))))]) X hP hD hS hl.1 (c_X5_add l G _ k0 kl kn tx kr le (by first | assumption | omega) (by first | assumption | omega) (by first | assumption | omega) (by first | assumption | omega)) wd_333 kX5_add ⟨rfl, rfl, Nat.le_of_ble_eq_true rfl, Nat.le_of_ble_eq_true rfl⟩ [1, 2] [0] rfl rfl rfl ⟨rfl, rfl⟩ rfl (by decide) 0 rfl rfl rfl rfl (Nat.le_of_ble_eq_true rfl) dX8_write_35 ⟨Nat.zero_le _, Nat.zero_le _⟩ (fun H locs hP hD hS => ?_)
        refine lv_aload_n hx hb dX8_write_38 rfl (lv_at hl 0 rfl) ?_
        refine va_get (D := G.1) (ci := 8) (v := .ref k0) (C := RX8) (T := TX8) (N := 7) hx hb hts inX8 hown hK hP 0 rfl rfl 3 (by decide) (hts _ wd_309) (fun _ h9 => h9) rfl dX8_write_39 ?_
        refine va_get (D := G.1) (ci := 5) (v := .int (iV (kn + 1))) (C := RX5) (T := TX5) (N := 3) hx hb hts inX5 hown hK hP 1 rfl rfl 0 (by decide) (hts _ wd_123) (fun _ h9 => h9) rfl dX8_write_42 ?_
        refine z_eq (z := (cWrite kn tx le).1) (by unfold cWrite; first | rw [if_neg (by omega)] | (rw [if_pos (by omega)]; first | rw [if_neg (by omega)] | rw [if_pos (by omega)])) ?_
        have hP : va_P G.1 vwCl [(o0, .inr (8, [.ref (aA 0), .ref (aS 0), .ref b0, .ref k0, .ref l0, .ref x0, .ref v0])), (k0, .inr (5, [.int (iV ((cWrite kn tx le).2.1)), .ref kl, .int (iV kr)])), (kl, .inl (G.2.2.2.1, 200, .inl (fun k => iV ((cWrite kn tx le).2.2 k))))] _ := z_castP (by unfold cWrite; first | rw [if_neg (by omega)] | (rw [if_pos (by omega)]; first | rw [if_neg (by omega)] | rw [if_pos (by omega)])) hP
        exact z_retw hx hb hr hlocks hP hS dX8_write_45
      · refine lv_bipush (v := iV (-3)) hx hb dX8_write_27 (by decide) ?_
        refine z_eq (z := (cWrite kn tx le).1) (by unfold cWrite; first | rw [if_neg (by omega)] | (rw [if_pos (by omega)]; first | rw [if_neg (by omega)] | rw [if_pos (by omega)])) ?_
        have hP : va_P G.1 vwCl [(o0, .inr (8, [.ref (aA 0), .ref (aS 0), .ref b0, .ref k0, .ref l0, .ref x0, .ref v0])), (k0, .inr (5, [.int (iV ((cWrite kn tx le).2.1)), .ref kl, .int (iV kr)])), (kl, .inl (G.2.2.2.1, 200, .inl (fun k => iV ((cWrite kn tx le).2.2 k))))] _ := z_castP (by unfold cWrite; first | rw [if_neg (by omega)] | (rw [if_pos (by omega)]; first | rw [if_neg (by omega)] | rw [if_pos (by omega)])) hP
        exact z_retw hx hb hr hlocks hP hS dX8_write_29
    · refine lv_iconst (v := iV (-1)) hx hb dX8_write_12 (by decide) ?_
      refine z_eq (z := (cWrite kn tx le).1) (by unfold cWrite; first | rw [if_neg (by omega)] | (rw [if_pos (by omega)]; first | rw [if_neg (by omega)] | rw [if_pos (by omega)])) ?_
      have hP : va_P G.1 vwCl [(o0, .inr (8, [.ref (aA 0), .ref (aS 0), .ref b0, .ref k0, .ref l0, .ref x0, .ref v0])), (k0, .inr (5, [.int (iV ((cWrite kn tx le).2.1)), .ref kl, .int (iV kr)])), (kl, .inl (G.2.2.2.1, 200, .inl (fun k => iV ((cWrite kn tx le).2.2 k))))] _ := z_castP (by unfold cWrite; first | rw [if_neg (by omega)] | (rw [if_pos (by omega)]; first | rw [if_neg (by omega)] | rw [if_pos (by omega)])) hP
      exact z_retw hx hb hr hlocks hP hS dX8_write_13

set_option maxHeartbeats 4000000 in
set_option maxRecDepth 100000 in
theorem c_X8_wipe (l : Launch) (G : zG) (sz : Nat) (o0 : Nat) (aA : Nat → Nat) (aS : Nat → Nat) (b0 : Nat) (k0 : Nat) (l0 : Nat) (x0 : Nat) (v0 : Nat) (kl : Nat) (kn : Int) (tx : Nat → Int) (kr : Int) (hkn : 0 ≤ kn ∧ kn ≤ 200) (htx : ∀ k : Nat, 0 ≤ tx k ∧ tx k < 128) : Met l yX8_wipe (Cond.code yX8_wipe cX8_wipe 2 (some .int) :: zT) (zRm 1 20) (zPw G [.ref o0] [(o0, .inr (8, [.ref (aA 0), .ref (aS 0), .ref b0, .ref k0, .ref l0, .ref x0, .ref v0])), (k0, .inr (5, [.int (iV kn), .ref kl, .int (iV kr)])), (kl, .inl (G.2.2.2.1, 200, .inl (fun k => iV (tx k))))] sz) (zQw G kn [(o0, .inr (8, [.ref (aA 0), .ref (aS 0), .ref b0, .ref k0, .ref l0, .ref x0, .ref v0])), (k0, .inr (5, [.int (iV kn), .ref kl, .int (iV kr)])), (kl, .inl (G.2.2.2.1, 200, .inl (fun k => iV (tx k))))] [(o0, .inr (8, [.ref (aA 0), .ref (aS 0), .ref b0, .ref k0, .ref l0, .ref x0, .ref v0])), (k0, .inr (5, [.int (iV 0), .ref kl, .int (iV kr)])), (kl, .inl (G.2.2.2.1, 200, .inl (fun k => iV (tx k))))] sz) 0 0 (va_A [(o0, .inr (8, [.ref (aA 0), .ref (aS 0), .ref b0, .ref k0, .ref l0, .ref x0, .ref v0])), (k0, .inr (5, [.int (iV kn), .ref kl, .int (iV kr)])), (kl, .inl (G.2.2.2.1, 200, .inl (fun k => iV (tx k))))] sz) := by
  refine Met.ofW (cc := cX8_wipe) (maxL := 2) (ret := (some .int)) (by decide) rfl ?_
  intro p e s m args below meth c s₁ B hml hv
  obtain ⟨rfl, hsz, hP, hK, hSt, hD0⟩ := hv
  have hx := B.exec
  have hb := B.bytes
  have hr := B.returns
  have hts : ∀ w ∈ zT, w.before _ s = true := fun w h => atoms_spec (ws := (Cond.code yX8_wipe cX8_wipe 2 (some .int) :: zT)) B.pre w (List.mem_cons_of_mem _ h)
  have hown : s.vm.findClass RX8 = some m.cls := findClass_of_methodNamed B.named
  have hlocks := B.notSynchronized
  subst hsz
  have hD : va_D (va_A [(o0, .inr (8, [.ref (aA 0), .ref (aS 0), .ref b0, .ref k0, .ref l0, .ref x0, .ref v0])), (k0, .inr (5, [.int (iV kn), .ref kl, .int (iV kr)])), (kl, .inl (G.2.2.2.1, 200, .inl (fun k => iV (tx k))))] s.heap.size) [(o0, .inr (8, [.ref (aA 0), .ref (aS 0), .ref b0, .ref k0, .ref l0, .ref x0, .ref v0])), (k0, .inr (5, [.int (iV kn), .ref kl, .int (iV kr)])), (kl, .inl (G.2.2.2.1, 200, .inl (fun k => iV (tx k))))] := hD0.self
  have hA : ∀ q : Nat, s.heap.size ≤ q → va_A [(o0, .inr (8, [.ref (aA 0), .ref (aS 0), .ref b0, .ref k0, .ref l0, .ref x0, .ref v0])), (k0, .inr (5, [.int (iV kn), .ref kl, .int (iV kr)])), (kl, .inl (G.2.2.2.1, 200, .inl (fun k => iV (tx k))))] s.heap.size q := fun q h => Or.inr h
  have hS : va_S (va_A [(o0, .inr (8, [.ref (aA 0), .ref (aS 0), .ref b0, .ref k0, .ref l0, .ref x0, .ref v0])), (k0, .inr (5, [.int (iV kn), .ref kl, .int (iV kr)])), (kl, .inl (G.2.2.2.1, 200, .inl (fun k => iV (tx k))))] s.heap.size) s.heap s.heap [] := va_S.rf
  have hP : va_P G.1 vwCl [(o0, .inr (8, [.ref (aA 0), .ref (aS 0), .ref b0, .ref k0, .ref l0, .ref x0, .ref v0])), (k0, .inr (5, [.int (iV kn), .ref kl, .int (iV kr)])), (kl, .inl (G.2.2.2.1, 200, .inl (fun k => iV (tx k))))] s.heap := hP
  have X := And.intro hx (And.intro hb (And.intro hml (And.intro hown (And.intro hts (And.intro hK (And.intro hSt hA))))))
  have hl := lv_entry ([.ref o0]) (n := 2) (Nat.le_of_ble_eq_true rfl)
  rw [lg_entry_eq]
  generalize (lg_sl ([.ref o0]) ++ List.replicate (2 - (lg_sl ([.ref o0])).length) Slot.unset).toArray = ls at hl ⊢
  have hl : lv_has ls 2 [(0, .ref o0)] := hl
  refine lv_aload_n hx hb dX8_wipe_0 rfl (lv_at hl 0 rfl) ?_
  refine va_get (D := G.1) (ci := 8) (v := .ref k0) (C := RX8) (T := TX8) (N := 7) hx hb hts inX8 hown hK hP 0 rfl rfl 3 (by decide) (hts _ wd_309) (fun _ h9 => h9) rfl dX8_wipe_1 ?_
  refine va_get (D := G.1) (ci := 5) (v := .int (iV kn)) (C := RX5) (T := TX5) (N := 3) hx hb hts inX5 hown hK hP 1 rfl rfl 0 (by decide) (hts _ wd_123) (fun _ h9 => h9) rfl dX8_wipe_4 ?_
  refine lv_istore_n (lv' := [(1, .int (iV kn)), (0, .ref o0)]) hx hb dX8_wipe_7 rfl hl (by decide) rfl (fun ls hl => ?_)
  refine lv_aload_n hx hb dX8_wipe_8 rfl (lv_at hl 1 rfl) ?_
  refine va_get (D := G.1) (ci := 8) (v := .ref k0) (C := RX8) (T := TX8) (N := 7) hx hb hts inX8 hown hK hP 0 rfl rfl 3 (by decide) (hts _ wd_309) (fun _ h9 => h9) rfl dX8_wipe_9 ?_
  refine z_callVwv (w2 := [(o0, .inr (8, [.ref (aA 0), .ref (aS 0), .ref b0, .ref k0, .ref l0, .ref x0, .ref v0])), (k0, .inr (5, [.int (iV 0), .ref kl, .int (iV kr)])), (kl, .inl (G.2.2.2.1, 200, .inl (fun k => iV (tx k))))]) X hP hD hS hl.1 (c_X5_clear l G _ k0 kl kn tx kr (by first | assumption | omega) (by first | assumption | omega)) wd_302 kX5_clear ⟨rfl, rfl, Nat.le_of_ble_eq_true rfl, Nat.le_of_ble_eq_true rfl⟩ [1, 2] [0] rfl rfl rfl ⟨rfl, rfl⟩ rfl (by decide) 0 rfl rfl rfl rfl (Nat.le_of_ble_eq_true rfl) dX8_wipe_12 ⟨Nat.zero_le _, Nat.zero_le _⟩ (fun H locs hP hD hS => ?_)
  refine lv_iload_n hx hb dX8_wipe_15 rfl (lv_at hl 0 rfl) ?_
  exact z_retw hx hb hr hlocks hP hS dX8_wipe_16

set_option maxHeartbeats 4000000 in
set_option maxRecDepth 100000 in
theorem c_X8_fault (l : Launch) (G : zG) (sz : Nat) (o0 : Nat) (aA : Nat → Nat) (aS : Nat → Nat) (b0 : Nat) (k0 : Nat) (l0 : Nat) (x0 : Nat) (v0 : Nat) (kl : Nat) (kn : Int) (tx : Nat → Int) (kr : Int) (sP : pT) (hkn : 0 ≤ kn ∧ kn ≤ 200) (htx : ∀ k : Nat, 0 ≤ tx k ∧ tx k < 128) (hO1 : pOK sP) : Met l yX8_fault (Cond.code yX8_fault cX8_fault 1 (some .int) :: zT) (zRm 5 114) (zPw G [.ref o0] [(o0, .inr (8, [.ref (aA 0), .ref (aS 0), .ref b0, .ref k0, .ref l0, .ref x0, .ref v0])), (k0, .inr (5, [.int (iV kn), .ref kl, .int (iV kr)])), (kl, .inl (G.2.2.2.1, 200, .inl (fun k => iV (tx k)))), (aS 0, .inr (4, [.ref (aS 1), .ref (aS 3), .ref (aS 7), .int (iV (pS sP))])), (aS 1, .inr (0, [.int (iV (pW sP)), .int (iV (pH sP)), .ref (aS 2)])), (aS 2, .inl (G.2.1, 81, .inl (fun k => iV (pG sP k)))), (aS 3, .inr (7, [.int (iV (pN sP)), .ref (aS 4), .ref (aS 5), .ref (aS 6)])), (aS 4, .inl (G.2.1, 20, .inl (fun k => iV (pL sP k)))), (aS 5, .inl (G.2.1, 20, .inl (fun k => iV (pE sP k)))), (aS 6, .inl (G.2.1, 120, .inl (fun k => iV (pC sP k)))), (aS 7, .inl (G.2.1, 4, .inl (fun k => iV (pQ sP k))))] sz) (zQw G ((kRd tx kn 200 (pClear sP) 0 0).1) [(o0, .inr (8, [.ref (aA 0), .ref (aS 0), .ref b0, .ref k0, .ref l0, .ref x0, .ref v0])), (k0, .inr (5, [.int (iV kn), .ref kl, .int (iV kr)])), (kl, .inl (G.2.2.2.1, 200, .inl (fun k => iV (tx k)))), (aS 0, .inr (4, [.ref (aS 1), .ref (aS 3), .ref (aS 7), .int (iV (pS sP))])), (aS 1, .inr (0, [.int (iV (pW sP)), .int (iV (pH sP)), .ref (aS 2)])), (aS 2, .inl (G.2.1, 81, .inl (fun k => iV (pG sP k)))), (aS 3, .inr (7, [.int (iV (pN sP)), .ref (aS 4), .ref (aS 5), .ref (aS 6)])), (aS 4, .inl (G.2.1, 20, .inl (fun k => iV (pL sP k)))), (aS 5, .inl (G.2.1, 20, .inl (fun k => iV (pE sP k)))), (aS 6, .inl (G.2.1, 120, .inl (fun k => iV (pC sP k)))), (aS 7, .inl (G.2.1, 4, .inl (fun k => iV (pQ sP k))))] [(o0, .inr (8, [.ref (aA 0), .ref (aS 0), .ref b0, .ref k0, .ref l0, .ref x0, .ref v0])), (k0, .inr (5, [.int (iV kn), .ref kl, .int (iV ((kRd tx kn 200 (pClear sP) 0 0).2.2))])), (kl, .inl (G.2.2.2.1, 200, .inl (fun k => iV (tx k)))), (aS 0, .inr (4, [.ref (aS 1), .ref (aS 3), .ref (aS 7), .int (iV (pS ((kRd tx kn 200 (pClear sP) 0 0).2.1)))])), (aS 1, .inr (0, [.int (iV (pW ((kRd tx kn 200 (pClear sP) 0 0).2.1))), .int (iV (pH ((kRd tx kn 200 (pClear sP) 0 0).2.1))), .ref (aS 2)])), (aS 2, .inl (G.2.1, 81, .inl (fun k => iV (pG ((kRd tx kn 200 (pClear sP) 0 0).2.1) k)))), (aS 3, .inr (7, [.int (iV (pN ((kRd tx kn 200 (pClear sP) 0 0).2.1))), .ref (aS 4), .ref (aS 5), .ref (aS 6)])), (aS 4, .inl (G.2.1, 20, .inl (fun k => iV (pL ((kRd tx kn 200 (pClear sP) 0 0).2.1) k)))), (aS 5, .inl (G.2.1, 20, .inl (fun k => iV (pE ((kRd tx kn 200 (pClear sP) 0 0).2.1) k)))), (aS 6, .inl (G.2.1, 120, .inl (fun k => iV (pC ((kRd tx kn 200 (pClear sP) 0 0).2.1) k)))), (aS 7, .inl (G.2.1, 4, .inl (fun k => iV (pQ ((kRd tx kn 200 (pClear sP) 0 0).2.1) k))))] sz) 0 0 (va_A [(o0, .inr (8, [.ref (aA 0), .ref (aS 0), .ref b0, .ref k0, .ref l0, .ref x0, .ref v0])), (k0, .inr (5, [.int (iV kn), .ref kl, .int (iV kr)])), (kl, .inl (G.2.2.2.1, 200, .inl (fun k => iV (tx k)))), (aS 0, .inr (4, [.ref (aS 1), .ref (aS 3), .ref (aS 7), .int (iV (pS sP))])), (aS 1, .inr (0, [.int (iV (pW sP)), .int (iV (pH sP)), .ref (aS 2)])), (aS 2, .inl (G.2.1, 81, .inl (fun k => iV (pG sP k)))), (aS 3, .inr (7, [.int (iV (pN sP)), .ref (aS 4), .ref (aS 5), .ref (aS 6)])), (aS 4, .inl (G.2.1, 20, .inl (fun k => iV (pL sP k)))), (aS 5, .inl (G.2.1, 20, .inl (fun k => iV (pE sP k)))), (aS 6, .inl (G.2.1, 120, .inl (fun k => iV (pC sP k)))), (aS 7, .inl (G.2.1, 4, .inl (fun k => iV (pQ sP k))))] sz) := by
  refine Met.ofW (cc := cX8_fault) (maxL := 1) (ret := (some .int)) (by decide) rfl ?_
  intro p e s m args below meth c s₁ B hml hv
  obtain ⟨rfl, hsz, hP, hK, hSt, hD0⟩ := hv
  have hx := B.exec
  have hb := B.bytes
  have hr := B.returns
  have hts : ∀ w ∈ zT, w.before _ s = true := fun w h => atoms_spec (ws := (Cond.code yX8_fault cX8_fault 1 (some .int) :: zT)) B.pre w (List.mem_cons_of_mem _ h)
  have hown : s.vm.findClass RX8 = some m.cls := findClass_of_methodNamed B.named
  have hlocks := B.notSynchronized
  subst hsz
  have hD : va_D (va_A [(o0, .inr (8, [.ref (aA 0), .ref (aS 0), .ref b0, .ref k0, .ref l0, .ref x0, .ref v0])), (k0, .inr (5, [.int (iV kn), .ref kl, .int (iV kr)])), (kl, .inl (G.2.2.2.1, 200, .inl (fun k => iV (tx k)))), (aS 0, .inr (4, [.ref (aS 1), .ref (aS 3), .ref (aS 7), .int (iV (pS sP))])), (aS 1, .inr (0, [.int (iV (pW sP)), .int (iV (pH sP)), .ref (aS 2)])), (aS 2, .inl (G.2.1, 81, .inl (fun k => iV (pG sP k)))), (aS 3, .inr (7, [.int (iV (pN sP)), .ref (aS 4), .ref (aS 5), .ref (aS 6)])), (aS 4, .inl (G.2.1, 20, .inl (fun k => iV (pL sP k)))), (aS 5, .inl (G.2.1, 20, .inl (fun k => iV (pE sP k)))), (aS 6, .inl (G.2.1, 120, .inl (fun k => iV (pC sP k)))), (aS 7, .inl (G.2.1, 4, .inl (fun k => iV (pQ sP k))))] s.heap.size) [(o0, .inr (8, [.ref (aA 0), .ref (aS 0), .ref b0, .ref k0, .ref l0, .ref x0, .ref v0])), (k0, .inr (5, [.int (iV kn), .ref kl, .int (iV kr)])), (kl, .inl (G.2.2.2.1, 200, .inl (fun k => iV (tx k)))), (aS 0, .inr (4, [.ref (aS 1), .ref (aS 3), .ref (aS 7), .int (iV (pS sP))])), (aS 1, .inr (0, [.int (iV (pW sP)), .int (iV (pH sP)), .ref (aS 2)])), (aS 2, .inl (G.2.1, 81, .inl (fun k => iV (pG sP k)))), (aS 3, .inr (7, [.int (iV (pN sP)), .ref (aS 4), .ref (aS 5), .ref (aS 6)])), (aS 4, .inl (G.2.1, 20, .inl (fun k => iV (pL sP k)))), (aS 5, .inl (G.2.1, 20, .inl (fun k => iV (pE sP k)))), (aS 6, .inl (G.2.1, 120, .inl (fun k => iV (pC sP k)))), (aS 7, .inl (G.2.1, 4, .inl (fun k => iV (pQ sP k))))] := hD0.self
  have hA : ∀ q : Nat, s.heap.size ≤ q → va_A [(o0, .inr (8, [.ref (aA 0), .ref (aS 0), .ref b0, .ref k0, .ref l0, .ref x0, .ref v0])), (k0, .inr (5, [.int (iV kn), .ref kl, .int (iV kr)])), (kl, .inl (G.2.2.2.1, 200, .inl (fun k => iV (tx k)))), (aS 0, .inr (4, [.ref (aS 1), .ref (aS 3), .ref (aS 7), .int (iV (pS sP))])), (aS 1, .inr (0, [.int (iV (pW sP)), .int (iV (pH sP)), .ref (aS 2)])), (aS 2, .inl (G.2.1, 81, .inl (fun k => iV (pG sP k)))), (aS 3, .inr (7, [.int (iV (pN sP)), .ref (aS 4), .ref (aS 5), .ref (aS 6)])), (aS 4, .inl (G.2.1, 20, .inl (fun k => iV (pL sP k)))), (aS 5, .inl (G.2.1, 20, .inl (fun k => iV (pE sP k)))), (aS 6, .inl (G.2.1, 120, .inl (fun k => iV (pC sP k)))), (aS 7, .inl (G.2.1, 4, .inl (fun k => iV (pQ sP k))))] s.heap.size q := fun q h => Or.inr h
  have hS : va_S (va_A [(o0, .inr (8, [.ref (aA 0), .ref (aS 0), .ref b0, .ref k0, .ref l0, .ref x0, .ref v0])), (k0, .inr (5, [.int (iV kn), .ref kl, .int (iV kr)])), (kl, .inl (G.2.2.2.1, 200, .inl (fun k => iV (tx k)))), (aS 0, .inr (4, [.ref (aS 1), .ref (aS 3), .ref (aS 7), .int (iV (pS sP))])), (aS 1, .inr (0, [.int (iV (pW sP)), .int (iV (pH sP)), .ref (aS 2)])), (aS 2, .inl (G.2.1, 81, .inl (fun k => iV (pG sP k)))), (aS 3, .inr (7, [.int (iV (pN sP)), .ref (aS 4), .ref (aS 5), .ref (aS 6)])), (aS 4, .inl (G.2.1, 20, .inl (fun k => iV (pL sP k)))), (aS 5, .inl (G.2.1, 20, .inl (fun k => iV (pE sP k)))), (aS 6, .inl (G.2.1, 120, .inl (fun k => iV (pC sP k)))), (aS 7, .inl (G.2.1, 4, .inl (fun k => iV (pQ sP k))))] s.heap.size) s.heap s.heap [] := va_S.rf
  have hP : va_P G.1 vwCl [(o0, .inr (8, [.ref (aA 0), .ref (aS 0), .ref b0, .ref k0, .ref l0, .ref x0, .ref v0])), (k0, .inr (5, [.int (iV kn), .ref kl, .int (iV kr)])), (kl, .inl (G.2.2.2.1, 200, .inl (fun k => iV (tx k)))), (aS 0, .inr (4, [.ref (aS 1), .ref (aS 3), .ref (aS 7), .int (iV (pS sP))])), (aS 1, .inr (0, [.int (iV (pW sP)), .int (iV (pH sP)), .ref (aS 2)])), (aS 2, .inl (G.2.1, 81, .inl (fun k => iV (pG sP k)))), (aS 3, .inr (7, [.int (iV (pN sP)), .ref (aS 4), .ref (aS 5), .ref (aS 6)])), (aS 4, .inl (G.2.1, 20, .inl (fun k => iV (pL sP k)))), (aS 5, .inl (G.2.1, 20, .inl (fun k => iV (pE sP k)))), (aS 6, .inl (G.2.1, 120, .inl (fun k => iV (pC sP k)))), (aS 7, .inl (G.2.1, 4, .inl (fun k => iV (pQ sP k))))] s.heap := hP
  have X := And.intro hx (And.intro hb (And.intro hml (And.intro hown (And.intro hts (And.intro hK (And.intro hSt hA))))))
  have hl := lv_entry ([.ref o0]) (n := 1) (Nat.le_of_ble_eq_true rfl)
  rw [lg_entry_eq]
  generalize (lg_sl ([.ref o0]) ++ List.replicate (1 - (lg_sl ([.ref o0])).length) Slot.unset).toArray = ls at hl ⊢
  have hl : lv_has ls 1 [(0, .ref o0)] := hl
  refine lv_aload_n hx hb dX8_fault_0 rfl (lv_at hl 0 rfl) ?_
  refine va_get (D := G.1) (ci := 8) (v := .ref k0) (C := RX8) (T := TX8) (N := 7) hx hb hts inX8 hown hK hP 0 rfl rfl 3 (by decide) (hts _ wd_309) (fun _ h9 => h9) rfl dX8_fault_1 ?_
  refine lv_aload_n hx hb dX8_fault_4 rfl (lv_at hl 0 rfl) ?_
  refine va_get (D := G.1) (ci := 8) (v := .ref (aS 0)) (C := RX8) (T := TX8) (N := 7) hx hb hts inX8 hown hK hP 0 rfl rfl 1 (by decide) (hts _ wd_307) (fun _ h9 => h9) rfl dX8_fault_5 ?_
  refine z_callVw (w2 := [(o0, .inr (8, [.ref (aA 0), .ref (aS 0), .ref b0, .ref k0, .ref l0, .ref x0, .ref v0])), (k0, .inr (5, [.int (iV kn), .ref kl, .int (iV ((kRd tx kn 200 (pClear sP) 0 0).2.2))])), (kl, .inl (G.2.2.2.1, 200, .inl (fun k => iV (tx k)))), (aS 0, .inr (4, [.ref (aS 1), .ref (aS 3), .ref (aS 7), .int (iV (pS ((kRd tx kn 200 (pClear sP) 0 0).2.1)))])), (aS 1, .inr (0, [.int (iV (pW ((kRd tx kn 200 (pClear sP) 0 0).2.1))), .int (iV (pH ((kRd tx kn 200 (pClear sP) 0 0).2.1))), .ref (aS 2)])), (aS 2, .inl (G.2.1, 81, .inl (fun k => iV (pG ((kRd tx kn 200 (pClear sP) 0 0).2.1) k)))), (aS 3, .inr (7, [.int (iV (pN ((kRd tx kn 200 (pClear sP) 0 0).2.1))), .ref (aS 4), .ref (aS 5), .ref (aS 6)])), (aS 4, .inl (G.2.1, 20, .inl (fun k => iV (pL ((kRd tx kn 200 (pClear sP) 0 0).2.1) k)))), (aS 5, .inl (G.2.1, 20, .inl (fun k => iV (pE ((kRd tx kn 200 (pClear sP) 0 0).2.1) k)))), (aS 6, .inl (G.2.1, 120, .inl (fun k => iV (pC ((kRd tx kn 200 (pClear sP) 0 0).2.1) k)))), (aS 7, .inl (G.2.1, 4, .inl (fun k => iV (pQ ((kRd tx kn 200 (pClear sP) 0 0).2.1) k))))]) X hP hD hS hl.1 (c_X5_readInto l G _ k0 kl kn tx kr aS sP (by first | assumption | omega) (by first | assumption | omega) (by first | assumption | omega)) wd_258 kX5_readInto ⟨rfl, rfl, Nat.le_of_ble_eq_true rfl, Nat.le_of_ble_eq_true rfl⟩ [1, 2, 3, 4, 5, 6, 7, 8, 9, 10] [0] rfl rfl rfl ⟨rfl, rfl⟩ rfl (by decide) 0 rfl rfl rfl rfl (Nat.le_of_ble_eq_true rfl) dX8_fault_8 ⟨Nat.zero_le _, Nat.zero_le _⟩ (fun H locs hP hD hS => ?_)
  exact z_retw hx hb hr hlocks hP hS dX8_fault_11
