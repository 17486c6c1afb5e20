theorem kX0_isTold : zM RX0 yX0_isTold cX0_isTold 1 (some .boolean) 0 := ⟨wd_283, wd_284, wd_3, wd_285, rfl, by decide +kernel⟩
theorem kX0_has : zM RX0 yX0_has cX0_has 3 (some .boolean) 2 := ⟨wd_377, wd_378, wd_3, wd_379, rfl, by decide +kernel⟩
theorem kX0_hasNumber : zM RX0 yX0_hasNumber cX0_hasNumber 2 (some .boolean) 1 := ⟨wd_523, wd_524, wd_3, wd_525, rfl, by decide +kernel⟩
theorem kX0_height : zM RX0 yX0_height cX0_height 2 (some .int) 1 := ⟨wd_384, wd_385, wd_3, wd_386, rfl, by decide +kernel⟩
theorem kX0_beside : zM RX0 yX0_beside cX0_beside 6 (some .int) 2 := ⟨wd_457, wd_458, wd_3, wd_459, rfl, by decide +kernel⟩
theorem kX0_heightBesideOrOwn : zM RX0 yX0_heightBesideOrOwn cX0_heightBesideOrOwn 4 (some .int) 2 := ⟨wd_454, ws_7, wd_3, wd_455, rfl, by decide +kernel⟩
theorem kX0_east : zM RX0 yX0_east cX0_east 2 (some .int) 1 := ⟨wd_449, wd_450, wd_3, wd_451, rfl, by decide +kernel⟩
theorem kX0_south : zM RX0 yX0_south cX0_south 2 (some .int) 1 := ⟨wd_466, wd_467, wd_3, wd_468, rfl, by decide +kernel⟩
theorem kX0_steep : zM RX0 yX0_steep cX0_steep 2 (some .int) 1 := ⟨wd_470, wd_471, wd_3, wd_472, rfl, by decide +kernel⟩
theorem kX0_downFrom : zM RX0 yX0_downFrom cX0_downFrom 7 (some .int) 1 := ⟨wd_477, wd_478, wd_3, wd_479, rfl, by decide +kernel⟩
set_option maxHeartbeats 4000000 in
set_option maxRecDepth 100000 in
theorem c_X0_isTold (l : Launch) (G : zG) (sz : Nat) (h0 : Nat) (ha : Nat) (wI : Int) (hI : Int) (gI : Nat → Int) (hG : gOK wI hI gI) : Met l yX0_isTold (Cond.code yX0_isTold cX0_isTold 1 (some .boolean) :: zT) (zRm 0 0) (zPr G [.ref h0] [(h0, .inr (0, [.int (iV wI), .int (iV hI), .ref ha])), (ha, .inl (G.2.1, 81, .inl (fun k => iV (gI k))))] sz) (zQr (bP (0 < wI)) sz) 0 0 (zF sz) := by
  refine Met.ofW (cc := cX0_isTold) (maxL := 1) (ret := (some .boolean)) (by decide) rfl ?_
  intro p e s m args below meth c s₁ B hml hv
  obtain ⟨rfl, hsz, hP, hK, hSt⟩ := hv
  have hx := B.exec
  have hb := B.bytes
  have hr := B.returns
  have hts : ∀ w ∈ zT, w.before _ s = true := fun w h => atoms_spec (ws := (Cond.code yX0_isTold cX0_isTold 1 (some .boolean) :: zT)) B.pre w (List.mem_cons_of_mem _ h)
  have hown : s.vm.findClass RX0 = some m.cls := findClass_of_methodNamed B.named
  have hlocks := B.notSynchronized
  subst hsz
  have hA : ∀ q : Nat, s.heap.size ≤ q → zF s.heap.size q := fun _ h => h
  have hS : va_S (zF s.heap.size) s.heap s.heap [] := va_S.rf
  have hP : va_P G.1 vwCl [(h0, .inr (0, [.int (iV wI), .int (iV hI), .ref ha])), (ha, .inl (G.2.1, 81, .inl (fun k => iV (gI k))))] s.heap := hP
  have X := And.intro hx (And.intro hb (And.intro hml (And.intro hown (And.intro hts (And.intro hK (And.intro hSt hA))))))
  have hl := lv_entry ([.ref h0]) (n := 1) (Nat.le_of_ble_eq_true rfl)
  rw [lg_entry_eq]
  generalize (lg_sl ([.ref h0]) ++ List.replicate (1 - (lg_sl ([.ref h0])).length) Slot.unset).toArray = ls at hl ⊢
  have hl : lv_has ls 1 [(0, .ref h0)] := hl
  obtain ⟨hW0, hW9, hH0, hH9, hg⟩ := id hG
  refine lv_aload_n hx hb dX0_isTold_0 rfl (lv_at hl 0 rfl) ?_
  refine va_get (D := G.1) (ci := 0) (v := .int (iV wI)) (C := RX0) (T := TX0) (N := 3) hx hb hts inX0 hown hK hP 0 rfl rfl 0 (by decide) (hts _ wd_37) (fun _ h9 => h9) rfl dX0_isTold_1 ?_
  refine z_if_le (tgt := 11) hx hb (by omega) dX0_isTold_4 (by decide) (fun c_1 => ?_) (fun c_1 => ?_)
  · refine lv_iconst (v := iV 0) hx hb dX0_isTold_11 (by decide) ?_
    refine z_eq (z := bP (0 < wI)) (by first | exact (bP_t (by omega)).symm | exact (bP_f (by omega)).symm) ?_
    exact z_retb hx hb hr hlocks hS dX0_isTold_12
  · refine lv_iconst (v := iV 1) hx hb dX0_isTold_7 (by decide) ?_
    refine lv_goto (tgt := 12) hx hb dX0_isTold_8 (by decide) ?_
    refine z_eq (z := bP (0 < wI)) (by first | exact (bP_t (by omega)).symm | exact (bP_f (by omega)).symm) ?_
    exact z_retb hx hb hr hlocks hS dX0_isTold_12

set_option maxHeartbeats 4000000 in
set_option maxRecDepth 100000 in
theorem c_X0_has (l : Launch) (G : zG) (sz : Nat) (h0 : Nat) (ha : Nat) (wI : Int) (hI : Int) (gI : Nat → Int) (x : Int) (y : Int) (hG : gOK wI hI gI) (hx_ : iR x) (hy_ : iR y) : Met l yX0_has (Cond.code yX0_has cX0_has 3 (some .boolean) :: zT) (zRm 0 0) (zPr G [.ref h0, .int (iV x), .int (iV y)] [(h0, .inr (0, [.int (iV wI), .int (iV hI), .ref ha])), (ha, .inl (G.2.1, 81, .inl (fun k => iV (gI k))))] sz) (zQr (bP (hXY wI hI x y)) sz) 0 0 (zF sz) := by
  refine Met.ofW (cc := cX0_has) (maxL := 3) (ret := (some .boolean)) (by decide) rfl ?_
  intro p e s m args below meth c s₁ B hml hv
  obtain ⟨rfl, hsz, hP, hK, hSt⟩ := hv
  have hx := B.exec
  have hb := B.bytes
  have hr := B.returns
  have hts : ∀ w ∈ zT, w.before _ s = true := fun w h => atoms_spec (ws := (Cond.code yX0_has cX0_has 3 (some .boolean) :: zT)) B.pre w (List.mem_cons_of_mem _ h)
  have hown : s.vm.findClass RX0 = some m.cls := findClass_of_methodNamed B.named
  have hlocks := B.notSynchronized
  subst hsz
  have hA : ∀ q : Nat, s.heap.size ≤ q → zF s.heap.size q := fun _ h => h
  have hS : va_S (zF s.heap.size) s.heap s.heap [] := va_S.rf
  have hP : va_P G.1 vwCl [(h0, .inr (0, [.int (iV wI), .int (iV hI), .ref ha])), (ha, .inl (G.2.1, 81, .inl (fun k => iV (gI k))))] s.heap := hP
  have X := And.intro hx (And.intro hb (And.intro hml (And.intro hown (And.intro hts (And.intro hK (And.intro hSt hA))))))
  have hl := lv_entry ([.ref h0, .int (iV x), .int (iV y)]) (n := 3) (Nat.le_of_ble_eq_true rfl)
  rw [lg_entry_eq]
  generalize (lg_sl ([.ref h0, .int (iV x), .int (iV y)]) ++ List.replicate (3 - (lg_sl ([.ref h0, .int (iV x), .int (iV y)])).length) Slot.unset).toArray = ls at hl ⊢
  have hl : lv_has ls 3 [(0, .ref h0), (1, .int (iV x)), (2, .int (iV y))] := hl
  obtain ⟨hW0, hW9, hH0, hH9, hg⟩ := id hG
  refine lv_iload_n hx hb dX0_has_0 rfl (lv_at hl 1 rfl) ?_
  refine z_if_lt (tgt := 28) hx hb (by omega) dX0_has_1 (by decide) (fun c_1 => ?_) (fun c_1 => ?_)
  · refine lv_iconst (v := iV 0) hx hb dX0_has_28 (by decide) ?_
    refine z_eq (z := bP (hXY wI hI x y)) (by first | exact (bP_t (by omega)).symm | exact (bP_f (by omega)).symm) ?_
    exact z_retb hx hb hr hlocks hS dX0_has_29
  · refine lv_iload_n hx hb dX0_has_4 rfl (lv_at hl 1 rfl) ?_
    refine lv_aload_n hx hb dX0_has_5 rfl (lv_at hl 0 rfl) ?_
    refine va_get (D := G.1) (ci := 0) (v := .int (iV wI)) (C := RX0) (T := TX0) (N := 3) hx hb hts inX0 hown hK hP 0 rfl rfl 0 (by decide) (hts _ wd_37) (fun _ h9 => h9) rfl dX0_has_6 ?_
    refine z_icmp_ge (tgt := 28) hx hb (by omega) (by omega) dX0_has_9 (by decide) (fun c_2 => ?_) (fun c_2 => ?_)
    · refine lv_iconst (v := iV 0) hx hb dX0_has_28 (by decide) ?_
      refine z_eq (z := bP (hXY wI hI x y)) (by first | exact (bP_t (by omega)).symm | exact (bP_f (by omega)).symm) ?_
      exact z_retb hx hb hr hlocks hS dX0_has_29
    · refine lv_iload_n hx hb dX0_has_12 rfl (lv_at hl 2 rfl) ?_
      refine z_if_lt (tgt := 28) hx hb (by omega) dX0_has_13 (by decide) (fun c_3 => ?_) (fun c_3 => ?_)
      · refine lv_iconst (v := iV 0) hx hb dX0_has_28 (by decide) ?_
        refine z_eq (z := bP (hXY wI hI x y)) (by first | exact (bP_t (by omega)).symm | exact (bP_f (by omega)).symm) ?_
        exact z_retb hx hb hr hlocks hS dX0_has_29
      · refine lv_iload_n hx hb dX0_has_16 rfl (lv_at hl 2 rfl) ?_
        refine lv_aload_n hx hb dX0_has_17 rfl (lv_at hl 0 rfl) ?_
        refine va_get (D := G.1) (ci := 0) (v := .int (iV hI)) (C := RX0) (T := TX0) (N := 3) hx hb hts inX0 hown hK hP 0 rfl rfl 1 (by decide) (hts _ wd_40) (fun _ h9 => h9) rfl dX0_has_18 ?_
        refine z_icmp_ge (tgt := 28) hx hb (by omega) (by omega) dX0_has_21 (by decide) (fun c_4 => ?_) (fun c_4 => ?_)
        · refine lv_iconst (v := iV 0) hx hb dX0_has_28 (by decide) ?_
          refine z_eq (z := bP (hXY wI hI x y)) (by first | exact (bP_t (by omega)).symm | exact (bP_f (by omega)).symm) ?_
          exact z_retb hx hb hr hlocks hS dX0_has_29
        · refine lv_iconst (v := iV 1) hx hb dX0_has_24 (by decide) ?_
          refine lv_goto (tgt := 29) hx hb dX0_has_25 (by decide) ?_
          refine z_eq (z := bP (hXY wI hI x y)) (by first | exact (bP_t (by omega)).symm | exact (bP_f (by omega)).symm) ?_
          exact z_retb hx hb hr hlocks hS dX0_has_29

set_option maxHeartbeats 4000000 in
set_option maxRecDepth 100000 in
theorem c_X0_hasNumber (l : Launch) (G : zG) (sz : Nat) (h0 : Nat) (ha : Nat) (wI : Int) (hI : Int) (gI : Nat → Int) (cI : Int) (hG : gOK wI hI gI) (hc : iR cI) : Met l yX0_hasNumber (Cond.code yX0_hasNumber cX0_hasNumber 2 (some .boolean) :: zT) (zRm 1 22) (zPr G [.ref h0, .int (iV cI)] [(h0, .inr (0, [.int (iV wI), .int (iV hI), .ref ha])), (ha, .inl (G.2.1, 81, .inl (fun k => iV (gI k))))] sz) (zQr (bP (0 ≤ cI ∧ hXY wI hI (cI % 9) (cI / 9))) sz) 0 0 (zF sz) := by
  refine Met.ofW (cc := cX0_hasNumber) (maxL := 2) (ret := (some .boolean)) (by decide) rfl ?_
  intro p e s m args below meth c s₁ B hml hv
  obtain ⟨rfl, hsz, hP, hK, hSt⟩ := hv
  have hx := B.exec
  have hb := B.bytes
  have hr := B.returns
  have hts : ∀ w ∈ zT, w.before _ s = true := fun w h => atoms_spec (ws := (Cond.code yX0_hasNumber cX0_hasNumber 2 (some .boolean) :: zT)) B.pre w (List.mem_cons_of_mem _ h)
  have hown : s.vm.findClass RX0 = some m.cls := findClass_of_methodNamed B.named
  have hlocks := B.notSynchronized
  subst hsz
  have hA : ∀ q : Nat, s.heap.size ≤ q → zF s.heap.size q := fun _ h => h
  have hS : va_S (zF s.heap.size) s.heap s.heap [] := va_S.rf
  have hP : va_P G.1 vwCl [(h0, .inr (0, [.int (iV wI), .int (iV hI), .ref ha])), (ha, .inl (G.2.1, 81, .inl (fun k => iV (gI k))))] s.heap := hP
  have X := And.intro hx (And.intro hb (And.intro hml (And.intro hown (And.intro hts (And.intro hK (And.intro hSt hA))))))
  have hl := lv_entry ([.ref h0, .int (iV cI)]) (n := 2) (Nat.le_of_ble_eq_true rfl)
  rw [lg_entry_eq]
  generalize (lg_sl ([.ref h0, .int (iV cI)]) ++ List.replicate (2 - (lg_sl ([.ref h0, .int (iV cI)])).length) Slot.unset).toArray = ls at hl ⊢
  have hl : lv_has ls 2 [(0, .ref h0), (1, .int (iV cI))] := hl
  obtain ⟨hW0, hW9, hH0, hH9, hg⟩ := id hG
  refine lv_iload_n hx hb dX0_hasNumber_0 rfl (lv_at hl 1 rfl) ?_
  refine z_if_lt (tgt := 23) hx hb (by omega) dX0_hasNumber_1 (by decide) (fun c_1 => ?_) (fun c_1 => ?_)
  · refine lv_iconst (v := iV 0) hx hb dX0_hasNumber_23 (by decide) ?_
    refine z_eq (z := bP (0 ≤ cI ∧ hXY wI hI (cI % 9) (cI / 9))) (by first | exact (bP_t (by omega)).symm | exact (bP_f (by omega)).symm) ?_
    exact z_retb hx hb hr hlocks hS dX0_hasNumber_24
  · refine lv_aload_n hx hb dX0_hasNumber_4 rfl (lv_at hl 0 rfl) ?_
    refine lv_iload_n hx hb dX0_hasNumber_5 rfl (lv_at hl 1 rfl) ?_
    refine lv_bipush (v := iV 9) hx hb dX0_hasNumber_6 (by decide) ?_
    refine z_irem hx hb (by omega) (by omega) dX0_hasNumber_8 ?_
    refine lv_iload_n hx hb dX0_hasNumber_9 rfl (lv_at hl 1 rfl) ?_
    refine lv_bipush (v := iV 9) hx hb dX0_hasNumber_10 (by decide) ?_
    refine z_idiv hx hb (by omega) (by omega) dX0_hasNumber_12 ?_
    refine z_callV X hP hS hl.1 (c_X0_has l G _ h0 ha wI hI gI (cI % 9) (cI / 9) (by first | assumption | omega) (by first | assumption | omega) (by first | assumption | omega)) wd_526 kX0_has ⟨rfl, rfl, Nat.le_of_ble_eq_true rfl, Nat.le_of_ble_eq_true rfl⟩ [0, 1] rfl 0 rfl rfl rfl rfl (Nat.le_of_ble_eq_true rfl) dX0_hasNumber_13 ⟨Nat.zero_le _, Nat.zero_le _⟩ (fun H locs hP hS => ?_)
    refine z_ifb_eq (tgt := 23) hx hb dX0_hasNumber_16 (by decide) (fun c_2 => ?_) (fun c_2 => ?_)
    · refine lv_iconst (v := iV 0) hx hb dX0_hasNumber_23 (by decide) ?_
      refine z_eq (z := bP (0 ≤ cI ∧ hXY wI hI (cI % 9) (cI / 9))) (by first | exact (bP_t (by omega)).symm | exact (bP_f (by omega)).symm) ?_
      exact z_retb hx hb hr hlocks hS dX0_hasNumber_24
    · refine lv_iconst (v := iV 1) hx hb dX0_hasNumber_19 (by decide) ?_
      refine lv_goto (tgt := 24) hx hb dX0_hasNumber_20 (by decide) ?_
      refine z_eq (z := bP (0 ≤ cI ∧ hXY wI hI (cI % 9) (cI / 9))) (by first | exact (bP_t (by omega)).symm | exact (bP_f (by omega)).symm) ?_
      exact z_retb hx hb hr hlocks hS dX0_hasNumber_24

set_option maxHeartbeats 4000000 in
set_option maxRecDepth 100000 in
theorem c_X0_height (l : Launch) (G : zG) (sz : Nat) (h0 : Nat) (ha : Nat) (wI : Int) (hI : Int) (gI : Nat → Int) (cI : Int) (hG : gOK wI hI gI) (hc : 0 ≤ cI ∧ cI < 81) : Met l yX0_height (Cond.code yX0_height cX0_height 2 (some .int) :: zT) (zRm 0 0) (zPr G [.ref h0, .int (iV cI)] [(h0, .inr (0, [.int (iV wI), .int (iV hI), .ref ha])), (ha, .inl (G.2.1, 81, .inl (fun k => iV (gI k))))] sz) (zQr (gAt gI (cI % 9) (cI / 9)) sz) 0 0 (zF sz) := by
  refine Met.ofW (cc := cX0_height) (maxL := 2) (ret := (some .int)) (by decide) rfl ?_
  intro p e s m args below meth c s₁ B hml hv
  obtain ⟨rfl, hsz, hP, hK, hSt⟩ := hv
  have hx := B.exec
  have hb := B.bytes
  have hr := B.returns
  have hts : ∀ w ∈ zT, w.before _ s = true := fun w h => atoms_spec (ws := (Cond.code yX0_height cX0_height 2 (some .int) :: zT)) B.pre w (List.mem_cons_of_mem _ h)
  have hown : s.vm.findClass RX0 = some m.cls := findClass_of_methodNamed B.named
  have hlocks := B.notSynchronized
  subst hsz
  have hA : ∀ q : Nat, s.heap.size ≤ q → zF s.heap.size q := fun _ h => h
  have hS : va_S (zF s.heap.size) s.heap s.heap [] := va_S.rf
  have hP : va_P G.1 vwCl [(h0, .inr (0, [.int (iV wI), .int (iV hI), .ref ha])), (ha, .inl (G.2.1, 81, .inl (fun k => iV (gI k))))] s.heap := hP
  have X := And.intro hx (And.intro hb (And.intro hml (And.intro hown (And.intro hts (And.intro hK (And.intro hSt hA))))))
  have hl := lv_entry ([.ref h0, .int (iV cI)]) (n := 2) (Nat.le_of_ble_eq_true rfl)
  rw [lg_entry_eq]
  generalize (lg_sl ([.ref h0, .int (iV cI)]) ++ List.replicate (2 - (lg_sl ([.ref h0, .int (iV cI)])).length) Slot.unset).toArray = ls at hl ⊢
  have hl : lv_has ls 2 [(0, .ref h0), (1, .int (iV cI))] := hl
  obtain ⟨hW0, hW9, hH0, hH9, hg⟩ := id hG
  refine lv_iload_n hx hb dX0_height_0 rfl (lv_at hl 1 rfl) ?_
  refine z_if_lt (tgt := 19) hx hb (by omega) dX0_height_1 (by decide) (fun c_1 => ?_) (fun c_1 => ?_)
  · refine lv_iconst (v := iV 0) hx hb dX0_height_19 (by decide) ?_
    refine z_eq (z := gAt gI (cI % 9) (cI / 9)) (by first | exact gAt_c hc.1 | (exfalso; omega)) ?_
    exact z_ret hx hb hr hlocks hS dX0_height_20
  · refine lv_iload_n hx hb dX0_height_4 rfl (lv_at hl 1 rfl) ?_
    refine lv_bipush (v := iV 81) hx hb dX0_height_5 (by decide) ?_
    refine z_icmp_ge (tgt := 19) hx hb (by omega) ⟨by decide, by decide⟩ dX0_height_7 (by decide) (fun c_2 => ?_) (fun c_2 => ?_)
    · refine lv_iconst (v := iV 0) hx hb dX0_height_19 (by decide) ?_
      refine z_eq (z := gAt gI (cI % 9) (cI / 9)) (by first | exact gAt_c hc.1 | (exfalso; omega)) ?_
      exact z_ret hx hb hr hlocks hS dX0_height_20
    · refine lv_aload_n hx hb dX0_height_10 rfl (lv_at hl 0 rfl) ?_
      refine va_get (D := G.1) (ci := 0) (v := .ref ha) (C := RX0) (T := TX0) (N := 3) hx hb hts inX0 hown hK hP 0 rfl rfl 2 (by decide) (hts _ wd_43) (fun _ h9 => h9) rfl dX0_height_11 ?_
      refine lv_iload_n hx hb dX0_height_14 rfl (lv_at hl 1 rfl) ?_
      refine z_iald (G := G) (f := gI) hx hb hK hP 1 rfl (by omega) (by omega) (by decide) dX0_height_15 ?_
      refine lv_goto (tgt := 20) hx hb dX0_height_16 (by decide) ?_
      refine z_eq (z := gAt gI (cI % 9) (cI / 9)) (by first | exact gAt_c hc.1 | (exfalso; omega)) ?_
      exact z_ret hx hb hr hlocks hS dX0_height_20

set_option maxHeartbeats 4000000 in
set_option maxRecDepth 100000 in
theorem c_X0_beside (l : Launch) (G : zG) (sz : Nat) (h0 : Nat) (ha : Nat) (wI : Int) (hI : Int) (gI : Nat → Int) (cI : Int) (d : Int) (hG : gOK wI hI gI) (hc : 0 ≤ cI ∧ cI < 81) (hd : 0 ≤ d ∧ d < 8) : Met l yX0_beside (Cond.code yX0_beside cX0_beside 6 (some .int) :: zT) (zRm 0 0) (zPr G [.ref h0, .int (iV cI), .int (iV d)] [(h0, .inr (0, [.int (iV wI), .int (iV hI), .ref ha])), (ha, .inl (G.2.1, 81, .inl (fun k => iV (gI k))))] sz) (zQr (gNb wI hI cI d) sz) 0 0 (zF sz) := by
  refine Met.ofW (cc := cX0_beside) (maxL := 6) (ret := (some .int)) (by decide) rfl ?_
  intro p e s m args below meth c s₁ B hml hv
  obtain ⟨rfl, hsz, hP, hK, hSt⟩ := hv
  have hx := B.exec
  have hb := B.bytes
  have hr := B.returns
  have hts : ∀ w ∈ zT, w.before _ s = true := fun w h => atoms_spec (ws := (Cond.code yX0_beside cX0_beside 6 (some .int) :: zT)) B.pre w (List.mem_cons_of_mem _ h)
  have hown : s.vm.findClass RX0 = some m.cls := findClass_of_methodNamed B.named
  have hlocks := B.notSynchronized
  subst hsz
  have hA : ∀ q : Nat, s.heap.size ≤ q → zF s.heap.size q := fun _ h => h
  have hS : va_S (zF s.heap.size) s.heap s.heap [] := va_S.rf
  have hP : va_P G.1 vwCl [(h0, .inr (0, [.int (iV wI), .int (iV hI), .ref ha])), (ha, .inl (G.2.1, 81, .inl (fun k => iV (gI k))))] s.heap := hP
  have X := And.intro hx (And.intro hb (And.intro hml (And.intro hown (And.intro hts (And.intro hK (And.intro hSt hA))))))
  have hl := lv_entry ([.ref h0, .int (iV cI), .int (iV d)]) (n := 6) (Nat.le_of_ble_eq_true rfl)
  rw [lg_entry_eq]
  generalize (lg_sl ([.ref h0, .int (iV cI), .int (iV d)]) ++ List.replicate (6 - (lg_sl ([.ref h0, .int (iV cI), .int (iV d)])).length) Slot.unset).toArray = ls at hl ⊢
  have hl : lv_has ls 6 [(0, .ref h0), (1, .int (iV cI)), (2, .int (iV d))] := hl
  obtain ⟨hW0, hW9, hH0, hH9, hg⟩ := id hG
  have hd8 : d % 8 = d := by omega
  refine lv_iload_n hx hb dX0_beside_0 rfl (lv_at hl 1 rfl) ?_
  refine lv_bipush (v := iV 9) hx hb dX0_beside_1 (by decide) ?_
  refine z_irem hx hb (by omega) (by omega) dX0_beside_3 ?_
  obtain ⟨t_1, t_1z, t_1a⟩ := hSt.1
  refine va_getsN hx hb t_1z hS hown (va_Nw.use rfl hSt.2.2.1) (fun _ h9 => h9) dX0_beside_4 ?_
  refine lv_iload_n hx hb dX0_beside_7 rfl (lv_at hl 2 rfl) ?_
  refine lv_bipush (v := iV 7) hx hb dX0_beside_8 (by decide) ?_
  refine z_iand7 hx hb dX0_beside_10 ?_
  refine z_ti hx hb t_1a hS (by omega) (by omega) dX0_beside_11 ?_
  have f_2 := zR_r (d % 8).toNat
  refine z_iadd hx hb dX0_beside_12 ?_
  refine lv_istore_n (lv' := [(3, .int (iV ((cI % 9) + (zR (d % 8).toNat)))), (0, .ref h0), (1, .int (iV cI)), (2, .int (iV d))]) hx hb dX0_beside_13 rfl hl (by decide) rfl (fun ls hl => ?_)
  refine lv_iload_n hx hb dX0_beside_14 rfl (lv_at hl 2 rfl) ?_
  refine lv_bipush (v := iV 9) hx hb dX0_beside_15 (by decide) ?_
  refine z_idiv hx hb (by omega) (by omega) dX0_beside_17 ?_
  obtain ⟨t_3, t_3z, t_3a⟩ := hSt.2.1
  refine va_getsN hx hb t_3z hS hown (va_Nw.use rfl hSt.2.2.2) (fun _ h9 => h9) dX0_beside_18 ?_
  refine lv_iload_n hx hb dX0_beside_21 rfl (lv_at hl 3 rfl) ?_
  refine lv_bipush (v := iV 7) hx hb dX0_beside_22 (by decide) ?_
  refine z_iand7 hx hb dX0_beside_24 ?_
  refine z_ti hx hb t_3a hS (by omega) (by omega) dX0_beside_25 ?_
  have f_4 := zB_r (d % 8).toNat
  refine z_iadd hx hb dX0_beside_26 ?_
  refine lv_istore (lv' := [(4, .int (iV ((cI / 9) + (zB (d % 8).toNat)))), (3, .int (iV ((cI % 9) + (zR (d % 8).toNat)))), (0, .ref h0), (1, .int (iV cI)), (2, .int (iV d))]) hx hb dX0_beside_27 hl (by decide) rfl (fun ls hl => ?_)
  refine lv_iload_n hx hb dX0_beside_29 rfl (lv_at hl 1 rfl) ?_
  have jn_60 : ∀ (H : Heap) (locs : List Loc), va_P G.1 vwCl [(h0, .inr (0, [.int (iV wI), .int (iV hI), .ref ha])), (ha, .inl (G.2.1, 81, .inl (fun k => iV (gI k))))] H → va_S (zF s.heap.size) s.heap H locs → ∀ ls : Array Slot, lv_has ls 6 [(0, .ref h0), (1, .int (iV cI)), (2, .int (iV d)), (3, .int (iV ((cI % 9) + (zR (d % 8).toNat)))), (4, .int (iV ((cI / 9) + (zB (d % 8).toNat))))] → W p l e (headSpec (Cond.code yX0_beside cX0_beside 6 (some .int) :: zT) (zRm 0 0)).room s m ([Value.ref h0, Value.int (iV cI), Value.int (iV d)] : List Value).toArray below meth c H locs 0 0 (MQ below (zQr (gNb wI hI cI d) s.heap.size) ([Value.ref h0, Value.int (iV cI), Value.int (iV d)] : List Value).toArray s 0 0 (zF s.heap.size)) (F0 m 60 ls [.int (iV (bP (hXY wI hI (cI % 9 + zR d.toNat) (cI / 9 + zB d.toNat))))]) := by
    intro  H locs hP hS ls hl
    refine lv_istore (lv' := [(5, .int (iV (bP (hXY wI hI (cI % 9 + zR d.toNat) (cI / 9 + zB d.toNat))))), (0, .ref h0), (1, .int (iV cI)), (2, .int (iV d)), (3, .int (iV ((cI % 9) + (zR (d % 8).toNat)))), (4, .int (iV ((cI / 9) + (zB (d % 8).toNat))))]) hx hb dX0_beside_60 hl (by decide) rfl (fun ls hl => ?_)
    refine lv_iload hx hb dX0_beside_62 (lv_at hl 0 rfl) ?_
    refine z_ifb_eq (tgt := 77) hx hb dX0_beside_64 (by decide) (fun c_5 => ?_) (fun c_5 => ?_)
    · refine lv_iconst (v := iV (-1)) hx hb dX0_beside_77 (by decide) ?_
      refine z_eq (z := gNb wI hI cI d) (by unfold gNb; first | rw [hd8, if_pos (by assumption)] | rw [if_neg (by assumption)]) ?_
      exact z_ret hx hb hr hlocks hS dX0_beside_78
    · refine lv_bipush (v := iV 9) hx hb dX0_beside_67 (by decide) ?_
      refine lv_iload hx hb dX0_beside_69 (lv_at hl 5 rfl) ?_
      refine z_imul hx hb dX0_beside_71 ?_
      refine lv_iload_n hx hb dX0_beside_72 rfl (lv_at hl 4 rfl) ?_
      refine z_iadd hx hb dX0_beside_73 ?_
      refine lv_goto (tgt := 78) hx hb dX0_beside_74 (by decide) ?_
      refine z_eq (z := gNb wI hI cI d) (by unfold gNb; first | rw [hd8, if_pos (by assumption)] | rw [if_neg (by assumption)]) ?_
      exact z_ret hx hb hr hlocks hS dX0_beside_78
  refine z_if_lt (tgt := 59) hx hb (by omega) dX0_beside_30 (by decide) (fun c_6 => ?_) (fun c_6 => ?_)
  · refine lv_iconst (v := iV 0) hx hb dX0_beside_59 (by decide) ?_
    refine z_eq (z := bP (hXY wI hI (cI % 9 + zR d.toNat) (cI / 9 + zB d.toNat))) (by rw [hd8] at *; first | exact (bP_t (by omega)).symm | exact (bP_f (by omega)).symm) ?_
    exact jn_60  _ _ hP hS _ (lv_cons (lv_at hl 2 rfl) (lv_cons (lv_at hl 3 rfl) (lv_cons (lv_at hl 4 rfl) (lv_cons (lv_at hl 1 rfl) (lv_cons (lv_at hl 0 rfl) (lv_nil hl))))))
  · refine lv_iload_n hx hb dX0_beside_33 rfl (lv_at hl 1 rfl) ?_
    refine lv_aload_n hx hb dX0_beside_34 rfl (lv_at hl 2 rfl) ?_
    refine va_get (D := G.1) (ci := 0) (v := .int (iV wI)) (C := RX0) (T := TX0) (N := 3) hx hb hts inX0 hown hK hP 0 rfl rfl 0 (by decide) (hts _ wd_37) (fun _ h9 => h9) rfl dX0_beside_35 ?_
    refine z_icmp_ge (tgt := 59) hx hb (by omega) (by omega) dX0_beside_38 (by decide) (fun c_7 => ?_) (fun c_7 => ?_)
    · refine lv_iconst (v := iV 0) hx hb dX0_beside_59 (by decide) ?_
      refine z_eq (z := bP (hXY wI hI (cI % 9 + zR d.toNat) (cI / 9 + zB d.toNat))) (by rw [hd8] at *; first | exact (bP_t (by omega)).symm | exact (bP_f (by omega)).symm) ?_
      exact jn_60  _ _ hP hS _ (lv_cons (lv_at hl 2 rfl) (lv_cons (lv_at hl 3 rfl) (lv_cons (lv_at hl 4 rfl) (lv_cons (lv_at hl 1 rfl) (lv_cons (lv_at hl 0 rfl) (lv_nil hl))))))
    · refine lv_iload hx hb dX0_beside_41 (lv_at hl 0 rfl) ?_
      refine z_if_lt (tgt := 59) hx hb (by omega) dX0_beside_43 (by decide) (fun c_8 => ?_) (fun c_8 => ?_)
      · refine lv_iconst (v := iV 0) hx hb dX0_beside_59 (by decide) ?_
        refine z_eq (z := bP (hXY wI hI (cI % 9 + zR d.toNat) (cI / 9 + zB d.toNat))) (by rw [hd8] at *; first | exact (bP_t (by omega)).symm | exact (bP_f (by omega)).symm) ?_
        exact jn_60  _ _ hP hS _ (lv_cons (lv_at hl 2 rfl) (lv_cons (lv_at hl 3 rfl) (lv_cons (lv_at hl 4 rfl) (lv_cons (lv_at hl 1 rfl) (lv_cons (lv_at hl 0 rfl) (lv_nil hl))))))
      · refine lv_iload hx hb dX0_beside_46 (lv_at hl 0 rfl) ?_
        refine lv_aload_n hx hb dX0_beside_48 rfl (lv_at hl 2 rfl) ?_
        refine va_get (D := G.1) (ci := 0) (v := .int (iV hI)) (C := RX0) (T := TX0) (N := 3) hx hb hts inX0 hown hK hP 0 rfl rfl 1 (by decide) (hts _ wd_40) (fun _ h9 => h9) rfl dX0_beside_49 ?_
        refine z_icmp_ge (tgt := 59) hx hb (by omega) (by omega) dX0_beside_52 (by decide) (fun c_9 => ?_) (fun c_9 => ?_)
        · refine lv_iconst (v := iV 0) hx hb dX0_beside_59 (by decide) ?_
          refine z_eq (z := bP (hXY wI hI (cI % 9 + zR d.toNat) (cI / 9 + zB d.toNat))) (by rw [hd8] at *; first | exact (bP_t (by omega)).symm | exact (bP_f (by omega)).symm) ?_
          exact jn_60  _ _ hP hS _ (lv_cons (lv_at hl 2 rfl) (lv_cons (lv_at hl 3 rfl) (lv_cons (lv_at hl 4 rfl) (lv_cons (lv_at hl 1 rfl) (lv_cons (lv_at hl 0 rfl) (lv_nil hl))))))
        · refine lv_iconst (v := iV 1) hx hb dX0_beside_55 (by decide) ?_
          refine lv_goto (tgt := 60) hx hb dX0_beside_56 (by decide) ?_
          refine z_eq (z := bP (hXY wI hI (cI % 9 + zR d.toNat) (cI / 9 + zB d.toNat))) (by rw [hd8] at *; first | exact (bP_t (by omega)).symm | exact (bP_f (by omega)).symm) ?_
          exact jn_60  _ _ hP hS _ (lv_cons (lv_at hl 2 rfl) (lv_cons (lv_at hl 3 rfl) (lv_cons (lv_at hl 4 rfl) (lv_cons (lv_at hl 1 rfl) (lv_cons (lv_at hl 0 rfl) (lv_nil hl))))))

set_option maxHeartbeats 4000000 in
set_option maxRecDepth 100000 in
theorem c_X0_heightBesideOrOwn (l : Launch) (G : zG) (sz : Nat) (h0 : Nat) (ha : Nat) (wI : Int) (hI : Int) (gI : Nat → Int) (cI : Int) (d : Int) (hG : gOK wI hI gI) (hc : 0 ≤ cI ∧ cI < 81) (hd : 0 ≤ d ∧ d < 8) : Met l yX0_heightBesideOrOwn (Cond.code yX0_heightBesideOrOwn cX0_heightBesideOrOwn 4 (some .int) :: zT) (zRm 1 25) (zPr G [.ref h0, .int (iV cI), .int (iV d)] [(h0, .inr (0, [.int (iV wI), .int (iV hI), .ref ha])), (ha, .inl (G.2.1, 81, .inl (fun k => iV (gI k))))] sz) (zQr (gB wI hI gI (cI % 9) (cI / 9) d) sz) 0 0 (zF sz) := by
  refine Met.ofW (cc := cX0_heightBesideOrOwn) (maxL := 4) (ret := (some .int)) (by decide) rfl ?_
  intro p e s m args below meth c s₁ B hml hv
  obtain ⟨rfl, hsz, hP, hK, hSt⟩ := hv
  have hx := B.exec
  have hb := B.bytes
  have hr := B.returns
  have hts : ∀ w ∈ zT, w.before _ s = true := fun w h => atoms_spec (ws := (Cond.code yX0_heightBesideOrOwn cX0_heightBesideOrOwn 4 (some .int) :: zT)) B.pre w (List.mem_cons_of_mem _ h)
  have hown : s.vm.findClass RX0 = some m.cls := findClass_of_methodNamed B.named
  have hlocks := B.notSynchronized
  subst hsz
  have hA : ∀ q : Nat, s.heap.size ≤ q → zF s.heap.size q := fun _ h => h
  have hS : va_S (zF s.heap.size) s.heap s.heap [] := va_S.rf
  have hP : va_P G.1 vwCl [(h0, .inr (0, [.int (iV wI), .int (iV hI), .ref ha])), (ha, .inl (G.2.1, 81, .inl (fun k => iV (gI k))))] s.heap := hP
  have X := And.intro hx (And.intro hb (And.intro hml (And.intro hown (And.intro hts (And.intro hK (And.intro hSt hA))))))
  have hl := lv_entry ([.ref h0, .int (iV cI), .int (iV d)]) (n := 4) (Nat.le_of_ble_eq_true rfl)
  rw [lg_entry_eq]
  generalize (lg_sl ([.ref h0, .int (iV cI), .int (iV d)]) ++ List.replicate (4 - (lg_sl ([.ref h0, .int (iV cI), .int (iV d)])).length) Slot.unset).toArray = ls at hl ⊢
  have hl : lv_has ls 4 [(0, .ref h0), (1, .int (iV cI)), (2, .int (iV d))] := hl
  obtain ⟨hW0, hW9, hH0, hH9, hg⟩ := id hG
  refine lv_aload_n hx hb dX0_heightBesideOrOwn_0 rfl (lv_at hl 0 rfl) ?_
  refine lv_iload_n hx hb dX0_heightBesideOrOwn_1 rfl (lv_at hl 1 rfl) ?_
  refine lv_iload_n hx hb dX0_heightBesideOrOwn_2 rfl (lv_at hl 2 rfl) ?_
  refine z_callV X hP hS hl.1 (c_X0_beside l G _ h0 ha wI hI gI cI d (by first | assumption | omega) (by first | assumption | omega) (by first | assumption | omega)) wd_456 kX0_beside ⟨rfl, rfl, Nat.le_of_ble_eq_true rfl, Nat.le_of_ble_eq_true rfl⟩ [0, 1] rfl 0 rfl rfl rfl rfl (Nat.le_of_ble_eq_true rfl) dX0_heightBesideOrOwn_3 ⟨Nat.zero_le _, Nat.zero_le _⟩ (fun H locs hP hS => ?_)
  have f_1 := gNb_r hG cI d
  refine lv_istore_n (lv' := [(3, .int (iV (gNb wI hI cI d))), (0, .ref h0), (1, .int (iV cI)), (2, .int (iV d))]) hx hb dX0_heightBesideOrOwn_6 rfl hl (by decide) rfl (fun ls hl => ?_)
  refine lv_aload_n hx hb dX0_heightBesideOrOwn_7 rfl (lv_at hl 1 rfl) ?_
  refine lv_iload_n hx hb dX0_heightBesideOrOwn_8 rfl (lv_at hl 0 rfl) ?_
  refine lv_iconst (v := iV (-1)) hx hb dX0_heightBesideOrOwn_9 (by decide) ?_
  refine z_icmp_ne (tgt := 17) hx hb (by omega) ⟨by decide, by decide⟩ dX0_heightBesideOrOwn_10 (by decide) (fun c_2 => ?_) (fun c_2 => ?_)
  · refine lv_iload_n hx hb dX0_heightBesideOrOwn_17 rfl (lv_at hl 0 rfl) ?_
    refine z_callV X hP hS hl.1 (c_X0_height l G _ h0 ha wI hI gI (gNb wI hI cI d) (by first | assumption | omega) (by first | assumption | omega)) wd_464 kX0_height ⟨rfl, rfl, Nat.le_of_ble_eq_true rfl, Nat.le_of_ble_eq_true rfl⟩ [0, 1] rfl 0 rfl rfl rfl rfl (Nat.le_of_ble_eq_true rfl) dX0_heightBesideOrOwn_18 ⟨Nat.zero_le _, Nat.zero_le _⟩ (fun H locs hP hS => ?_)
    have f_3 := gAt_r hG ((gNb wI hI cI d) % 9) ((gNb wI hI cI d) / 9)
    refine z_eq (z := gB wI hI gI (cI % 9) (cI / 9) d) (by first | exact gB_own (by assumption) hc.1 hG | exact gB_nb (by assumption) hG) ?_
    exact z_ret hx hb hr hlocks hS dX0_heightBesideOrOwn_21
  · refine lv_iload_n hx hb dX0_heightBesideOrOwn_13 rfl (lv_at hl 2 rfl) ?_
    refine lv_goto (tgt := 18) hx hb dX0_heightBesideOrOwn_14 (by decide) ?_
    refine z_callV X hP hS hl.1 (c_X0_height l G _ h0 ha wI hI gI cI (by first | assumption | omega) (by first | assumption | omega)) wd_464 kX0_height ⟨rfl, rfl, Nat.le_of_ble_eq_true rfl, Nat.le_of_ble_eq_true rfl⟩ [0, 1] rfl 0 rfl rfl rfl rfl (Nat.le_of_ble_eq_true rfl) dX0_heightBesideOrOwn_18 ⟨Nat.zero_le _, Nat.zero_le _⟩ (fun H locs hP hS => ?_)
    have f_4 := gAt_r hG (cI % 9) (cI / 9)
    refine z_eq (z := gB wI hI gI (cI % 9) (cI / 9) d) (by first | exact gB_own (by assumption) hc.1 hG | exact gB_nb (by assumption) hG) ?_
    exact z_ret hx hb hr hlocks hS dX0_heightBesideOrOwn_21

set_option maxHeartbeats 4000000 in
set_option maxRecDepth 100000 in
theorem c_X0_east (l : Launch) (G : zG) (sz : Nat) (h0 : Nat) (ha : Nat) (wI : Int) (hI : Int) (gI : Nat → Int) (cI : Int) (hG : gOK wI hI gI) (hc : 0 ≤ cI ∧ cI < 81) : Met l yX0_east (Cond.code yX0_east cX0_east 2 (some .int) :: zT) (zRm 2 48) (zPr G [.ref h0, .int (iV cI)] [(h0, .inr (0, [.int (iV wI), .int (iV hI), .ref ha])), (ha, .inl (G.2.1, 81, .inl (fun k => iV (gI k))))] sz) (zQr (gEast wI hI gI (cI % 9) (cI / 9)) sz) 0 0 (zF sz) := by
  refine Met.ofW (cc := cX0_east) (maxL := 2) (ret := (some .int)) (by decide) rfl ?_
  intro p e s m args below meth c s₁ B hml hv
  obtain ⟨rfl, hsz, hP, hK, hSt⟩ := hv
  have hx := B.exec
  have hb := B.bytes
  have hr := B.returns
  have hts : ∀ w ∈ zT, w.before _ s = true := fun w h => atoms_spec (ws := (Cond.code yX0_east cX0_east 2 (some .int) :: zT)) B.pre w (List.mem_cons_of_mem _ h)
  have hown : s.vm.findClass RX0 = some m.cls := findClass_of_methodNamed B.named
  have hlocks := B.notSynchronized
  subst hsz
  have hA : ∀ q : Nat, s.heap.size ≤ q → zF s.heap.size q := fun _ h => h
  have hS : va_S (zF s.heap.size) s.heap s.heap [] := va_S.rf
  have hP : va_P G.1 vwCl [(h0, .inr (0, [.int (iV wI), .int (iV hI), .ref ha])), (ha, .inl (G.2.1, 81, .inl (fun k => iV (gI k))))] s.heap := hP
  have X := And.intro hx (And.intro hb (And.intro hml (And.intro hown (And.intro hts (And.intro hK (And.intro hSt hA))))))
  have hl := lv_entry ([.ref h0, .int (iV cI)]) (n := 2) (Nat.le_of_ble_eq_true rfl)
  rw [lg_entry_eq]
  generalize (lg_sl ([.ref h0, .int (iV cI)]) ++ List.replicate (2 - (lg_sl ([.ref h0, .int (iV cI)])).length) Slot.unset).toArray = ls at hl ⊢
  have hl : lv_has ls 2 [(0, .ref h0), (1, .int (iV cI))] := hl
  obtain ⟨hW0, hW9, hH0, hH9, hg⟩ := id hG
  refine lv_aload_n hx hb dX0_east_0 rfl (lv_at hl 0 rfl) ?_
  refine lv_iload_n hx hb dX0_east_1 rfl (lv_at hl 1 rfl) ?_
  refine lv_iconst (v := iV 2) hx hb dX0_east_2 (by decide) ?_
  refine z_callV X hP hS hl.1 (c_X0_heightBesideOrOwn l G _ h0 ha wI hI gI cI 2 (by first | assumption | omega) (by first | assumption | omega) (by first | assumption | omega)) wd_452 kX0_heightBesideOrOwn ⟨rfl, rfl, Nat.le_of_ble_eq_true rfl, Nat.le_of_ble_eq_true rfl⟩ [0, 1] rfl 0 rfl rfl rfl rfl (Nat.le_of_ble_eq_true rfl) dX0_east_3 ⟨Nat.zero_le _, Nat.zero_le _⟩ (fun H locs hP hS => ?_)
  have f_1 := gB_r hG (cI % 9) (cI / 9) 2
  refine lv_aload_n hx hb dX0_east_6 rfl (lv_at hl 0 rfl) ?_
  refine lv_iload_n hx hb dX0_east_7 rfl (lv_at hl 1 rfl) ?_
  refine lv_bipush (v := iV 6) hx hb dX0_east_8 (by decide) ?_
  refine z_callV X hP hS hl.1 (c_X0_heightBesideOrOwn l G _ h0 ha wI hI gI cI 6 (by first | assumption | omega) (by first | assumption | omega) (by first | assumption | omega)) wd_452 kX0_heightBesideOrOwn ⟨rfl, rfl, Nat.le_of_ble_eq_true rfl, Nat.le_of_ble_eq_true rfl⟩ [0, 1] rfl 0 rfl rfl rfl rfl (Nat.le_of_ble_eq_true rfl) dX0_east_10 ⟨Nat.zero_le _, Nat.zero_le _⟩ (fun H locs hP hS => ?_)
  have f_2 := gB_r hG (cI % 9) (cI / 9) 6
  refine z_isub hx hb dX0_east_13 ?_
  refine z_eq (z := gEast wI hI gI (cI % 9) (cI / 9)) (by rfl) ?_
  exact z_ret hx hb hr hlocks hS dX0_east_14

set_option maxHeartbeats 4000000 in
set_option maxRecDepth 100000 in
theorem c_X0_south (l : Launch) (G : zG) (sz : Nat) (h0 : Nat) (ha : Nat) (wI : Int) (hI : Int) (gI : Nat → Int) (cI : Int) (hG : gOK wI hI gI) (hc : 0 ≤ cI ∧ cI < 81) : Met l yX0_south (Cond.code yX0_south cX0_south 2 (some .int) :: zT) (zRm 2 48) (zPr G [.ref h0, .int (iV cI)] [(h0, .inr (0, [.int (iV wI), .int (iV hI), .ref ha])), (ha, .inl (G.2.1, 81, .inl (fun k => iV (gI k))))] sz) (zQr (gSouth wI hI gI (cI % 9) (cI / 9)) sz) 0 0 (zF sz) := by
  refine Met.ofW (cc := cX0_south) (maxL := 2) (ret := (some .int)) (by decide) rfl ?_
  intro p e s m args below meth c s₁ B hml hv
  obtain ⟨rfl, hsz, hP, hK, hSt⟩ := hv
  have hx := B.exec
  have hb := B.bytes
  have hr := B.returns
  have hts : ∀ w ∈ zT, w.before _ s = true := fun w h => atoms_spec (ws := (Cond.code yX0_south cX0_south 2 (some .int) :: zT)) B.pre w (List.mem_cons_of_mem _ h)
  have hown : s.vm.findClass RX0 = some m.cls := findClass_of_methodNamed B.named
  have hlocks := B.notSynchronized
  subst hsz
  have hA : ∀ q : Nat, s.heap.size ≤ q → zF s.heap.size q := fun _ h => h
  have hS : va_S (zF s.heap.size) s.heap s.heap [] := va_S.rf
  have hP : va_P G.1 vwCl [(h0, .inr (0, [.int (iV wI), .int (iV hI), .ref ha])), (ha, .inl (G.2.1, 81, .inl (fun k => iV (gI k))))] s.heap := hP
  have X := And.intro hx (And.intro hb (And.intro hml (And.intro hown (And.intro hts (And.intro hK (And.intro hSt hA))))))
  have hl := lv_entry ([.ref h0, .int (iV cI)]) (n := 2) (Nat.le_of_ble_eq_true rfl)
  rw [lg_entry_eq]
  generalize (lg_sl ([.ref h0, .int (iV cI)]) ++ List.replicate (2 - (lg_sl ([.ref h0, .int (iV cI)])).length) Slot.unset).toArray = ls at hl ⊢
  have hl : lv_has ls 2 [(0, .ref h0), (1, .int (iV cI))] := hl
  obtain ⟨hW0, hW9, hH0, hH9, hg⟩ := id hG
  refine lv_aload_n hx hb dX0_south_0 rfl (lv_at hl 0 rfl) ?_
  refine lv_iload_n hx hb dX0_south_1 rfl (lv_at hl 1 rfl) ?_
  refine lv_iconst (v := iV 4) hx hb dX0_south_2 (by decide) ?_
  refine z_callV X hP hS hl.1 (c_X0_heightBesideOrOwn l G _ h0 ha wI hI gI cI 4 (by first | assumption | omega) (by first | assumption | omega) (by first | assumption | omega)) wd_452 kX0_heightBesideOrOwn ⟨rfl, rfl, Nat.le_of_ble_eq_true rfl, Nat.le_of_ble_eq_true rfl⟩ [0, 1] rfl 0 rfl rfl rfl rfl (Nat.le_of_ble_eq_true rfl) dX0_south_3 ⟨Nat.zero_le _, Nat.zero_le _⟩ (fun H locs hP hS => ?_)
  have f_1 := gB_r hG (cI % 9) (cI / 9) 4
  refine lv_aload_n hx hb dX0_south_6 rfl (lv_at hl 0 rfl) ?_
  refine lv_iload_n hx hb dX0_south_7 rfl (lv_at hl 1 rfl) ?_
  refine lv_iconst (v := iV 0) hx hb dX0_south_8 (by decide) ?_
  refine z_callV X hP hS hl.1 (c_X0_heightBesideOrOwn l G _ h0 ha wI hI gI cI 0 (by first | assumption | omega) (by first | assumption | omega) (by first | assumption | omega)) wd_452 kX0_heightBesideOrOwn ⟨rfl, rfl, Nat.le_of_ble_eq_true rfl, Nat.le_of_ble_eq_true rfl⟩ [0, 1] rfl 0 rfl rfl rfl rfl (Nat.le_of_ble_eq_true rfl) dX0_south_9 ⟨Nat.zero_le _, Nat.zero_le _⟩ (fun H locs hP hS => ?_)
  have f_2 := gB_r hG (cI % 9) (cI / 9) 0
  refine z_isub hx hb dX0_south_12 ?_
  refine z_eq (z := gSouth wI hI gI (cI % 9) (cI / 9)) (by rfl) ?_
  exact z_ret hx hb hr hlocks hS dX0_south_13

set_option maxHeartbeats 4000000 in
set_option maxRecDepth 100000 in
theorem c_X0_steep (l : Launch) (G : zG) (sz : Nat) (h0 : Nat) (ha : Nat) (wI : Int) (hI : Int) (gI : Nat → Int) (cI : Int) (hG : gOK wI hI gI) (hc : 0 ≤ cI ∧ cI < 81) : Met l yX0_steep (Cond.code yX0_steep cX0_steep 2 (some .int) :: zT) (zRm 3 69) (zPr G [.ref h0, .int (iV cI)] [(h0, .inr (0, [.int (iV wI), .int (iV hI), .ref ha])), (ha, .inl (G.2.1, 81, .inl (fun k => iV (gI k))))] sz) (zQr (gSteep wI hI gI (cI % 9) (cI / 9)) sz) 0 0 (zF sz) := by
  refine Met.ofW (cc := cX0_steep) (maxL := 2) (ret := (some .int)) (by decide) rfl ?_
  intro p e s m args below meth c s₁ B hml hv
  obtain ⟨rfl, hsz, hP, hK, hSt⟩ := hv
  have hx := B.exec
  have hb := B.bytes
  have hr := B.returns
  have hts : ∀ w ∈ zT, w.before _ s = true := fun w h => atoms_spec (ws := (Cond.code yX0_steep cX0_steep 2 (some .int) :: zT)) B.pre w (List.mem_cons_of_mem _ h)
  have hown : s.vm.findClass RX0 = some m.cls := findClass_of_methodNamed B.named
  have hlocks := B.notSynchronized
  subst hsz
  have hA : ∀ q : Nat, s.heap.size ≤ q → zF s.heap.size q := fun _ h => h
  have hS : va_S (zF s.heap.size) s.heap s.heap [] := va_S.rf
  have hP : va_P G.1 vwCl [(h0, .inr (0, [.int (iV wI), .int (iV hI), .ref ha])), (ha, .inl (G.2.1, 81, .inl (fun k => iV (gI k))))] s.heap := hP
  have X := And.intro hx (And.intro hb (And.intro hml (And.intro hown (And.intro hts (And.intro hK (And.intro hSt hA))))))
  have hl := lv_entry ([.ref h0, .int (iV cI)]) (n := 2) (Nat.le_of_ble_eq_true rfl)
  rw [lg_entry_eq]
  generalize (lg_sl ([.ref h0, .int (iV cI)]) ++ List.replicate (2 - (lg_sl ([.ref h0, .int (iV cI)])).length) Slot.unset).toArray = ls at hl ⊢
  have hl : lv_has ls 2 [(0, .ref h0), (1, .int (iV cI))] := hl
  obtain ⟨hW0, hW9, hH0, hH9, hg⟩ := id hG
  refine lv_aload_n hx hb dX0_steep_0 rfl (lv_at hl 0 rfl) ?_
  refine lv_iload_n hx hb dX0_steep_1 rfl (lv_at hl 1 rfl) ?_
  refine z_callV X hP hS hl.1 (c_X0_east l G _ h0 ha wI hI gI cI (by first | assumption | omega) (by first | assumption | omega)) wd_473 kX0_east ⟨rfl, rfl, Nat.le_of_ble_eq_true rfl, Nat.le_of_ble_eq_true rfl⟩ [0, 1] rfl 0 rfl rfl rfl rfl (Nat.le_of_ble_eq_true rfl) dX0_steep_2 ⟨Nat.zero_le _, Nat.zero_le _⟩ (fun H locs hP hS => ?_)
  have f_1 := gEast_r hG (cI % 9) (cI / 9)
  refine z_mabs hx hb (hml.trans hl.1.symm) hown (hts _ wd_474) (hts _ wd_413) (hts _ wd_16) (hts _ wd_414) (Nat.le_of_ble_eq_true rfl) (Nat.le_of_ble_eq_true rfl) (Nat.zero_le _) (Nat.zero_le _) (by omega) dX0_steep_5 ?_
  have f_2 := zabs_r (gEast wI hI gI (cI % 9) (cI / 9))
  refine lv_aload_n hx hb dX0_steep_8 rfl (lv_at hl 0 rfl) ?_
  refine lv_iload_n hx hb dX0_steep_9 rfl (lv_at hl 1 rfl) ?_
  refine z_callV X hP hS hl.1 (c_X0_south l G _ h0 ha wI hI gI cI (by first | assumption | omega) (by first | assumption | omega)) wd_475 kX0_south ⟨rfl, rfl, Nat.le_of_ble_eq_true rfl, Nat.le_of_ble_eq_true rfl⟩ [0, 1] rfl 0 rfl rfl rfl rfl (Nat.le_of_ble_eq_true rfl) dX0_steep_10 ⟨Nat.zero_le _, Nat.zero_le _⟩ (fun H locs hP hS => ?_)
  have f_3 := gSouth_r hG (cI % 9) (cI / 9)
  refine z_mabs hx hb (hml.trans hl.1.symm) hown (hts _ wd_474) (hts _ wd_413) (hts _ wd_16) (hts _ wd_414) (Nat.le_of_ble_eq_true rfl) (Nat.le_of_ble_eq_true rfl) (Nat.zero_le _) (Nat.zero_le _) (by omega) dX0_steep_13 ?_
  have f_4 := zabs_r (gSouth wI hI gI (cI % 9) (cI / 9))
  refine z_iadd hx hb dX0_steep_16 ?_
  refine z_eq (z := gSteep wI hI gI (cI % 9) (cI / 9)) (by rfl) ?_
  exact z_ret hx hb hr hlocks hS dX0_steep_17

set_option maxHeartbeats 4000000 in
set_option maxRecDepth 100000 in
theorem c_X0_downFrom (l : Launch) (G : zG) (sz : Nat) (h0 : Nat) (ha : Nat) (wI : Int) (hI : Int) (gI : Nat → Int) (cI : Int) (hG : gOK wI hI gI) (hc : 0 ≤ cI ∧ cI < 81) : Met l yX0_downFrom (Cond.code yX0_downFrom cX0_downFrom 7 (some .int) :: zT) (zRm 2 48) (zPr G [.ref h0, .int (iV cI)] [(h0, .inr (0, [.int (iV wI), .int (iV hI), .ref ha])), (ha, .inl (G.2.1, 81, .inl (fun k => iV (gI k))))] sz) (zQr (gDown wI hI gI (cI % 9) (cI / 9)) sz) 0 0 (zF sz) := by
  refine Met.ofW (cc := cX0_downFrom) (maxL := 7) (ret := (some .int)) (by decide) rfl ?_
  intro p e s m args below meth c s₁ B hml hv
  obtain ⟨rfl, hsz, hP, hK, hSt⟩ := hv
  have hx := B.exec
  have hb := B.bytes
  have hr := B.returns
  have hts : ∀ w ∈ zT, w.before _ s = true := fun w h => atoms_spec (ws := (Cond.code yX0_downFrom cX0_downFrom 7 (some .int) :: zT)) B.pre w (List.mem_cons_of_mem _ h)
  have hown : s.vm.findClass RX0 = some m.cls := findClass_of_methodNamed B.named
  have hlocks := B.notSynchronized
  subst hsz
  have hA : ∀ q : Nat, s.heap.size ≤ q → zF s.heap.size q := fun _ h => h
  have hS : va_S (zF s.heap.size) s.heap s.heap [] := va_S.rf
  have hP : va_P G.1 vwCl [(h0, .inr (0, [.int (iV wI), .int (iV hI), .ref ha])), (ha, .inl (G.2.1, 81, .inl (fun k => iV (gI k))))] s.heap := hP
  have X := And.intro hx (And.intro hb (And.intro hml (And.intro hown (And.intro hts (And.intro hK (And.intro hSt hA))))))
  have hl := lv_entry ([.ref h0, .int (iV cI)]) (n := 7) (Nat.le_of_ble_eq_true rfl)
  rw [lg_entry_eq]
  generalize (lg_sl ([.ref h0, .int (iV cI)]) ++ List.replicate (7 - (lg_sl ([.ref h0, .int (iV cI)])).length) Slot.unset).toArray = ls at hl ⊢
  have hl : lv_has ls 7 [(0, .ref h0), (1, .int (iV cI))] := hl
  obtain ⟨hW0, hW9, hH0, hH9, hg⟩ := id hG
  refine lv_iconst (v := iV (-1)) hx hb dX0_downFrom_0 (by decide) ?_
  refine lv_istore_n (lv' := [(2, .int (iV (-1))), (0, .ref h0), (1, .int (iV cI))]) hx hb dX0_downFrom_1 rfl hl (by decide) rfl (fun ls hl => ?_)
  refine lv_iconst (v := iV 0) hx hb dX0_downFrom_2 (by decide) ?_
  refine lv_istore_n (lv' := [(3, .int (iV 0)), (2, .int (iV (-1))), (0, .ref h0), (1, .int (iV cI))]) hx hb dX0_downFrom_3 rfl hl (by decide) rfl (fun ls hl => ?_)
  refine lv_iconst (v := iV 0) hx hb dX0_downFrom_4 (by decide) ?_
  refine lv_istore (lv' := [(4, .int (iV 0)), (3, .int (iV 0)), (2, .int (iV (-1))), (0, .ref h0), (1, .int (iV cI))]) hx hb dX0_downFrom_5 hl (by decide) rfl (fun ls hl => ?_)
  have lp_7 : ∀ (k : Nat) (n : Nat) , (n ≤ 8) → (8 - n) < k → ∀ (H : Heap) (locs : List Loc), va_P G.1 vwCl [(h0, .inr (0, [.int (iV wI), .int (iV hI), .ref ha])), (ha, .inl (G.2.1, 81, .inl (fun k => iV (gI k))))] H → va_S (zF s.heap.size) s.heap H locs → ∀ ls : Array Slot, lv_has ls 7 [(0, .ref h0), (1, .int (iV cI)), (2, .int (iV ((gDn wI hI gI (cI % 9) (cI / 9) n).1))), (3, .int (iV ((gDn wI hI gI (cI % 9) (cI / 9) n).2))), (4, .int (iV (Nat.cast n : Int)))] → W p l e (headSpec (Cond.code yX0_downFrom cX0_downFrom 7 (some .int) :: zT) (zRm 2 48)).room s m ([Value.ref h0, Value.int (iV cI)] : List Value).toArray below meth c H locs 0 0 (MQ below (zQr (gDown wI hI gI (cI % 9) (cI / 9)) s.heap.size) ([Value.ref h0, Value.int (iV cI)] : List Value).toArray s 0 0 (zF s.heap.size)) (F0 m 7 ls []) := by
    intro k
    induction k with
    | zero => intro n hn hk_; exact absurd hk_ (Nat.not_lt_zero _)
    | succ k ih_7 =>
      intro n hn hk_7 H locs hP hS ls hl
      have hr7 := gDn_r hG (cI % 9) (cI / 9) n
      refine lv_iload hx hb dX0_downFrom_7 (lv_at hl 4 rfl) ?_
      refine lv_bipush (v := iV 8) hx hb dX0_downFrom_9 (by decide) ?_
      refine z_icmp_ge (tgt := 64) hx hb (by omega) ⟨by decide, by decide⟩ dX0_downFrom_11 (by decide) (fun c_1 => ?_) (fun c_1 => ?_)
      · refine lv_iload_n hx hb dX0_downFrom_64 rfl (lv_at hl 2 rfl) ?_
        refine z_eq (z := gDown wI hI gI (cI % 9) (cI / 9)) (by have h8 : n = 8 := (by omega); subst h8; rfl) ?_
        exact z_ret hx hb hr hlocks hS dX0_downFrom_65
      · refine lv_iload hx hb dX0_downFrom_14 (lv_at hl 4 rfl) ?_
        refine lv_iconst (v := iV 2) hx hb dX0_downFrom_16 (by decide) ?_
        refine z_irem hx hb (by omega) (by omega) dX0_downFrom_17 ?_
        refine z_if_ne (tgt := 25) hx hb (by omega) dX0_downFrom_18 (by decide) (fun c_2 => ?_) (fun c_2 => ?_)
        · refine lv_iconst (v := iV 2) hx hb dX0_downFrom_25 (by decide) ?_
          refine lv_istore (lv' := [(5, .int (iV 2)), (0, .ref h0), (1, .int (iV cI)), (2, .int (iV ((gDn wI hI gI (cI % 9) (cI / 9) n).1))), (3, .int (iV ((gDn wI hI gI (cI % 9) (cI / 9) n).2))), (4, .int (iV (Nat.cast n : Int)))]) hx hb dX0_downFrom_26 hl (by decide) rfl (fun ls hl => ?_)
          refine lv_aload_n hx hb dX0_downFrom_28 rfl (lv_at hl 1 rfl) ?_
          refine lv_iload_n hx hb dX0_downFrom_29 rfl (lv_at hl 2 rfl) ?_
          refine z_callV X hP hS hl.1 (c_X0_height l G _ h0 ha wI hI gI cI (by first | assumption | omega) (by first | assumption | omega)) wd_464 kX0_height ⟨rfl, rfl, Nat.le_of_ble_eq_true rfl, Nat.le_of_ble_eq_true rfl⟩ [0, 1] rfl 0 rfl rfl rfl rfl (Nat.le_of_ble_eq_true rfl) dX0_downFrom_30 ⟨Nat.zero_le _, Nat.zero_le _⟩ (fun H locs hP hS => ?_)
          have f_3 := gAt_r hG (cI % 9) (cI / 9)
          refine lv_aload_n hx hb dX0_downFrom_33 rfl (lv_at hl 1 rfl) ?_
          refine lv_iload_n hx hb dX0_downFrom_34 rfl (lv_at hl 2 rfl) ?_
          refine lv_iload hx hb dX0_downFrom_35 (lv_at hl 5 rfl) ?_
          refine z_callV X hP hS hl.1 (c_X0_heightBesideOrOwn l G _ h0 ha wI hI gI cI (Nat.cast n : Int) (by first | assumption | omega) (by first | assumption | omega) (by first | assumption | omega)) wd_452 kX0_heightBesideOrOwn ⟨rfl, rfl, Nat.le_of_ble_eq_true rfl, Nat.le_of_ble_eq_true rfl⟩ [0, 1] rfl 0 rfl rfl rfl rfl (Nat.le_of_ble_eq_true rfl) dX0_downFrom_37 ⟨Nat.zero_le _, Nat.zero_le _⟩ (fun H locs hP hS => ?_)
          have f_4 := gB_r hG (cI % 9) (cI / 9) (Nat.cast n : Int)
          refine z_isub hx hb dX0_downFrom_40 ?_
          refine lv_iload hx hb dX0_downFrom_41 (lv_at hl 0 rfl) ?_
          refine z_imul hx hb dX0_downFrom_43 ?_
          refine lv_istore (lv' := [(6, .int (iV ((gAt gI (cI % 9) (cI / 9) - gB wI hI gI (cI % 9) (cI / 9) (Nat.cast n : Int)) * 2))), (5, .int (iV 2)), (0, .ref h0), (1, .int (iV cI)), (2, .int (iV ((gDn wI hI gI (cI % 9) (cI / 9) n).1))), (3, .int (iV ((gDn wI hI gI (cI % 9) (cI / 9) n).2))), (4, .int (iV (Nat.cast n : Int)))]) hx hb dX0_downFrom_44 hl (by decide) rfl (fun ls hl => ?_)
          refine lv_iload hx hb dX0_downFrom_46 (lv_at hl 0 rfl) ?_
          refine lv_iload_n hx hb dX0_downFrom_48 rfl (lv_at hl 5 rfl) ?_
          refine z_icmp_le (tgt := 58) hx hb (by omega) (by omega) dX0_downFrom_49 (by decide) (fun c_5 => ?_) (fun c_5 => ?_)
          · refine z_iinc (lv' := [(4, .int (iV ((Nat.cast n : Int) + 1))), (6, .int (iV ((gAt gI (cI % 9) (cI / 9) - gB wI hI gI (cI % 9) (cI / 9) (Nat.cast n : Int)) * 2))), (5, .int (iV 2)), (0, .ref h0), (1, .int (iV cI)), (2, .int (iV ((gDn wI hI gI (cI % 9) (cI / 9) n).1))), (3, .int (iV ((gDn wI hI gI (cI % 9) (cI / 9) n).2)))]) hx hb dX0_downFrom_58 hl (k := 6) rfl (by decide) rfl (fun ls hl => ?_)
            refine lv_goto (tgt := 7) hx hb dX0_downFrom_61 (by decide) ?_
            exact ih_7 (n + 1) (by first | assumption | omega) (by omega) _ _ hP hS _ (lv_cons (lv_at hl 3 rfl) (lv_cons (lv_at hl 4 rfl) (lv_cons (lv_i hl 5 rfl (by first | rfl | omega | (simp only [gDn, gFall]; split <;> split <;> first | rfl | omega))) (lv_cons (lv_i hl 6 rfl (by first | rfl | omega | (simp only [gDn, gFall]; split <;> split <;> first | rfl | omega))) (lv_cons (lv_i hl 0 rfl (by first | rfl | omega | (simp only [gDn, gFall]; split <;> split <;> first | rfl | omega))) (lv_nil hl))))))
          · refine lv_iload hx hb dX0_downFrom_52 (lv_at hl 0 rfl) ?_
            refine lv_istore_n (lv' := [(3, .int (iV ((gAt gI (cI % 9) (cI / 9) - gB wI hI gI (cI % 9) (cI / 9) (Nat.cast n : Int)) * 2))), (6, .int (iV ((gAt gI (cI % 9) (cI / 9) - gB wI hI gI (cI % 9) (cI / 9) (Nat.cast n : Int)) * 2))), (5, .int (iV 2)), (0, .ref h0), (1, .int (iV cI)), (2, .int (iV ((gDn wI hI gI (cI % 9) (cI / 9) n).1))), (4, .int (iV (Nat.cast n : Int)))]) hx hb dX0_downFrom_54 rfl hl (by decide) rfl (fun ls hl => ?_)
            refine lv_iload hx hb dX0_downFrom_55 (lv_at hl 6 rfl) ?_
            refine lv_istore_n (lv' := [(2, .int (iV (Nat.cast n : Int))), (3, .int (iV ((gAt gI (cI % 9) (cI / 9) - gB wI hI gI (cI % 9) (cI / 9) (Nat.cast n : Int)) * 2))), (6, .int (iV ((gAt gI (cI % 9) (cI / 9) - gB wI hI gI (cI % 9) (cI / 9) (Nat.cast n : Int)) * 2))), (5, .int (iV 2)), (0, .ref h0), (1, .int (iV cI)), (4, .int (iV (Nat.cast n : Int)))]) hx hb dX0_downFrom_57 rfl hl (by decide) rfl (fun ls hl => ?_)
            refine z_iinc (lv' := [(4, .int (iV ((Nat.cast n : Int) + 1))), (2, .int (iV (Nat.cast n : Int))), (3, .int (iV ((gAt gI (cI % 9) (cI / 9) - gB wI hI gI (cI % 9) (cI / 9) (Nat.cast n : Int)) * 2))), (6, .int (iV ((gAt gI (cI % 9) (cI / 9) - gB wI hI gI (cI % 9) (cI / 9) (Nat.cast n : Int)) * 2))), (5, .int (iV 2)), (0, .ref h0), (1, .int (iV cI))]) hx hb dX0_downFrom_58 hl (k := 6) rfl (by decide) rfl (fun ls hl => ?_)
            refine lv_goto (tgt := 7) hx hb dX0_downFrom_61 (by decide) ?_
            exact ih_7 (n + 1) (by first | assumption | omega) (by omega) _ _ hP hS _ (lv_cons (lv_at hl 5 rfl) (lv_cons (lv_at hl 6 rfl) (lv_cons (lv_i hl 1 rfl (by first | rfl | omega | (simp only [gDn, gFall]; split <;> split <;> first | rfl | omega))) (lv_cons (lv_i hl 2 rfl (by first | rfl | omega | (simp only [gDn, gFall]; split <;> split <;> first | rfl | omega))) (lv_cons (lv_i hl 0 rfl (by first | rfl | omega | (simp only [gDn, gFall]; split <;> split <;> first | rfl | omega))) (lv_nil hl))))))
        · refine lv_iconst (v := iV 3) hx hb dX0_downFrom_21 (by decide) ?_
          refine lv_goto (tgt := 26) hx hb dX0_downFrom_22 (by decide) ?_
          refine lv_istore (lv' := [(5, .int (iV 3)), (0, .ref h0), (1, .int (iV cI)), (2, .int (iV ((gDn wI hI gI (cI % 9) (cI / 9) n).1))), (3, .int (iV ((gDn wI hI gI (cI % 9) (cI / 9) n).2))), (4, .int (iV (Nat.cast n : Int)))]) hx hb dX0_downFrom_26 hl (by decide) rfl (fun ls hl => ?_)
          refine lv_aload_n hx hb dX0_downFrom_28 rfl (lv_at hl 1 rfl) ?_
          refine lv_iload_n hx hb dX0_downFrom_29 rfl (lv_at hl 2 rfl) ?_
          refine z_callV X hP hS hl.1 (c_X0_height l G _ h0 ha wI hI gI cI (by first | assumption | omega) (by first | assumption | omega)) wd_464 kX0_height ⟨rfl, rfl, Nat.le_of_ble_eq_true rfl, Nat.le_of_ble_eq_true rfl⟩ [0, 1] rfl 0 rfl rfl rfl rfl (Nat.le_of_ble_eq_true rfl) dX0_downFrom_30 ⟨Nat.zero_le _, Nat.zero_le _⟩ (fun H locs hP hS => ?_)
          have f_6 := gAt_r hG (cI % 9) (cI / 9)
          refine lv_aload_n hx hb dX0_downFrom_33 rfl (lv_at hl 1 rfl) ?_
          refine lv_iload_n hx hb dX0_downFrom_34 rfl (lv_at hl 2 rfl) ?_
          refine lv_iload hx hb dX0_downFrom_35 (lv_at hl 5 rfl) ?_
          refine z_callV X hP hS hl.1 (c_X0_heightBesideOrOwn l G _ h0 ha wI hI gI cI (Nat.cast n : Int) (by first | assumption | omega) (by first | assumption | omega) (by first | assumption | omega)) wd_452 kX0_heightBesideOrOwn ⟨rfl, rfl, Nat.le_of_ble_eq_true rfl, Nat.le_of_ble_eq_true rfl⟩ [0, 1] rfl 0 rfl rfl rfl rfl (Nat.le_of_ble_eq_true rfl) dX0_downFrom_37 ⟨Nat.zero_le _, Nat.zero_le _⟩ (fun H locs hP hS => ?_)
          have f_7 := gB_r hG (cI % 9) (cI / 9) (Nat.cast n : Int)
          refine z_isub hx hb dX0_downFrom_40 ?_
          refine lv_iload hx hb dX0_downFrom_41 (lv_at hl 0 rfl) ?_
          refine z_imul hx hb dX0_downFrom_43 ?_
          refine lv_istore (lv' := [(6, .int (iV ((gAt gI (cI % 9) (cI / 9) - gB wI hI gI (cI % 9) (cI / 9) (Nat.cast n : Int)) * 3))), (5, .int (iV 3)), (0, .ref h0), (1, .int (iV cI)), (2, .int (iV ((gDn wI hI gI (cI % 9) (cI / 9) n).1))), (3, .int (iV ((gDn wI hI gI (cI % 9) (cI / 9) n).2))), (4, .int (iV (Nat.cast n : Int)))]) hx hb dX0_downFrom_44 hl (by decide) rfl (fun ls hl => ?_)
          refine lv_iload hx hb dX0_downFrom_46 (lv_at hl 0 rfl) ?_
          refine lv_iload_n hx hb dX0_downFrom_48 rfl (lv_at hl 5 rfl) ?_
          refine z_icmp_le (tgt := 58) hx hb (by omega) (by omega) dX0_downFrom_49 (by decide) (fun c_8 => ?_) (fun c_8 => ?_)
          · refine z_iinc (lv' := [(4, .int (iV ((Nat.cast n : Int) + 1))), (6, .int (iV ((gAt gI (cI % 9) (cI / 9) - gB wI hI gI (cI % 9) (cI / 9) (Nat.cast n : Int)) * 3))), (5, .int (iV 3)), (0, .ref h0), (1, .int (iV cI)), (2, .int (iV ((gDn wI hI gI (cI % 9) (cI / 9) n).1))), (3, .int (iV ((gDn wI hI gI (cI % 9) (cI / 9) n).2)))]) hx hb dX0_downFrom_58 hl (k := 6) rfl (by decide) rfl (fun ls hl => ?_)
            refine lv_goto (tgt := 7) hx hb dX0_downFrom_61 (by decide) ?_
            exact ih_7 (n + 1) (by first | assumption | omega) (by omega) _ _ hP hS _ (lv_cons (lv_at hl 3 rfl) (lv_cons (lv_at hl 4 rfl) (lv_cons (lv_i hl 5 rfl (by first | rfl | omega | (simp only [gDn, gFall]; split <;> split <;> first | rfl | omega))) (lv_cons (lv_i hl 6 rfl (by first | rfl | omega | (simp only [gDn, gFall]; split <;> split <;> first | rfl | omega))) (lv_cons (lv_i hl 0 rfl (by first | rfl | omega | (simp only [gDn, gFall]; split <;> split <;> first | rfl | omega))) (lv_nil hl))))))
          · refine lv_iload hx hb dX0_downFrom_52 (lv_at hl 0 rfl) ?_
            refine lv_istore_n (lv' := [(3, .int (iV ((gAt gI (cI % 9) (cI / 9) - gB wI hI gI (cI % 9) (cI / 9) (Nat.cast n : Int)) * 3))), (6, .int (iV ((gAt gI (cI % 9) (cI / 9) - gB wI hI gI (cI % 9) (cI / 9) (Nat.cast n : Int)) * 3))), (5, .int (iV 3)), (0, .ref h0), (1, .int (iV cI)), (2, .int (iV ((gDn wI hI gI (cI % 9) (cI / 9) n).1))), (4, .int (iV (Nat.cast n : Int)))]) hx hb dX0_downFrom_54 rfl hl (by decide) rfl (fun ls hl => ?_)
            refine lv_iload hx hb dX0_downFrom_55 (lv_at hl 6 rfl) ?_
            refine lv_istore_n (lv' := [(2, .int (iV (Nat.cast n : Int))), (3, .int (iV ((gAt gI (cI % 9) (cI / 9) - gB wI hI gI (cI % 9) (cI / 9) (Nat.cast n : Int)) * 3))), (6, .int (iV ((gAt gI (cI % 9) (cI / 9) - gB wI hI gI (cI % 9) (cI / 9) (Nat.cast n : Int)) * 3))), (5, .int (iV 3)), (0, .ref h0), (1, .int (iV cI)), (4, .int (iV (Nat.cast n : Int)))]) hx hb dX0_downFrom_57 rfl hl (by decide) rfl (fun ls hl => ?_)
            refine z_iinc (lv' := [(4, .int (iV ((Nat.cast n : Int) + 1))), (2, .int (iV (Nat.cast n : Int))), (3, .int (iV ((gAt gI (cI % 9) (cI / 9) - gB wI hI gI (cI % 9) (cI / 9) (Nat.cast n : Int)) * 3))), (6, .int (iV ((gAt gI (cI % 9) (cI / 9) - gB wI hI gI (cI % 9) (cI / 9) (Nat.cast n : Int)) * 3))), (5, .int (iV 3)), (0, .ref h0), (1, .int (iV cI))]) hx hb dX0_downFrom_58 hl (k := 6) rfl (by decide) rfl (fun ls hl => ?_)
            refine lv_goto (tgt := 7) hx hb dX0_downFrom_61 (by decide) ?_
            exact ih_7 (n + 1) (by first | assumption | omega) (by omega) _ _ hP hS _ (lv_cons (lv_at hl 5 rfl) (lv_cons (lv_at hl 6 rfl) (lv_cons (lv_i hl 1 rfl (by first | rfl | omega | (simp only [gDn, gFall]; split <;> split <;> first | rfl | omega))) (lv_cons (lv_i hl 2 rfl (by first | rfl | omega | (simp only [gDn, gFall]; split <;> split <;> first | rfl | omega))) (lv_cons (lv_i hl 0 rfl (by first | rfl | omega | (simp only [gDn, gFall]; split <;> split <;> first | rfl | omega))) (lv_nil hl))))))
  exact lp_7 _ 0 (by first | assumption | omega) (Nat.lt_succ_self _) _ _ hP hS _ (lv_cons (lv_at hl 3 rfl) (lv_cons (lv_at hl 4 rfl) (lv_cons (lv_i hl 2 rfl (by first | rfl | omega | (simp only [gDn, gFall]; split <;> split <;> first | rfl | omega))) (lv_cons (lv_i hl 1 rfl (by first | rfl | omega | (simp only [gDn, gFall]; split <;> split <;> first | rfl | omega))) (lv_cons (lv_i hl 0 rfl (by first | rfl | omega | (simp only [gDn, gFall]; split <;> split <;> first | rfl | omega))) (lv_nil hl))))))
