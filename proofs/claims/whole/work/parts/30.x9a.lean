theorem kX9_in : zMs RX9 yX9_in cX9_in 6 (some .boolean) 3 := ⟨wd_820, wd_14, wd_821, rfl, by decide +kernel⟩
theorem kX9_abs : zMs RX9 yX9_abs cX9_abs 1 (some .int) 1 := ⟨wd_881, wd_14, wd_882, rfl, by decide +kernel⟩
theorem kX9_right : zMs RX9 yX9_right cX9_right 1 (some .int) 1 := ⟨wd_904, wd_14, wd_905, rfl, by decide +kernel⟩
theorem kX9_below : zMs RX9 yX9_below cX9_below 1 (some .int) 1 := ⟨wd_907, wd_14, wd_908, rfl, by decide +kernel⟩
theorem kX9_isCell : zM RX9 yX9_isCell cX9_isCell 3 (some .boolean) 2 := ⟨wd_877, ws_25, wd_14, wd_878, rfl, by decide +kernel⟩
theorem kX9_height : zM RX9 yX9_height cX9_height 3 (some .int) 2 := ⟨wd_893, ws_27, wd_14, wd_894, rfl, by decide +kernel⟩
theorem kX9_beside : zM RX9 yX9_beside cX9_beside 4 (some .int) 3 := ⟨wd_901, ws_29, wd_14, wd_902, rfl, by decide +kernel⟩
theorem kX9_east : zM RX9 yX9_east cX9_east 3 (some .int) 2 := ⟨wd_897, ws_28, wd_14, wd_898, rfl, by decide +kernel⟩
theorem kX9_south : zM RX9 yX9_south cX9_south 3 (some .int) 2 := ⟨wd_911, ws_30, wd_14, wd_912, rfl, by decide +kernel⟩
theorem kX9_steep : zM RX9 yX9_steep cX9_steep 3 (some .int) 2 := ⟨wd_915, ws_31, wd_14, wd_916, rfl, by decide +kernel⟩
theorem kX9_down : zM RX9 yX9_down cX9_down 7 (some .int) 2 := ⟨wd_919, ws_32, wd_14, wd_920, rfl, by decide +kernel⟩
theorem kX9_isCrest : zM RX9 yX9_isCrest cX9_isCrest 7 (some .boolean) 3 := ⟨wd_923, ws_33, wd_14, wd_924, rfl, by decide +kernel⟩
theorem kX9_quarter : zM RX9 yX9_quarter cX9_quarter 3 (some .int) 2 := ⟨wd_927, ws_34, wd_14, wd_928, rfl, by decide +kernel⟩
theorem kX9_toneBy : zM RX9 yX9_toneBy cX9_toneBy 5 (some .int) 3 := ⟨wd_935, ws_36, wd_14, wd_936, rfl, by decide +kernel⟩
theorem kX9_tone : zM RX9 yX9_tone cX9_tone 3 (some .int) 2 := ⟨wd_931, ws_35, wd_14, wd_932, rfl, by decide +kernel⟩
set_option maxHeartbeats 4000000 in
set_option maxRecDepth 100000 in
theorem c_X9_in (l : Launch) (G : zG) (sz : Nat) (aI : Int) (bI : Int) (cI : Int) (hraI : iR aI) (hrbI : iR bI) (hrcI : iR cI) : Met l yX9_in (Cond.code yX9_in cX9_in 6 (some .boolean) :: zT) (zRm 0 0) (zPr G [.long (lV aI), .long (lV bI), .long (lV cI)] [] sz) (zQr (bP (bI ≤ aI ∧ aI ≤ cI)) sz) 0 0 (zF sz) := by
  refine Met.ofW (cc := cX9_in) (maxL := 6) (ret := (some .boolean)) (by decide) rfl ?_
  intro p e s m args below meth c s₁ B hml hv
  obtain ⟨rfl, hsz, hP, hK, hSt⟩ := hv
  have hx := B.exec
  have hb := B.bytes
  have hr := B.returns
  have hts : ∀ w ∈ zT, w.before _ s = true := fun w h => atoms_spec (ws := (Cond.code yX9_in cX9_in 6 (some .boolean) :: zT)) B.pre w (List.mem_cons_of_mem _ h)
  have hown : s.vm.findClass RX9 = some m.cls := findClass_of_methodNamed B.named
  have hlocks := B.notSynchronized
  subst hsz
  have hA : ∀ q : Nat, s.heap.size ≤ q → zF s.heap.size q := fun _ h => h
  have hS : va_S (zF s.heap.size) s.heap s.heap [] := va_S.rf
  have hP : va_P G.1 vwCl [] s.heap := hP
  have X := And.intro hx (And.intro hb (And.intro hml (And.intro hown (And.intro hts (And.intro hK (And.intro hSt hA))))))
  have hl := lv_entry ([.long (lV aI), .long (lV bI), .long (lV cI)]) (n := 6) (Nat.le_of_ble_eq_true rfl)
  rw [lg_entry_eq]
  generalize (lg_sl ([.long (lV aI), .long (lV bI), .long (lV cI)]) ++ List.replicate (6 - (lg_sl ([.long (lV aI), .long (lV bI), .long (lV cI)])).length) Slot.unset).toArray = ls at hl ⊢
  have hl : lv_has ls 6 [(0, .long (lV aI)), (2, .long (lV bI)), (4, .long (lV cI))] := hl
  refine lv_lload_n hx hb dX9_in_0 rfl (lv_at hl 0 rfl) ?_
  refine lv_lload_n hx hb dX9_in_1 rfl (lv_at hl 1 rfl) ?_
  refine z_lcmp hx hb (by omega) (by omega) dX9_in_2 ?_
  have f_1 := zcmp_r aI bI
  refine z_if_lt (tgt := 17) hx hb (by omega) dX9_in_3 (by decide) (fun c_2 => ?_) (fun c_2 => ?_)
  · refine lv_iconst (v := iV 0) hx hb dX9_in_17 (by decide) ?_
    refine z_eq (z := bP (bI ≤ aI ∧ aI ≤ cI)) (by first | exact (bP_t (by omega)).symm | exact (bP_f (by omega)).symm) ?_
    exact z_retb hx hb hr hlocks hS dX9_in_18
  · refine lv_lload_n hx hb dX9_in_6 rfl (lv_at hl 0 rfl) ?_
    refine lv_lload hx hb dX9_in_7 (lv_at hl 2 rfl) ?_
    refine z_lcmp hx hb (by omega) (by omega) dX9_in_9 ?_
    have f_3 := zcmp_r aI cI
    refine z_if_gt (tgt := 17) hx hb (by omega) dX9_in_10 (by decide) (fun c_4 => ?_) (fun c_4 => ?_)
    · refine lv_iconst (v := iV 0) hx hb dX9_in_17 (by decide) ?_
      refine z_eq (z := bP (bI ≤ aI ∧ aI ≤ cI)) (by first | exact (bP_t (by omega)).symm | exact (bP_f (by omega)).symm) ?_
      exact z_retb hx hb hr hlocks hS dX9_in_18
    · refine lv_iconst (v := iV 1) hx hb dX9_in_13 (by decide) ?_
      refine lv_goto (tgt := 18) hx hb dX9_in_14 (by decide) ?_
      refine z_eq (z := bP (bI ≤ aI ∧ aI ≤ cI)) (by first | exact (bP_t (by omega)).symm | exact (bP_f (by omega)).symm) ?_
      exact z_retb hx hb hr hlocks hS dX9_in_18

set_option maxHeartbeats 4000000 in
set_option maxRecDepth 100000 in
theorem c_X9_abs (l : Launch) (G : zG) (sz : Nat) (vI : Int) (hrvI : iR vI) : Met l yX9_abs (Cond.code yX9_abs cX9_abs 1 (some .int) :: zT) (zRm 0 0) (zPr G [.int (iV vI)] [] sz) (zQr (zabs vI) sz) 0 0 (zF sz) := by
  refine Met.ofW (cc := cX9_abs) (maxL := 1) (ret := (some .int)) (by decide) rfl ?_
  intro p e s m args below meth c s₁ B hml hv
  obtain ⟨rfl, hsz, hP, hK, hSt⟩ := hv
  have hx := B.exec
  have hb := B.bytes
  have hr := B.returns
  have hts : ∀ w ∈ zT, w.before _ s = true := fun w h => atoms_spec (ws := (Cond.code yX9_abs cX9_abs 1 (some .int) :: zT)) B.pre w (List.mem_cons_of_mem _ h)
  have hown : s.vm.findClass RX9 = some m.cls := findClass_of_methodNamed B.named
  have hlocks := B.notSynchronized
  subst hsz
  have hA : ∀ q : Nat, s.heap.size ≤ q → zF s.heap.size q := fun _ h => h
  have hS : va_S (zF s.heap.size) s.heap s.heap [] := va_S.rf
  have hP : va_P G.1 vwCl [] s.heap := hP
  have X := And.intro hx (And.intro hb (And.intro hml (And.intro hown (And.intro hts (And.intro hK (And.intro hSt hA))))))
  have hl := lv_entry ([.int (iV vI)]) (n := 1) (Nat.le_of_ble_eq_true rfl)
  rw [lg_entry_eq]
  generalize (lg_sl ([.int (iV vI)]) ++ List.replicate (1 - (lg_sl ([.int (iV vI)])).length) Slot.unset).toArray = ls at hl ⊢
  have hl : lv_has ls 1 [(0, .int (iV vI))] := hl
  refine lv_iload_n hx hb dX9_abs_0 rfl (lv_at hl 0 rfl) ?_
  refine z_if_ge (tgt := 9) hx hb (by omega) dX9_abs_1 (by decide) (fun c_1 => ?_) (fun c_1 => ?_)
  · refine lv_iload_n hx hb dX9_abs_9 rfl (lv_at hl 0 rfl) ?_
    refine z_eq (z := (zabs vI)) (by unfold zabs; first | rw [if_pos (by omega)] | rw [if_neg (by omega)]) ?_
    exact z_ret hx hb hr hlocks hS dX9_abs_10
  · refine lv_iload_n hx hb dX9_abs_4 rfl (lv_at hl 0 rfl) ?_
    refine z_ineg hx hb dX9_abs_5 ?_
    refine lv_goto (tgt := 10) hx hb dX9_abs_6 (by decide) ?_
    refine z_eq (z := (zabs vI)) (by unfold zabs; first | rw [if_pos (by omega)] | rw [if_neg (by omega)]) ?_
    exact z_ret hx hb hr hlocks hS dX9_abs_10

set_option maxHeartbeats 4000000 in
set_option maxRecDepth 100000 in
theorem c_X9_right (l : Launch) (G : zG) (sz : Nat) (dI : Int) (hd : 0 ≤ dI ∧ dI < 8) : Met l yX9_right (Cond.code yX9_right cX9_right 1 (some .int) :: zT) (zRm 0 0) (zPr G [.int (iV dI)] [] sz) (zQr (zR dI.toNat) sz) 0 0 (zF sz) := by
  refine Met.ofW (cc := cX9_right) (maxL := 1) (ret := (some .int)) (by decide) rfl ?_
  intro p e s m args below meth c s₁ B hml hv
  obtain ⟨rfl, hsz, hP, hK, hSt⟩ := hv
  have hx := B.exec
  have hb := B.bytes
  have hr := B.returns
  have hts : ∀ w ∈ zT, w.before _ s = true := fun w h => atoms_spec (ws := (Cond.code yX9_right cX9_right 1 (some .int) :: zT)) B.pre w (List.mem_cons_of_mem _ h)
  have hown : s.vm.findClass RX9 = some m.cls := findClass_of_methodNamed B.named
  have hlocks := B.notSynchronized
  subst hsz
  have hA : ∀ q : Nat, s.heap.size ≤ q → zF s.heap.size q := fun _ h => h
  have hS : va_S (zF s.heap.size) s.heap s.heap [] := va_S.rf
  have hP : va_P G.1 vwCl [] s.heap := hP
  have X := And.intro hx (And.intro hb (And.intro hml (And.intro hown (And.intro hts (And.intro hK (And.intro hSt hA))))))
  have hl := lv_entry ([.int (iV dI)]) (n := 1) (Nat.le_of_ble_eq_true rfl)
  rw [lg_entry_eq]
  generalize (lg_sl ([.int (iV dI)]) ++ List.replicate (1 - (lg_sl ([.int (iV dI)])).length) Slot.unset).toArray = ls at hl ⊢
  have hl : lv_has ls 1 [(0, .int (iV dI))] := hl
  refine lv_iload_n hx hb dX9_right_0 rfl (lv_at hl 0 rfl) ?_
  refine z_if_eq (tgt := 9) hx hb (by omega) dX9_right_1 (by decide) (fun c_1 => ?_) (fun c_1 => ?_)
  · refine lv_iconst (v := iV 0) hx hb dX9_right_9 (by decide) ?_
    refine lv_goto (tgt := 23) hx hb dX9_right_10 (by decide) ?_
    refine z_eq (z := (zR dI.toNat)) (by rw [zR_is hd]; first | rw [if_pos (by omega)] | rw [if_neg (by omega), if_pos (by omega)] | rw [if_neg (by omega), if_neg (by omega)]) ?_
    exact z_ret hx hb hr hlocks hS dX9_right_23
  · refine lv_iload_n hx hb dX9_right_4 rfl (lv_at hl 0 rfl) ?_
    refine lv_iconst (v := iV 4) hx hb dX9_right_5 (by decide) ?_
    refine z_icmp_ne (tgt := 13) hx hb (by omega) ⟨by decide, by decide⟩ dX9_right_6 (by decide) (fun c_2 => ?_) (fun c_2 => ?_)
    · refine lv_iload_n hx hb dX9_right_13 rfl (lv_at hl 0 rfl) ?_
      refine lv_iconst (v := iV 4) hx hb dX9_right_14 (by decide) ?_
      refine z_icmp_ge (tgt := 22) hx hb (by omega) ⟨by decide, by decide⟩ dX9_right_15 (by decide) (fun c_3 => ?_) (fun c_3 => ?_)
      · refine lv_iconst (v := iV (-1)) hx hb dX9_right_22 (by decide) ?_
        refine z_eq (z := (zR dI.toNat)) (by rw [zR_is hd]; first | rw [if_pos (by omega)] | rw [if_neg (by omega), if_pos (by omega)] | rw [if_neg (by omega), if_neg (by omega)]) ?_
        exact z_ret hx hb hr hlocks hS dX9_right_23
      · refine lv_iconst (v := iV 1) hx hb dX9_right_18 (by decide) ?_
        refine lv_goto (tgt := 23) hx hb dX9_right_19 (by decide) ?_
        refine z_eq (z := (zR dI.toNat)) (by rw [zR_is hd]; first | rw [if_pos (by omega)] | rw [if_neg (by omega), if_pos (by omega)] | rw [if_neg (by omega), if_neg (by omega)]) ?_
        exact z_ret hx hb hr hlocks hS dX9_right_23
    · refine lv_iconst (v := iV 0) hx hb dX9_right_9 (by decide) ?_
      refine lv_goto (tgt := 23) hx hb dX9_right_10 (by decide) ?_
      refine z_eq (z := (zR dI.toNat)) (by rw [zR_is hd]; first | rw [if_pos (by omega)] | rw [if_neg (by omega), if_pos (by omega)] | rw [if_neg (by omega), if_neg (by omega)]) ?_
      exact z_ret hx hb hr hlocks hS dX9_right_23

set_option maxHeartbeats 4000000 in
set_option maxRecDepth 100000 in
theorem c_X9_below (l : Launch) (G : zG) (sz : Nat) (dI : Int) (hd : 0 ≤ dI ∧ dI < 8) : Met l yX9_below (Cond.code yX9_below cX9_below 1 (some .int) :: zT) (zRm 0 0) (zPr G [.int (iV dI)] [] sz) (zQr (zB dI.toNat) sz) 0 0 (zF sz) := by
  refine Met.ofW (cc := cX9_below) (maxL := 1) (ret := (some .int)) (by decide) rfl ?_
  intro p e s m args below meth c s₁ B hml hv
  obtain ⟨rfl, hsz, hP, hK, hSt⟩ := hv
  have hx := B.exec
  have hb := B.bytes
  have hr := B.returns
  have hts : ∀ w ∈ zT, w.before _ s = true := fun w h => atoms_spec (ws := (Cond.code yX9_below cX9_below 1 (some .int) :: zT)) B.pre w (List.mem_cons_of_mem _ h)
  have hown : s.vm.findClass RX9 = some m.cls := findClass_of_methodNamed B.named
  have hlocks := B.notSynchronized
  subst hsz
  have hA : ∀ q : Nat, s.heap.size ≤ q → zF s.heap.size q := fun _ h => h
  have hS : va_S (zF s.heap.size) s.heap s.heap [] := va_S.rf
  have hP : va_P G.1 vwCl [] s.heap := hP
  have X := And.intro hx (And.intro hb (And.intro hml (And.intro hown (And.intro hts (And.intro hK (And.intro hSt hA))))))
  have hl := lv_entry ([.int (iV dI)]) (n := 1) (Nat.le_of_ble_eq_true rfl)
  rw [lg_entry_eq]
  generalize (lg_sl ([.int (iV dI)]) ++ List.replicate (1 - (lg_sl ([.int (iV dI)])).length) Slot.unset).toArray = ls at hl ⊢
  have hl : lv_has ls 1 [(0, .int (iV dI))] := hl
  refine lv_iload_n hx hb dX9_below_0 rfl (lv_at hl 0 rfl) ?_
  refine lv_iconst (v := iV 2) hx hb dX9_below_1 (by decide) ?_
  refine z_icmp_eq (tgt := 11) hx hb (by omega) ⟨by decide, by decide⟩ dX9_below_2 (by decide) (fun c_1 => ?_) (fun c_1 => ?_)
  · refine lv_iconst (v := iV 0) hx hb dX9_below_11 (by decide) ?_
    refine lv_goto (tgt := 31) hx hb dX9_below_12 (by decide) ?_
    refine z_eq (z := (zB dI.toNat)) (by rw [zB_is hd]; first | rw [if_pos (by omega)] | rw [if_neg (by omega), if_pos (by omega)] | rw [if_neg (by omega), if_neg (by omega)]) ?_
    exact z_ret hx hb hr hlocks hS dX9_below_31
  · refine lv_iload_n hx hb dX9_below_5 rfl (lv_at hl 0 rfl) ?_
    refine lv_bipush (v := iV 6) hx hb dX9_below_6 (by decide) ?_
    refine z_icmp_ne (tgt := 15) hx hb (by omega) ⟨by decide, by decide⟩ dX9_below_8 (by decide) (fun c_2 => ?_) (fun c_2 => ?_)
    · refine lv_iload_n hx hb dX9_below_15 rfl (lv_at hl 0 rfl) ?_
      refine lv_iconst (v := iV 2) hx hb dX9_below_16 (by decide) ?_
      refine z_icmp_le (tgt := 30) hx hb (by omega) ⟨by decide, by decide⟩ dX9_below_17 (by decide) (fun c_3 => ?_) (fun c_3 => ?_)
      · refine lv_iconst (v := iV (-1)) hx hb dX9_below_30 (by decide) ?_
        refine z_eq (z := (zB dI.toNat)) (by rw [zB_is hd]; first | rw [if_pos (by omega)] | rw [if_neg (by omega), if_pos (by omega)] | rw [if_neg (by omega), if_neg (by omega)]) ?_
        exact z_ret hx hb hr hlocks hS dX9_below_31
      · refine lv_iload_n hx hb dX9_below_20 rfl (lv_at hl 0 rfl) ?_
        refine lv_bipush (v := iV 6) hx hb dX9_below_21 (by decide) ?_
        refine z_icmp_ge (tgt := 30) hx hb (by omega) ⟨by decide, by decide⟩ dX9_below_23 (by decide) (fun c_4 => ?_) (fun c_4 => ?_)
        · refine lv_iconst (v := iV (-1)) hx hb dX9_below_30 (by decide) ?_
          refine z_eq (z := (zB dI.toNat)) (by rw [zB_is hd]; first | rw [if_pos (by omega)] | rw [if_neg (by omega), if_pos (by omega)] | rw [if_neg (by omega), if_neg (by omega)]) ?_
          exact z_ret hx hb hr hlocks hS dX9_below_31
        · refine lv_iconst (v := iV 1) hx hb dX9_below_26 (by decide) ?_
          refine lv_goto (tgt := 31) hx hb dX9_below_27 (by decide) ?_
          refine z_eq (z := (zB dI.toNat)) (by rw [zB_is hd]; first | rw [if_pos (by omega)] | rw [if_neg (by omega), if_pos (by omega)] | rw [if_neg (by omega), if_neg (by omega)]) ?_
          exact z_ret hx hb hr hlocks hS dX9_below_31
    · refine lv_iconst (v := iV 0) hx hb dX9_below_11 (by decide) ?_
      refine lv_goto (tgt := 31) hx hb dX9_below_12 (by decide) ?_
      refine z_eq (z := (zB dI.toNat)) (by rw [zB_is hd]; first | rw [if_pos (by omega)] | rw [if_neg (by omega), if_pos (by omega)] | rw [if_neg (by omega), if_neg (by omega)]) ?_
      exact z_ret hx hb hr hlocks hS dX9_below_31

set_option maxHeartbeats 4000000 in
set_option maxRecDepth 100000 in
theorem c_X9_isCell (l : Launch) (G : zG) (sz : Nat) (mA : Nat → Nat) (mLen : Int) (mSpot : Int) (mUn : Int) (mRr : Int) (mPit : Int) (mFar : Int) (mTm : Int) (nw : Nat → Int) (xI : Int) (yI : Int) (hM : mOK nw) (hrxI : iR xI) (hryI : iR yI) : Met l yX9_isCell (Cond.code yX9_isCell cX9_isCell 3 (some .boolean) :: zT) (zRm 1 25) (zPr G [.ref (mA 0), .int (iV xI), .int (iV yI)] [(mA 0, .inr (9, [.int (iV mLen), .ref (mA 1), .int (iV mSpot), .ref (mA 2), .ref (mA 3), .ref (mA 4), .int (iV mUn), .int (iV mRr), .int (iV mPit), .int (iV mFar), .ref (mA 5), .ref (mA 6), .ref (mA 7), .ref (mA 8), .int (iV mTm), .ref (mA 9), .ref (mA 10), .ref (mA 11)])), (mA 2, .inl (G.2.1, 249, .inl (fun k => iV (nw k))))] sz) (zQr (bP (hXY (nw 0) (nw 1) xI yI)) sz) 0 0 (zF sz) := by
  refine Met.ofW (cc := cX9_isCell) (maxL := 3) (ret := (some .boolean)) (by decide) rfl ?_
  intro p e s m args below meth c s₁ B hml hv
  obtain ⟨rfl, hsz, hP, hK, hSt⟩ := hv
  have hx := B.exec
  have hb := B.bytes
  have hr := B.returns
  have hts : ∀ w ∈ zT, w.before _ s = true := fun w h => atoms_spec (ws := (Cond.code yX9_isCell cX9_isCell 3 (some .boolean) :: zT)) B.pre w (List.mem_cons_of_mem _ h)
  have hown : s.vm.findClass RX9 = some m.cls := findClass_of_methodNamed B.named
  have hlocks := B.notSynchronized
  subst hsz
  have hA : ∀ q : Nat, s.heap.size ≤ q → zF s.heap.size q := fun _ h => h
  have hS : va_S (zF s.heap.size) s.heap s.heap [] := va_S.rf
  have hP : va_P G.1 vwCl [(mA 0, .inr (9, [.int (iV mLen), .ref (mA 1), .int (iV mSpot), .ref (mA 2), .ref (mA 3), .ref (mA 4), .int (iV mUn), .int (iV mRr), .int (iV mPit), .int (iV mFar), .ref (mA 5), .ref (mA 6), .ref (mA 7), .ref (mA 8), .int (iV mTm), .ref (mA 9), .ref (mA 10), .ref (mA 11)])), (mA 2, .inl (G.2.1, 249, .inl (fun k => iV (nw k))))] s.heap := hP
  have X := And.intro hx (And.intro hb (And.intro hml (And.intro hown (And.intro hts (And.intro hK (And.intro hSt hA))))))
  have hl := lv_entry ([.ref (mA 0), .int (iV xI), .int (iV yI)]) (n := 3) (Nat.le_of_ble_eq_true rfl)
  rw [lg_entry_eq]
  generalize (lg_sl ([.ref (mA 0), .int (iV xI), .int (iV yI)]) ++ List.replicate (3 - (lg_sl ([.ref (mA 0), .int (iV xI), .int (iV yI)])).length) Slot.unset).toArray = ls at hl ⊢
  have hl : lv_has ls 3 [(0, .ref (mA 0)), (1, .int (iV xI)), (2, .int (iV yI))] := hl
  obtain ⟨hG, hWH3, hn88, hnL, hnQ, hn6, hn80⟩ := id hM
  obtain ⟨hW0, hW9, hH0, hH9, hg⟩ := id hG
  refine lv_iload_n hx hb dX9_isCell_0 rfl (lv_at hl 1 rfl) ?_
  refine z_i2l hx hb (by omega) dX9_isCell_1 ?_
  refine lv_lconst (v := lV 0) hx hb dX9_isCell_2 (by decide) ?_
  refine lv_aload_n hx hb dX9_isCell_3 rfl (lv_at hl 0 rfl) ?_
  refine va_get (D := G.1) (ci := 9) (v := .ref (mA 2)) (C := RX9) (T := TX9) (N := 18) hx hb hts inX9 hown hK hP 0 rfl rfl 3 (by decide) (hts _ wd_761) (fun _ h9 => h9) rfl dX9_isCell_4 ?_
  refine lv_iconst (v := iV 0) hx hb dX9_isCell_7 (by decide) ?_
  refine z_iald (G := G) (f := nw) hx hb hK hP 1 rfl (by omega) (by omega) (by decide) dX9_isCell_8 ?_
  refine z_eq (z := (nw 0)) (by rfl) ?_
  refine lv_iconst (v := iV 1) hx hb dX9_isCell_9 (by decide) ?_
  refine z_isub hx hb dX9_isCell_10 ?_
  refine z_i2l hx hb (by omega) dX9_isCell_11 ?_
  refine z_callS X hP hS hl.1 (c_X9_in l G _ xI 0 ((nw 0) - 1) (by first | assumption | omega) (by first | assumption | omega) (by first | assumption | omega)) wd_819 kX9_in ⟨rfl, rfl, Nat.le_of_ble_eq_true rfl, Nat.le_of_ble_eq_true rfl⟩ [] rfl rfl rfl (Nat.le_of_ble_eq_true rfl) dX9_isCell_12 ⟨Nat.zero_le _, Nat.zero_le _⟩ (fun H locs hP hS => ?_)
  refine z_ifb_eq (tgt := 40) hx hb dX9_isCell_15 (by decide) (fun c_1 => ?_) (fun c_1 => ?_)
  · refine lv_iconst (v := iV 0) hx hb dX9_isCell_40 (by decide) ?_
    refine z_eq (z := bP (hXY (nw 0) (nw 1) xI yI)) (by first | exact (bP_t (by omega)).symm | exact (bP_f (by omega)).symm) ?_
    exact z_retb hx hb hr hlocks hS dX9_isCell_41
  · refine lv_iload_n hx hb dX9_isCell_18 rfl (lv_at hl 2 rfl) ?_
    refine z_i2l hx hb (by omega) dX9_isCell_19 ?_
    refine lv_lconst (v := lV 0) hx hb dX9_isCell_20 (by decide) ?_
    refine lv_aload_n hx hb dX9_isCell_21 rfl (lv_at hl 0 rfl) ?_
    refine va_get (D := G.1) (ci := 9) (v := .ref (mA 2)) (C := RX9) (T := TX9) (N := 18) hx hb hts inX9 hown hK hP 0 rfl rfl 3 (by decide) (hts _ wd_761) (fun _ h9 => h9) rfl dX9_isCell_22 ?_
    refine lv_iconst (v := iV 1) hx hb dX9_isCell_25 (by decide) ?_
    refine z_iald (G := G) (f := nw) hx hb hK hP 1 rfl (by omega) (by omega) (by decide) dX9_isCell_26 ?_
    refine z_eq (z := (nw 1)) (by rfl) ?_
    refine lv_iconst (v := iV 1) hx hb dX9_isCell_27 (by decide) ?_
    refine z_isub hx hb dX9_isCell_28 ?_
    refine z_i2l hx hb (by omega) dX9_isCell_29 ?_
    refine z_callS X hP hS hl.1 (c_X9_in l G _ yI 0 ((nw 1) - 1) (by first | assumption | omega) (by first | assumption | omega) (by first | assumption | omega)) wd_819 kX9_in ⟨rfl, rfl, Nat.le_of_ble_eq_true rfl, Nat.le_of_ble_eq_true rfl⟩ [] rfl rfl rfl (Nat.le_of_ble_eq_true rfl) dX9_isCell_30 ⟨Nat.zero_le _, Nat.zero_le _⟩ (fun H locs hP hS => ?_)
    refine z_ifb_eq (tgt := 40) hx hb dX9_isCell_33 (by decide) (fun c_2 => ?_) (fun c_2 => ?_)
    · refine lv_iconst (v := iV 0) hx hb dX9_isCell_40 (by decide) ?_
      refine z_eq (z := bP (hXY (nw 0) (nw 1) xI yI)) (by first | exact (bP_t (by omega)).symm | exact (bP_f (by omega)).symm) ?_
      exact z_retb hx hb hr hlocks hS dX9_isCell_41
    · refine lv_iconst (v := iV 1) hx hb dX9_isCell_36 (by decide) ?_
      refine lv_goto (tgt := 41) hx hb dX9_isCell_37 (by decide) ?_
      refine z_eq (z := bP (hXY (nw 0) (nw 1) xI yI)) (by first | exact (bP_t (by omega)).symm | exact (bP_f (by omega)).symm) ?_
      exact z_retb hx hb hr hlocks hS dX9_isCell_41

set_option maxHeartbeats 4000000 in
set_option maxRecDepth 100000 in
theorem c_X9_height (l : Launch) (G : zG) (sz : Nat) (mA : Nat → Nat) (mLen : Int) (mSpot : Int) (mUn : Int) (mRr : Int) (mPit : Int) (mFar : Int) (mTm : Int) (nw : Nat → Int) (xI : Int) (yI : Int) (hM : mOK nw) (hxy : (0 ≤ xI ∧ xI < 9) ∧ 0 ≤ yI ∧ yI < 9) : Met l yX9_height (Cond.code yX9_height cX9_height 3 (some .int) :: zT) (zRm 0 0) (zPr G [.ref (mA 0), .int (iV xI), .int (iV yI)] [(mA 0, .inr (9, [.int (iV mLen), .ref (mA 1), .int (iV mSpot), .ref (mA 2), .ref (mA 3), .ref (mA 4), .int (iV mUn), .int (iV mRr), .int (iV mPit), .int (iV mFar), .ref (mA 5), .ref (mA 6), .ref (mA 7), .ref (mA 8), .int (iV mTm), .ref (mA 9), .ref (mA 10), .ref (mA 11)])), (mA 2, .inl (G.2.1, 249, .inl (fun k => iV (nw k))))] sz) (zQr (gAt (nG nw) xI yI) sz) 0 0 (zF sz) := by
  refine Met.ofW (cc := cX9_height) (maxL := 3) (ret := (some .int)) (by decide) rfl ?_
  intro p e s m args below meth c s₁ B hml hv
  obtain ⟨rfl, hsz, hP, hK, hSt⟩ := hv
  have hx := B.exec
  have hb := B.bytes
  have hr := B.returns
  have hts : ∀ w ∈ zT, w.before _ s = true := fun w h => atoms_spec (ws := (Cond.code yX9_height cX9_height 3 (some .int) :: zT)) B.pre w (List.mem_cons_of_mem _ h)
  have hown : s.vm.findClass RX9 = some m.cls := findClass_of_methodNamed B.named
  have hlocks := B.notSynchronized
  subst hsz
  have hA : ∀ q : Nat, s.heap.size ≤ q → zF s.heap.size q := fun _ h => h
  have hS : va_S (zF s.heap.size) s.heap s.heap [] := va_S.rf
  have hP : va_P G.1 vwCl [(mA 0, .inr (9, [.int (iV mLen), .ref (mA 1), .int (iV mSpot), .ref (mA 2), .ref (mA 3), .ref (mA 4), .int (iV mUn), .int (iV mRr), .int (iV mPit), .int (iV mFar), .ref (mA 5), .ref (mA 6), .ref (mA 7), .ref (mA 8), .int (iV mTm), .ref (mA 9), .ref (mA 10), .ref (mA 11)])), (mA 2, .inl (G.2.1, 249, .inl (fun k => iV (nw k))))] s.heap := hP
  have X := And.intro hx (And.intro hb (And.intro hml (And.intro hown (And.intro hts (And.intro hK (And.intro hSt hA))))))
  have hl := lv_entry ([.ref (mA 0), .int (iV xI), .int (iV yI)]) (n := 3) (Nat.le_of_ble_eq_true rfl)
  rw [lg_entry_eq]
  generalize (lg_sl ([.ref (mA 0), .int (iV xI), .int (iV yI)]) ++ List.replicate (3 - (lg_sl ([.ref (mA 0), .int (iV xI), .int (iV yI)])).length) Slot.unset).toArray = ls at hl ⊢
  have hl : lv_has ls 3 [(0, .ref (mA 0)), (1, .int (iV xI)), (2, .int (iV yI))] := hl
  obtain ⟨hG, hWH3, hn88, hnL, hnQ, hn6, hn80⟩ := id hM
  obtain ⟨hW0, hW9, hH0, hH9, hg⟩ := id hG
  refine lv_aload_n hx hb dX9_height_0 rfl (lv_at hl 0 rfl) ?_
  refine va_get (D := G.1) (ci := 9) (v := .ref (mA 2)) (C := RX9) (T := TX9) (N := 18) hx hb hts inX9 hown hK hP 0 rfl rfl 3 (by decide) (hts _ wd_761) (fun _ h9 => h9) rfl dX9_height_1 ?_
  refine lv_bipush (v := iV 7) hx hb dX9_height_4 (by decide) ?_
  refine lv_bipush (v := iV 9) hx hb dX9_height_6 (by decide) ?_
  refine lv_iload_n hx hb dX9_height_8 rfl (lv_at hl 2 rfl) ?_
  refine z_imul hx hb dX9_height_9 ?_
  refine z_iadd hx hb dX9_height_10 ?_
  refine lv_iload_n hx hb dX9_height_11 rfl (lv_at hl 1 rfl) ?_
  refine z_iadd hx hb dX9_height_12 ?_
  refine z_iald (G := G) (f := nw) hx hb hK hP 1 rfl (by omega) (by omega) (by decide) dX9_height_13 ?_
  refine z_eq (z := (gAt (nG nw) xI yI)) (by exact nG_at hxy) ?_
  exact z_ret hx hb hr hlocks hS dX9_height_14

set_option maxHeartbeats 4000000 in
set_option maxRecDepth 100000 in
theorem c_X9_beside (l : Launch) (G : zG) (sz : Nat) (mA : Nat → Nat) (mLen : Int) (mSpot : Int) (mUn : Int) (mRr : Int) (mPit : Int) (mFar : Int) (mTm : Int) (nw : Nat → Int) (xI : Int) (yI : Int) (dI : Int) (hM : mOK nw) (hxy : (0 ≤ xI ∧ xI < 9) ∧ 0 ≤ yI ∧ yI < 9) (hd : 0 ≤ dI ∧ dI < 8) : Met l yX9_beside (Cond.code yX9_beside cX9_beside 4 (some .int) :: zT) (zRm 2 47) (zPr G [.ref (mA 0), .int (iV xI), .int (iV yI), .int (iV dI)] [(mA 0, .inr (9, [.int (iV mLen), .ref (mA 1), .int (iV mSpot), .ref (mA 2), .ref (mA 3), .ref (mA 4), .int (iV mUn), .int (iV mRr), .int (iV mPit), .int (iV mFar), .ref (mA 5), .ref (mA 6), .ref (mA 7), .ref (mA 8), .int (iV mTm), .ref (mA 9), .ref (mA 10), .ref (mA 11)])), (mA 2, .inl (G.2.1, 249, .inl (fun k => iV (nw k))))] sz) (zQr (gB (nw 0) (nw 1) (nG nw) xI yI dI) sz) 0 0 (zF sz) := by
  refine Met.ofW (cc := cX9_beside) (maxL := 4) (ret := (some .int)) (by decide) rfl ?_
  intro p e s m args below meth c s₁ B hml hv
  obtain ⟨rfl, hsz, hP, hK, hSt⟩ := hv
  have hx := B.exec
  have hb := B.bytes
  have hr := B.returns
  have hts : ∀ w ∈ zT, w.before _ s = true := fun w h => atoms_spec (ws := (Cond.code yX9_beside cX9_beside 4 (some .int) :: zT)) B.pre w (List.mem_cons_of_mem _ h)
  have hown : s.vm.findClass RX9 = some m.cls := findClass_of_methodNamed B.named
  have hlocks := B.notSynchronized
  subst hsz
  have hA : ∀ q : Nat, s.heap.size ≤ q → zF s.heap.size q := fun _ h => h
  have hS : va_S (zF s.heap.size) s.heap s.heap [] := va_S.rf
  have hP : va_P G.1 vwCl [(mA 0, .inr (9, [.int (iV mLen), .ref (mA 1), .int (iV mSpot), .ref (mA 2), .ref (mA 3), .ref (mA 4), .int (iV mUn), .int (iV mRr), .int (iV mPit), .int (iV mFar), .ref (mA 5), .ref (mA 6), .ref (mA 7), .ref (mA 8), .int (iV mTm), .ref (mA 9), .ref (mA 10), .ref (mA 11)])), (mA 2, .inl (G.2.1, 249, .inl (fun k => iV (nw k))))] s.heap := hP
  have X := And.intro hx (And.intro hb (And.intro hml (And.intro hown (And.intro hts (And.intro hK (And.intro hSt hA))))))
  have hl := lv_entry ([.ref (mA 0), .int (iV xI), .int (iV yI), .int (iV dI)]) (n := 4) (Nat.le_of_ble_eq_true rfl)
  rw [lg_entry_eq]
  generalize (lg_sl ([.ref (mA 0), .int (iV xI), .int (iV yI), .int (iV dI)]) ++ List.replicate (4 - (lg_sl ([.ref (mA 0), .int (iV xI), .int (iV yI), .int (iV dI)])).length) Slot.unset).toArray = ls at hl ⊢
  have hl : lv_has ls 4 [(0, .ref (mA 0)), (1, .int (iV xI)), (2, .int (iV yI)), (3, .int (iV dI))] := hl
  obtain ⟨hG, hWH3, hn88, hnL, hnQ, hn6, hn80⟩ := id hM
  obtain ⟨hW0, hW9, hH0, hH9, hg⟩ := id hG
  refine lv_aload_n hx hb dX9_beside_0 rfl (lv_at hl 0 rfl) ?_
  refine lv_iload_n hx hb dX9_beside_1 rfl (lv_at hl 1 rfl) ?_
  refine lv_iload_n hx hb dX9_beside_2 rfl (lv_at hl 3 rfl) ?_
  refine z_callS X hP hS hl.1 (c_X9_right l G _ dI (by first | assumption | omega)) wd_903 kX9_right ⟨rfl, rfl, Nat.le_of_ble_eq_true rfl, Nat.le_of_ble_eq_true rfl⟩ [] rfl rfl rfl (Nat.le_of_ble_eq_true rfl) dX9_beside_3 ⟨Nat.zero_le _, Nat.zero_le _⟩ (fun H locs hP hS => ?_)
  have f_1 := zR_r dI.toNat
  refine z_iadd hx hb dX9_beside_6 ?_
  refine lv_iload_n hx hb dX9_beside_7 rfl (lv_at hl 2 rfl) ?_
  refine lv_iload_n hx hb dX9_beside_8 rfl (lv_at hl 3 rfl) ?_
  refine z_callS X hP hS hl.1 (c_X9_below l G _ dI (by first | assumption | omega)) wd_906 kX9_below ⟨rfl, rfl, Nat.le_of_ble_eq_true rfl, Nat.le_of_ble_eq_true rfl⟩ [] rfl rfl rfl (Nat.le_of_ble_eq_true rfl) dX9_beside_9 ⟨Nat.zero_le _, Nat.zero_le _⟩ (fun H locs hP hS => ?_)
  have f_2 := zB_r dI.toNat
  refine z_iadd hx hb dX9_beside_12 ?_
  refine z_callV X hP hS hl.1 (c_X9_isCell l G _ mA mLen mSpot mUn mRr mPit mFar mTm nw (xI + (zR dI.toNat)) (yI + (zB dI.toNat)) (by first | assumption | omega) (by first | assumption | omega) (by first | assumption | omega)) wd_875 kX9_isCell ⟨rfl, rfl, Nat.le_of_ble_eq_true rfl, Nat.le_of_ble_eq_true rfl⟩ [0, 1] rfl 0 rfl rfl rfl rfl (Nat.le_of_ble_eq_true rfl) dX9_beside_13 ⟨Nat.zero_le _, Nat.zero_le _⟩ (fun H locs hP hS => ?_)
  refine z_ifb_eq (tgt := 38) hx hb dX9_beside_16 (by decide) (fun c_3 => ?_) (fun c_3 => ?_)
  · refine lv_aload_n hx hb dX9_beside_38 rfl (lv_at hl 0 rfl) ?_
    refine lv_iload_n hx hb dX9_beside_39 rfl (lv_at hl 1 rfl) ?_
    refine lv_iload_n hx hb dX9_beside_40 rfl (lv_at hl 2 rfl) ?_
    refine z_callV X hP hS hl.1 (c_X9_height l G _ mA mLen mSpot mUn mRr mPit mFar mTm nw xI yI (by first | assumption | omega) (by first | assumption | omega)) wd_891 kX9_height ⟨rfl, rfl, Nat.le_of_ble_eq_true rfl, Nat.le_of_ble_eq_true rfl⟩ [0, 1] rfl 0 rfl rfl rfl rfl (Nat.le_of_ble_eq_true rfl) dX9_beside_41 ⟨Nat.zero_le _, Nat.zero_le _⟩ (fun H locs hP hS => ?_)
    have f_4 := gAt_r (id hM).1 xI yI
    refine z_eq (z := (gB (nw 0) (nw 1) (nG nw) xI yI dI)) (by first | exact gB_t (by assumption) | exact gB_f (by assumption)) ?_
    exact z_ret hx hb hr hlocks hS dX9_beside_44
  · refine lv_aload_n hx hb dX9_beside_19 rfl (lv_at hl 0 rfl) ?_
    refine lv_iload_n hx hb dX9_beside_20 rfl (lv_at hl 1 rfl) ?_
    refine lv_iload_n hx hb dX9_beside_21 rfl (lv_at hl 3 rfl) ?_
    refine z_callS X hP hS hl.1 (c_X9_right l G _ dI (by first | assumption | omega)) wd_903 kX9_right ⟨rfl, rfl, Nat.le_of_ble_eq_true rfl, Nat.le_of_ble_eq_true rfl⟩ [] rfl rfl rfl (Nat.le_of_ble_eq_true rfl) dX9_beside_22 ⟨Nat.zero_le _, Nat.zero_le _⟩ (fun H locs hP hS => ?_)
    have f_5 := zR_r dI.toNat
    refine z_iadd hx hb dX9_beside_25 ?_
    refine lv_iload_n hx hb dX9_beside_26 rfl (lv_at hl 2 rfl) ?_
    refine lv_iload_n hx hb dX9_beside_27 rfl (lv_at hl 3 rfl) ?_
    refine z_callS X hP hS hl.1 (c_X9_below l G _ dI (by first | assumption | omega)) wd_906 kX9_below ⟨rfl, rfl, Nat.le_of_ble_eq_true rfl, Nat.le_of_ble_eq_true rfl⟩ [] rfl rfl rfl (Nat.le_of_ble_eq_true rfl) dX9_beside_28 ⟨Nat.zero_le _, Nat.zero_le _⟩ (fun H locs hP hS => ?_)
    have f_6 := zB_r dI.toNat
    refine z_iadd hx hb dX9_beside_31 ?_
    refine z_callV X hP hS hl.1 (c_X9_height l G _ mA mLen mSpot mUn mRr mPit mFar mTm nw (xI + (zR dI.toNat)) (yI + (zB dI.toNat)) (by first | assumption | omega) (by first | assumption | omega)) wd_891 kX9_height ⟨rfl, rfl, Nat.le_of_ble_eq_true rfl, Nat.le_of_ble_eq_true rfl⟩ [0, 1] rfl 0 rfl rfl rfl rfl (Nat.le_of_ble_eq_true rfl) dX9_beside_32 ⟨Nat.zero_le _, Nat.zero_le _⟩ (fun H locs hP hS => ?_)
    have f_7 := gAt_r (id hM).1 (xI + (zR dI.toNat)) (yI + (zB dI.toNat))
    refine lv_goto (tgt := 44) hx hb dX9_beside_35 (by decide) ?_
    refine z_eq (z := (gB (nw 0) (nw 1) (nG nw) xI yI dI)) (by first | exact gB_t (by assumption) | exact gB_f (by assumption)) ?_
    exact z_ret hx hb hr hlocks hS dX9_beside_44

set_option maxHeartbeats 4000000 in
set_option maxRecDepth 100000 in
theorem c_X9_east (l : Launch) (G : zG) (sz : Nat) (mA : Nat → Nat) (mLen : Int) (mSpot : Int) (mUn : Int) (mRr : Int) (mPit : Int) (mFar : Int) (mTm : Int) (nw : Nat → Int) (xI : Int) (yI : Int) (hM : mOK nw) (hxy : (0 ≤ xI ∧ xI < 9) ∧ 0 ≤ yI ∧ yI < 9) : Met l yX9_east (Cond.code yX9_east cX9_east 3 (some .int) :: zT) (zRm 3 70) (zPr G [.ref (mA 0), .int (iV xI), .int (iV yI)] [(mA 0, .inr (9, [.int (iV mLen), .ref (mA 1), .int (iV mSpot), .ref (mA 2), .ref (mA 3), .ref (mA 4), .int (iV mUn), .int (iV mRr), .int (iV mPit), .int (iV mFar), .ref (mA 5), .ref (mA 6), .ref (mA 7), .ref (mA 8), .int (iV mTm), .ref (mA 9), .ref (mA 10), .ref (mA 11)])), (mA 2, .inl (G.2.1, 249, .inl (fun k => iV (nw k))))] sz) (zQr (gEast (nw 0) (nw 1) (nG nw) xI yI) sz) 0 0 (zF sz) := by
  refine Met.ofW (cc := cX9_east) (maxL := 3) (ret := (some .int)) (by decide) rfl ?_
  intro p e s m args below meth c s₁ B hml hv
  obtain ⟨rfl, hsz, hP, hK, hSt⟩ := hv
  have hx := B.exec
  have hb := B.bytes
  have hr := B.returns
  have hts : ∀ w ∈ zT, w.before _ s = true := fun w h => atoms_spec (ws := (Cond.code yX9_east cX9_east 3 (some .int) :: zT)) B.pre w (List.mem_cons_of_mem _ h)
  have hown : s.vm.findClass RX9 = some m.cls := findClass_of_methodNamed B.named
  have hlocks := B.notSynchronized
  subst hsz
  have hA : ∀ q : Nat, s.heap.size ≤ q → zF s.heap.size q := fun _ h => h
  have hS : va_S (zF s.heap.size) s.heap s.heap [] := va_S.rf
  have hP : va_P G.1 vwCl [(mA 0, .inr (9, [.int (iV mLen), .ref (mA 1), .int (iV mSpot), .ref (mA 2), .ref (mA 3), .ref (mA 4), .int (iV mUn), .int (iV mRr), .int (iV mPit), .int (iV mFar), .ref (mA 5), .ref (mA 6), .ref (mA 7), .ref (mA 8), .int (iV mTm), .ref (mA 9), .ref (mA 10), .ref (mA 11)])), (mA 2, .inl (G.2.1, 249, .inl (fun k => iV (nw k))))] s.heap := hP
  have X := And.intro hx (And.intro hb (And.intro hml (And.intro hown (And.intro hts (And.intro hK (And.intro hSt hA))))))
  have hl := lv_entry ([.ref (mA 0), .int (iV xI), .int (iV yI)]) (n := 3) (Nat.le_of_ble_eq_true rfl)
  rw [lg_entry_eq]
  generalize (lg_sl ([.ref (mA 0), .int (iV xI), .int (iV yI)]) ++ List.replicate (3 - (lg_sl ([.ref (mA 0), .int (iV xI), .int (iV yI)])).length) Slot.unset).toArray = ls at hl ⊢
  have hl : lv_has ls 3 [(0, .ref (mA 0)), (1, .int (iV xI)), (2, .int (iV yI))] := hl
  obtain ⟨hG, hWH3, hn88, hnL, hnQ, hn6, hn80⟩ := id hM
  obtain ⟨hW0, hW9, hH0, hH9, hg⟩ := id hG
  refine lv_aload_n hx hb dX9_east_0 rfl (lv_at hl 0 rfl) ?_
  refine lv_iload_n hx hb dX9_east_1 rfl (lv_at hl 1 rfl) ?_
  refine lv_iload_n hx hb dX9_east_2 rfl (lv_at hl 2 rfl) ?_
  refine lv_iconst (v := iV 2) hx hb dX9_east_3 (by decide) ?_
  refine z_callV X hP hS hl.1 (c_X9_beside l G _ mA mLen mSpot mUn mRr mPit mFar mTm nw xI yI 2 (by first | assumption | omega) (by first | assumption | omega) (by first | assumption | omega)) wd_899 kX9_beside ⟨rfl, rfl, Nat.le_of_ble_eq_true rfl, Nat.le_of_ble_eq_true rfl⟩ [0, 1] rfl 0 rfl rfl rfl rfl (Nat.le_of_ble_eq_true rfl) dX9_east_4 ⟨Nat.zero_le _, Nat.zero_le _⟩ (fun H locs hP hS => ?_)
  have f_1 := gB_r (id hM).1 xI yI 2
  refine lv_aload_n hx hb dX9_east_7 rfl (lv_at hl 0 rfl) ?_
  refine lv_iload_n hx hb dX9_east_8 rfl (lv_at hl 1 rfl) ?_
  refine lv_iload_n hx hb dX9_east_9 rfl (lv_at hl 2 rfl) ?_
  refine lv_bipush (v := iV 6) hx hb dX9_east_10 (by decide) ?_
  refine z_callV X hP hS hl.1 (c_X9_beside l G _ mA mLen mSpot mUn mRr mPit mFar mTm nw xI yI 6 (by first | assumption | omega) (by first | assumption | omega) (by first | assumption | omega)) wd_899 kX9_beside ⟨rfl, rfl, Nat.le_of_ble_eq_true rfl, Nat.le_of_ble_eq_true rfl⟩ [0, 1] rfl 0 rfl rfl rfl rfl (Nat.le_of_ble_eq_true rfl) dX9_east_12 ⟨Nat.zero_le _, Nat.zero_le _⟩ (fun H locs hP hS => ?_)
  have f_2 := gB_r (id hM).1 xI yI 6
  refine z_isub hx hb dX9_east_15 ?_
  refine z_eq (z := (gEast (nw 0) (nw 1) (nG nw) xI yI)) (by rfl) ?_
  exact z_ret hx hb hr hlocks hS dX9_east_16

set_option maxHeartbeats 4000000 in
set_option maxRecDepth 100000 in
theorem c_X9_south (l : Launch) (G : zG) (sz : Nat) (mA : Nat → Nat) (mLen : Int) (mSpot : Int) (mUn : Int) (mRr : Int) (mPit : Int) (mFar : Int) (mTm : Int) (nw : Nat → Int) (xI : Int) (yI : Int) (hM : mOK nw) (hxy : (0 ≤ xI ∧ xI < 9) ∧ 0 ≤ yI ∧ yI < 9) : Met l yX9_south (Cond.code yX9_south cX9_south 3 (some .int) :: zT) (zRm 3 70) (zPr G [.ref (mA 0), .int (iV xI), .int (iV yI)] [(mA 0, .inr (9, [.int (iV mLen), .ref (mA 1), .int (iV mSpot), .ref (mA 2), .ref (mA 3), .ref (mA 4), .int (iV mUn), .int (iV mRr), .int (iV mPit), .int (iV mFar), .ref (mA 5), .ref (mA 6), .ref (mA 7), .ref (mA 8), .int (iV mTm), .ref (mA 9), .ref (mA 10), .ref (mA 11)])), (mA 2, .inl (G.2.1, 249, .inl (fun k => iV (nw k))))] sz) (zQr (gSouth (nw 0) (nw 1) (nG nw) xI yI) sz) 0 0 (zF sz) := by
  refine Met.ofW (cc := cX9_south) (maxL := 3) (ret := (some .int)) (by decide) rfl ?_
  intro p e s m args below meth c s₁ B hml hv
  obtain ⟨rfl, hsz, hP, hK, hSt⟩ := hv
  have hx := B.exec
  have hb := B.bytes
  have hr := B.returns
  have hts : ∀ w ∈ zT, w.before _ s = true := fun w h => atoms_spec (ws := (Cond.code yX9_south cX9_south 3 (some .int) :: zT)) B.pre w (List.mem_cons_of_mem _ h)
  have hown : s.vm.findClass RX9 = some m.cls := findClass_of_methodNamed B.named
  have hlocks := B.notSynchronized
  subst hsz
  have hA : ∀ q : Nat, s.heap.size ≤ q → zF s.heap.size q := fun _ h => h
  have hS : va_S (zF s.heap.size) s.heap s.heap [] := va_S.rf
  have hP : va_P G.1 vwCl [(mA 0, .inr (9, [.int (iV mLen), .ref (mA 1), .int (iV mSpot), .ref (mA 2), .ref (mA 3), .ref (mA 4), .int (iV mUn), .int (iV mRr), .int (iV mPit), .int (iV mFar), .ref (mA 5), .ref (mA 6), .ref (mA 7), .ref (mA 8), .int (iV mTm), .ref (mA 9), .ref (mA 10), .ref (mA 11)])), (mA 2, .inl (G.2.1, 249, .inl (fun k => iV (nw k))))] s.heap := hP
  have X := And.intro hx (And.intro hb (And.intro hml (And.intro hown (And.intro hts (And.intro hK (And.intro hSt hA))))))
  have hl := lv_entry ([.ref (mA 0), .int (iV xI), .int (iV yI)]) (n := 3) (Nat.le_of_ble_eq_true rfl)
  rw [lg_entry_eq]
  generalize (lg_sl ([.ref (mA 0), .int (iV xI), .int (iV yI)]) ++ List.replicate (3 - (lg_sl ([.ref (mA 0), .int (iV xI), .int (iV yI)])).length) Slot.unset).toArray = ls at hl ⊢
  have hl : lv_has ls 3 [(0, .ref (mA 0)), (1, .int (iV xI)), (2, .int (iV yI))] := hl
  obtain ⟨hG, hWH3, hn88, hnL, hnQ, hn6, hn80⟩ := id hM
  obtain ⟨hW0, hW9, hH0, hH9, hg⟩ := id hG
  refine lv_aload_n hx hb dX9_south_0 rfl (lv_at hl 0 rfl) ?_
  refine lv_iload_n hx hb dX9_south_1 rfl (lv_at hl 1 rfl) ?_
  refine lv_iload_n hx hb dX9_south_2 rfl (lv_at hl 2 rfl) ?_
  refine lv_iconst (v := iV 4) hx hb dX9_south_3 (by decide) ?_
  refine z_callV X hP hS hl.1 (c_X9_beside l G _ mA mLen mSpot mUn mRr mPit mFar mTm nw xI yI 4 (by first | assumption | omega) (by first | assumption | omega) (by first | assumption | omega)) wd_899 kX9_beside ⟨rfl, rfl, Nat.le_of_ble_eq_true rfl, Nat.le_of_ble_eq_true rfl⟩ [0, 1] rfl 0 rfl rfl rfl rfl (Nat.le_of_ble_eq_true rfl) dX9_south_4 ⟨Nat.zero_le _, Nat.zero_le _⟩ (fun H locs hP hS => ?_)
  have f_1 := gB_r (id hM).1 xI yI 4
  refine lv_aload_n hx hb dX9_south_7 rfl (lv_at hl 0 rfl) ?_
  refine lv_iload_n hx hb dX9_south_8 rfl (lv_at hl 1 rfl) ?_
  refine lv_iload_n hx hb dX9_south_9 rfl (lv_at hl 2 rfl) ?_
  refine lv_iconst (v := iV 0) hx hb dX9_south_10 (by decide) ?_
  refine z_callV X hP hS hl.1 (c_X9_beside l G _ mA mLen mSpot mUn mRr mPit mFar mTm nw xI yI 0 (by first | assumption | omega) (by first | assumption | omega) (by first | assumption | omega)) wd_899 kX9_beside ⟨rfl, rfl, Nat.le_of_ble_eq_true rfl, Nat.le_of_ble_eq_true rfl⟩ [0, 1] rfl 0 rfl rfl rfl rfl (Nat.le_of_ble_eq_true rfl) dX9_south_11 ⟨Nat.zero_le _, Nat.zero_le _⟩ (fun H locs hP hS => ?_)
  have f_2 := gB_r (id hM).1 xI yI 0
  refine z_isub hx hb dX9_south_14 ?_
  refine z_eq (z := (gSouth (nw 0) (nw 1) (nG nw) xI yI)) (by rfl) ?_
  exact z_ret hx hb hr hlocks hS dX9_south_15

set_option maxHeartbeats 4000000 in
set_option maxRecDepth 100000 in
theorem c_X9_steep (l : Launch) (G : zG) (sz : Nat) (mA : Nat → Nat) (mLen : Int) (mSpot : Int) (mUn : Int) (mRr : Int) (mPit : Int) (mFar : Int) (mTm : Int) (nw : Nat → Int) (xI : Int) (yI : Int) (hM : mOK nw) (hxy : (0 ≤ xI ∧ xI < 9) ∧ 0 ≤ yI ∧ yI < 9) : Met l yX9_steep (Cond.code yX9_steep cX9_steep 3 (some .int) :: zT) (zRm 4 92) (zPr G [.ref (mA 0), .int (iV xI), .int (iV yI)] [(mA 0, .inr (9, [.int (iV mLen), .ref (mA 1), .int (iV mSpot), .ref (mA 2), .ref (mA 3), .ref (mA 4), .int (iV mUn), .int (iV mRr), .int (iV mPit), .int (iV mFar), .ref (mA 5), .ref (mA 6), .ref (mA 7), .ref (mA 8), .int (iV mTm), .ref (mA 9), .ref (mA 10), .ref (mA 11)])), (mA 2, .inl (G.2.1, 249, .inl (fun k => iV (nw k))))] sz) (zQr (gSteep (nw 0) (nw 1) (nG nw) xI yI) sz) 0 0 (zF sz) := by
  refine Met.ofW (cc := cX9_steep) (maxL := 3) (ret := (some .int)) (by decide) rfl ?_
  intro p e s m args below meth c s₁ B hml hv
  obtain ⟨rfl, hsz, hP, hK, hSt⟩ := hv
  have hx := B.exec
  have hb := B.bytes
  have hr := B.returns
  have hts : ∀ w ∈ zT, w.before _ s = true := fun w h => atoms_spec (ws := (Cond.code yX9_steep cX9_steep 3 (some .int) :: zT)) B.pre w (List.mem_cons_of_mem _ h)
  have hown : s.vm.findClass RX9 = some m.cls := findClass_of_methodNamed B.named
  have hlocks := B.notSynchronized
  subst hsz
  have hA : ∀ q : Nat, s.heap.size ≤ q → zF s.heap.size q := fun _ h => h
  have hS : va_S (zF s.heap.size) s.heap s.heap [] := va_S.rf
  have hP : va_P G.1 vwCl [(mA 0, .inr (9, [.int (iV mLen), .ref (mA 1), .int (iV mSpot), .ref (mA 2), .ref (mA 3), .ref (mA 4), .int (iV mUn), .int (iV mRr), .int (iV mPit), .int (iV mFar), .ref (mA 5), .ref (mA 6), .ref (mA 7), .ref (mA 8), .int (iV mTm), .ref (mA 9), .ref (mA 10), .ref (mA 11)])), (mA 2, .inl (G.2.1, 249, .inl (fun k => iV (nw k))))] s.heap := hP
  have X := And.intro hx (And.intro hb (And.intro hml (And.intro hown (And.intro hts (And.intro hK (And.intro hSt hA))))))
  have hl := lv_entry ([.ref (mA 0), .int (iV xI), .int (iV yI)]) (n := 3) (Nat.le_of_ble_eq_true rfl)
  rw [lg_entry_eq]
  generalize (lg_sl ([.ref (mA 0), .int (iV xI), .int (iV yI)]) ++ List.replicate (3 - (lg_sl ([.ref (mA 0), .int (iV xI), .int (iV yI)])).length) Slot.unset).toArray = ls at hl ⊢
  have hl : lv_has ls 3 [(0, .ref (mA 0)), (1, .int (iV xI)), (2, .int (iV yI))] := hl
  obtain ⟨hG, hWH3, hn88, hnL, hnQ, hn6, hn80⟩ := id hM
  obtain ⟨hW0, hW9, hH0, hH9, hg⟩ := id hG
  refine lv_aload_n hx hb dX9_steep_0 rfl (lv_at hl 0 rfl) ?_
  refine lv_iload_n hx hb dX9_steep_1 rfl (lv_at hl 1 rfl) ?_
  refine lv_iload_n hx hb dX9_steep_2 rfl (lv_at hl 2 rfl) ?_
  refine z_callV X hP hS hl.1 (c_X9_east l G _ mA mLen mSpot mUn mRr mPit mFar mTm nw xI yI (by first | assumption | omega) (by first | assumption | omega)) wd_895 kX9_east ⟨rfl, rfl, Nat.le_of_ble_eq_true rfl, Nat.le_of_ble_eq_true rfl⟩ [0, 1] rfl 0 rfl rfl rfl rfl (Nat.le_of_ble_eq_true rfl) dX9_steep_3 ⟨Nat.zero_le _, Nat.zero_le _⟩ (fun H locs hP hS => ?_)
  have f_1 := gEast_r (id hM).1 xI yI
  refine z_callS X hP hS hl.1 (c_X9_abs l G _ (gEast (nw 0) (nw 1) (nG nw) xI yI) (by first | assumption | omega)) wd_880 kX9_abs ⟨rfl, rfl, Nat.le_of_ble_eq_true rfl, Nat.le_of_ble_eq_true rfl⟩ [] rfl rfl rfl (Nat.le_of_ble_eq_true rfl) dX9_steep_6 ⟨Nat.zero_le _, Nat.zero_le _⟩ (fun H locs hP hS => ?_)
  have f_2 := zabs_r (gEast (nw 0) (nw 1) (nG nw) xI yI)
  refine lv_aload_n hx hb dX9_steep_9 rfl (lv_at hl 0 rfl) ?_
  refine lv_iload_n hx hb dX9_steep_10 rfl (lv_at hl 1 rfl) ?_
  refine lv_iload_n hx hb dX9_steep_11 rfl (lv_at hl 2 rfl) ?_
  refine z_callV X hP hS hl.1 (c_X9_south l G _ mA mLen mSpot mUn mRr mPit mFar mTm nw xI yI (by first | assumption | omega) (by first | assumption | omega)) wd_909 kX9_south ⟨rfl, rfl, Nat.le_of_ble_eq_true rfl, Nat.le_of_ble_eq_true rfl⟩ [0, 1] rfl 0 rfl rfl rfl rfl (Nat.le_of_ble_eq_true rfl) dX9_steep_12 ⟨Nat.zero_le _, Nat.zero_le _⟩ (fun H locs hP hS => ?_)
  have f_3 := gSouth_r (id hM).1 xI yI
  refine z_callS X hP hS hl.1 (c_X9_abs l G _ (gSouth (nw 0) (nw 1) (nG nw) xI yI) (by first | assumption | omega)) wd_880 kX9_abs ⟨rfl, rfl, Nat.le_of_ble_eq_true rfl, Nat.le_of_ble_eq_true rfl⟩ [] rfl rfl rfl (Nat.le_of_ble_eq_true rfl) dX9_steep_15 ⟨Nat.zero_le _, Nat.zero_le _⟩ (fun H locs hP hS => ?_)
  have f_4 := zabs_r (gSouth (nw 0) (nw 1) (nG nw) xI yI)
  refine z_iadd hx hb dX9_steep_18 ?_
  refine z_eq (z := (gSteep (nw 0) (nw 1) (nG nw) xI yI)) (by rfl) ?_
  exact z_ret hx hb hr hlocks hS dX9_steep_19

set_option maxHeartbeats 4000000 in
set_option maxRecDepth 100000 in
theorem c_X9_down (l : Launch) (G : zG) (sz : Nat) (mA : Nat → Nat) (mLen : Int) (mSpot : Int) (mUn : Int) (mRr : Int) (mPit : Int) (mFar : Int) (mTm : Int) (nw : Nat → Int) (xI : Int) (yI : Int) (hM : mOK nw) (hxy : (0 ≤ xI ∧ xI < 9) ∧ 0 ≤ yI ∧ yI < 9) : Met l yX9_down (Cond.code yX9_down cX9_down 7 (some .int) :: zT) (zRm 3 70) (zPr G [.ref (mA 0), .int (iV xI), .int (iV yI)] [(mA 0, .inr (9, [.int (iV mLen), .ref (mA 1), .int (iV mSpot), .ref (mA 2), .ref (mA 3), .ref (mA 4), .int (iV mUn), .int (iV mRr), .int (iV mPit), .int (iV mFar), .ref (mA 5), .ref (mA 6), .ref (mA 7), .ref (mA 8), .int (iV mTm), .ref (mA 9), .ref (mA 10), .ref (mA 11)])), (mA 2, .inl (G.2.1, 249, .inl (fun k => iV (nw k))))] sz) (zQr (cNone (gDown (nw 0) (nw 1) (nG nw) xI yI)) sz) 0 0 (zF sz) := by
  refine Met.ofW (cc := cX9_down) (maxL := 7) (ret := (some .int)) (by decide) rfl ?_
  intro p e s m args below meth c s₁ B hml hv
  obtain ⟨rfl, hsz, hP, hK, hSt⟩ := hv
  have hx := B.exec
  have hb := B.bytes
  have hr := B.returns
  have hts : ∀ w ∈ zT, w.before _ s = true := fun w h => atoms_spec (ws := (Cond.code yX9_down cX9_down 7 (some .int) :: zT)) B.pre w (List.mem_cons_of_mem _ h)
  have hown : s.vm.findClass RX9 = some m.cls := findClass_of_methodNamed B.named
  have hlocks := B.notSynchronized
  subst hsz
  have hA : ∀ q : Nat, s.heap.size ≤ q → zF s.heap.size q := fun _ h => h
  have hS : va_S (zF s.heap.size) s.heap s.heap [] := va_S.rf
  have hP : va_P G.1 vwCl [(mA 0, .inr (9, [.int (iV mLen), .ref (mA 1), .int (iV mSpot), .ref (mA 2), .ref (mA 3), .ref (mA 4), .int (iV mUn), .int (iV mRr), .int (iV mPit), .int (iV mFar), .ref (mA 5), .ref (mA 6), .ref (mA 7), .ref (mA 8), .int (iV mTm), .ref (mA 9), .ref (mA 10), .ref (mA 11)])), (mA 2, .inl (G.2.1, 249, .inl (fun k => iV (nw k))))] s.heap := hP
  have X := And.intro hx (And.intro hb (And.intro hml (And.intro hown (And.intro hts (And.intro hK (And.intro hSt hA))))))
  have hl := lv_entry ([.ref (mA 0), .int (iV xI), .int (iV yI)]) (n := 7) (Nat.le_of_ble_eq_true rfl)
  rw [lg_entry_eq]
  generalize (lg_sl ([.ref (mA 0), .int (iV xI), .int (iV yI)]) ++ List.replicate (7 - (lg_sl ([.ref (mA 0), .int (iV xI), .int (iV yI)])).length) Slot.unset).toArray = ls at hl ⊢
  have hl : lv_has ls 7 [(0, .ref (mA 0)), (1, .int (iV xI)), (2, .int (iV yI))] := hl
  obtain ⟨hG, hWH3, hn88, hnL, hnQ, hn6, hn80⟩ := id hM
  obtain ⟨hW0, hW9, hH0, hH9, hg⟩ := id hG
  refine lv_bipush (v := iV (-4)) hx hb dX9_down_0 (by decide) ?_
  refine lv_istore_n (lv' := [(3, .int (iV (-4))), (0, .ref (mA 0)), (1, .int (iV xI)), (2, .int (iV yI))]) hx hb dX9_down_2 rfl hl (by decide) rfl (fun ls hl => ?_)
  refine lv_iconst (v := iV 0) hx hb dX9_down_3 (by decide) ?_
  refine lv_istore (lv' := [(4, .int (iV 0)), (3, .int (iV (-4))), (0, .ref (mA 0)), (1, .int (iV xI)), (2, .int (iV yI))]) hx hb dX9_down_4 hl (by decide) rfl (fun ls hl => ?_)
  refine lv_iconst (v := iV 0) hx hb dX9_down_6 (by decide) ?_
  refine lv_istore (lv' := [(5, .int (iV 0)), (4, .int (iV 0)), (3, .int (iV (-4))), (0, .ref (mA 0)), (1, .int (iV xI)), (2, .int (iV yI))]) hx hb dX9_down_7 hl (by decide) rfl (fun ls hl => ?_)
  have lp_9 : ∀ (k : Nat) (nq : Nat) , (nq ≤ 8) → (8 - nq) < k → ∀ (H : Heap) (locs : List Loc), va_P G.1 vwCl [(mA 0, .inr (9, [.int (iV mLen), .ref (mA 1), .int (iV mSpot), .ref (mA 2), .ref (mA 3), .ref (mA 4), .int (iV mUn), .int (iV mRr), .int (iV mPit), .int (iV mFar), .ref (mA 5), .ref (mA 6), .ref (mA 7), .ref (mA 8), .int (iV mTm), .ref (mA 9), .ref (mA 10), .ref (mA 11)])), (mA 2, .inl (G.2.1, 249, .inl (fun k => iV (nw k))))] H → va_S (zF s.heap.size) s.heap H locs → ∀ ls : Array Slot, lv_has ls 7 [(0, .ref (mA 0)), (1, .int (iV xI)), (2, .int (iV yI)), (3, .int (iV (cNone (gDn (nw 0) (nw 1) (nG nw) xI yI nq).1))), (4, .int (iV ((gDn (nw 0) (nw 1) (nG nw) xI yI nq).2))), (5, .int (iV (Nat.cast nq : Int)))] → W p l e (headSpec (Cond.code yX9_down cX9_down 7 (some .int) :: zT) (zRm 3 70)).room s m ([Value.ref (mA 0), Value.int (iV xI), Value.int (iV yI)] : List Value).toArray below meth c H locs 0 0 (MQ below (zQr (cNone (gDown (nw 0) (nw 1) (nG nw) xI yI)) s.heap.size) ([Value.ref (mA 0), Value.int (iV xI), Value.int (iV yI)] : List Value).toArray s 0 0 (zF s.heap.size)) (F0 m 9 ls []) := by
    intro k
    induction k with
    | zero => intro nq hn hk_; exact absurd hk_ (Nat.not_lt_zero _)
    | succ k ih_9 =>
      intro nq hn hk_9 H locs hP hS ls hl
      have hr7 := gDn_r hG xI yI nq
      have hr8 := cNone_r (z := (gDn (nw 0) (nw 1) (nG nw) xI yI nq).1) (by omega)
      refine lv_iload hx hb dX9_down_9 (lv_at hl 5 rfl) ?_
      refine lv_bipush (v := iV 8) hx hb dX9_down_11 (by decide) ?_
      refine z_icmp_ge (tgt := 82) hx hb (by omega) ⟨by decide, by decide⟩ dX9_down_13 (by decide) (fun c_1 => ?_) (fun c_1 => ?_)
      · refine lv_iload_n hx hb dX9_down_82 rfl (lv_at hl 3 rfl) ?_
        refine z_eq (z := (cNone (gDown (nw 0) (nw 1) (nG nw) xI yI))) (by have h8 : nq = 8 := (by omega); subst h8; rfl) ?_
        exact z_ret hx hb hr hlocks hS dX9_down_83
      · refine lv_aload_n hx hb dX9_down_16 rfl (lv_at hl 0 rfl) ?_
        refine lv_iload_n hx hb dX9_down_17 rfl (lv_at hl 1 rfl) ?_
        refine lv_iload_n hx hb dX9_down_18 rfl (lv_at hl 2 rfl) ?_
        refine z_callV X hP hS hl.1 (c_X9_height l G _ mA mLen mSpot mUn mRr mPit mFar mTm nw xI yI (by first | assumption | omega) (by first | assumption | omega)) wd_891 kX9_height ⟨rfl, rfl, Nat.le_of_ble_eq_true rfl, Nat.le_of_ble_eq_true rfl⟩ [0, 1] rfl 0 rfl rfl rfl rfl (Nat.le_of_ble_eq_true rfl) dX9_down_19 ⟨Nat.zero_le _, Nat.zero_le _⟩ (fun H locs hP hS => ?_)
        have f_2 := gAt_r (id hM).1 xI yI
        refine lv_aload_n hx hb dX9_down_22 rfl (lv_at hl 0 rfl) ?_
        refine lv_iload_n hx hb dX9_down_23 rfl (lv_at hl 1 rfl) ?_
        refine lv_iload_n hx hb dX9_down_24 rfl (lv_at hl 2 rfl) ?_
        refine lv_iload hx hb dX9_down_25 (lv_at hl 5 rfl) ?_
        refine z_callV X hP hS hl.1 (c_X9_beside l G _ mA mLen mSpot mUn mRr mPit mFar mTm nw xI yI (Nat.cast nq : Int) (by first | assumption | omega) (by first | assumption | omega) (by first | assumption | omega)) wd_899 kX9_beside ⟨rfl, rfl, Nat.le_of_ble_eq_true rfl, Nat.le_of_ble_eq_true rfl⟩ [0, 1] rfl 0 rfl rfl rfl rfl (Nat.le_of_ble_eq_true rfl) dX9_down_27 ⟨Nat.zero_le _, Nat.zero_le _⟩ (fun H locs hP hS => ?_)
        have f_3 := gB_r (id hM).1 xI yI (Nat.cast nq : Int)
        refine z_isub hx hb dX9_down_30 ?_
        refine lv_iload hx hb dX9_down_31 (lv_at hl 5 rfl) ?_
        refine lv_iconst (v := iV 2) hx hb dX9_down_33 (by decide) ?_
        refine z_irem hx hb (by omega) (by omega) dX9_down_34 ?_
        refine z_if_ne (tgt := 42) hx hb (by omega) dX9_down_35 (by decide) (fun c_4 => ?_) (fun c_4 => ?_)
        · refine lv_iconst (v := iV 2) hx hb dX9_down_42 (by decide) ?_
          have jn_44 : ∀ (H : Heap) (locs : List Loc), va_P G.1 vwCl [(mA 0, .inr (9, [.int (iV mLen), .ref (mA 1), .int (iV mSpot), .ref (mA 2), .ref (mA 3), .ref (mA 4), .int (iV mUn), .int (iV mRr), .int (iV mPit), .int (iV mFar), .ref (mA 5), .ref (mA 6), .ref (mA 7), .ref (mA 8), .int (iV mTm), .ref (mA 9), .ref (mA 10), .ref (mA 11)])), (mA 2, .inl (G.2.1, 249, .inl (fun k => iV (nw k))))] H → va_S (zF s.heap.size) s.heap H locs → ∀ ls : Array Slot, lv_has ls 7 [(0, .ref (mA 0)), (1, .int (iV xI)), (2, .int (iV yI)), (3, .int (iV (cNone (gDn (nw 0) (nw 1) (nG nw) xI yI nq).1))), (4, .int (iV ((gDn (nw 0) (nw 1) (nG nw) xI yI nq).2))), (5, .int (iV (Nat.cast nq : Int)))] → W p l e (headSpec (Cond.code yX9_down cX9_down 7 (some .int) :: zT) (zRm 3 70)).room s m ([Value.ref (mA 0), Value.int (iV xI), Value.int (iV yI)] : List Value).toArray below meth c H locs 0 0 (MQ below (zQr (cNone (gDown (nw 0) (nw 1) (nG nw) xI yI)) s.heap.size) ([Value.ref (mA 0), Value.int (iV xI), Value.int (iV yI)] : List Value).toArray s 0 0 (zF s.heap.size)) (F0 m 44 ls [.int (iV (gFall (nw 0) (nw 1) (nG nw) xI yI nq))]) := by
            intro  H locs hP hS ls hl
            have hfr := gFall_r hG xI yI nq
            refine lv_istore (lv' := [(6, .int (iV (gFall (nw 0) (nw 1) (nG nw) xI yI nq))), (0, .ref (mA 0)), (1, .int (iV xI)), (2, .int (iV yI)), (3, .int (iV (cNone (gDn (nw 0) (nw 1) (nG nw) xI yI nq).1))), (4, .int (iV ((gDn (nw 0) (nw 1) (nG nw) xI yI nq).2))), (5, .int (iV (Nat.cast nq : Int)))]) hx hb dX9_down_44 hl (by decide) rfl (fun ls hl => ?_)
            refine lv_iload hx hb dX9_down_46 (lv_at hl 0 rfl) ?_
            refine lv_iload hx hb dX9_down_48 (lv_at hl 5 rfl) ?_
            have jn_59 : ∀ (H : Heap) (locs : List Loc), va_P G.1 vwCl [(mA 0, .inr (9, [.int (iV mLen), .ref (mA 1), .int (iV mSpot), .ref (mA 2), .ref (mA 3), .ref (mA 4), .int (iV mUn), .int (iV mRr), .int (iV mPit), .int (iV mFar), .ref (mA 5), .ref (mA 6), .ref (mA 7), .ref (mA 8), .int (iV mTm), .ref (mA 9), .ref (mA 10), .ref (mA 11)])), (mA 2, .inl (G.2.1, 249, .inl (fun k => iV (nw k))))] H → va_S (zF s.heap.size) s.heap H locs → ∀ ls : Array Slot, lv_has ls 7 [(0, .ref (mA 0)), (1, .int (iV xI)), (2, .int (iV yI)), (3, .int (iV (cNone (gDn (nw 0) (nw 1) (nG nw) xI yI nq).1))), (4, .int (iV ((gDn (nw 0) (nw 1) (nG nw) xI yI nq).2))), (5, .int (iV (Nat.cast nq : Int))), (6, .int (iV (gFall (nw 0) (nw 1) (nG nw) xI yI nq)))] → W p l e (headSpec (Cond.code yX9_down cX9_down 7 (some .int) :: zT) (zRm 3 70)).room s m ([Value.ref (mA 0), Value.int (iV xI), Value.int (iV yI)] : List Value).toArray below meth c H locs 0 0 (MQ below (zQr (cNone (gDown (nw 0) (nw 1) (nG nw) xI yI)) s.heap.size) ([Value.ref (mA 0), Value.int (iV xI), Value.int (iV yI)] : List Value).toArray s 0 0 (zF s.heap.size)) (F0 m 59 ls [.int (iV (cNone (gDn (nw 0) (nw 1) (nG nw) xI yI (nq + 1)).1))]) := by
              intro  H locs hP hS ls hl
              refine lv_istore_n (lv' := [(3, .int (iV (cNone (gDn (nw 0) (nw 1) (nG nw) xI yI (nq + 1)).1))), (0, .ref (mA 0)), (1, .int (iV xI)), (2, .int (iV yI)), (4, .int (iV ((gDn (nw 0) (nw 1) (nG nw) xI yI nq).2))), (5, .int (iV (Nat.cast nq : Int))), (6, .int (iV (gFall (nw 0) (nw 1) (nG nw) xI yI nq)))]) hx hb dX9_down_59 rfl hl (by decide) rfl (fun ls hl => ?_)
              refine lv_iload hx hb dX9_down_60 (lv_at hl 6 rfl) ?_
              refine lv_iload hx hb dX9_down_62 (lv_at hl 4 rfl) ?_
              have jn_74 : ∀ (H : Heap) (locs : List Loc), va_P G.1 vwCl [(mA 0, .inr (9, [.int (iV mLen), .ref (mA 1), .int (iV mSpot), .ref (mA 2), .ref (mA 3), .ref (mA 4), .int (iV mUn), .int (iV mRr), .int (iV mPit), .int (iV mFar), .ref (mA 5), .ref (mA 6), .ref (mA 7), .ref (mA 8), .int (iV mTm), .ref (mA 9), .ref (mA 10), .ref (mA 11)])), (mA 2, .inl (G.2.1, 249, .inl (fun k => iV (nw k))))] H → va_S (zF s.heap.size) s.heap H locs → ∀ ls : Array Slot, lv_has ls 7 [(0, .ref (mA 0)), (1, .int (iV xI)), (2, .int (iV yI)), (3, .int (iV (cNone (gDn (nw 0) (nw 1) (nG nw) xI yI (nq + 1)).1))), (4, .int (iV ((gDn (nw 0) (nw 1) (nG nw) xI yI nq).2))), (5, .int (iV (Nat.cast nq : Int))), (6, .int (iV (gFall (nw 0) (nw 1) (nG nw) xI yI nq)))] → W p l e (headSpec (Cond.code yX9_down cX9_down 7 (some .int) :: zT) (zRm 3 70)).room s m ([Value.ref (mA 0), Value.int (iV xI), Value.int (iV yI)] : List Value).toArray below meth c H locs 0 0 (MQ below (zQr (cNone (gDown (nw 0) (nw 1) (nG nw) xI yI)) s.heap.size) ([Value.ref (mA 0), Value.int (iV xI), Value.int (iV yI)] : List Value).toArray s 0 0 (zF s.heap.size)) (F0 m 74 ls [.int (iV ((gDn (nw 0) (nw 1) (nG nw) xI yI (nq + 1)).2))]) := by
                intro  H locs hP hS ls hl
                refine lv_istore (lv' := [(4, .int (iV ((gDn (nw 0) (nw 1) (nG nw) xI yI (nq + 1)).2))), (0, .ref (mA 0)), (1, .int (iV xI)), (2, .int (iV yI)), (3, .int (iV (cNone (gDn (nw 0) (nw 1) (nG nw) xI yI (nq + 1)).1))), (5, .int (iV (Nat.cast nq : Int))), (6, .int (iV (gFall (nw 0) (nw 1) (nG nw) xI yI nq)))]) hx hb dX9_down_74 hl (by decide) rfl (fun ls hl => ?_)
                refine z_iinc (lv' := [(5, .int (iV ((Nat.cast nq : Int) + 1))), (4, .int (iV ((gDn (nw 0) (nw 1) (nG nw) xI yI (nq + 1)).2))), (0, .ref (mA 0)), (1, .int (iV xI)), (2, .int (iV yI)), (3, .int (iV (cNone (gDn (nw 0) (nw 1) (nG nw) xI yI (nq + 1)).1))), (6, .int (iV (gFall (nw 0) (nw 1) (nG nw) xI yI nq)))]) hx hb dX9_down_76 hl (k := 5) rfl (by decide) rfl (fun ls hl => ?_)
                refine lv_goto (tgt := 9) hx hb dX9_down_79 (by decide) ?_
                exact ih_9 (nq + 1) (by first | assumption | omega) (by omega) _ _ hP hS _ (lv_cons (lv_at hl 2 rfl) (lv_cons (lv_at hl 3 rfl) (lv_cons (lv_at hl 4 rfl) (lv_cons (lv_at hl 5 rfl) (lv_cons (lv_at hl 1 rfl) (lv_cons (lv_i hl 0 rfl (by first | rfl | omega)) (lv_nil hl)))))))
              refine z_icmp_le (tgt := 72) hx hb (by omega) (by omega) dX9_down_64 (by decide) (fun c_5 => ?_) (fun c_5 => ?_)
              · refine lv_iload hx hb dX9_down_72 (lv_at hl 4 rfl) ?_
                refine z_eq (z := (gDn (nw 0) (nw 1) (nG nw) xI yI (nq + 1)).2) (by first | exact gDnF_t (by omega) | exact gDnF_f (by omega)) ?_
                exact jn_74  _ _ hP hS _ (lv_cons (lv_at hl 1 rfl) (lv_cons (lv_at hl 2 rfl) (lv_cons (lv_at hl 3 rfl) (lv_cons (lv_at hl 0 rfl) (lv_cons (lv_at hl 4 rfl) (lv_cons (lv_at hl 5 rfl) (lv_cons (lv_at hl 6 rfl) (lv_nil hl))))))))
              · refine lv_iload hx hb dX9_down_67 (lv_at hl 6 rfl) ?_
                refine lv_goto (tgt := 74) hx hb dX9_down_69 (by decide) ?_
                refine z_eq (z := (gDn (nw 0) (nw 1) (nG nw) xI yI (nq + 1)).2) (by first | exact gDnF_t (by omega) | exact gDnF_f (by omega)) ?_
                exact jn_74  _ _ hP hS _ (lv_cons (lv_at hl 1 rfl) (lv_cons (lv_at hl 2 rfl) (lv_cons (lv_at hl 3 rfl) (lv_cons (lv_at hl 0 rfl) (lv_cons (lv_at hl 4 rfl) (lv_cons (lv_at hl 5 rfl) (lv_cons (lv_at hl 6 rfl) (lv_nil hl))))))))
            refine z_icmp_le (tgt := 58) hx hb (by omega) (by omega) dX9_down_50 (by decide) (fun c_6 => ?_) (fun c_6 => ?_)
            · refine lv_iload_n hx hb dX9_down_58 rfl (lv_at hl 4 rfl) ?_
              refine z_eq (z := (cNone (gDn (nw 0) (nw 1) (nG nw) xI yI (nq + 1)).1)) (by first | exact gDnN_t (by omega) | exact gDnN_f (by omega)) ?_
              exact jn_59  _ _ hP hS _ (lv_cons (lv_at hl 1 rfl) (lv_cons (lv_at hl 2 rfl) (lv_cons (lv_at hl 3 rfl) (lv_cons (lv_at hl 4 rfl) (lv_cons (lv_at hl 5 rfl) (lv_cons (lv_at hl 6 rfl) (lv_cons (lv_at hl 0 rfl) (lv_nil hl))))))))
            · refine lv_iload hx hb dX9_down_53 (lv_at hl 6 rfl) ?_
              refine lv_goto (tgt := 59) hx hb dX9_down_55 (by decide) ?_
              refine z_eq (z := (cNone (gDn (nw 0) (nw 1) (nG nw) xI yI (nq + 1)).1)) (by first | exact gDnN_t (by omega) | exact gDnN_f (by omega)) ?_
              exact jn_59  _ _ hP hS _ (lv_cons (lv_at hl 1 rfl) (lv_cons (lv_at hl 2 rfl) (lv_cons (lv_at hl 3 rfl) (lv_cons (lv_at hl 4 rfl) (lv_cons (lv_at hl 5 rfl) (lv_cons (lv_at hl 6 rfl) (lv_cons (lv_at hl 0 rfl) (lv_nil hl))))))))
          refine z_imul hx hb dX9_down_43 ?_
          refine z_eq (z := (gFall (nw 0) (nw 1) (nG nw) xI yI nq)) (by unfold gFall; first | rw [if_pos (by assumption)] | rw [if_neg (by assumption)]) ?_
          exact jn_44  _ _ hP hS _ (lv_cons (lv_at hl 0 rfl) (lv_cons (lv_at hl 1 rfl) (lv_cons (lv_at hl 2 rfl) (lv_cons (lv_at hl 3 rfl) (lv_cons (lv_at hl 4 rfl) (lv_cons (lv_at hl 5 rfl) (lv_nil hl)))))))
        · refine lv_iconst (v := iV 3) hx hb dX9_down_38 (by decide) ?_
          refine lv_goto (tgt := 43) hx hb dX9_down_39 (by decide) ?_
          have jn_44 : ∀ (H : Heap) (locs : List Loc), va_P G.1 vwCl [(mA 0, .inr (9, [.int (iV mLen), .ref (mA 1), .int (iV mSpot), .ref (mA 2), .ref (mA 3), .ref (mA 4), .int (iV mUn), .int (iV mRr), .int (iV mPit), .int (iV mFar), .ref (mA 5), .ref (mA 6), .ref (mA 7), .ref (mA 8), .int (iV mTm), .ref (mA 9), .ref (mA 10), .ref (mA 11)])), (mA 2, .inl (G.2.1, 249, .inl (fun k => iV (nw k))))] H → va_S (zF s.heap.size) s.heap H locs → ∀ ls : Array Slot, lv_has ls 7 [(0, .ref (mA 0)), (1, .int (iV xI)), (2, .int (iV yI)), (3, .int (iV (cNone (gDn (nw 0) (nw 1) (nG nw) xI yI nq).1))), (4, .int (iV ((gDn (nw 0) (nw 1) (nG nw) xI yI nq).2))), (5, .int (iV (Nat.cast nq : Int)))] → W p l e (headSpec (Cond.code yX9_down cX9_down 7 (some .int) :: zT) (zRm 3 70)).room s m ([Value.ref (mA 0), Value.int (iV xI), Value.int (iV yI)] : List Value).toArray below meth c H locs 0 0 (MQ below (zQr (cNone (gDown (nw 0) (nw 1) (nG nw) xI yI)) s.heap.size) ([Value.ref (mA 0), Value.int (iV xI), Value.int (iV yI)] : List Value).toArray s 0 0 (zF s.heap.size)) (F0 m 44 ls [.int (iV (gFall (nw 0) (nw 1) (nG nw) xI yI nq))]) := by
            intro  H locs hP hS ls hl
            have hfr := gFall_r hG xI yI nq
            refine lv_istore (lv' := [(6, .int (iV (gFall (nw 0) (nw 1) (nG nw) xI yI nq))), (0, .ref (mA 0)), (1, .int (iV xI)), (2, .int (iV yI)), (3, .int (iV (cNone (gDn (nw 0) (nw 1) (nG nw) xI yI nq).1))), (4, .int (iV ((gDn (nw 0) (nw 1) (nG nw) xI yI nq).2))), (5, .int (iV (Nat.cast nq : Int)))]) hx hb dX9_down_44 hl (by decide) rfl (fun ls hl => ?_)
            refine lv_iload hx hb dX9_down_46 (lv_at hl 0 rfl) ?_
            refine lv_iload hx hb dX9_down_48 (lv_at hl 5 rfl) ?_
            have jn_59 : ∀ (H : Heap) (locs : List Loc), va_P G.1 vwCl [(mA 0, .inr (9, [.int (iV mLen), .ref (mA 1), .int (iV mSpot), .ref (mA 2), .ref (mA 3), .ref (mA 4), .int (iV mUn), .int (iV mRr), .int (iV mPit), .int (iV mFar), .ref (mA 5), .ref (mA 6), .ref (mA 7), .ref (mA 8), .int (iV mTm), .ref (mA 9), .ref (mA 10), .ref (mA 11)])), (mA 2, .inl (G.2.1, 249, .inl (fun k => iV (nw k))))] H → va_S (zF s.heap.size) s.heap H locs → ∀ ls : Array Slot, lv_has ls 7 [(0, .ref (mA 0)), (1, .int (iV xI)), (2, .int (iV yI)), (3, .int (iV (cNone (gDn (nw 0) (nw 1) (nG nw) xI yI nq).1))), (4, .int (iV ((gDn (nw 0) (nw 1) (nG nw) xI yI nq).2))), (5, .int (iV (Nat.cast nq : Int))), (6, .int (iV (gFall (nw 0) (nw 1) (nG nw) xI yI nq)))] → W p l e (headSpec (Cond.code yX9_down cX9_down 7 (some .int) :: zT) (zRm 3 70)).room s m ([Value.ref (mA 0), Value.int (iV xI), Value.int (iV yI)] : List Value).toArray below meth c H locs 0 0 (MQ below (zQr (cNone (gDown (nw 0) (nw 1) (nG nw) xI yI)) s.heap.size) ([Value.ref (mA 0), Value.int (iV xI), Value.int (iV yI)] : List Value).toArray s 0 0 (zF s.heap.size)) (F0 m 59 ls [.int (iV (cNone (gDn (nw 0) (nw 1) (nG nw) xI yI (nq + 1)).1))]) := by
              intro  H locs hP hS ls hl
              refine lv_istore_n (lv' := [(3, .int (iV (cNone (gDn (nw 0) (nw 1) (nG nw) xI yI (nq + 1)).1))), (0, .ref (mA 0)), (1, .int (iV xI)), (2, .int (iV yI)), (4, .int (iV ((gDn (nw 0) (nw 1) (nG nw) xI yI nq).2))), (5, .int (iV (Nat.cast nq : Int))), (6, .int (iV (gFall (nw 0) (nw 1) (nG nw) xI yI nq)))]) hx hb dX9_down_59 rfl hl (by decide) rfl (fun ls hl => ?_)
              refine lv_iload hx hb dX9_down_60 (lv_at hl 6 rfl) ?_
              refine lv_iload hx hb dX9_down_62 (lv_at hl 4 rfl) ?_
              have jn_74 : ∀ (H : Heap) (locs : List Loc), va_P G.1 vwCl [(mA 0, .inr (9, [.int (iV mLen), .ref (mA 1), .int (iV mSpot), .ref (mA 2), .ref (mA 3), .ref (mA 4), .int (iV mUn), .int (iV mRr), .int (iV mPit), .int (iV mFar), .ref (mA 5), .ref (mA 6), .ref (mA 7), .ref (mA 8), .int (iV mTm), .ref (mA 9), .ref (mA 10), .ref (mA 11)])), (mA 2, .inl (G.2.1, 249, .inl (fun k => iV (nw k))))] H → va_S (zF s.heap.size) s.heap H locs → ∀ ls : Array Slot, lv_has ls 7 [(0, .ref (mA 0)), (1, .int (iV xI)), (2, .int (iV yI)), (3, .int (iV (cNone (gDn (nw 0) (nw 1) (nG nw) xI yI (nq + 1)).1))), (4, .int (iV ((gDn (nw 0) (nw 1) (nG nw) xI yI nq).2))), (5, .int (iV (Nat.cast nq : Int))), (6, .int (iV (gFall (nw 0) (nw 1) (nG nw) xI yI nq)))] → W p l e (headSpec (Cond.code yX9_down cX9_down 7 (some .int) :: zT) (zRm 3 70)).room s m ([Value.ref (mA 0), Value.int (iV xI), Value.int (iV yI)] : List Value).toArray below meth c H locs 0 0 (MQ below (zQr (cNone (gDown (nw 0) (nw 1) (nG nw) xI yI)) s.heap.size) ([Value.ref (mA 0), Value.int (iV xI), Value.int (iV yI)] : List Value).toArray s 0 0 (zF s.heap.size)) (F0 m 74 ls [.int (iV ((gDn (nw 0) (nw 1) (nG nw) xI yI (nq + 1)).2))]) := by
                intro  H locs hP hS ls hl
                refine lv_istore (lv' := [(4, .int (iV ((gDn (nw 0) (nw 1) (nG nw) xI yI (nq + 1)).2))), (0, .ref (mA 0)), (1, .int (iV xI)), (2, .int (iV yI)), (3, .int (iV (cNone (gDn (nw 0) (nw 1) (nG nw) xI yI (nq + 1)).1))), (5, .int (iV (Nat.cast nq : Int))), (6, .int (iV (gFall (nw 0) (nw 1) (nG nw) xI yI nq)))]) hx hb dX9_down_74 hl (by decide) rfl (fun ls hl => ?_)
                refine z_iinc (lv' := [(5, .int (iV ((Nat.cast nq : Int) + 1))), (4, .int (iV ((gDn (nw 0) (nw 1) (nG nw) xI yI (nq + 1)).2))), (0, .ref (mA 0)), (1, .int (iV xI)), (2, .int (iV yI)), (3, .int (iV (cNone (gDn (nw 0) (nw 1) (nG nw) xI yI (nq + 1)).1))), (6, .int (iV (gFall (nw 0) (nw 1) (nG nw) xI yI nq)))]) hx hb dX9_down_76 hl (k := 5) rfl (by decide) rfl (fun ls hl => ?_)
                refine lv_goto (tgt := 9) hx hb dX9_down_79 (by decide) ?_
                exact ih_9 (nq + 1) (by first | assumption | omega) (by omega) _ _ hP hS _ (lv_cons (lv_at hl 2 rfl) (lv_cons (lv_at hl 3 rfl) (lv_cons (lv_at hl 4 rfl) (lv_cons (lv_at hl 5 rfl) (lv_cons (lv_at hl 1 rfl) (lv_cons (lv_i hl 0 rfl (by first | rfl | omega)) (lv_nil hl)))))))
              refine z_icmp_le (tgt := 72) hx hb (by omega) (by omega) dX9_down_64 (by decide) (fun c_7 => ?_) (fun c_7 => ?_)
              · refine lv_iload hx hb dX9_down_72 (lv_at hl 4 rfl) ?_
                refine z_eq (z := (gDn (nw 0) (nw 1) (nG nw) xI yI (nq + 1)).2) (by first | exact gDnF_t (by omega) | exact gDnF_f (by omega)) ?_
                exact jn_74  _ _ hP hS _ (lv_cons (lv_at hl 1 rfl) (lv_cons (lv_at hl 2 rfl) (lv_cons (lv_at hl 3 rfl) (lv_cons (lv_at hl 0 rfl) (lv_cons (lv_at hl 4 rfl) (lv_cons (lv_at hl 5 rfl) (lv_cons (lv_at hl 6 rfl) (lv_nil hl))))))))
              · refine lv_iload hx hb dX9_down_67 (lv_at hl 6 rfl) ?_
                refine lv_goto (tgt := 74) hx hb dX9_down_69 (by decide) ?_
                refine z_eq (z := (gDn (nw 0) (nw 1) (nG nw) xI yI (nq + 1)).2) (by first | exact gDnF_t (by omega) | exact gDnF_f (by omega)) ?_
                exact jn_74  _ _ hP hS _ (lv_cons (lv_at hl 1 rfl) (lv_cons (lv_at hl 2 rfl) (lv_cons (lv_at hl 3 rfl) (lv_cons (lv_at hl 0 rfl) (lv_cons (lv_at hl 4 rfl) (lv_cons (lv_at hl 5 rfl) (lv_cons (lv_at hl 6 rfl) (lv_nil hl))))))))
            refine z_icmp_le (tgt := 58) hx hb (by omega) (by omega) dX9_down_50 (by decide) (fun c_8 => ?_) (fun c_8 => ?_)
            · refine lv_iload_n hx hb dX9_down_58 rfl (lv_at hl 4 rfl) ?_
              refine z_eq (z := (cNone (gDn (nw 0) (nw 1) (nG nw) xI yI (nq + 1)).1)) (by first | exact gDnN_t (by omega) | exact gDnN_f (by omega)) ?_
              exact jn_59  _ _ hP hS _ (lv_cons (lv_at hl 1 rfl) (lv_cons (lv_at hl 2 rfl) (lv_cons (lv_at hl 3 rfl) (lv_cons (lv_at hl 4 rfl) (lv_cons (lv_at hl 5 rfl) (lv_cons (lv_at hl 6 rfl) (lv_cons (lv_at hl 0 rfl) (lv_nil hl))))))))
            · refine lv_iload hx hb dX9_down_53 (lv_at hl 6 rfl) ?_
              refine lv_goto (tgt := 59) hx hb dX9_down_55 (by decide) ?_
              refine z_eq (z := (cNone (gDn (nw 0) (nw 1) (nG nw) xI yI (nq + 1)).1)) (by first | exact gDnN_t (by omega) | exact gDnN_f (by omega)) ?_
              exact jn_59  _ _ hP hS _ (lv_cons (lv_at hl 1 rfl) (lv_cons (lv_at hl 2 rfl) (lv_cons (lv_at hl 3 rfl) (lv_cons (lv_at hl 4 rfl) (lv_cons (lv_at hl 5 rfl) (lv_cons (lv_at hl 6 rfl) (lv_cons (lv_at hl 0 rfl) (lv_nil hl))))))))
          refine z_imul hx hb dX9_down_43 ?_
          refine z_eq (z := (gFall (nw 0) (nw 1) (nG nw) xI yI nq)) (by unfold gFall; first | rw [if_pos (by assumption)] | rw [if_neg (by assumption)]) ?_
          exact jn_44  _ _ hP hS _ (lv_cons (lv_at hl 0 rfl) (lv_cons (lv_at hl 1 rfl) (lv_cons (lv_at hl 2 rfl) (lv_cons (lv_at hl 3 rfl) (lv_cons (lv_at hl 4 rfl) (lv_cons (lv_at hl 5 rfl) (lv_nil hl)))))))
  exact lp_9 _ 0 (by first | assumption | omega) (Nat.lt_succ_self _) _ _ hP hS _ (lv_cons (lv_at hl 3 rfl) (lv_cons (lv_at hl 4 rfl) (lv_cons (lv_at hl 5 rfl) (lv_cons (lv_i hl 2 rfl (by first | rfl | omega)) (lv_cons (lv_i hl 1 rfl (by first | rfl | omega)) (lv_cons (lv_i hl 0 rfl (by first | rfl | omega)) (lv_nil hl)))))))

set_option maxHeartbeats 4000000 in
set_option maxRecDepth 100000 in
theorem c_X9_isCrest (l : Launch) (G : zG) (sz : Nat) (mA : Nat → Nat) (mLen : Int) (mSpot : Int) (mUn : Int) (mRr : Int) (mPit : Int) (mFar : Int) (mTm : Int) (nw : Nat → Int) (xI : Int) (yI : Int) (sg : Int) (hM : mOK nw) (hxy : (0 ≤ xI ∧ xI < 9) ∧ 0 ≤ yI ∧ yI < 9) (hsg : sg = 1 ∨ sg = -1) : Met l yX9_isCrest (Cond.code yX9_isCrest cX9_isCrest 7 (some .boolean) :: zT) (zRm 3 70) (zPr G [.ref (mA 0), .int (iV xI), .int (iV yI), .int (iV sg)] [(mA 0, .inr (9, [.int (iV mLen), .ref (mA 1), .int (iV mSpot), .ref (mA 2), .ref (mA 3), .ref (mA 4), .int (iV mUn), .int (iV mRr), .int (iV mPit), .int (iV mFar), .ref (mA 5), .ref (mA 6), .ref (mA 7), .ref (mA 8), .int (iV mTm), .ref (mA 9), .ref (mA 10), .ref (mA 11)])), (mA 2, .inl (G.2.1, 249, .inl (fun k => iV (nw k))))] sz) (zQr (bP (gCrest (nw 0) (nw 1) (nG nw) xI yI sg)) sz) 0 0 (zF sz) := by
  refine Met.ofW (cc := cX9_isCrest) (maxL := 7) (ret := (some .boolean)) (by decide) rfl ?_
  intro p e s m args below meth c s₁ B hml hv
  obtain ⟨rfl, hsz, hP, hK, hSt⟩ := hv
  have hx := B.exec
  have hb := B.bytes
  have hr := B.returns
  have hts : ∀ w ∈ zT, w.before _ s = true := fun w h => atoms_spec (ws := (Cond.code yX9_isCrest cX9_isCrest 7 (some .boolean) :: zT)) B.pre w (List.mem_cons_of_mem _ h)
  have hown : s.vm.findClass RX9 = some m.cls := findClass_of_methodNamed B.named
  have hlocks := B.notSynchronized
  subst hsz
  have hA : ∀ q : Nat, s.heap.size ≤ q → zF s.heap.size q := fun _ h => h
  have hS : va_S (zF s.heap.size) s.heap s.heap [] := va_S.rf
  have hP : va_P G.1 vwCl [(mA 0, .inr (9, [.int (iV mLen), .ref (mA 1), .int (iV mSpot), .ref (mA 2), .ref (mA 3), .ref (mA 4), .int (iV mUn), .int (iV mRr), .int (iV mPit), .int (iV mFar), .ref (mA 5), .ref (mA 6), .ref (mA 7), .ref (mA 8), .int (iV mTm), .ref (mA 9), .ref (mA 10), .ref (mA 11)])), (mA 2, .inl (G.2.1, 249, .inl (fun k => iV (nw k))))] s.heap := hP
  have X := And.intro hx (And.intro hb (And.intro hml (And.intro hown (And.intro hts (And.intro hK (And.intro hSt hA))))))
  have hl := lv_entry ([.ref (mA 0), .int (iV xI), .int (iV yI), .int (iV sg)]) (n := 7) (Nat.le_of_ble_eq_true rfl)
  rw [lg_entry_eq]
  generalize (lg_sl ([.ref (mA 0), .int (iV xI), .int (iV yI), .int (iV sg)]) ++ List.replicate (7 - (lg_sl ([.ref (mA 0), .int (iV xI), .int (iV yI), .int (iV sg)])).length) Slot.unset).toArray = ls at hl ⊢
  have hl : lv_has ls 7 [(0, .ref (mA 0)), (1, .int (iV xI)), (2, .int (iV yI)), (3, .int (iV sg))] := hl
  obtain ⟨hG, hWH3, hn88, hnL, hnQ, hn6, hn80⟩ := id hM
  obtain ⟨hW0, hW9, hH0, hH9, hg⟩ := id hG
  refine lv_iconst (v := iV 0) hx hb dX9_isCrest_0 (by decide) ?_
  refine lv_istore (lv' := [(4, .int (iV 0)), (0, .ref (mA 0)), (1, .int (iV xI)), (2, .int (iV yI)), (3, .int (iV sg))]) hx hb dX9_isCrest_1 hl (by decide) rfl (fun ls hl => ?_)
  refine lv_iconst (v := iV 0) hx hb dX9_isCrest_3 (by decide) ?_
  refine lv_istore (lv' := [(5, .int (iV 0)), (4, .int (iV 0)), (0, .ref (mA 0)), (1, .int (iV xI)), (2, .int (iV yI)), (3, .int (iV sg))]) hx hb dX9_isCrest_4 hl (by decide) rfl (fun ls hl => ?_)
  have lp_6 : ∀ (k : Nat) (nq : Nat) , (nq ≤ 4) → (4 - nq) < k → ∀ (H : Heap) (locs : List Loc), va_P G.1 vwCl [(mA 0, .inr (9, [.int (iV mLen), .ref (mA 1), .int (iV mSpot), .ref (mA 2), .ref (mA 3), .ref (mA 4), .int (iV mUn), .int (iV mRr), .int (iV mPit), .int (iV mFar), .ref (mA 5), .ref (mA 6), .ref (mA 7), .ref (mA 8), .int (iV mTm), .ref (mA 9), .ref (mA 10), .ref (mA 11)])), (mA 2, .inl (G.2.1, 249, .inl (fun k => iV (nw k))))] H → va_S (zF s.heap.size) s.heap H locs → ∀ ls : Array Slot, lv_has ls 7 [(0, .ref (mA 0)), (1, .int (iV xI)), (2, .int (iV yI)), (3, .int (iV sg)), (4, .int (iV (bP (gCrN (nw 0) (nw 1) (nG nw) xI yI sg nq)))), (5, .int (iV (Nat.cast nq : Int)))] → W p l e (headSpec (Cond.code yX9_isCrest cX9_isCrest 7 (some .boolean) :: zT) (zRm 3 70)).room s m ([Value.ref (mA 0), Value.int (iV xI), Value.int (iV yI), Value.int (iV sg)] : List Value).toArray below meth c H locs 0 0 (MQ below (zQr (bP (gCrest (nw 0) (nw 1) (nG nw) xI yI sg)) s.heap.size) ([Value.ref (mA 0), Value.int (iV xI), Value.int (iV yI), Value.int (iV sg)] : List Value).toArray s 0 0 (zF s.heap.size)) (F0 m 6 ls []) := by
    intro k
    induction k with
    | zero => intro nq hn hk_; exact absurd hk_ (Nat.not_lt_zero _)
    | succ k ih_6 =>
      intro nq hn hk_6 H locs hP hS ls hl
      have hzr := zR_r nq
      have hzb := zB_r nq
      have hcn : (Nat.cast nq : Int).toNat = nq := cst0 nq
      refine lv_iload hx hb dX9_isCrest_6 (lv_at hl 5 rfl) ?_
      refine lv_iconst (v := iV 4) hx hb dX9_isCrest_8 (by decide) ?_
      refine z_icmp_ge (tgt := 126) hx hb (by rcases hsg with h | h <;> subst h <;> omega) ⟨by decide, by decide⟩ dX9_isCrest_9 (by decide) (fun c_1 => ?_) (fun c_1 => ?_)
      · refine lv_iload hx hb dX9_isCrest_126 (lv_at hl 4 rfl) ?_
        refine z_eq (z := bP (gCrest (nw 0) (nw 1) (nG nw) xI yI sg)) (by have h8 : nq = 4 := (by omega); subst h8; rfl) ?_
        exact z_retb hx hb hr hlocks hS dX9_isCrest_128
      · refine lv_aload_n hx hb dX9_isCrest_12 rfl (lv_at hl 0 rfl) ?_
        refine lv_iload_n hx hb dX9_isCrest_13 rfl (lv_at hl 1 rfl) ?_
        refine lv_iload hx hb dX9_isCrest_14 (lv_at hl 5 rfl) ?_
        refine z_callS X hP hS hl.1 (c_X9_right l G _ (Nat.cast nq : Int) (by first | assumption | omega)) wd_903 kX9_right ⟨rfl, rfl, Nat.le_of_ble_eq_true rfl, Nat.le_of_ble_eq_true rfl⟩ [] rfl rfl rfl (Nat.le_of_ble_eq_true rfl) dX9_isCrest_16 ⟨Nat.zero_le _, Nat.zero_le _⟩ (fun H locs hP hS => ?_)
        have f_2 := zR_r (Nat.cast nq : Int).toNat
        refine z_iadd hx hb dX9_isCrest_19 ?_
        refine lv_iload_n hx hb dX9_isCrest_20 rfl (lv_at hl 2 rfl) ?_
        refine lv_iload hx hb dX9_isCrest_21 (lv_at hl 5 rfl) ?_
        refine z_callS X hP hS hl.1 (c_X9_below l G _ (Nat.cast nq : Int) (by first | assumption | omega)) wd_906 kX9_below ⟨rfl, rfl, Nat.le_of_ble_eq_true rfl, Nat.le_of_ble_eq_true rfl⟩ [] rfl rfl rfl (Nat.le_of_ble_eq_true rfl) dX9_isCrest_23 ⟨Nat.zero_le _, Nat.zero_le _⟩ (fun H locs hP hS => ?_)
        have f_3 := zB_r (Nat.cast nq : Int).toNat
        refine z_iadd hx hb dX9_isCrest_26 ?_
        refine z_callV X hP hS hl.1 (c_X9_isCell l G _ mA mLen mSpot mUn mRr mPit mFar mTm nw (xI + (zR (Nat.cast nq : Int).toNat)) (yI + (zB (Nat.cast nq : Int).toNat)) (by first | assumption | omega) (by first | assumption | omega) (by first | assumption | omega)) wd_875 kX9_isCell ⟨rfl, rfl, Nat.le_of_ble_eq_true rfl, Nat.le_of_ble_eq_true rfl⟩ [0, 1] rfl 0 rfl rfl rfl rfl (Nat.le_of_ble_eq_true rfl) dX9_isCrest_27 ⟨Nat.zero_le _, Nat.zero_le _⟩ (fun H locs hP hS => ?_)
        have jn_59 : ∀ (H : Heap) (locs : List Loc), va_P G.1 vwCl [(mA 0, .inr (9, [.int (iV mLen), .ref (mA 1), .int (iV mSpot), .ref (mA 2), .ref (mA 3), .ref (mA 4), .int (iV mUn), .int (iV mRr), .int (iV mPit), .int (iV mFar), .ref (mA 5), .ref (mA 6), .ref (mA 7), .ref (mA 8), .int (iV mTm), .ref (mA 9), .ref (mA 10), .ref (mA 11)])), (mA 2, .inl (G.2.1, 249, .inl (fun k => iV (nw k))))] H → va_S (zF s.heap.size) s.heap H locs → ∀ ls : Array Slot, lv_has ls 7 [(0, .ref (mA 0)), (1, .int (iV xI)), (2, .int (iV yI)), (3, .int (iV sg)), (4, .int (iV (bP (gCrN (nw 0) (nw 1) (nG nw) xI yI sg nq)))), (5, .int (iV (Nat.cast nq : Int)))] → W p l e (headSpec (Cond.code yX9_isCrest cX9_isCrest 7 (some .boolean) :: zT) (zRm 3 70)).room s m ([Value.ref (mA 0), Value.int (iV xI), Value.int (iV yI), Value.int (iV sg)] : List Value).toArray below meth c H locs 0 0 (MQ below (zQr (bP (gCrest (nw 0) (nw 1) (nG nw) xI yI sg)) s.heap.size) ([Value.ref (mA 0), Value.int (iV xI), Value.int (iV yI), Value.int (iV sg)] : List Value).toArray s 0 0 (zF s.heap.size)) (F0 m 59 ls [.int (iV (bP (gBoth (nw 0) (nw 1) xI yI nq)))]) := by
          intro  H locs hP hS ls hl
          refine lv_istore (lv' := [(6, .int (iV (bP (gBoth (nw 0) (nw 1) xI yI nq)))), (0, .ref (mA 0)), (1, .int (iV xI)), (2, .int (iV yI)), (3, .int (iV sg)), (4, .int (iV (bP (gCrN (nw 0) (nw 1) (nG nw) xI yI sg nq)))), (5, .int (iV (Nat.cast nq : Int)))]) hx hb dX9_isCrest_59 hl (by decide) rfl (fun ls hl => ?_)
          refine lv_iload hx hb dX9_isCrest_61 (lv_at hl 5 rfl) ?_
          have jn_118 : ∀ (H : Heap) (locs : List Loc), va_P G.1 vwCl [(mA 0, .inr (9, [.int (iV mLen), .ref (mA 1), .int (iV mSpot), .ref (mA 2), .ref (mA 3), .ref (mA 4), .int (iV mUn), .int (iV mRr), .int (iV mPit), .int (iV mFar), .ref (mA 5), .ref (mA 6), .ref (mA 7), .ref (mA 8), .int (iV mTm), .ref (mA 9), .ref (mA 10), .ref (mA 11)])), (mA 2, .inl (G.2.1, 249, .inl (fun k => iV (nw k))))] H → va_S (zF s.heap.size) s.heap H locs → ∀ ls : Array Slot, lv_has ls 7 [(0, .ref (mA 0)), (1, .int (iV xI)), (2, .int (iV yI)), (3, .int (iV sg)), (4, .int (iV (bP (gCrN (nw 0) (nw 1) (nG nw) xI yI sg nq)))), (5, .int (iV (Nat.cast nq : Int)))] → W p l e (headSpec (Cond.code yX9_isCrest cX9_isCrest 7 (some .boolean) :: zT) (zRm 3 70)).room s m ([Value.ref (mA 0), Value.int (iV xI), Value.int (iV yI), Value.int (iV sg)] : List Value).toArray below meth c H locs 0 0 (MQ below (zQr (bP (gCrest (nw 0) (nw 1) (nG nw) xI yI sg)) s.heap.size) ([Value.ref (mA 0), Value.int (iV xI), Value.int (iV yI), Value.int (iV sg)] : List Value).toArray s 0 0 (zF s.heap.size)) (F0 m 118 ls [.int (iV (bP (gCrN (nw 0) (nw 1) (nG nw) xI yI sg (nq + 1))))]) := by
            intro  H locs hP hS ls hl
            refine lv_istore (lv' := [(4, .int (iV (bP (gCrN (nw 0) (nw 1) (nG nw) xI yI sg (nq + 1))))), (0, .ref (mA 0)), (1, .int (iV xI)), (2, .int (iV yI)), (3, .int (iV sg)), (5, .int (iV (Nat.cast nq : Int)))]) hx hb dX9_isCrest_118 hl (by decide) rfl (fun ls hl => ?_)
            refine z_iinc (lv' := [(5, .int (iV ((Nat.cast nq : Int) + 1))), (4, .int (iV (bP (gCrN (nw 0) (nw 1) (nG nw) xI yI sg (nq + 1))))), (0, .ref (mA 0)), (1, .int (iV xI)), (2, .int (iV yI)), (3, .int (iV sg))]) hx hb dX9_isCrest_120 hl (k := 5) rfl (by decide) rfl (fun ls hl => ?_)
            refine lv_goto (tgt := 6) hx hb dX9_isCrest_123 (by decide) ?_
            exact ih_6 (nq + 1) (by first | assumption | omega) (by omega) _ _ hP hS _ (lv_cons (lv_at hl 2 rfl) (lv_cons (lv_at hl 3 rfl) (lv_cons (lv_at hl 4 rfl) (lv_cons (lv_at hl 5 rfl) (lv_cons (lv_at hl 1 rfl) (lv_cons (lv_i hl 0 rfl (by first | rfl | omega | exact gCrN_0)) (lv_nil hl)))))))
          refine z_ifb_ne (tgt := 113) hx hb dX9_isCrest_63 (by decide) (fun c_4 => ?_) (fun c_4 => ?_)
          · refine lv_iconst (v := iV 1) hx hb dX9_isCrest_113 (by decide) ?_
            refine lv_goto (tgt := 118) hx hb dX9_isCrest_114 (by decide) ?_
            refine z_eq (z := bP (gCrN (nw 0) (nw 1) (nG nw) xI yI sg (nq + 1))) (by first | exact (bP_t (gCrN_a (by assumption))).symm | exact (bP_t (gCrN_b ((gCrM (by omega) hsg).mpr ⟨by assumption, by omega, by omega⟩))).symm | exact (bP_f (gCrN_c (by assumption) (fun q => by have q2 := (gCrM (by omega) hsg).mp q; first | exact absurd q2.1 (by assumption) | (have q3 := q2.2.1; omega) | (have q3 := q2.2.2; omega)))).symm) ?_
            exact jn_118  _ _ hP hS _ (lv_cons (lv_at hl 1 rfl) (lv_cons (lv_at hl 2 rfl) (lv_cons (lv_at hl 3 rfl) (lv_cons (lv_at hl 4 rfl) (lv_cons (lv_at hl 5 rfl) (lv_cons (lv_at hl 6 rfl) (lv_nil hl)))))))
          · refine lv_iload hx hb dX9_isCrest_66 (lv_at hl 0 rfl) ?_
            refine z_ifb_eq (tgt := 117) hx hb dX9_isCrest_68 (by decide) (fun c_5 => ?_) (fun c_5 => ?_)
            · refine lv_iconst (v := iV 0) hx hb dX9_isCrest_117 (by decide) ?_
              refine z_eq (z := bP (gCrN (nw 0) (nw 1) (nG nw) xI yI sg (nq + 1))) (by first | exact (bP_t (gCrN_a (by assumption))).symm | exact (bP_t (gCrN_b ((gCrM (by omega) hsg).mpr ⟨by assumption, by omega, by omega⟩))).symm | exact (bP_f (gCrN_c (by assumption) (fun q => by have q2 := (gCrM (by omega) hsg).mp q; first | exact absurd q2.1 (by assumption) | (have q3 := q2.2.1; omega) | (have q3 := q2.2.2; omega)))).symm) ?_
              exact jn_118  _ _ hP hS _ (lv_cons (lv_at hl 1 rfl) (lv_cons (lv_at hl 2 rfl) (lv_cons (lv_at hl 3 rfl) (lv_cons (lv_at hl 4 rfl) (lv_cons (lv_at hl 5 rfl) (lv_cons (lv_at hl 6 rfl) (lv_nil hl)))))))
            · refine lv_iload_n hx hb dX9_isCrest_71 rfl (lv_at hl 4 rfl) ?_
              refine lv_aload_n hx hb dX9_isCrest_72 rfl (lv_at hl 1 rfl) ?_
              refine lv_iload_n hx hb dX9_isCrest_73 rfl (lv_at hl 2 rfl) ?_
              refine lv_iload_n hx hb dX9_isCrest_74 rfl (lv_at hl 3 rfl) ?_
              refine z_callV X hP hS hl.1 (c_X9_height l G _ mA mLen mSpot mUn mRr mPit mFar mTm nw xI yI (by first | assumption | omega) (by first | assumption | omega)) wd_891 kX9_height ⟨rfl, rfl, Nat.le_of_ble_eq_true rfl, Nat.le_of_ble_eq_true rfl⟩ [0, 1] rfl 0 rfl rfl rfl rfl (Nat.le_of_ble_eq_true rfl) dX9_isCrest_75 ⟨Nat.zero_le _, Nat.zero_le _⟩ (fun H locs hP hS => ?_)
              have f_6 := gAt_r (id hM).1 xI yI
              refine lv_aload_n hx hb dX9_isCrest_78 rfl (lv_at hl 1 rfl) ?_
              refine lv_iload_n hx hb dX9_isCrest_79 rfl (lv_at hl 2 rfl) ?_
              refine lv_iload_n hx hb dX9_isCrest_80 rfl (lv_at hl 3 rfl) ?_
              refine lv_iload hx hb dX9_isCrest_81 (lv_at hl 6 rfl) ?_
              refine z_callV X hP hS hl.1 (c_X9_beside l G _ mA mLen mSpot mUn mRr mPit mFar mTm nw xI yI (Nat.cast nq : Int) (by first | assumption | omega) (by first | assumption | omega) (by first | assumption | omega)) wd_899 kX9_beside ⟨rfl, rfl, Nat.le_of_ble_eq_true rfl, Nat.le_of_ble_eq_true rfl⟩ [0, 1] rfl 0 rfl rfl rfl rfl (Nat.le_of_ble_eq_true rfl) dX9_isCrest_83 ⟨Nat.zero_le _, Nat.zero_le _⟩ (fun H locs hP hS => ?_)
              have f_7 := gB_r (id hM).1 xI yI (Nat.cast nq : Int)
              refine z_isub hx hb dX9_isCrest_86 ?_
              refine z_imul hx hb dX9_isCrest_87 ?_
              refine z_if_le (tgt := 117) hx hb (by rcases hsg with h | h <;> subst h <;> omega) dX9_isCrest_88 (by decide) (fun c_8 => ?_) (fun c_8 => ?_)
              · refine lv_iconst (v := iV 0) hx hb dX9_isCrest_117 (by decide) ?_
                refine z_eq (z := bP (gCrN (nw 0) (nw 1) (nG nw) xI yI sg (nq + 1))) (by first | exact (bP_t (gCrN_a (by assumption))).symm | exact (bP_t (gCrN_b ((gCrM (by omega) hsg).mpr ⟨by assumption, by omega, by omega⟩))).symm | exact (bP_f (gCrN_c (by assumption) (fun q => by have q2 := (gCrM (by omega) hsg).mp q; first | exact absurd q2.1 (by assumption) | (have q3 := q2.2.1; omega) | (have q3 := q2.2.2; omega)))).symm) ?_
                exact jn_118  _ _ hP hS _ (lv_cons (lv_at hl 1 rfl) (lv_cons (lv_at hl 2 rfl) (lv_cons (lv_at hl 3 rfl) (lv_cons (lv_at hl 4 rfl) (lv_cons (lv_at hl 5 rfl) (lv_cons (lv_at hl 6 rfl) (lv_nil hl)))))))
              · refine lv_iload_n hx hb dX9_isCrest_91 rfl (lv_at hl 4 rfl) ?_
                refine lv_aload_n hx hb dX9_isCrest_92 rfl (lv_at hl 1 rfl) ?_
                refine lv_iload_n hx hb dX9_isCrest_93 rfl (lv_at hl 2 rfl) ?_
                refine lv_iload_n hx hb dX9_isCrest_94 rfl (lv_at hl 3 rfl) ?_
                refine z_callV X hP hS hl.1 (c_X9_height l G _ mA mLen mSpot mUn mRr mPit mFar mTm nw xI yI (by first | assumption | omega) (by first | assumption | omega)) wd_891 kX9_height ⟨rfl, rfl, Nat.le_of_ble_eq_true rfl, Nat.le_of_ble_eq_true rfl⟩ [0, 1] rfl 0 rfl rfl rfl rfl (Nat.le_of_ble_eq_true rfl) dX9_isCrest_95 ⟨Nat.zero_le _, Nat.zero_le _⟩ (fun H locs hP hS => ?_)
                have f_9 := gAt_r (id hM).1 xI yI
                refine lv_aload_n hx hb dX9_isCrest_98 rfl (lv_at hl 1 rfl) ?_
                refine lv_iload_n hx hb dX9_isCrest_99 rfl (lv_at hl 2 rfl) ?_
                refine lv_iload_n hx hb dX9_isCrest_100 rfl (lv_at hl 3 rfl) ?_
                refine lv_iload hx hb dX9_isCrest_101 (lv_at hl 6 rfl) ?_
                refine lv_iconst (v := iV 4) hx hb dX9_isCrest_103 (by decide) ?_
                refine z_iadd hx hb dX9_isCrest_104 ?_
                refine z_callV X hP hS hl.1 (c_X9_beside l G _ mA mLen mSpot mUn mRr mPit mFar mTm nw xI yI ((Nat.cast nq : Int) + 4) (by first | assumption | omega) (by first | assumption | omega) (by first | assumption | omega)) wd_899 kX9_beside ⟨rfl, rfl, Nat.le_of_ble_eq_true rfl, Nat.le_of_ble_eq_true rfl⟩ [0, 1] rfl 0 rfl rfl rfl rfl (Nat.le_of_ble_eq_true rfl) dX9_isCrest_105 ⟨Nat.zero_le _, Nat.zero_le _⟩ (fun H locs hP hS => ?_)
                have f_10 := gB_r (id hM).1 xI yI ((Nat.cast nq : Int) + 4)
                refine z_isub hx hb dX9_isCrest_108 ?_
                refine z_imul hx hb dX9_isCrest_109 ?_
                refine z_if_le (tgt := 117) hx hb (by rcases hsg with h | h <;> subst h <;> omega) dX9_isCrest_110 (by decide) (fun c_11 => ?_) (fun c_11 => ?_)
                · refine lv_iconst (v := iV 0) hx hb dX9_isCrest_117 (by decide) ?_
                  refine z_eq (z := bP (gCrN (nw 0) (nw 1) (nG nw) xI yI sg (nq + 1))) (by first | exact (bP_t (gCrN_a (by assumption))).symm | exact (bP_t (gCrN_b ((gCrM (by omega) hsg).mpr ⟨by assumption, by omega, by omega⟩))).symm | exact (bP_f (gCrN_c (by assumption) (fun q => by have q2 := (gCrM (by omega) hsg).mp q; first | exact absurd q2.1 (by assumption) | (have q3 := q2.2.1; omega) | (have q3 := q2.2.2; omega)))).symm) ?_
                  exact jn_118  _ _ hP hS _ (lv_cons (lv_at hl 1 rfl) (lv_cons (lv_at hl 2 rfl) (lv_cons (lv_at hl 3 rfl) (lv_cons (lv_at hl 4 rfl) (lv_cons (lv_at hl 5 rfl) (lv_cons (lv_at hl 6 rfl) (lv_nil hl)))))))
                · refine lv_iconst (v := iV 1) hx hb dX9_isCrest_113 (by decide) ?_
                  refine lv_goto (tgt := 118) hx hb dX9_isCrest_114 (by decide) ?_
                  refine z_eq (z := bP (gCrN (nw 0) (nw 1) (nG nw) xI yI sg (nq + 1))) (by first | exact (bP_t (gCrN_a (by assumption))).symm | exact (bP_t (gCrN_b ((gCrM (by omega) hsg).mpr ⟨by assumption, by omega, by omega⟩))).symm | exact (bP_f (gCrN_c (by assumption) (fun q => by have q2 := (gCrM (by omega) hsg).mp q; first | exact absurd q2.1 (by assumption) | (have q3 := q2.2.1; omega) | (have q3 := q2.2.2; omega)))).symm) ?_
                  exact jn_118  _ _ hP hS _ (lv_cons (lv_at hl 1 rfl) (lv_cons (lv_at hl 2 rfl) (lv_cons (lv_at hl 3 rfl) (lv_cons (lv_at hl 4 rfl) (lv_cons (lv_at hl 5 rfl) (lv_cons (lv_at hl 6 rfl) (lv_nil hl)))))))
        refine z_ifb_eq (tgt := 58) hx hb dX9_isCrest_30 (by decide) (fun c_12 => ?_) (fun c_12 => ?_)
        · refine lv_iconst (v := iV 0) hx hb dX9_isCrest_58 (by decide) ?_
          refine z_eq (z := bP (gBoth (nw 0) (nw 1) xI yI nq)) (by first | exact (bP_t (by rw [hcn] at *; omega)).symm | exact (bP_f (by rw [hcn] at *; omega)).symm) ?_
          exact jn_59  _ _ hP hS _ (lv_cons (lv_at hl 0 rfl) (lv_cons (lv_at hl 1 rfl) (lv_cons (lv_at hl 2 rfl) (lv_cons (lv_at hl 3 rfl) (lv_cons (lv_at hl 4 rfl) (lv_cons (lv_at hl 5 rfl) (lv_nil hl)))))))
        · refine lv_aload_n hx hb dX9_isCrest_33 rfl (lv_at hl 0 rfl) ?_
          refine lv_iload_n hx hb dX9_isCrest_34 rfl (lv_at hl 1 rfl) ?_
          refine lv_iload hx hb dX9_isCrest_35 (lv_at hl 5 rfl) ?_
          refine z_callS X hP hS hl.1 (c_X9_right l G _ (Nat.cast nq : Int) (by first | assumption | omega)) wd_903 kX9_right ⟨rfl, rfl, Nat.le_of_ble_eq_true rfl, Nat.le_of_ble_eq_true rfl⟩ [] rfl rfl rfl (Nat.le_of_ble_eq_true rfl) dX9_isCrest_37 ⟨Nat.zero_le _, Nat.zero_le _⟩ (fun H locs hP hS => ?_)
          have f_13 := zR_r (Nat.cast nq : Int).toNat
          refine z_isub hx hb dX9_isCrest_40 ?_
          refine lv_iload_n hx hb dX9_isCrest_41 rfl (lv_at hl 2 rfl) ?_
          refine lv_iload hx hb dX9_isCrest_42 (lv_at hl 5 rfl) ?_
          refine z_callS X hP hS hl.1 (c_X9_below l G _ (Nat.cast nq : Int) (by first | assumption | omega)) wd_906 kX9_below ⟨rfl, rfl, Nat.le_of_ble_eq_true rfl, Nat.le_of_ble_eq_true rfl⟩ [] rfl rfl rfl (Nat.le_of_ble_eq_true rfl) dX9_isCrest_44 ⟨Nat.zero_le _, Nat.zero_le _⟩ (fun H locs hP hS => ?_)
          have f_14 := zB_r (Nat.cast nq : Int).toNat
          refine z_isub hx hb dX9_isCrest_47 ?_
          refine z_callV X hP hS hl.1 (c_X9_isCell l G _ mA mLen mSpot mUn mRr mPit mFar mTm nw (xI - (zR (Nat.cast nq : Int).toNat)) (yI - (zB (Nat.cast nq : Int).toNat)) (by first | assumption | omega) (by first | assumption | omega) (by first | assumption | omega)) wd_875 kX9_isCell ⟨rfl, rfl, Nat.le_of_ble_eq_true rfl, Nat.le_of_ble_eq_true rfl⟩ [0, 1] rfl 0 rfl rfl rfl rfl (Nat.le_of_ble_eq_true rfl) dX9_isCrest_48 ⟨Nat.zero_le _, Nat.zero_le _⟩ (fun H locs hP hS => ?_)
          refine z_ifb_eq (tgt := 58) hx hb dX9_isCrest_51 (by decide) (fun c_15 => ?_) (fun c_15 => ?_)
          · refine lv_iconst (v := iV 0) hx hb dX9_isCrest_58 (by decide) ?_
            refine z_eq (z := bP (gBoth (nw 0) (nw 1) xI yI nq)) (by first | exact (bP_t (by rw [hcn] at *; omega)).symm | exact (bP_f (by rw [hcn] at *; omega)).symm) ?_
            exact jn_59  _ _ hP hS _ (lv_cons (lv_at hl 0 rfl) (lv_cons (lv_at hl 1 rfl) (lv_cons (lv_at hl 2 rfl) (lv_cons (lv_at hl 3 rfl) (lv_cons (lv_at hl 4 rfl) (lv_cons (lv_at hl 5 rfl) (lv_nil hl)))))))
          · refine lv_iconst (v := iV 1) hx hb dX9_isCrest_54 (by decide) ?_
            refine lv_goto (tgt := 59) hx hb dX9_isCrest_55 (by decide) ?_
            refine z_eq (z := bP (gBoth (nw 0) (nw 1) xI yI nq)) (by first | exact (bP_t (by rw [hcn] at *; omega)).symm | exact (bP_f (by rw [hcn] at *; omega)).symm) ?_
            exact jn_59  _ _ hP hS _ (lv_cons (lv_at hl 0 rfl) (lv_cons (lv_at hl 1 rfl) (lv_cons (lv_at hl 2 rfl) (lv_cons (lv_at hl 3 rfl) (lv_cons (lv_at hl 4 rfl) (lv_cons (lv_at hl 5 rfl) (lv_nil hl)))))))
  exact lp_6 _ 0 (by first | assumption | omega) (Nat.lt_succ_self _) _ _ hP hS _ (lv_cons (lv_at hl 2 rfl) (lv_cons (lv_at hl 3 rfl) (lv_cons (lv_at hl 4 rfl) (lv_cons (lv_at hl 5 rfl) (lv_cons (lv_i hl 1 rfl (by first | rfl | omega | exact gCrN_0)) (lv_cons (lv_i hl 0 rfl (by first | rfl | omega | exact gCrN_0)) (lv_nil hl)))))))

set_option maxHeartbeats 4000000 in
set_option maxRecDepth 100000 in
theorem c_X9_quarter (l : Launch) (G : zG) (sz : Nat) (mA : Nat → Nat) (mLen : Int) (mSpot : Int) (mUn : Int) (mRr : Int) (mPit : Int) (mFar : Int) (mTm : Int) (nw : Nat → Int) (xI : Int) (yI : Int) (hM : mOK nw) (hxy : (0 ≤ xI ∧ xI < 9) ∧ 0 ≤ yI ∧ yI < 9) : Met l yX9_quarter (Cond.code yX9_quarter cX9_quarter 3 (some .int) :: zT) (zRm 0 0) (zPr G [.ref (mA 0), .int (iV xI), .int (iV yI)] [(mA 0, .inr (9, [.int (iV mLen), .ref (mA 1), .int (iV mSpot), .ref (mA 2), .ref (mA 3), .ref (mA 4), .int (iV mUn), .int (iV mRr), .int (iV mPit), .int (iV mFar), .ref (mA 5), .ref (mA 6), .ref (mA 7), .ref (mA 8), .int (iV mTm), .ref (mA 9), .ref (mA 10), .ref (mA 11)])), (mA 2, .inl (G.2.1, 249, .inl (fun k => iV (nw k))))] sz) (zQr (gQ (nw 0) (nw 1) xI yI) sz) 0 0 (zF sz) := by
  refine Met.ofW (cc := cX9_quarter) (maxL := 3) (ret := (some .int)) (by decide) rfl ?_
  intro p e s m args below meth c s₁ B hml hv
  obtain ⟨rfl, hsz, hP, hK, hSt⟩ := hv
  have hx := B.exec
  have hb := B.bytes
  have hr := B.returns
  have hts : ∀ w ∈ zT, w.before _ s = true := fun w h => atoms_spec (ws := (Cond.code yX9_quarter cX9_quarter 3 (some .int) :: zT)) B.pre w (List.mem_cons_of_mem _ h)
  have hown : s.vm.findClass RX9 = some m.cls := findClass_of_methodNamed B.named
  have hlocks := B.notSynchronized
  subst hsz
  have hA : ∀ q : Nat, s.heap.size ≤ q → zF s.heap.size q := fun _ h => h
  have hS : va_S (zF s.heap.size) s.heap s.heap [] := va_S.rf
  have hP : va_P G.1 vwCl [(mA 0, .inr (9, [.int (iV mLen), .ref (mA 1), .int (iV mSpot), .ref (mA 2), .ref (mA 3), .ref (mA 4), .int (iV mUn), .int (iV mRr), .int (iV mPit), .int (iV mFar), .ref (mA 5), .ref (mA 6), .ref (mA 7), .ref (mA 8), .int (iV mTm), .ref (mA 9), .ref (mA 10), .ref (mA 11)])), (mA 2, .inl (G.2.1, 249, .inl (fun k => iV (nw k))))] s.heap := hP
  have X := And.intro hx (And.intro hb (And.intro hml (And.intro hown (And.intro hts (And.intro hK (And.intro hSt hA))))))
  have hl := lv_entry ([.ref (mA 0), .int (iV xI), .int (iV yI)]) (n := 3) (Nat.le_of_ble_eq_true rfl)
  rw [lg_entry_eq]
  generalize (lg_sl ([.ref (mA 0), .int (iV xI), .int (iV yI)]) ++ List.replicate (3 - (lg_sl ([.ref (mA 0), .int (iV xI), .int (iV yI)])).length) Slot.unset).toArray = ls at hl ⊢
  have hl : lv_has ls 3 [(0, .ref (mA 0)), (1, .int (iV xI)), (2, .int (iV yI))] := hl
  obtain ⟨hG, hWH3, hn88, hnL, hnQ, hn6, hn80⟩ := id hM
  obtain ⟨hW0, hW9, hH0, hH9, hg⟩ := id hG
  refine lv_iload_n hx hb dX9_quarter_0 rfl (lv_at hl 1 rfl) ?_
  refine lv_aload_n hx hb dX9_quarter_1 rfl (lv_at hl 0 rfl) ?_
  refine va_get (D := G.1) (ci := 9) (v := .ref (mA 2)) (C := RX9) (T := TX9) (N := 18) hx hb hts inX9 hown hK hP 0 rfl rfl 3 (by decide) (hts _ wd_761) (fun _ h9 => h9) rfl dX9_quarter_2 ?_
  refine lv_iconst (v := iV 0) hx hb dX9_quarter_5 (by decide) ?_
  refine z_iald (G := G) (f := nw) hx hb hK hP 1 rfl (by omega) (by omega) (by decide) dX9_quarter_6 ?_
  refine z_eq (z := (nw 0)) (by rfl) ?_
  refine lv_iconst (v := iV 2) hx hb dX9_quarter_7 (by decide) ?_
  refine z_idiv hx hb (by omega) (by omega) dX9_quarter_8 ?_
  refine z_icmp_ge (tgt := 16) hx hb (by omega) (by omega) dX9_quarter_9 (by decide) (fun c_1 => ?_) (fun c_1 => ?_)
  · refine lv_iconst (v := iV 1) hx hb dX9_quarter_16 (by decide) ?_
    refine lv_iload_n hx hb dX9_quarter_17 rfl (lv_at hl 2 rfl) ?_
    refine lv_aload_n hx hb dX9_quarter_18 rfl (lv_at hl 0 rfl) ?_
    refine va_get (D := G.1) (ci := 9) (v := .ref (mA 2)) (C := RX9) (T := TX9) (N := 18) hx hb hts inX9 hown hK hP 0 rfl rfl 3 (by decide) (hts _ wd_761) (fun _ h9 => h9) rfl dX9_quarter_19 ?_
    refine lv_iconst (v := iV 1) hx hb dX9_quarter_22 (by decide) ?_
    refine z_iald (G := G) (f := nw) hx hb hK hP 1 rfl (by omega) (by omega) (by decide) dX9_quarter_23 ?_
    refine z_eq (z := (nw 1)) (by rfl) ?_
    refine lv_iconst (v := iV 2) hx hb dX9_quarter_24 (by decide) ?_
    refine z_idiv hx hb (by omega) (by omega) dX9_quarter_25 ?_
    refine z_icmp_ge (tgt := 33) hx hb (by omega) (by omega) dX9_quarter_26 (by decide) (fun c_2 => ?_) (fun c_2 => ?_)
    · refine lv_iconst (v := iV 2) hx hb dX9_quarter_33 (by decide) ?_
      refine z_iadd hx hb dX9_quarter_34 ?_
      refine z_eq (z := (gQ (nw 0) (nw 1) xI yI)) (by unfold gQ; split <;> split <;> omega) ?_
      exact z_ret hx hb hr hlocks hS dX9_quarter_35
    · refine lv_iconst (v := iV 0) hx hb dX9_quarter_29 (by decide) ?_
      refine lv_goto (tgt := 34) hx hb dX9_quarter_30 (by decide) ?_
      refine z_iadd hx hb dX9_quarter_34 ?_
      refine z_eq (z := (gQ (nw 0) (nw 1) xI yI)) (by unfold gQ; split <;> split <;> omega) ?_
      exact z_ret hx hb hr hlocks hS dX9_quarter_35
  · refine lv_iconst (v := iV 0) hx hb dX9_quarter_12 (by decide) ?_
    refine lv_goto (tgt := 17) hx hb dX9_quarter_13 (by decide) ?_
    refine lv_iload_n hx hb dX9_quarter_17 rfl (lv_at hl 2 rfl) ?_
    refine lv_aload_n hx hb dX9_quarter_18 rfl (lv_at hl 0 rfl) ?_
    refine va_get (D := G.1) (ci := 9) (v := .ref (mA 2)) (C := RX9) (T := TX9) (N := 18) hx hb hts inX9 hown hK hP 0 rfl rfl 3 (by decide) (hts _ wd_761) (fun _ h9 => h9) rfl dX9_quarter_19 ?_
    refine lv_iconst (v := iV 1) hx hb dX9_quarter_22 (by decide) ?_
    refine z_iald (G := G) (f := nw) hx hb hK hP 1 rfl (by omega) (by omega) (by decide) dX9_quarter_23 ?_
    refine z_eq (z := (nw 1)) (by rfl) ?_
    refine lv_iconst (v := iV 2) hx hb dX9_quarter_24 (by decide) ?_
    refine z_idiv hx hb (by omega) (by omega) dX9_quarter_25 ?_
    refine z_icmp_ge (tgt := 33) hx hb (by omega) (by omega) dX9_quarter_26 (by decide) (fun c_3 => ?_) (fun c_3 => ?_)
    · refine lv_iconst (v := iV 2) hx hb dX9_quarter_33 (by decide) ?_
      refine z_iadd hx hb dX9_quarter_34 ?_
      refine z_eq (z := (gQ (nw 0) (nw 1) xI yI)) (by unfold gQ; split <;> split <;> omega) ?_
      exact z_ret hx hb hr hlocks hS dX9_quarter_35
    · refine lv_iconst (v := iV 0) hx hb dX9_quarter_29 (by decide) ?_
      refine lv_goto (tgt := 34) hx hb dX9_quarter_30 (by decide) ?_
      refine z_iadd hx hb dX9_quarter_34 ?_
      refine z_eq (z := (gQ (nw 0) (nw 1) xI yI)) (by unfold gQ; split <;> split <;> omega) ?_
      exact z_ret hx hb hr hlocks hS dX9_quarter_35

set_option maxHeartbeats 4000000 in
set_option maxRecDepth 100000 in
theorem c_X9_toneBy (l : Launch) (G : zG) (sz : Nat) (mA : Nat → Nat) (mLen : Int) (mSpot : Int) (mUn : Int) (mRr : Int) (mPit : Int) (mFar : Int) (mTm : Int) (nw : Nat → Int) (xI : Int) (yI : Int) (dI : Int) (hM : mOK nw) (hxy : (0 ≤ xI ∧ xI < 9) ∧ 0 ≤ yI ∧ yI < 9) (hd : 0 ≤ dI ∧ dI < 8) : Met l yX9_toneBy (Cond.code yX9_toneBy cX9_toneBy 5 (some .int) :: zT) (zRm 4 96) (zPr G [.ref (mA 0), .int (iV xI), .int (iV yI), .int (iV dI)] [(mA 0, .inr (9, [.int (iV mLen), .ref (mA 1), .int (iV mSpot), .ref (mA 2), .ref (mA 3), .ref (mA 4), .int (iV mUn), .int (iV mRr), .int (iV mPit), .int (iV mFar), .ref (mA 5), .ref (mA 6), .ref (mA 7), .ref (mA 8), .int (iV mTm), .ref (mA 9), .ref (mA 10), .ref (mA 11)])), (mA 2, .inl (G.2.1, 249, .inl (fun k => iV (nw k))))] sz) (zQr (gTone (nw 0) (nw 1) (nG nw) xI yI dI) sz) 0 0 (zF sz) := by
  refine Met.ofW (cc := cX9_toneBy) (maxL := 5) (ret := (some .int)) (by decide) rfl ?_
  intro p e s m args below meth c s₁ B hml hv
  obtain ⟨rfl, hsz, hP, hK, hSt⟩ := hv
  have hx := B.exec
  have hb := B.bytes
  have hr := B.returns
  have hts : ∀ w ∈ zT, w.before _ s = true := fun w h => atoms_spec (ws := (Cond.code yX9_toneBy cX9_toneBy 5 (some .int) :: zT)) B.pre w (List.mem_cons_of_mem _ h)
  have hown : s.vm.findClass RX9 = some m.cls := findClass_of_methodNamed B.named
  have hlocks := B.notSynchronized
  subst hsz
  have hA : ∀ q : Nat, s.heap.size ≤ q → zF s.heap.size q := fun _ h => h
  have hS : va_S (zF s.heap.size) s.heap s.heap [] := va_S.rf
  have hP : va_P G.1 vwCl [(mA 0, .inr (9, [.int (iV mLen), .ref (mA 1), .int (iV mSpot), .ref (mA 2), .ref (mA 3), .ref (mA 4), .int (iV mUn), .int (iV mRr), .int (iV mPit), .int (iV mFar), .ref (mA 5), .ref (mA 6), .ref (mA 7), .ref (mA 8), .int (iV mTm), .ref (mA 9), .ref (mA 10), .ref (mA 11)])), (mA 2, .inl (G.2.1, 249, .inl (fun k => iV (nw k))))] s.heap := hP
  have X := And.intro hx (And.intro hb (And.intro hml (And.intro hown (And.intro hts (And.intro hK (And.intro hSt hA))))))
  have hl := lv_entry ([.ref (mA 0), .int (iV xI), .int (iV yI), .int (iV dI)]) (n := 5) (Nat.le_of_ble_eq_true rfl)
  rw [lg_entry_eq]
  generalize (lg_sl ([.ref (mA 0), .int (iV xI), .int (iV yI), .int (iV dI)]) ++ List.replicate (5 - (lg_sl ([.ref (mA 0), .int (iV xI), .int (iV yI), .int (iV dI)])).length) Slot.unset).toArray = ls at hl ⊢
  have hl : lv_has ls 5 [(0, .ref (mA 0)), (1, .int (iV xI)), (2, .int (iV yI)), (3, .int (iV dI))] := hl
  obtain ⟨hG, hWH3, hn88, hnL, hnQ, hn6, hn80⟩ := id hM
  obtain ⟨hW0, hW9, hH0, hH9, hg⟩ := id hG
  refine lv_iload_n hx hb dX9_toneBy_0 rfl (lv_at hl 3 rfl) ?_
  refine z_callS X hP hS hl.1 (c_X9_right l G _ dI (by first | assumption | omega)) wd_903 kX9_right ⟨rfl, rfl, Nat.le_of_ble_eq_true rfl, Nat.le_of_ble_eq_true rfl⟩ [] rfl rfl rfl (Nat.le_of_ble_eq_true rfl) dX9_toneBy_1 ⟨Nat.zero_le _, Nat.zero_le _⟩ (fun H locs hP hS => ?_)
  have f_1 := zR_r dI.toNat
  refine z_ineg hx hb dX9_toneBy_4 ?_
  refine lv_aload_n hx hb dX9_toneBy_5 rfl (lv_at hl 0 rfl) ?_
  refine lv_iload_n hx hb dX9_toneBy_6 rfl (lv_at hl 1 rfl) ?_
  refine lv_iload_n hx hb dX9_toneBy_7 rfl (lv_at hl 2 rfl) ?_
  refine z_callV X hP hS hl.1 (c_X9_east l G _ mA mLen mSpot mUn mRr mPit mFar mTm nw xI yI (by first | assumption | omega) (by first | assumption | omega)) wd_895 kX9_east ⟨rfl, rfl, Nat.le_of_ble_eq_true rfl, Nat.le_of_ble_eq_true rfl⟩ [0, 1] rfl 0 rfl rfl rfl rfl (Nat.le_of_ble_eq_true rfl) dX9_toneBy_8 ⟨Nat.zero_le _, Nat.zero_le _⟩ (fun H locs hP hS => ?_)
  have f_2 := gEast_r (id hM).1 xI yI
  refine z_imul hx hb dX9_toneBy_11 ?_
  refine lv_iload_n hx hb dX9_toneBy_12 rfl (lv_at hl 3 rfl) ?_
  refine z_callS X hP hS hl.1 (c_X9_below l G _ dI (by first | assumption | omega)) wd_906 kX9_below ⟨rfl, rfl, Nat.le_of_ble_eq_true rfl, Nat.le_of_ble_eq_true rfl⟩ [] rfl rfl rfl (Nat.le_of_ble_eq_true rfl) dX9_toneBy_13 ⟨Nat.zero_le _, Nat.zero_le _⟩ (fun H locs hP hS => ?_)
  have f_3 := zB_r dI.toNat
  refine lv_aload_n hx hb dX9_toneBy_16 rfl (lv_at hl 0 rfl) ?_
  refine lv_iload_n hx hb dX9_toneBy_17 rfl (lv_at hl 1 rfl) ?_
  refine lv_iload_n hx hb dX9_toneBy_18 rfl (lv_at hl 2 rfl) ?_
  refine z_callV X hP hS hl.1 (c_X9_south l G _ mA mLen mSpot mUn mRr mPit mFar mTm nw xI yI (by first | assumption | omega) (by first | assumption | omega)) wd_909 kX9_south ⟨rfl, rfl, Nat.le_of_ble_eq_true rfl, Nat.le_of_ble_eq_true rfl⟩ [0, 1] rfl 0 rfl rfl rfl rfl (Nat.le_of_ble_eq_true rfl) dX9_toneBy_19 ⟨Nat.zero_le _, Nat.zero_le _⟩ (fun H locs hP hS => ?_)
  have f_4 := gSouth_r (id hM).1 xI yI
  refine z_imul hx hb dX9_toneBy_22 ?_
  refine z_isub hx hb dX9_toneBy_23 ?_
  refine z_eq (z := (-(zR dI.toNat * gEast (nw 0) (nw 1) (nG nw) xI yI + zB dI.toNat * gSouth (nw 0) (nw 1) (nG nw) xI yI))) (by rw [Int.neg_mul]; omega) ?_
  have ht0 := gT0_r hG xI yI dI.toNat
  refine lv_istore (lv' := [(4, .int (iV (-(zR dI.toNat * gEast (nw 0) (nw 1) (nG nw) xI yI + zB dI.toNat * gSouth (nw 0) (nw 1) (nG nw) xI yI)))), (0, .ref (mA 0)), (1, .int (iV xI)), (2, .int (iV yI)), (3, .int (iV dI))]) hx hb dX9_toneBy_24 hl (by decide) rfl (fun ls hl => ?_)
  refine lv_aload_n hx hb dX9_toneBy_26 rfl (lv_at hl 1 rfl) ?_
  refine lv_iload_n hx hb dX9_toneBy_27 rfl (lv_at hl 2 rfl) ?_
  refine lv_iload_n hx hb dX9_toneBy_28 rfl (lv_at hl 3 rfl) ?_
  refine lv_iconst (v := iV 1) hx hb dX9_toneBy_29 (by decide) ?_
  refine z_callV X hP hS hl.1 (c_X9_isCrest l G _ mA mLen mSpot mUn mRr mPit mFar mTm nw xI yI 1 (by first | assumption | omega) (by first | assumption | omega) (by first | assumption | omega)) wd_921 kX9_isCrest ⟨rfl, rfl, Nat.le_of_ble_eq_true rfl, Nat.le_of_ble_eq_true rfl⟩ [0, 1] rfl 0 rfl rfl rfl rfl (Nat.le_of_ble_eq_true rfl) dX9_toneBy_30 ⟨Nat.zero_le _, Nat.zero_le _⟩ (fun H locs hP hS => ?_)
  refine z_ifb_eq (tgt := 46) hx hb dX9_toneBy_33 (by decide) (fun c_5 => ?_) (fun c_5 => ?_)
  · refine lv_iload hx hb dX9_toneBy_46 (lv_at hl 0 rfl) ?_
    refine lv_istore (lv' := [(4, .int (iV (-(zR dI.toNat * gEast (nw 0) (nw 1) (nG nw) xI yI + zB dI.toNat * gSouth (nw 0) (nw 1) (nG nw) xI yI)))), (0, .ref (mA 0)), (1, .int (iV xI)), (2, .int (iV yI)), (3, .int (iV dI))]) hx hb dX9_toneBy_48 hl (by decide) rfl (fun ls hl => ?_)
    refine lv_aload_n hx hb dX9_toneBy_50 rfl (lv_at hl 1 rfl) ?_
    refine lv_iload_n hx hb dX9_toneBy_51 rfl (lv_at hl 2 rfl) ?_
    refine lv_iload_n hx hb dX9_toneBy_52 rfl (lv_at hl 3 rfl) ?_
    refine lv_iconst (v := iV (-1)) hx hb dX9_toneBy_53 (by decide) ?_
    refine z_callV X hP hS hl.1 (c_X9_isCrest l G _ mA mLen mSpot mUn mRr mPit mFar mTm nw xI yI (-1) (by first | assumption | omega) (by first | assumption | omega) (by first | assumption | omega)) wd_921 kX9_isCrest ⟨rfl, rfl, Nat.le_of_ble_eq_true rfl, Nat.le_of_ble_eq_true rfl⟩ [0, 1] rfl 0 rfl rfl rfl rfl (Nat.le_of_ble_eq_true rfl) dX9_toneBy_54 ⟨Nat.zero_le _, Nat.zero_le _⟩ (fun H locs hP hS => ?_)
    refine z_ifb_eq (tgt := 72) hx hb dX9_toneBy_57 (by decide) (fun c_6 => ?_) (fun c_6 => ?_)
    · refine lv_iload hx hb dX9_toneBy_72 (lv_at hl 0 rfl) ?_
      refine z_eq (z := (gTone (nw 0) (nw 1) (nG nw) xI yI dI)) (by first | (rw [gTone_tt (by assumption) (by assumption)]; omega) | (rw [gTone_tf (by assumption) (by assumption)]; omega) | (rw [gTone_ft (by assumption) (by assumption)]; omega) | (rw [gTone_ff (by assumption) (by assumption)])) ?_
      exact z_ret hx hb hr hlocks hS dX9_toneBy_74
    · refine lv_iload hx hb dX9_toneBy_60 (lv_at hl 0 rfl) ?_
      refine lv_bipush (v := iV (-4)) hx hb dX9_toneBy_62 (by decide) ?_
      refine z_icmp_le (tgt := 72) hx hb (by omega) ⟨by decide, by decide⟩ dX9_toneBy_64 (by decide) (fun c_7 => ?_) (fun c_7 => ?_)
      · refine lv_iload hx hb dX9_toneBy_72 (lv_at hl 0 rfl) ?_
        refine z_eq (z := (gTone (nw 0) (nw 1) (nG nw) xI yI dI)) (by first | (rw [gTone_tt (by assumption) (by assumption)]; omega) | (rw [gTone_tf (by assumption) (by assumption)]; omega) | (rw [gTone_ft (by assumption) (by assumption)]; omega) | (rw [gTone_ff (by assumption) (by assumption)])) ?_
        exact z_ret hx hb hr hlocks hS dX9_toneBy_74
      · refine lv_bipush (v := iV (-4)) hx hb dX9_toneBy_67 (by decide) ?_
        refine lv_goto (tgt := 74) hx hb dX9_toneBy_69 (by decide) ?_
        refine z_eq (z := (gTone (nw 0) (nw 1) (nG nw) xI yI dI)) (by first | (rw [gTone_tt (by assumption) (by assumption)]; omega) | (rw [gTone_tf (by assumption) (by assumption)]; omega) | (rw [gTone_ft (by assumption) (by assumption)]; omega) | (rw [gTone_ff (by assumption) (by assumption)])) ?_
        exact z_ret hx hb hr hlocks hS dX9_toneBy_74
  · refine lv_iload hx hb dX9_toneBy_36 (lv_at hl 0 rfl) ?_
    refine lv_iconst (v := iV 4) hx hb dX9_toneBy_38 (by decide) ?_
    refine z_icmp_ge (tgt := 46) hx hb (by omega) ⟨by decide, by decide⟩ dX9_toneBy_39 (by decide) (fun c_8 => ?_) (fun c_8 => ?_)
    · refine lv_iload hx hb dX9_toneBy_46 (lv_at hl 0 rfl) ?_
      refine lv_istore (lv' := [(4, .int (iV (-(zR dI.toNat * gEast (nw 0) (nw 1) (nG nw) xI yI + zB dI.toNat * gSouth (nw 0) (nw 1) (nG nw) xI yI)))), (0, .ref (mA 0)), (1, .int (iV xI)), (2, .int (iV yI)), (3, .int (iV dI))]) hx hb dX9_toneBy_48 hl (by decide) rfl (fun ls hl => ?_)
      refine lv_aload_n hx hb dX9_toneBy_50 rfl (lv_at hl 1 rfl) ?_
      refine lv_iload_n hx hb dX9_toneBy_51 rfl (lv_at hl 2 rfl) ?_
      refine lv_iload_n hx hb dX9_toneBy_52 rfl (lv_at hl 3 rfl) ?_
      refine lv_iconst (v := iV (-1)) hx hb dX9_toneBy_53 (by decide) ?_
      refine z_callV X hP hS hl.1 (c_X9_isCrest l G _ mA mLen mSpot mUn mRr mPit mFar mTm nw xI yI (-1) (by first | assumption | omega) (by first | assumption | omega) (by first | assumption | omega)) wd_921 kX9_isCrest ⟨rfl, rfl, Nat.le_of_ble_eq_true rfl, Nat.le_of_ble_eq_true rfl⟩ [0, 1] rfl 0 rfl rfl rfl rfl (Nat.le_of_ble_eq_true rfl) dX9_toneBy_54 ⟨Nat.zero_le _, Nat.zero_le _⟩ (fun H locs hP hS => ?_)
      refine z_ifb_eq (tgt := 72) hx hb dX9_toneBy_57 (by decide) (fun c_9 => ?_) (fun c_9 => ?_)
      · refine lv_iload hx hb dX9_toneBy_72 (lv_at hl 0 rfl) ?_
        refine z_eq (z := (gTone (nw 0) (nw 1) (nG nw) xI yI dI)) (by first | (rw [gTone_tt (by assumption) (by assumption)]; omega) | (rw [gTone_tf (by assumption) (by assumption)]; omega) | (rw [gTone_ft (by assumption) (by assumption)]; omega) | (rw [gTone_ff (by assumption) (by assumption)])) ?_
        exact z_ret hx hb hr hlocks hS dX9_toneBy_74
      · refine lv_iload hx hb dX9_toneBy_60 (lv_at hl 0 rfl) ?_
        refine lv_bipush (v := iV (-4)) hx hb dX9_toneBy_62 (by decide) ?_
        refine z_icmp_le (tgt := 72) hx hb (by omega) ⟨by decide, by decide⟩ dX9_toneBy_64 (by decide) (fun c_10 => ?_) (fun c_10 => ?_)
        · refine lv_iload hx hb dX9_toneBy_72 (lv_at hl 0 rfl) ?_
          refine z_eq (z := (gTone (nw 0) (nw 1) (nG nw) xI yI dI)) (by first | (rw [gTone_tt (by assumption) (by assumption)]; omega) | (rw [gTone_tf (by assumption) (by assumption)]; omega) | (rw [gTone_ft (by assumption) (by assumption)]; omega) | (rw [gTone_ff (by assumption) (by assumption)])) ?_
          exact z_ret hx hb hr hlocks hS dX9_toneBy_74
        · refine lv_bipush (v := iV (-4)) hx hb dX9_toneBy_67 (by decide) ?_
          refine lv_goto (tgt := 74) hx hb dX9_toneBy_69 (by decide) ?_
          refine z_eq (z := (gTone (nw 0) (nw 1) (nG nw) xI yI dI)) (by first | (rw [gTone_tt (by assumption) (by assumption)]; omega) | (rw [gTone_tf (by assumption) (by assumption)]; omega) | (rw [gTone_ft (by assumption) (by assumption)]; omega) | (rw [gTone_ff (by assumption) (by assumption)])) ?_
          exact z_ret hx hb hr hlocks hS dX9_toneBy_74
    · refine lv_iconst (v := iV 4) hx hb dX9_toneBy_42 (by decide) ?_
      refine lv_goto (tgt := 48) hx hb dX9_toneBy_43 (by decide) ?_
      refine lv_istore (lv' := [(4, .int (iV 4)), (0, .ref (mA 0)), (1, .int (iV xI)), (2, .int (iV yI)), (3, .int (iV dI))]) hx hb dX9_toneBy_48 hl (by decide) rfl (fun ls hl => ?_)
      refine lv_aload_n hx hb dX9_toneBy_50 rfl (lv_at hl 1 rfl) ?_
      refine lv_iload_n hx hb dX9_toneBy_51 rfl (lv_at hl 2 rfl) ?_
      refine lv_iload_n hx hb dX9_toneBy_52 rfl (lv_at hl 3 rfl) ?_
      refine lv_iconst (v := iV (-1)) hx hb dX9_toneBy_53 (by decide) ?_
      refine z_callV X hP hS hl.1 (c_X9_isCrest l G _ mA mLen mSpot mUn mRr mPit mFar mTm nw xI yI (-1) (by first | assumption | omega) (by first | assumption | omega) (by first | assumption | omega)) wd_921 kX9_isCrest ⟨rfl, rfl, Nat.le_of_ble_eq_true rfl, Nat.le_of_ble_eq_true rfl⟩ [0, 1] rfl 0 rfl rfl rfl rfl (Nat.le_of_ble_eq_true rfl) dX9_toneBy_54 ⟨Nat.zero_le _, Nat.zero_le _⟩ (fun H locs hP hS => ?_)
      refine z_ifb_eq (tgt := 72) hx hb dX9_toneBy_57 (by decide) (fun c_11 => ?_) (fun c_11 => ?_)
      · refine lv_iload hx hb dX9_toneBy_72 (lv_at hl 0 rfl) ?_
        refine z_eq (z := (gTone (nw 0) (nw 1) (nG nw) xI yI dI)) (by first | (rw [gTone_tt (by assumption) (by assumption)]; omega) | (rw [gTone_tf (by assumption) (by assumption)]; omega) | (rw [gTone_ft (by assumption) (by assumption)]; omega) | (rw [gTone_ff (by assumption) (by assumption)])) ?_
        exact z_ret hx hb hr hlocks hS dX9_toneBy_74
      · refine lv_iload hx hb dX9_toneBy_60 (lv_at hl 0 rfl) ?_
        refine lv_bipush (v := iV (-4)) hx hb dX9_toneBy_62 (by decide) ?_
        refine z_icmp_le (tgt := 72) hx hb ⟨by decide, by decide⟩ ⟨by decide, by decide⟩ dX9_toneBy_64 (by decide) (fun c_12 => ?_) (fun c_12 => ?_)
        · refine lv_iload hx hb dX9_toneBy_72 (lv_at hl 0 rfl) ?_
          refine z_eq (z := (gTone (nw 0) (nw 1) (nG nw) xI yI dI)) (by first | (rw [gTone_tt (by assumption) (by assumption)]; omega) | (rw [gTone_tf (by assumption) (by assumption)]; omega) | (rw [gTone_ft (by assumption) (by assumption)]; omega) | (rw [gTone_ff (by assumption) (by assumption)])) ?_
          exact z_ret hx hb hr hlocks hS dX9_toneBy_74
        · refine lv_bipush (v := iV (-4)) hx hb dX9_toneBy_67 (by decide) ?_
          refine lv_goto (tgt := 74) hx hb dX9_toneBy_69 (by decide) ?_
          refine z_eq (z := (gTone (nw 0) (nw 1) (nG nw) xI yI dI)) (by first | (rw [gTone_tt (by assumption) (by assumption)]; omega) | (rw [gTone_tf (by assumption) (by assumption)]; omega) | (rw [gTone_ft (by assumption) (by assumption)]; omega) | (rw [gTone_ff (by assumption) (by assumption)])) ?_
          exact z_ret hx hb hr hlocks hS dX9_toneBy_74

set_option maxHeartbeats 4000000 in
set_option maxRecDepth 100000 in
theorem c_X9_tone (l : Launch) (G : zG) (sz : Nat) (mA : Nat → Nat) (mLen : Int) (mSpot : Int) (mUn : Int) (mRr : Int) (mPit : Int) (mFar : Int) (mTm : Int) (nw : Nat → Int) (xI : Int) (yI : Int) (hM : mOK nw) (hxy : (0 ≤ xI ∧ xI < 9) ∧ 0 ≤ yI ∧ yI < 9) : Met l yX9_tone (Cond.code yX9_tone cX9_tone 3 (some .int) :: zT) (zRm 5 120) (zPr G [.ref (mA 0), .int (iV xI), .int (iV yI)] [(mA 0, .inr (9, [.int (iV mLen), .ref (mA 1), .int (iV mSpot), .ref (mA 2), .ref (mA 3), .ref (mA 4), .int (iV mUn), .int (iV mRr), .int (iV mPit), .int (iV mFar), .ref (mA 5), .ref (mA 6), .ref (mA 7), .ref (mA 8), .int (iV mTm), .ref (mA 9), .ref (mA 10), .ref (mA 11)])), (mA 2, .inl (G.2.1, 249, .inl (fun k => iV (nw k))))] sz) (zQr (gTone (nw 0) (nw 1) (nG nw) xI yI (nQ nw (gQ (nw 0) (nw 1) xI yI).toNat)) sz) 0 0 (zF sz) := by
  refine Met.ofW (cc := cX9_tone) (maxL := 3) (ret := (some .int)) (by decide) rfl ?_
  intro p e s m args below meth c s₁ B hml hv
  obtain ⟨rfl, hsz, hP, hK, hSt⟩ := hv
  have hx := B.exec
  have hb := B.bytes
  have hr := B.returns
  have hts : ∀ w ∈ zT, w.before _ s = true := fun w h => atoms_spec (ws := (Cond.code yX9_tone cX9_tone 3 (some .int) :: zT)) B.pre w (List.mem_cons_of_mem _ h)
  have hown : s.vm.findClass RX9 = some m.cls := findClass_of_methodNamed B.named
  have hlocks := B.notSynchronized
  subst hsz
  have hA : ∀ q : Nat, s.heap.size ≤ q → zF s.heap.size q := fun _ h => h
  have hS : va_S (zF s.heap.size) s.heap s.heap [] := va_S.rf
  have hP : va_P G.1 vwCl [(mA 0, .inr (9, [.int (iV mLen), .ref (mA 1), .int (iV mSpot), .ref (mA 2), .ref (mA 3), .ref (mA 4), .int (iV mUn), .int (iV mRr), .int (iV mPit), .int (iV mFar), .ref (mA 5), .ref (mA 6), .ref (mA 7), .ref (mA 8), .int (iV mTm), .ref (mA 9), .ref (mA 10), .ref (mA 11)])), (mA 2, .inl (G.2.1, 249, .inl (fun k => iV (nw k))))] s.heap := hP
  have X := And.intro hx (And.intro hb (And.intro hml (And.intro hown (And.intro hts (And.intro hK (And.intro hSt hA))))))
  have hl := lv_entry ([.ref (mA 0), .int (iV xI), .int (iV yI)]) (n := 3) (Nat.le_of_ble_eq_true rfl)
  rw [lg_entry_eq]
  generalize (lg_sl ([.ref (mA 0), .int (iV xI), .int (iV yI)]) ++ List.replicate (3 - (lg_sl ([.ref (mA 0), .int (iV xI), .int (iV yI)])).length) Slot.unset).toArray = ls at hl ⊢
  have hl : lv_has ls 3 [(0, .ref (mA 0)), (1, .int (iV xI)), (2, .int (iV yI))] := hl
  obtain ⟨hG, hWH3, hn88, hnL, hnQ, hn6, hn80⟩ := id hM
  obtain ⟨hW0, hW9, hH0, hH9, hg⟩ := id hG
  refine lv_aload_n hx hb dX9_tone_0 rfl (lv_at hl 0 rfl) ?_
  refine lv_iload_n hx hb dX9_tone_1 rfl (lv_at hl 1 rfl) ?_
  refine lv_iload_n hx hb dX9_tone_2 rfl (lv_at hl 2 rfl) ?_
  refine lv_aload_n hx hb dX9_tone_3 rfl (lv_at hl 0 rfl) ?_
  refine va_get (D := G.1) (ci := 9) (v := .ref (mA 2)) (C := RX9) (T := TX9) (N := 18) hx hb hts inX9 hown hK hP 0 rfl rfl 3 (by decide) (hts _ wd_761) (fun _ h9 => h9) rfl dX9_tone_4 ?_
  refine lv_iconst (v := iV 2) hx hb dX9_tone_7 (by decide) ?_
  refine lv_aload_n hx hb dX9_tone_8 rfl (lv_at hl 0 rfl) ?_
  refine lv_iload_n hx hb dX9_tone_9 rfl (lv_at hl 1 rfl) ?_
  refine lv_iload_n hx hb dX9_tone_10 rfl (lv_at hl 2 rfl) ?_
  refine z_callV X hP hS hl.1 (c_X9_quarter l G _ mA mLen mSpot mUn mRr mPit mFar mTm nw xI yI (by first | assumption | omega) (by first | assumption | omega)) wd_925 kX9_quarter ⟨rfl, rfl, Nat.le_of_ble_eq_true rfl, Nat.le_of_ble_eq_true rfl⟩ [0, 1] rfl 0 rfl rfl rfl rfl (Nat.le_of_ble_eq_true rfl) dX9_tone_11 ⟨Nat.zero_le _, Nat.zero_le _⟩ (fun H locs hP hS => ?_)
  have f_1 := gQ_r (nw 0) (nw 1) xI yI
  refine z_iadd hx hb dX9_tone_14 ?_
  refine z_iald (G := G) (f := nw) hx hb hK hP 1 rfl (by omega) (by omega) (by decide) dX9_tone_15 ?_
  refine z_eq (z := (nQ nw (gQ (nw 0) (nw 1) xI yI).toNat)) (by exact nQ_at (gQ_r (nw 0) (nw 1) xI yI)) ?_
  have hnq := hnQ (gQ (nw 0) (nw 1) xI yI).toNat
  refine z_callV X hP hS hl.1 (c_X9_toneBy l G _ mA mLen mSpot mUn mRr mPit mFar mTm nw xI yI (nQ nw (gQ (nw 0) (nw 1) xI yI).toNat) (by first | assumption | omega) (by first | assumption | omega) (by first | assumption | omega)) wd_933 kX9_toneBy ⟨rfl, rfl, Nat.le_of_ble_eq_true rfl, Nat.le_of_ble_eq_true rfl⟩ [0, 1] rfl 0 rfl rfl rfl rfl (Nat.le_of_ble_eq_true rfl) dX9_tone_16 ⟨Nat.zero_le _, Nat.zero_le _⟩ (fun H locs hP hS => ?_)
  have f_2 := gTone_r (id hM).1 xI yI (nQ nw (gQ (nw 0) (nw 1) xI yI).toNat)
  exact z_ret hx hb hr hlocks hS dX9_tone_19
