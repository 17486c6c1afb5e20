theorem kX7_has : zM RX7 yX7_has cX7_has 2 (some .boolean) 1 := ⟨wd_409, wd_410, wd_4, wd_411, rfl, by decide +kernel⟩
theorem kX7_cellAt : zM RX7 yX7_cellAt cX7_cellAt 3 (some .int) 2 := ⟨wd_405, wd_406, wd_4, wd_407, rfl, by decide +kernel⟩
theorem kX7_isNear : zM RX7 yX7_isNear cX7_isNear 5 (some .boolean) 2 := ⟨wd_402, ws_6, wd_4, wd_403, rfl, by decide +kernel⟩
theorem kX7_isKeptOff : zM RX7 yX7_isKeptOff cX7_isKeptOff 3 (some .boolean) 1 := ⟨wd_677, wd_678, wd_4, wd_679, rfl, by decide +kernel⟩
theorem kX7_ownerOf : zM RX7 yX7_ownerOf cX7_ownerOf 4 (some .int) 1 := ⟨wd_721, wd_722, wd_4, wd_723, rfl, by decide +kernel⟩
theorem kX7_cellsInAll : zM RX7 yX7_cellsInAll cX7_cellsInAll 3 (some .int) 0 := ⟨wd_729, wd_730, wd_4, wd_731, rfl, by decide +kernel⟩
theorem kX7_endBefore : zM RX7 yX7_endBefore cX7_endBefore 3 (some .int) 2 := ⟨wd_691, ws_18, wd_4, wd_692, rfl, by decide +kernel⟩
theorem kX7_clear : zM RX7 yX7_clear cX7_clear 1 none 0 := ⟨wd_271, wd_272, wd_4, wd_273, rfl, by decide +kernel⟩
theorem kX7_copyStroke : zM RX7 yX7_copyStroke cX7_copyStroke 4 none 3 := ⟨wd_364, ws_5, wd_4, wd_365, rfl, by decide +kernel⟩
theorem kX7_copyFrom : zM RX7 yX7_copyFrom cX7_copyFrom 3 none 1 := ⟨wd_359, wd_360, wd_4, wd_361, rfl, by decide +kernel⟩
theorem kX7_remove : zM RX7 yX7_remove cX7_remove 3 none 1 := ⟨wd_416, wd_417, wd_4, wd_418, rfl, by decide +kernel⟩
theorem kX7_removeNear : zM RX7 yX7_removeNear cX7_removeNear 3 none 1 := ⟨wd_397, wd_398, wd_4, wd_399, rfl, by decide +kernel⟩
theorem kX7_add : zM RX7 yX7_add cX7_add 6 none 2 := ⟨wd_685, wd_686, wd_4, wd_687, rfl, by decide +kernel⟩
set_option maxHeartbeats 4000000 in
set_option maxRecDepth 100000 in
theorem c_X7_has (l : Launch) (G : zG) (sz : Nat) (s0 : Nat) (sl : Nat) (se : Nat) (sc : Nat) (sn : Int) (lF : Nat → Int) (eF : Nat → Int) (cF : Nat → Int) (sI : Int) (hO : sOK sn lF cF) (hs : iR sI) : Met l yX7_has (Cond.code yX7_has cX7_has 2 (some .boolean) :: zT) (zRm 0 0) (zPr G [.ref s0, .int (iV sI)] [(s0, .inr (7, [.int (iV sn), .ref sl, .ref se, .ref sc])), (sl, .inl (G.2.1, 20, .inl (fun k => iV (lF k)))), (se, .inl (G.2.1, 20, .inl (fun k => iV (eF k)))), (sc, .inl (G.2.1, 120, .inl (fun k => iV (cF k))))] sz) (zQr (bP (0 ≤ sI ∧ sI < sn)) sz) 0 0 (zF sz) := by
  refine Met.ofW (cc := cX7_has) (maxL := 2) (ret := (some .boolean)) (by decide) rfl ?_
  intro p e s m args below meth c s₁ B hml hv
  obtain ⟨rfl, hsz, hP, hK, hSt⟩ := hv
  have hx := B.exec
  have hb := B.bytes
  have hr := B.returns
  have hts : ∀ w ∈ zT, w.before _ s = true := fun w h => atoms_spec (ws := (Cond.code yX7_has cX7_has 2 (some .boolean) :: zT)) B.pre w (List.mem_cons_of_mem _ h)
  have hown : s.vm.findClass RX7 = some m.cls := findClass_of_methodNamed B.named
  have hlocks := B.notSynchronized
  subst hsz
  have hA : ∀ q : Nat, s.heap.size ≤ q → zF s.heap.size q := fun _ h => h
  have hS : va_S (zF s.heap.size) s.heap s.heap [] := va_S.rf
  have hP : va_P G.1 vwCl [(s0, .inr (7, [.int (iV sn), .ref sl, .ref se, .ref sc])), (sl, .inl (G.2.1, 20, .inl (fun k => iV (lF k)))), (se, .inl (G.2.1, 20, .inl (fun k => iV (eF k)))), (sc, .inl (G.2.1, 120, .inl (fun k => iV (cF k))))] s.heap := hP
  have X := And.intro hx (And.intro hb (And.intro hml (And.intro hown (And.intro hts (And.intro hK (And.intro hSt hA))))))
  have hl := lv_entry ([.ref s0, .int (iV sI)]) (n := 2) (Nat.le_of_ble_eq_true rfl)
  rw [lg_entry_eq]
  generalize (lg_sl ([.ref s0, .int (iV sI)]) ++ List.replicate (2 - (lg_sl ([.ref s0, .int (iV sI)])).length) Slot.unset).toArray = ls at hl ⊢
  have hl : lv_has ls 2 [(0, .ref s0), (1, .int (iV sI))] := hl
  obtain ⟨hn0, hn20, hlF, hcF⟩ := id hO
  refine lv_iload_n hx hb dX7_has_0 rfl (lv_at hl 1 rfl) ?_
  refine z_if_lt (tgt := 16) hx hb (by omega) dX7_has_1 (by decide) (fun c_1 => ?_) (fun c_1 => ?_)
  · refine lv_iconst (v := iV 0) hx hb dX7_has_16 (by decide) ?_
    refine z_eq (z := bP (0 ≤ sI ∧ sI < sn)) (by first | exact (bP_t (by omega)).symm | exact (bP_f (by omega)).symm) ?_
    exact z_retb hx hb hr hlocks hS dX7_has_17
  · refine lv_iload_n hx hb dX7_has_4 rfl (lv_at hl 1 rfl) ?_
    refine lv_aload_n hx hb dX7_has_5 rfl (lv_at hl 0 rfl) ?_
    refine va_get (D := G.1) (ci := 7) (v := .int (iV sn)) (C := RX7) (T := TX7) (N := 4) hx hb hts inX7 hown hK hP 0 rfl rfl 0 (by decide) (hts _ wd_58) (fun _ h9 => h9) rfl dX7_has_6 ?_
    refine z_icmp_ge (tgt := 16) hx hb (by omega) (by omega) dX7_has_9 (by decide) (fun c_2 => ?_) (fun c_2 => ?_)
    · refine lv_iconst (v := iV 0) hx hb dX7_has_16 (by decide) ?_
      refine z_eq (z := bP (0 ≤ sI ∧ sI < sn)) (by first | exact (bP_t (by omega)).symm | exact (bP_f (by omega)).symm) ?_
      exact z_retb hx hb hr hlocks hS dX7_has_17
    · refine lv_iconst (v := iV 1) hx hb dX7_has_12 (by decide) ?_
      refine lv_goto (tgt := 17) hx hb dX7_has_13 (by decide) ?_
      refine z_eq (z := bP (0 ≤ sI ∧ sI < sn)) (by first | exact (bP_t (by omega)).symm | exact (bP_f (by omega)).symm) ?_
      exact z_retb hx hb hr hlocks hS dX7_has_17

set_option maxHeartbeats 4000000 in
set_option maxRecDepth 100000 in
theorem c_X7_cellAt (l : Launch) (G : zG) (sz : Nat) (s0 : Nat) (sl : Nat) (se : Nat) (sc : Nat) (sn : Int) (lF : Nat → Int) (eF : Nat → Int) (cF : Nat → Int) (sI : Int) (kI : Int) (hO : sOK sn lF cF) (hs : 0 ≤ sI ∧ sI < sn) (hk : iR kI) : Met l yX7_cellAt (Cond.code yX7_cellAt cX7_cellAt 3 (some .int) :: zT) (zRm 1 21) (zPr G [.ref s0, .int (iV sI), .int (iV kI)] [(s0, .inr (7, [.int (iV sn), .ref sl, .ref se, .ref sc])), (sl, .inl (G.2.1, 20, .inl (fun k => iV (lF k)))), (se, .inl (G.2.1, 20, .inl (fun k => iV (eF k)))), (sc, .inl (G.2.1, 120, .inl (fun k => iV (cF k))))] sz) (zQr (sAt lF cF sI kI) sz) 0 0 (zF sz) := by
  refine Met.ofW (cc := cX7_cellAt) (maxL := 3) (ret := (some .int)) (by decide) rfl ?_
  intro p e s m args below meth c s₁ B hml hv
  obtain ⟨rfl, hsz, hP, hK, hSt⟩ := hv
  have hx := B.exec
  have hb := B.bytes
  have hr := B.returns
  have hts : ∀ w ∈ zT, w.before _ s = true := fun w h => atoms_spec (ws := (Cond.code yX7_cellAt cX7_cellAt 3 (some .int) :: zT)) B.pre w (List.mem_cons_of_mem _ h)
  have hown : s.vm.findClass RX7 = some m.cls := findClass_of_methodNamed B.named
  have hlocks := B.notSynchronized
  subst hsz
  have hA : ∀ q : Nat, s.heap.size ≤ q → zF s.heap.size q := fun _ h => h
  have hS : va_S (zF s.heap.size) s.heap s.heap [] := va_S.rf
  have hP : va_P G.1 vwCl [(s0, .inr (7, [.int (iV sn), .ref sl, .ref se, .ref sc])), (sl, .inl (G.2.1, 20, .inl (fun k => iV (lF k)))), (se, .inl (G.2.1, 20, .inl (fun k => iV (eF k)))), (sc, .inl (G.2.1, 120, .inl (fun k => iV (cF k))))] s.heap := hP
  have X := And.intro hx (And.intro hb (And.intro hml (And.intro hown (And.intro hts (And.intro hK (And.intro hSt hA))))))
  have hl := lv_entry ([.ref s0, .int (iV sI), .int (iV kI)]) (n := 3) (Nat.le_of_ble_eq_true rfl)
  rw [lg_entry_eq]
  generalize (lg_sl ([.ref s0, .int (iV sI), .int (iV kI)]) ++ List.replicate (3 - (lg_sl ([.ref s0, .int (iV sI), .int (iV kI)])).length) Slot.unset).toArray = ls at hl ⊢
  have hl : lv_has ls 3 [(0, .ref s0), (1, .int (iV sI)), (2, .int (iV kI))] := hl
  obtain ⟨hn0, hn20, hlF, hcF⟩ := id hO
  refine lv_aload_n hx hb dX7_cellAt_0 rfl (lv_at hl 0 rfl) ?_
  refine lv_iload_n hx hb dX7_cellAt_1 rfl (lv_at hl 1 rfl) ?_
  refine z_callV X hP hS hl.1 (c_X7_has l G _ s0 sl se sc sn lF eF cF sI (by first | assumption | omega) (by first | assumption | omega)) wd_408 kX7_has ⟨rfl, rfl, Nat.le_of_ble_eq_true rfl, Nat.le_of_ble_eq_true rfl⟩ [0, 1, 2, 3] rfl 0 rfl rfl rfl rfl (Nat.le_of_ble_eq_true rfl) dX7_cellAt_2 ⟨Nat.zero_le _, Nat.zero_le _⟩ (fun H locs hP hS => ?_)
  refine z_ifb_eq (tgt := 22) hx hb dX7_cellAt_5 (by decide) (fun c_1 => ?_) (fun c_1 => ?_)
  · refine lv_iconst (v := iV (-1)) hx hb dX7_cellAt_22 (by decide) ?_
    refine z_eq (z := sAt lF cF sI kI) (by first | (exfalso; omega) | (unfold sAt; rw [if_pos (by omega)]) | (unfold sAt; rw [if_neg (by omega)])) ?_
    exact z_ret hx hb hr hlocks hS dX7_cellAt_23
  · refine lv_iload_n hx hb dX7_cellAt_8 rfl (lv_at hl 2 rfl) ?_
    refine z_if_lt (tgt := 22) hx hb (by omega) dX7_cellAt_9 (by decide) (fun c_2 => ?_) (fun c_2 => ?_)
    · refine lv_iconst (v := iV (-1)) hx hb dX7_cellAt_22 (by decide) ?_
      refine z_eq (z := sAt lF cF sI kI) (by first | (exfalso; omega) | (unfold sAt; rw [if_pos (by omega)]) | (unfold sAt; rw [if_neg (by omega)])) ?_
      exact z_ret hx hb hr hlocks hS dX7_cellAt_23
    · refine lv_iload_n hx hb dX7_cellAt_12 rfl (lv_at hl 2 rfl) ?_
      refine lv_aload_n hx hb dX7_cellAt_13 rfl (lv_at hl 0 rfl) ?_
      refine va_get (D := G.1) (ci := 7) (v := .ref sl) (C := RX7) (T := TX7) (N := 4) hx hb hts inX7 hown hK hP 0 rfl rfl 1 (by decide) (hts _ wd_60) (fun _ h9 => h9) rfl dX7_cellAt_14 ?_
      refine lv_iload_n hx hb dX7_cellAt_17 rfl (lv_at hl 1 rfl) ?_
      refine z_iald (G := G) (f := lF) hx hb hK hP 1 rfl (by omega) (by omega) (by decide) dX7_cellAt_18 ?_
      have f_3 := hlF sI.toNat
      refine z_icmp_lt (tgt := 24) hx hb (by omega) (by omega) dX7_cellAt_19 (by decide) (fun c_4 => ?_) (fun c_4 => ?_)
      · refine lv_aload_n hx hb dX7_cellAt_24 rfl (lv_at hl 0 rfl) ?_
        refine va_get (D := G.1) (ci := 7) (v := .ref sc) (C := RX7) (T := TX7) (N := 4) hx hb hts inX7 hown hK hP 0 rfl rfl 3 (by decide) (hts _ wd_64) (fun _ h9 => h9) rfl dX7_cellAt_25 ?_
        refine lv_iload_n hx hb dX7_cellAt_28 rfl (lv_at hl 1 rfl) ?_
        refine lv_bipush (v := iV 6) hx hb dX7_cellAt_29 (by decide) ?_
        refine z_imul hx hb dX7_cellAt_31 ?_
        refine lv_iload_n hx hb dX7_cellAt_32 rfl (lv_at hl 2 rfl) ?_
        refine z_iadd hx hb dX7_cellAt_33 ?_
        refine z_iald (G := G) (f := cF) hx hb hK hP 3 rfl (by omega) (by omega) (by decide) dX7_cellAt_34 ?_
        have f_5 := hcF ((sI * 6) + kI).toNat
        refine z_eq (z := sAt lF cF sI kI) (by first | (exfalso; omega) | (unfold sAt; rw [if_pos (by omega)]) | (unfold sAt; rw [if_neg (by omega)])) ?_
        exact z_ret hx hb hr hlocks hS dX7_cellAt_35
      · refine lv_iconst (v := iV (-1)) hx hb dX7_cellAt_22 (by decide) ?_
        refine z_eq (z := sAt lF cF sI kI) (by first | (exfalso; omega) | (unfold sAt; rw [if_pos (by omega)]) | (unfold sAt; rw [if_neg (by omega)])) ?_
        exact z_ret hx hb hr hlocks hS dX7_cellAt_23

set_option maxHeartbeats 4000000 in
set_option maxRecDepth 100000 in
theorem c_X7_isNear (l : Launch) (G : zG) (sz : Nat) (s0 : Nat) (sl : Nat) (se : Nat) (sc : Nat) (sn : Int) (lF : Nat → Int) (eF : Nat → Int) (cF : Nat → Int) (sI : Int) (cI : Int) (hO : sOK sn lF cF) (hs : 0 ≤ sI ∧ sI < sn) (hc : 0 ≤ cI ∧ cI < 81) : Met l yX7_isNear (Cond.code yX7_isNear cX7_isNear 5 (some .boolean) :: zT) (zRm 2 43) (zPr G [.ref s0, .int (iV sI), .int (iV cI)] [(s0, .inr (7, [.int (iV sn), .ref sl, .ref se, .ref sc])), (sl, .inl (G.2.1, 20, .inl (fun k => iV (lF k)))), (se, .inl (G.2.1, 20, .inl (fun k => iV (eF k)))), (sc, .inl (G.2.1, 120, .inl (fun k => iV (cF k))))] sz) (zQr (bP (sNear lF (sT cF) sI.toNat cI)) sz) 0 0 (zF sz) := by
  refine Met.ofW (cc := cX7_isNear) (maxL := 5) (ret := (some .boolean)) (by decide) rfl ?_
  intro p e s m args below meth c s₁ B hml hv
  obtain ⟨rfl, hsz, hP, hK, hSt⟩ := hv
  have hx := B.exec
  have hb := B.bytes
  have hr := B.returns
  have hts : ∀ w ∈ zT, w.before _ s = true := fun w h => atoms_spec (ws := (Cond.code yX7_isNear cX7_isNear 5 (some .boolean) :: zT)) B.pre w (List.mem_cons_of_mem _ h)
  have hown : s.vm.findClass RX7 = some m.cls := findClass_of_methodNamed B.named
  have hlocks := B.notSynchronized
  subst hsz
  have hA : ∀ q : Nat, s.heap.size ≤ q → zF s.heap.size q := fun _ h => h
  have hS : va_S (zF s.heap.size) s.heap s.heap [] := va_S.rf
  have hP : va_P G.1 vwCl [(s0, .inr (7, [.int (iV sn), .ref sl, .ref se, .ref sc])), (sl, .inl (G.2.1, 20, .inl (fun k => iV (lF k)))), (se, .inl (G.2.1, 20, .inl (fun k => iV (eF k)))), (sc, .inl (G.2.1, 120, .inl (fun k => iV (cF k))))] s.heap := hP
  have X := And.intro hx (And.intro hb (And.intro hml (And.intro hown (And.intro hts (And.intro hK (And.intro hSt hA))))))
  have hl := lv_entry ([.ref s0, .int (iV sI), .int (iV cI)]) (n := 5) (Nat.le_of_ble_eq_true rfl)
  rw [lg_entry_eq]
  generalize (lg_sl ([.ref s0, .int (iV sI), .int (iV cI)]) ++ List.replicate (5 - (lg_sl ([.ref s0, .int (iV sI), .int (iV cI)])).length) Slot.unset).toArray = ls at hl ⊢
  have hl : lv_has ls 5 [(0, .ref s0), (1, .int (iV sI)), (2, .int (iV cI))] := hl
  obtain ⟨hn0, hn20, hlF, hcF⟩ := id hO
  refine lv_iconst (v := iV 0) hx hb dX7_isNear_0 (by decide) ?_
  refine lv_istore_n (lv' := [(3, .int (iV 0)), (0, .ref s0), (1, .int (iV sI)), (2, .int (iV cI))]) hx hb dX7_isNear_1 rfl hl (by decide) rfl (fun ls hl => ?_)
  have lp_2 : ∀ (k : Nat) (nq : Nat) , (nq ≤ 6) → (∀ k : Nat, k < nq → ¬ sBy (cF (6 * sI.toNat + k)) cI) → (6 - nq) < k → ∀ (H : Heap) (locs : List Loc), va_P G.1 vwCl [(s0, .inr (7, [.int (iV sn), .ref sl, .ref se, .ref sc])), (sl, .inl (G.2.1, 20, .inl (fun k => iV (lF k)))), (se, .inl (G.2.1, 20, .inl (fun k => iV (eF k)))), (sc, .inl (G.2.1, 120, .inl (fun k => iV (cF k))))] H → va_S (zF s.heap.size) s.heap H locs → ∀ ls : Array Slot, lv_has ls 5 [(0, .ref s0), (1, .int (iV sI)), (2, .int (iV cI)), (3, .int (iV (Nat.cast nq : Int)))] → W p l e (headSpec (Cond.code yX7_isNear cX7_isNear 5 (some .boolean) :: zT) (zRm 2 43)).room s m ([Value.ref s0, Value.int (iV sI), Value.int (iV cI)] : List Value).toArray below meth c H locs 0 0 (MQ below (zQr (bP (sNear lF (sT cF) sI.toNat cI)) s.heap.size) ([Value.ref s0, Value.int (iV sI), Value.int (iV cI)] : List Value).toArray s 0 0 (zF s.heap.size)) (F0 m 2 ls []) := by
    intro k
    induction k with
    | zero => intro nq hn hno hk_; exact absurd hk_ (Nat.not_lt_zero _)
    | succ k ih_2 =>
      intro nq hn hno hk_2 H locs hP hS ls hl
      refine lv_iload_n hx hb dX7_isNear_2 rfl (lv_at hl 3 rfl) ?_
      refine lv_aload_n hx hb dX7_isNear_3 rfl (lv_at hl 0 rfl) ?_
      refine va_get (D := G.1) (ci := 7) (v := .ref sl) (C := RX7) (T := TX7) (N := 4) hx hb hts inX7 hown hK hP 0 rfl rfl 1 (by decide) (hts _ wd_60) (fun _ h9 => h9) rfl dX7_isNear_4 ?_
      refine lv_iload_n hx hb dX7_isNear_7 rfl (lv_at hl 1 rfl) ?_
      refine z_iald (G := G) (f := lF) hx hb hK hP 1 rfl (by omega) (by omega) (by decide) dX7_isNear_8 ?_
      have f_1 := hlF sI.toNat
      refine z_icmp_ge (tgt := 62) hx hb (by omega) (by omega) dX7_isNear_9 (by decide) (fun c_2 => ?_) (fun c_2 => ?_)
      · refine lv_iconst (v := iV 0) hx hb dX7_isNear_62 (by decide) ?_
        refine z_eq (z := bP (sNear lF (sT cF) sI.toNat cI)) (by first | exact (bP_t ⟨nq, by omega, by show sBy (cF (6 * sI.toNat + nq)) cI; unfold sBy; omega⟩).symm | exact (bP_f (fun ⟨k, h1, h2⟩ => hno k (by omega) h2)).symm) ?_
        exact z_retb hx hb hr hlocks hS dX7_isNear_63
      · refine lv_aload_n hx hb dX7_isNear_12 rfl (lv_at hl 0 rfl) ?_
        refine lv_iload_n hx hb dX7_isNear_13 rfl (lv_at hl 1 rfl) ?_
        refine lv_iload_n hx hb dX7_isNear_14 rfl (lv_at hl 3 rfl) ?_
        refine z_callV X hP hS hl.1 (c_X7_cellAt l G _ s0 sl se sc sn lF eF cF sI (Nat.cast nq : Int) (by first | assumption | omega) (by first | assumption | omega) (by first | assumption | omega)) wd_404 kX7_cellAt ⟨rfl, rfl, Nat.le_of_ble_eq_true rfl, Nat.le_of_ble_eq_true rfl⟩ [0, 1, 2, 3] rfl 0 rfl rfl rfl rfl (Nat.le_of_ble_eq_true rfl) dX7_isNear_15 ⟨Nat.zero_le _, Nat.zero_le _⟩ (fun H locs hP hS => ?_)
        refine z_eq (z := cF (6 * sI.toNat + nq)) (by exact sAt_in hs.1 (by omega)) ?_
        have hcr := hcF (6 * sI.toNat + nq)
        refine lv_istore (lv' := [(4, .int (iV (cF (6 * sI.toNat + nq)))), (0, .ref s0), (1, .int (iV sI)), (2, .int (iV cI)), (3, .int (iV (Nat.cast nq : Int)))]) hx hb dX7_isNear_18 hl (by decide) rfl (fun ls hl => ?_)
        refine lv_iload hx hb dX7_isNear_20 (lv_at hl 0 rfl) ?_
        refine lv_bipush (v := iV 9) hx hb dX7_isNear_22 (by decide) ?_
        refine z_irem hx hb (by omega) (by omega) dX7_isNear_24 ?_
        refine lv_iload_n hx hb dX7_isNear_25 rfl (lv_at hl 3 rfl) ?_
        refine lv_bipush (v := iV 9) hx hb dX7_isNear_26 (by decide) ?_
        refine z_irem hx hb (by omega) (by omega) dX7_isNear_28 ?_
        refine z_isub hx hb dX7_isNear_29 ?_
        refine z_mabs hx hb (hml.trans hl.1.symm) hown (hts _ wd_412) (hts _ wd_413) (hts _ wd_16) (hts _ wd_414) (Nat.le_of_ble_eq_true rfl) (Nat.le_of_ble_eq_true rfl) (Nat.zero_le _) (Nat.zero_le _) (by omega) dX7_isNear_30 ?_
        have f_3 := zabs_r ((cF (6 * sI.toNat + nq) % 9) - (cI % 9))
        refine lv_iconst (v := iV 1) hx hb dX7_isNear_33 (by decide) ?_
        have jn_56 : (¬ sBy (cF (6 * sI.toNat + nq)) cI) → ∀ (H : Heap) (locs : List Loc), va_P G.1 vwCl [(s0, .inr (7, [.int (iV sn), .ref sl, .ref se, .ref sc])), (sl, .inl (G.2.1, 20, .inl (fun k => iV (lF k)))), (se, .inl (G.2.1, 20, .inl (fun k => iV (eF k)))), (sc, .inl (G.2.1, 120, .inl (fun k => iV (cF k))))] H → va_S (zF s.heap.size) s.heap H locs → ∀ ls : Array Slot, lv_has ls 5 [(0, .ref s0), (1, .int (iV sI)), (2, .int (iV cI)), (3, .int (iV (Nat.cast nq : Int)))] → W p l e (headSpec (Cond.code yX7_isNear cX7_isNear 5 (some .boolean) :: zT) (zRm 2 43)).room s m ([Value.ref s0, Value.int (iV sI), Value.int (iV cI)] : List Value).toArray below meth c H locs 0 0 (MQ below (zQr (bP (sNear lF (sT cF) sI.toNat cI)) s.heap.size) ([Value.ref s0, Value.int (iV sI), Value.int (iV cI)] : List Value).toArray s 0 0 (zF s.heap.size)) (F0 m 56 ls []) := by
          intro hnp H locs hP hS ls hl
          refine z_iinc (lv' := [(3, .int (iV ((Nat.cast nq : Int) + 1))), (0, .ref s0), (1, .int (iV sI)), (2, .int (iV cI))]) hx hb dX7_isNear_56 hl (k := 3) rfl (by decide) rfl (fun ls hl => ?_)
          refine lv_goto (tgt := 2) hx hb dX7_isNear_59 (by decide) ?_
          exact ih_2 (nq + 1) (by first | assumption | omega) (by first | exact fun d hd => absurd hd (Nat.not_lt_zero d) | exact all_s hno hnp) (by omega) _ _ hP hS _ (lv_cons (lv_at hl 1 rfl) (lv_cons (lv_at hl 2 rfl) (lv_cons (lv_at hl 3 rfl) (lv_cons (lv_i hl 0 rfl (by omega)) (lv_nil hl)))))
        refine z_icmp_gt (tgt := 56) hx hb (by omega) ⟨by decide, by decide⟩ dX7_isNear_34 (by decide) (fun c_4 => ?_) (fun c_4 => ?_)
        · exact jn_56 (by unfold sBy; omega) _ _ hP hS _ (lv_cons (lv_at hl 1 rfl) (lv_cons (lv_at hl 2 rfl) (lv_cons (lv_at hl 3 rfl) (lv_cons (lv_at hl 4 rfl) (lv_nil hl)))))
        · refine lv_iload hx hb dX7_isNear_37 (lv_at hl 0 rfl) ?_
          refine lv_bipush (v := iV 9) hx hb dX7_isNear_39 (by decide) ?_
          refine z_idiv hx hb (by omega) (by omega) dX7_isNear_41 ?_
          refine lv_iload_n hx hb dX7_isNear_42 rfl (lv_at hl 3 rfl) ?_
          refine lv_bipush (v := iV 9) hx hb dX7_isNear_43 (by decide) ?_
          refine z_idiv hx hb (by omega) (by omega) dX7_isNear_45 ?_
          refine z_isub hx hb dX7_isNear_46 ?_
          refine z_mabs hx hb (hml.trans hl.1.symm) hown (hts _ wd_412) (hts _ wd_413) (hts _ wd_16) (hts _ wd_414) (Nat.le_of_ble_eq_true rfl) (Nat.le_of_ble_eq_true rfl) (Nat.zero_le _) (Nat.zero_le _) (by omega) dX7_isNear_47 ?_
          have f_5 := zabs_r ((cF (6 * sI.toNat + nq) / 9) - (cI / 9))
          refine lv_iconst (v := iV 1) hx hb dX7_isNear_50 (by decide) ?_
          refine z_icmp_gt (tgt := 56) hx hb (by omega) ⟨by decide, by decide⟩ dX7_isNear_51 (by decide) (fun c_6 => ?_) (fun c_6 => ?_)
          · exact jn_56 (by unfold sBy; omega) _ _ hP hS _ (lv_cons (lv_at hl 1 rfl) (lv_cons (lv_at hl 2 rfl) (lv_cons (lv_at hl 3 rfl) (lv_cons (lv_at hl 4 rfl) (lv_nil hl)))))
          · refine lv_iconst (v := iV 1) hx hb dX7_isNear_54 (by decide) ?_
            refine z_eq (z := bP (sNear lF (sT cF) sI.toNat cI)) (by first | exact (bP_t ⟨nq, by omega, by show sBy (cF (6 * sI.toNat + nq)) cI; unfold sBy; omega⟩).symm | exact (bP_f (fun ⟨k, h1, h2⟩ => hno k (by omega) h2)).symm) ?_
            exact z_retb hx hb hr hlocks hS dX7_isNear_55
  exact lp_2 _ 0 (by first | assumption | omega) (by first | exact fun d hd => absurd hd (Nat.not_lt_zero d) | exact all_s hno hnp) (Nat.lt_succ_self _) _ _ hP hS _ (lv_cons (lv_at hl 1 rfl) (lv_cons (lv_at hl 2 rfl) (lv_cons (lv_at hl 3 rfl) (lv_cons (lv_i hl 0 rfl (by omega)) (lv_nil hl)))))

set_option maxHeartbeats 4000000 in
set_option maxRecDepth 100000 in
theorem c_X7_isKeptOff (l : Launch) (G : zG) (sz : Nat) (s0 : Nat) (sl : Nat) (se : Nat) (sc : Nat) (sn : Int) (lF : Nat → Int) (eF : Nat → Int) (cF : Nat → Int) (cI : Int) (hO : sOK sn lF cF) (hc : 0 ≤ cI ∧ cI < 81) : Met l yX7_isKeptOff (Cond.code yX7_isKeptOff cX7_isKeptOff 3 (some .boolean) :: zT) (zRm 3 67) (zPr G [.ref s0, .int (iV cI)] [(s0, .inr (7, [.int (iV sn), .ref sl, .ref se, .ref sc])), (sl, .inl (G.2.1, 20, .inl (fun k => iV (lF k)))), (se, .inl (G.2.1, 20, .inl (fun k => iV (eF k)))), (sc, .inl (G.2.1, 120, .inl (fun k => iV (cF k))))] sz) (zQr (bP (sOff sn lF (sT cF) cI)) sz) 0 0 (zF sz) := by
  refine Met.ofW (cc := cX7_isKeptOff) (maxL := 3) (ret := (some .boolean)) (by decide) rfl ?_
  intro p e s m args below meth c s₁ B hml hv
  obtain ⟨rfl, hsz, hP, hK, hSt⟩ := hv
  have hx := B.exec
  have hb := B.bytes
  have hr := B.returns
  have hts : ∀ w ∈ zT, w.before _ s = true := fun w h => atoms_spec (ws := (Cond.code yX7_isKeptOff cX7_isKeptOff 3 (some .boolean) :: zT)) B.pre w (List.mem_cons_of_mem _ h)
  have hown : s.vm.findClass RX7 = some m.cls := findClass_of_methodNamed B.named
  have hlocks := B.notSynchronized
  subst hsz
  have hA : ∀ q : Nat, s.heap.size ≤ q → zF s.heap.size q := fun _ h => h
  have hS : va_S (zF s.heap.size) s.heap s.heap [] := va_S.rf
  have hP : va_P G.1 vwCl [(s0, .inr (7, [.int (iV sn), .ref sl, .ref se, .ref sc])), (sl, .inl (G.2.1, 20, .inl (fun k => iV (lF k)))), (se, .inl (G.2.1, 20, .inl (fun k => iV (eF k)))), (sc, .inl (G.2.1, 120, .inl (fun k => iV (cF k))))] s.heap := hP
  have X := And.intro hx (And.intro hb (And.intro hml (And.intro hown (And.intro hts (And.intro hK (And.intro hSt hA))))))
  have hl := lv_entry ([.ref s0, .int (iV cI)]) (n := 3) (Nat.le_of_ble_eq_true rfl)
  rw [lg_entry_eq]
  generalize (lg_sl ([.ref s0, .int (iV cI)]) ++ List.replicate (3 - (lg_sl ([.ref s0, .int (iV cI)])).length) Slot.unset).toArray = ls at hl ⊢
  have hl : lv_has ls 3 [(0, .ref s0), (1, .int (iV cI))] := hl
  obtain ⟨hn0, hn20, hlF, hcF⟩ := id hO
  refine lv_iconst (v := iV 0) hx hb dX7_isKeptOff_0 (by decide) ?_
  refine lv_istore_n (lv' := [(2, .int (iV 0)), (0, .ref s0), (1, .int (iV cI))]) hx hb dX7_isKeptOff_1 rfl hl (by decide) rfl (fun ls hl => ?_)
  have lp_2 : ∀ (k : Nat) (nq : Nat) , ((Nat.cast nq : Int) ≤ sn) → (∀ k : Nat, k < nq → ¬ sNear lF (sT cF) k cI) → (20 - nq) < k → ∀ (H : Heap) (locs : List Loc), va_P G.1 vwCl [(s0, .inr (7, [.int (iV sn), .ref sl, .ref se, .ref sc])), (sl, .inl (G.2.1, 20, .inl (fun k => iV (lF k)))), (se, .inl (G.2.1, 20, .inl (fun k => iV (eF k)))), (sc, .inl (G.2.1, 120, .inl (fun k => iV (cF k))))] H → va_S (zF s.heap.size) s.heap H locs → ∀ ls : Array Slot, lv_has ls 3 [(0, .ref s0), (1, .int (iV cI)), (2, .int (iV (Nat.cast nq : Int)))] → W p l e (headSpec (Cond.code yX7_isKeptOff cX7_isKeptOff 3 (some .boolean) :: zT) (zRm 3 67)).room s m ([Value.ref s0, Value.int (iV cI)] : List Value).toArray below meth c H locs 0 0 (MQ below (zQr (bP (sOff sn lF (sT cF) cI)) s.heap.size) ([Value.ref s0, Value.int (iV cI)] : List Value).toArray s 0 0 (zF s.heap.size)) (F0 m 2 ls []) := by
    intro k
    induction k with
    | zero => intro nq hn hno hk_; exact absurd hk_ (Nat.not_lt_zero _)
    | succ k ih_2 =>
      intro nq hn hno hk_2 H locs hP hS ls hl
      refine lv_iload_n hx hb dX7_isKeptOff_2 rfl (lv_at hl 2 rfl) ?_
      refine lv_aload_n hx hb dX7_isKeptOff_3 rfl (lv_at hl 0 rfl) ?_
      refine va_get (D := G.1) (ci := 7) (v := .int (iV sn)) (C := RX7) (T := TX7) (N := 4) hx hb hts inX7 hown hK hP 0 rfl rfl 0 (by decide) (hts _ wd_58) (fun _ h9 => h9) rfl dX7_isKeptOff_4 ?_
      refine z_icmp_ge (tgt := 27) hx hb (by omega) (by omega) dX7_isKeptOff_7 (by decide) (fun c_1 => ?_) (fun c_1 => ?_)
      · refine lv_iconst (v := iV 1) hx hb dX7_isKeptOff_27 (by decide) ?_
        refine z_eq (z := bP (sOff sn lF (sT cF) cI)) (by first | exact (bP_t (fun k hk => hno k (by omega))).symm | exact (bP_f (fun h => h nq (by omega) (by assumption))).symm) ?_
        exact z_retb hx hb hr hlocks hS dX7_isKeptOff_28
      · refine lv_aload_n hx hb dX7_isKeptOff_10 rfl (lv_at hl 0 rfl) ?_
        refine lv_iload_n hx hb dX7_isKeptOff_11 rfl (lv_at hl 2 rfl) ?_
        refine lv_iload_n hx hb dX7_isKeptOff_12 rfl (lv_at hl 1 rfl) ?_
        refine z_callV X hP hS hl.1 (c_X7_isNear l G _ s0 sl se sc sn lF eF cF (Nat.cast nq : Int) cI (by first | assumption | omega) (by first | assumption | omega) (by first | assumption | omega)) wd_400 kX7_isNear ⟨rfl, rfl, Nat.le_of_ble_eq_true rfl, Nat.le_of_ble_eq_true rfl⟩ [0, 1, 2, 3] rfl 0 rfl rfl rfl rfl (Nat.le_of_ble_eq_true rfl) dX7_isKeptOff_13 ⟨Nat.zero_le _, Nat.zero_le _⟩ (fun H locs hP hS => ?_)
        refine z_eq (z := bP (sNear lF (sT cF) nq cI)) (by rw [cst0]) ?_
        refine z_ifb_eq (tgt := 21) hx hb dX7_isKeptOff_16 (by decide) (fun c_2 => ?_) (fun c_2 => ?_)
        · refine z_iinc (lv' := [(2, .int (iV ((Nat.cast nq : Int) + 1))), (0, .ref s0), (1, .int (iV cI))]) hx hb dX7_isKeptOff_21 hl (k := 2) rfl (by decide) rfl (fun ls hl => ?_)
          refine lv_goto (tgt := 2) hx hb dX7_isKeptOff_24 (by decide) ?_
          exact ih_2 (nq + 1) (by first | assumption | omega) (by first | exact fun d hd => absurd hd (Nat.not_lt_zero d) | exact all_s hno (by assumption)) (by omega) _ _ hP hS _ (lv_cons (lv_at hl 1 rfl) (lv_cons (lv_at hl 2 rfl) (lv_cons (lv_i hl 0 rfl (by omega)) (lv_nil hl))))
        · refine lv_iconst (v := iV 0) hx hb dX7_isKeptOff_19 (by decide) ?_
          refine z_eq (z := bP (sOff sn lF (sT cF) cI)) (by first | exact (bP_t (fun k hk => hno k (by omega))).symm | exact (bP_f (fun h => h nq (by omega) (by assumption))).symm) ?_
          exact z_retb hx hb hr hlocks hS dX7_isKeptOff_20
  exact lp_2 _ 0 (by first | assumption | omega) (by first | exact fun d hd => absurd hd (Nat.not_lt_zero d) | exact all_s hno (by assumption)) (Nat.lt_succ_self _) _ _ hP hS _ (lv_cons (lv_at hl 1 rfl) (lv_cons (lv_at hl 2 rfl) (lv_cons (lv_i hl 0 rfl (by omega)) (lv_nil hl))))

set_option maxHeartbeats 4000000 in
set_option maxRecDepth 100000 in
theorem c_X7_ownerOf (l : Launch) (G : zG) (sz : Nat) (s0 : Nat) (sl : Nat) (se : Nat) (sc : Nat) (sn : Int) (lF : Nat → Int) (eF : Nat → Int) (cF : Nat → Int) (cI : Int) (hO : sOK sn lF cF) (hc : 0 ≤ cI ∧ cI < 81) : Met l yX7_ownerOf (Cond.code yX7_ownerOf cX7_ownerOf 4 (some .int) :: zT) (zRm 2 43) (zPr G [.ref s0, .int (iV cI)] [(s0, .inr (7, [.int (iV sn), .ref sl, .ref se, .ref sc])), (sl, .inl (G.2.1, 20, .inl (fun k => iV (lF k)))), (se, .inl (G.2.1, 20, .inl (fun k => iV (eF k)))), (sc, .inl (G.2.1, 120, .inl (fun k => iV (cF k))))] sz) (zQr (sOwn lF (sT cF) cI sn.toNat 0) sz) 0 0 (zF sz) := by
  refine Met.ofW (cc := cX7_ownerOf) (maxL := 4) (ret := (some .int)) (by decide) rfl ?_
  intro p e s m args below meth c s₁ B hml hv
  obtain ⟨rfl, hsz, hP, hK, hSt⟩ := hv
  have hx := B.exec
  have hb := B.bytes
  have hr := B.returns
  have hts : ∀ w ∈ zT, w.before _ s = true := fun w h => atoms_spec (ws := (Cond.code yX7_ownerOf cX7_ownerOf 4 (some .int) :: zT)) B.pre w (List.mem_cons_of_mem _ h)
  have hown : s.vm.findClass RX7 = some m.cls := findClass_of_methodNamed B.named
  have hlocks := B.notSynchronized
  subst hsz
  have hA : ∀ q : Nat, s.heap.size ≤ q → zF s.heap.size q := fun _ h => h
  have hS : va_S (zF s.heap.size) s.heap s.heap [] := va_S.rf
  have hP : va_P G.1 vwCl [(s0, .inr (7, [.int (iV sn), .ref sl, .ref se, .ref sc])), (sl, .inl (G.2.1, 20, .inl (fun k => iV (lF k)))), (se, .inl (G.2.1, 20, .inl (fun k => iV (eF k)))), (sc, .inl (G.2.1, 120, .inl (fun k => iV (cF k))))] s.heap := hP
  have X := And.intro hx (And.intro hb (And.intro hml (And.intro hown (And.intro hts (And.intro hK (And.intro hSt hA))))))
  have hl := lv_entry ([.ref s0, .int (iV cI)]) (n := 4) (Nat.le_of_ble_eq_true rfl)
  rw [lg_entry_eq]
  generalize (lg_sl ([.ref s0, .int (iV cI)]) ++ List.replicate (4 - (lg_sl ([.ref s0, .int (iV cI)])).length) Slot.unset).toArray = ls at hl ⊢
  have hl : lv_has ls 4 [(0, .ref s0), (1, .int (iV cI))] := hl
  obtain ⟨hn0, hn20, hlF, hcF⟩ := id hO
  refine lv_iconst (v := iV 0) hx hb dX7_ownerOf_0 (by decide) ?_
  refine lv_istore_n (lv' := [(2, .int (iV 0)), (0, .ref s0), (1, .int (iV cI))]) hx hb dX7_ownerOf_1 rfl hl (by decide) rfl (fun ls hl => ?_)
  have lp_2 : ∀ (k : Nat) (nq : Nat) , ((Nat.cast nq : Int) ≤ sn) → (sOwn lF (sT cF) cI sn.toNat 0 = sOwn lF (sT cF) cI (sn.toNat - nq) nq) → (20 - nq) < k → ∀ (H : Heap) (locs : List Loc), va_P G.1 vwCl [(s0, .inr (7, [.int (iV sn), .ref sl, .ref se, .ref sc])), (sl, .inl (G.2.1, 20, .inl (fun k => iV (lF k)))), (se, .inl (G.2.1, 20, .inl (fun k => iV (eF k)))), (sc, .inl (G.2.1, 120, .inl (fun k => iV (cF k))))] H → va_S (zF s.heap.size) s.heap H locs → ∀ ls : Array Slot, lv_has ls 4 [(0, .ref s0), (1, .int (iV cI)), (2, .int (iV (Nat.cast nq : Int)))] → W p l e (headSpec (Cond.code yX7_ownerOf cX7_ownerOf 4 (some .int) :: zT) (zRm 2 43)).room s m ([Value.ref s0, Value.int (iV cI)] : List Value).toArray below meth c H locs 0 0 (MQ below (zQr (sOwn lF (sT cF) cI sn.toNat 0) s.heap.size) ([Value.ref s0, Value.int (iV cI)] : List Value).toArray s 0 0 (zF s.heap.size)) (F0 m 2 ls []) := by
    intro k
    induction k with
    | zero => intro nq hn hp hk_; exact absurd hk_ (Nat.not_lt_zero _)
    | succ k ih_2 =>
      intro nq hn hp hk_2 H locs hP hS ls hl
      refine lv_iload_n hx hb dX7_ownerOf_2 rfl (lv_at hl 2 rfl) ?_
      refine lv_aload_n hx hb dX7_ownerOf_3 rfl (lv_at hl 0 rfl) ?_
      refine va_get (D := G.1) (ci := 7) (v := .int (iV sn)) (C := RX7) (T := TX7) (N := 4) hx hb hts inX7 hown hK hP 0 rfl rfl 0 (by decide) (hts _ wd_58) (fun _ h9 => h9) rfl dX7_ownerOf_4 ?_
      refine z_icmp_ge (tgt := 46) hx hb (by omega) (by omega) dX7_ownerOf_7 (by decide) (fun c_1 => ?_) (fun c_1 => ?_)
      · refine lv_iconst (v := iV (-1)) hx hb dX7_ownerOf_46 (by decide) ?_
        refine z_eq (z := sOwn lF (sT cF) cI sn.toNat 0) (by first | (rw [hp, sOwn_t (by omega) ⟨jq, by rw [cst0] at hlt; exact hlt, by assumption⟩]) | (have h8 : sn.toNat - nq = 0 := (by omega); rw [hp, h8]; rfl)) ?_
        exact z_ret hx hb hr hlocks hS dX7_ownerOf_47
      · refine lv_iconst (v := iV 0) hx hb dX7_ownerOf_10 (by decide) ?_
        refine lv_istore_n (lv' := [(3, .int (iV 0)), (0, .ref s0), (1, .int (iV cI)), (2, .int (iV (Nat.cast nq : Int)))]) hx hb dX7_ownerOf_11 rfl hl (by decide) rfl (fun ls hl => ?_)
        have lp_12 : ∀ (k : Nat) (jq : Nat) , (jq ≤ 6) → (∀ k : Nat, k < jq → ¬ cF (6 * nq + k) = cI) → (6 - jq) < k → ∀ (H : Heap) (locs : List Loc), va_P G.1 vwCl [(s0, .inr (7, [.int (iV sn), .ref sl, .ref se, .ref sc])), (sl, .inl (G.2.1, 20, .inl (fun k => iV (lF k)))), (se, .inl (G.2.1, 20, .inl (fun k => iV (eF k)))), (sc, .inl (G.2.1, 120, .inl (fun k => iV (cF k))))] H → va_S (zF s.heap.size) s.heap H locs → ∀ ls : Array Slot, lv_has ls 4 [(0, .ref s0), (1, .int (iV cI)), (2, .int (iV (Nat.cast nq : Int))), (3, .int (iV (Nat.cast jq : Int)))] → W p l e (headSpec (Cond.code yX7_ownerOf cX7_ownerOf 4 (some .int) :: zT) (zRm 2 43)).room s m ([Value.ref s0, Value.int (iV cI)] : List Value).toArray below meth c H locs 0 0 (MQ below (zQr (sOwn lF (sT cF) cI sn.toNat 0) s.heap.size) ([Value.ref s0, Value.int (iV cI)] : List Value).toArray s 0 0 (zF s.heap.size)) (F0 m 12 ls []) := by
          intro k
          induction k with
          | zero => intro jq hj hno hk_; exact absurd hk_ (Nat.not_lt_zero _)
          | succ k ih_12 =>
            intro jq hj hno hk_12 H locs hP hS ls hl
            refine lv_iload_n hx hb dX7_ownerOf_12 rfl (lv_at hl 3 rfl) ?_
            refine lv_aload_n hx hb dX7_ownerOf_13 rfl (lv_at hl 0 rfl) ?_
            refine va_get (D := G.1) (ci := 7) (v := .ref sl) (C := RX7) (T := TX7) (N := 4) hx hb hts inX7 hown hK hP 0 rfl rfl 1 (by decide) (hts _ wd_60) (fun _ h9 => h9) rfl dX7_ownerOf_14 ?_
            refine lv_iload_n hx hb dX7_ownerOf_17 rfl (lv_at hl 2 rfl) ?_
            refine z_iald (G := G) (f := lF) hx hb hK hP 1 rfl (by omega) (by omega) (by decide) dX7_ownerOf_18 ?_
            have f_2 := hlF (Nat.cast nq : Int).toNat
            refine z_icmp_ge (tgt := 40) hx hb (by omega) (by omega) dX7_ownerOf_19 (by decide) (fun c_3 => ?_) (fun c_3 => ?_)
            · refine z_iinc (lv' := [(2, .int (iV ((Nat.cast nq : Int) + 1))), (0, .ref s0), (1, .int (iV cI)), (3, .int (iV (Nat.cast jq : Int)))]) hx hb dX7_ownerOf_40 hl (k := 2) rfl (by decide) rfl (fun ls hl => ?_)
              refine lv_goto (tgt := 2) hx hb dX7_ownerOf_43 (by decide) ?_
              exact ih_2 (nq + 1) (by first | assumption | omega) (by first | rfl | (rw [hp, sOwn_f (by omega) (fun ⟨k, h1, h2⟩ => hno k (by rw [cst0] at *; omega) h2)]; rfl)) (by omega) _ _ hP hS _ (lv_cons (lv_at hl 1 rfl) (lv_cons (lv_at hl 2 rfl) (lv_cons (lv_i hl 0 rfl (by omega)) (lv_nil hl))))
            · refine lv_aload_n hx hb dX7_ownerOf_22 rfl (lv_at hl 0 rfl) ?_
              refine lv_iload_n hx hb dX7_ownerOf_23 rfl (lv_at hl 2 rfl) ?_
              refine lv_iload_n hx hb dX7_ownerOf_24 rfl (lv_at hl 3 rfl) ?_
              have hlt : (Nat.cast jq : Int) < lF (Nat.cast nq : Int).toNat := by omega
              refine z_callV X hP hS hl.1 (c_X7_cellAt l G _ s0 sl se sc sn lF eF cF (Nat.cast nq : Int) (Nat.cast jq : Int) (by first | assumption | omega) (by first | assumption | omega) (by first | assumption | omega)) wd_404 kX7_cellAt ⟨rfl, rfl, Nat.le_of_ble_eq_true rfl, Nat.le_of_ble_eq_true rfl⟩ [0, 1, 2, 3] rfl 0 rfl rfl rfl rfl (Nat.le_of_ble_eq_true rfl) dX7_ownerOf_25 ⟨Nat.zero_le _, Nat.zero_le _⟩ (fun H locs hP hS => ?_)
              refine z_eq (z := cF (6 * nq + jq)) (by rw [sAt_in (by omega) (by assumption), cst0]) ?_
              have hcr := hcF (6 * nq + jq)
              refine lv_iload_n hx hb dX7_ownerOf_28 rfl (lv_at hl 1 rfl) ?_
              refine z_icmp_ne (tgt := 34) hx hb (by omega) (by omega) dX7_ownerOf_29 (by decide) (fun c_4 => ?_) (fun c_4 => ?_)
              · refine z_iinc (lv' := [(3, .int (iV ((Nat.cast jq : Int) + 1))), (0, .ref s0), (1, .int (iV cI)), (2, .int (iV (Nat.cast nq : Int)))]) hx hb dX7_ownerOf_34 hl (k := 3) rfl (by decide) rfl (fun ls hl => ?_)
                refine lv_goto (tgt := 12) hx hb dX7_ownerOf_37 (by decide) ?_
                exact ih_12 (jq + 1) (by first | assumption | omega) (by first | exact fun d hd => absurd hd (Nat.not_lt_zero d) | exact all_s hno (by assumption)) (by omega) _ _ hP hS _ (lv_cons (lv_at hl 1 rfl) (lv_cons (lv_at hl 2 rfl) (lv_cons (lv_at hl 3 rfl) (lv_cons (lv_i hl 0 rfl (by omega)) (lv_nil hl)))))
              · refine lv_iload_n hx hb dX7_ownerOf_32 rfl (lv_at hl 2 rfl) ?_
                refine z_eq (z := sOwn lF (sT cF) cI sn.toNat 0) (by first | (rw [hp, sOwn_t (by omega) ⟨jq, by rw [cst0] at hlt; exact hlt, by assumption⟩]) | (have h8 : sn.toNat - nq = 0 := (by omega); rw [hp, h8]; rfl)) ?_
                exact z_ret hx hb hr hlocks hS dX7_ownerOf_33
        exact lp_12 _ 0 (by first | assumption | omega) (by first | exact fun d hd => absurd hd (Nat.not_lt_zero d) | exact all_s hno (by assumption)) (Nat.lt_succ_self _) _ _ hP hS _ (lv_cons (lv_at hl 1 rfl) (lv_cons (lv_at hl 2 rfl) (lv_cons (lv_at hl 3 rfl) (lv_cons (lv_i hl 0 rfl (by omega)) (lv_nil hl)))))
  exact lp_2 _ 0 (by first | assumption | omega) (by first | rfl | (rw [hp, sOwn_f (by omega) (fun ⟨k, h1, h2⟩ => hno k (by rw [cst0] at *; omega) h2)]; rfl)) (Nat.lt_succ_self _) _ _ hP hS _ (lv_cons (lv_at hl 1 rfl) (lv_cons (lv_at hl 2 rfl) (lv_cons (lv_i hl 0 rfl (by omega)) (lv_nil hl))))

set_option maxHeartbeats 4000000 in
set_option maxRecDepth 100000 in
theorem c_X7_cellsInAll (l : Launch) (G : zG) (sz : Nat) (s0 : Nat) (sl : Nat) (se : Nat) (sc : Nat) (sn : Int) (lF : Nat → Int) (eF : Nat → Int) (cF : Nat → Int) (hO : sOK sn lF cF) : Met l yX7_cellsInAll (Cond.code yX7_cellsInAll cX7_cellsInAll 3 (some .int) :: zT) (zRm 0 0) (zPr G [.ref s0] [(s0, .inr (7, [.int (iV sn), .ref sl, .ref se, .ref sc])), (sl, .inl (G.2.1, 20, .inl (fun k => iV (lF k)))), (se, .inl (G.2.1, 20, .inl (fun k => iV (eF k)))), (sc, .inl (G.2.1, 120, .inl (fun k => iV (cF k))))] sz) (zQr (sumN lF sn.toNat) sz) 0 0 (zF sz) := by
  refine Met.ofW (cc := cX7_cellsInAll) (maxL := 3) (ret := (some .int)) (by decide) rfl ?_
  intro p e s m args below meth c s₁ B hml hv
  obtain ⟨rfl, hsz, hP, hK, hSt⟩ := hv
  have hx := B.exec
  have hb := B.bytes
  have hr := B.returns
  have hts : ∀ w ∈ zT, w.before _ s = true := fun w h => atoms_spec (ws := (Cond.code yX7_cellsInAll cX7_cellsInAll 3 (some .int) :: zT)) B.pre w (List.mem_cons_of_mem _ h)
  have hown : s.vm.findClass RX7 = some m.cls := findClass_of_methodNamed B.named
  have hlocks := B.notSynchronized
  subst hsz
  have hA : ∀ q : Nat, s.heap.size ≤ q → zF s.heap.size q := fun _ h => h
  have hS : va_S (zF s.heap.size) s.heap s.heap [] := va_S.rf
  have hP : va_P G.1 vwCl [(s0, .inr (7, [.int (iV sn), .ref sl, .ref se, .ref sc])), (sl, .inl (G.2.1, 20, .inl (fun k => iV (lF k)))), (se, .inl (G.2.1, 20, .inl (fun k => iV (eF k)))), (sc, .inl (G.2.1, 120, .inl (fun k => iV (cF k))))] s.heap := hP
  have X := And.intro hx (And.intro hb (And.intro hml (And.intro hown (And.intro hts (And.intro hK (And.intro hSt hA))))))
  have hl := lv_entry ([.ref s0]) (n := 3) (Nat.le_of_ble_eq_true rfl)
  rw [lg_entry_eq]
  generalize (lg_sl ([.ref s0]) ++ List.replicate (3 - (lg_sl ([.ref s0])).length) Slot.unset).toArray = ls at hl ⊢
  have hl : lv_has ls 3 [(0, .ref s0)] := hl
  obtain ⟨hn0, hn20, hlF, hcF⟩ := id hO
  refine lv_iconst (v := iV 0) hx hb dX7_cellsInAll_0 (by decide) ?_
  refine lv_istore_n (lv' := [(1, .int (iV 0)), (0, .ref s0)]) hx hb dX7_cellsInAll_1 rfl hl (by decide) rfl (fun ls hl => ?_)
  refine lv_iconst (v := iV 0) hx hb dX7_cellsInAll_2 (by decide) ?_
  refine lv_istore_n (lv' := [(2, .int (iV 0)), (1, .int (iV 0)), (0, .ref s0)]) hx hb dX7_cellsInAll_3 rfl hl (by decide) rfl (fun ls hl => ?_)
  have lp_4 : ∀ (k : Nat) (nq : Nat) , ((Nat.cast nq : Int) ≤ sn) → (20 - nq) < k → ∀ (H : Heap) (locs : List Loc), va_P G.1 vwCl [(s0, .inr (7, [.int (iV sn), .ref sl, .ref se, .ref sc])), (sl, .inl (G.2.1, 20, .inl (fun k => iV (lF k)))), (se, .inl (G.2.1, 20, .inl (fun k => iV (eF k)))), (sc, .inl (G.2.1, 120, .inl (fun k => iV (cF k))))] H → va_S (zF s.heap.size) s.heap H locs → ∀ ls : Array Slot, lv_has ls 3 [(0, .ref s0), (1, .int (iV (sumN lF nq))), (2, .int (iV (Nat.cast nq : Int)))] → W p l e (headSpec (Cond.code yX7_cellsInAll cX7_cellsInAll 3 (some .int) :: zT) (zRm 0 0)).room s m ([Value.ref s0] : List Value).toArray below meth c H locs 0 0 (MQ below (zQr (sumN lF sn.toNat) s.heap.size) ([Value.ref s0] : List Value).toArray s 0 0 (zF s.heap.size)) (F0 m 4 ls []) := by
    intro k
    induction k with
    | zero => intro nq hn hk_; exact absurd hk_ (Nat.not_lt_zero _)
    | succ k ih_4 =>
      intro nq hn hk_4 H locs hP hS ls hl
      refine lv_iload_n hx hb dX7_cellsInAll_4 rfl (lv_at hl 2 rfl) ?_
      refine lv_aload_n hx hb dX7_cellsInAll_5 rfl (lv_at hl 0 rfl) ?_
      refine va_get (D := G.1) (ci := 7) (v := .int (iV sn)) (C := RX7) (T := TX7) (N := 4) hx hb hts inX7 hown hK hP 0 rfl rfl 0 (by decide) (hts _ wd_58) (fun _ h9 => h9) rfl dX7_cellsInAll_6 ?_
      refine z_icmp_ge (tgt := 27) hx hb (by omega) (by omega) dX7_cellsInAll_9 (by decide) (fun c_1 => ?_) (fun c_1 => ?_)
      · refine lv_iload_n hx hb dX7_cellsInAll_27 rfl (lv_at hl 1 rfl) ?_
        refine z_eq (z := sumN lF sn.toNat) (by have h8 : nq = sn.toNat := (by omega); rw [h8]) ?_
        exact z_ret hx hb hr hlocks hS dX7_cellsInAll_28
      · refine lv_iload_n hx hb dX7_cellsInAll_12 rfl (lv_at hl 1 rfl) ?_
        refine lv_aload_n hx hb dX7_cellsInAll_13 rfl (lv_at hl 0 rfl) ?_
        refine va_get (D := G.1) (ci := 7) (v := .ref sl) (C := RX7) (T := TX7) (N := 4) hx hb hts inX7 hown hK hP 0 rfl rfl 1 (by decide) (hts _ wd_60) (fun _ h9 => h9) rfl dX7_cellsInAll_14 ?_
        refine lv_iload_n hx hb dX7_cellsInAll_17 rfl (lv_at hl 2 rfl) ?_
        refine z_iald (G := G) (f := lF) hx hb hK hP 1 rfl (by omega) (by omega) (by decide) dX7_cellsInAll_18 ?_
        have f_2 := hlF (Nat.cast nq : Int).toNat
        refine z_iadd hx hb dX7_cellsInAll_19 ?_
        refine lv_istore_n (lv' := [(1, .int (iV (sumN lF nq + (lF (Nat.cast nq : Int).toNat)))), (0, .ref s0), (2, .int (iV (Nat.cast nq : Int)))]) hx hb dX7_cellsInAll_20 rfl hl (by decide) rfl (fun ls hl => ?_)
        refine z_iinc (lv' := [(2, .int (iV ((Nat.cast nq : Int) + 1))), (1, .int (iV (sumN lF nq + (lF (Nat.cast nq : Int).toNat)))), (0, .ref s0)]) hx hb dX7_cellsInAll_21 hl (k := 2) rfl (by decide) rfl (fun ls hl => ?_)
        refine lv_goto (tgt := 4) hx hb dX7_cellsInAll_24 (by decide) ?_
        exact ih_4 (nq + 1) (by first | assumption | omega) (by omega) _ _ hP hS _ (lv_cons (lv_at hl 2 rfl) (lv_cons (lv_i hl 1 rfl (by first | rfl | omega | (simp only [sumN]; rw [cst0]))) (lv_cons (lv_i hl 0 rfl (by first | rfl | omega | (simp only [sumN]; rw [cst0]))) (lv_nil hl))))
  exact lp_4 _ 0 (by first | assumption | omega) (Nat.lt_succ_self _) _ _ hP hS _ (lv_cons (lv_at hl 2 rfl) (lv_cons (lv_i hl 1 rfl (by first | rfl | omega | (simp only [sumN]; rw [cst0]))) (lv_cons (lv_i hl 0 rfl (by first | rfl | omega | (simp only [sumN]; rw [cst0]))) (lv_nil hl))))

set_option maxHeartbeats 4000000 in
set_option maxRecDepth 100000 in
theorem c_X7_endBefore (l : Launch) (G : zG) (sz : Nat) (s0 : Nat) (sl : Nat) (se : Nat) (sc : Nat) (sn : Int) (lF : Nat → Int) (eF : Nat → Int) (cF : Nat → Int) (nx : Int) (ln : Int) (hO : sOK sn lF cF) (hnx : -1 ≤ nx ∧ nx < 81) (hln : 0 ≤ ln ∧ ln ≤ 6) : Met l yX7_endBefore (Cond.code yX7_endBefore cX7_endBefore 3 (some .int) :: zT) (zRm 4 89) (zPr G [.ref s0, .int (iV nx), .int (iV ln)] [(s0, .inr (7, [.int (iV sn), .ref sl, .ref se, .ref sc])), (sl, .inl (G.2.1, 20, .inl (fun k => iV (lF k)))), (se, .inl (G.2.1, 20, .inl (fun k => iV (eF k)))), (sc, .inl (G.2.1, 120, .inl (fun k => iV (cF k))))] sz) (zQr (sEnd sn lF (sT cF) nx ln) sz) 0 0 (zF sz) := by
  refine Met.ofW (cc := cX7_endBefore) (maxL := 3) (ret := (some .int)) (by decide) rfl ?_
  intro p e s m args below meth c s₁ B hml hv
  obtain ⟨rfl, hsz, hP, hK, hSt⟩ := hv
  have hx := B.exec
  have hb := B.bytes
  have hr := B.returns
  have hts : ∀ w ∈ zT, w.before _ s = true := fun w h => atoms_spec (ws := (Cond.code yX7_endBefore cX7_endBefore 3 (some .int) :: zT)) B.pre w (List.mem_cons_of_mem _ h)
  have hown : s.vm.findClass RX7 = some m.cls := findClass_of_methodNamed B.named
  have hlocks := B.notSynchronized
  subst hsz
  have hA : ∀ q : Nat, s.heap.size ≤ q → zF s.heap.size q := fun _ h => h
  have hS : va_S (zF s.heap.size) s.heap s.heap [] := va_S.rf
  have hP : va_P G.1 vwCl [(s0, .inr (7, [.int (iV sn), .ref sl, .ref se, .ref sc])), (sl, .inl (G.2.1, 20, .inl (fun k => iV (lF k)))), (se, .inl (G.2.1, 20, .inl (fun k => iV (eF k)))), (sc, .inl (G.2.1, 120, .inl (fun k => iV (cF k))))] s.heap := hP
  have X := And.intro hx (And.intro hb (And.intro hml (And.intro hown (And.intro hts (And.intro hK (And.intro hSt hA))))))
  have hl := lv_entry ([.ref s0, .int (iV nx), .int (iV ln)]) (n := 3) (Nat.le_of_ble_eq_true rfl)
  rw [lg_entry_eq]
  generalize (lg_sl ([.ref s0, .int (iV nx), .int (iV ln)]) ++ List.replicate (3 - (lg_sl ([.ref s0, .int (iV nx), .int (iV ln)])).length) Slot.unset).toArray = ls at hl ⊢
  have hl : lv_has ls 3 [(0, .ref s0), (1, .int (iV nx)), (2, .int (iV ln))] := hl
  obtain ⟨hn0, hn20, hlF, hcF⟩ := id hO
  refine lv_iload_n hx hb dX7_endBefore_0 rfl (lv_at hl 1 rfl) ?_
  refine lv_iconst (v := iV (-1)) hx hb dX7_endBefore_1 (by decide) ?_
  refine z_icmp_ne (tgt := 7) hx hb (by omega) ⟨by decide, by decide⟩ dX7_endBefore_2 (by decide) (fun c_1 => ?_) (fun c_1 => ?_)
  · refine lv_aload_n hx hb dX7_endBefore_7 rfl (lv_at hl 0 rfl) ?_
    refine lv_iload_n hx hb dX7_endBefore_8 rfl (lv_at hl 1 rfl) ?_
    refine z_callV X hP hS hl.1 (c_X7_isKeptOff l G _ s0 sl se sc sn lF eF cF nx (by first | assumption | omega) (by first | assumption | omega)) wd_693 kX7_isKeptOff ⟨rfl, rfl, Nat.le_of_ble_eq_true rfl, Nat.le_of_ble_eq_true rfl⟩ [0, 1, 2, 3] rfl 0 rfl rfl rfl rfl (Nat.le_of_ble_eq_true rfl) dX7_endBefore_9 ⟨Nat.zero_le _, Nat.zero_le _⟩ (fun H locs hP hS => ?_)
    refine z_ifb_ne (tgt := 17) hx hb dX7_endBefore_12 (by decide) (fun c_2 => ?_) (fun c_2 => ?_)
    · refine lv_iload_n hx hb dX7_endBefore_17 rfl (lv_at hl 2 rfl) ?_
      refine lv_bipush (v := iV 6) hx hb dX7_endBefore_18 (by decide) ?_
      refine z_icmp_ne (tgt := 27) hx hb (by omega) ⟨by decide, by decide⟩ dX7_endBefore_20 (by decide) (fun c_3 => ?_) (fun c_3 => ?_)
      · refine lv_iconst (v := iV 0) hx hb dX7_endBefore_27 (by decide) ?_
        refine z_eq (z := sEnd sn lF (sT cF) nx ln) (by unfold sEnd; first | rw [if_pos (by assumption)] | (rw [if_neg (by assumption), if_pos (bP_f (by assumption))]) | (rw [if_neg (by assumption), if_neg (by rw [bP_t (by assumption)]; omega), if_pos (by assumption)]) | (rw [if_neg (by assumption), if_neg (by rw [bP_t (by assumption)]; omega), if_neg (by assumption)])) ?_
        exact z_ret hx hb hr hlocks hS dX7_endBefore_28
      · refine lv_iconst (v := iV 3) hx hb dX7_endBefore_23 (by decide) ?_
        refine lv_goto (tgt := 28) hx hb dX7_endBefore_24 (by decide) ?_
        refine z_eq (z := sEnd sn lF (sT cF) nx ln) (by unfold sEnd; first | rw [if_pos (by assumption)] | (rw [if_neg (by assumption), if_pos (bP_f (by assumption))]) | (rw [if_neg (by assumption), if_neg (by rw [bP_t (by assumption)]; omega), if_pos (by assumption)]) | (rw [if_neg (by assumption), if_neg (by rw [bP_t (by assumption)]; omega), if_neg (by assumption)])) ?_
        exact z_ret hx hb hr hlocks hS dX7_endBefore_28
    · refine lv_iconst (v := iV 2) hx hb dX7_endBefore_15 (by decide) ?_
      refine z_eq (z := sEnd sn lF (sT cF) nx ln) (by unfold sEnd; first | rw [if_pos (by assumption)] | (rw [if_neg (by assumption), if_pos (bP_f (by assumption))]) | (rw [if_neg (by assumption), if_neg (by rw [bP_t (by assumption)]; omega), if_pos (by assumption)]) | (rw [if_neg (by assumption), if_neg (by rw [bP_t (by assumption)]; omega), if_neg (by assumption)])) ?_
      exact z_ret hx hb hr hlocks hS dX7_endBefore_16
  · refine lv_iconst (v := iV 1) hx hb dX7_endBefore_5 (by decide) ?_
    refine z_eq (z := sEnd sn lF (sT cF) nx ln) (by unfold sEnd; first | rw [if_pos (by assumption)] | (rw [if_neg (by assumption), if_pos (bP_f (by assumption))]) | (rw [if_neg (by assumption), if_neg (by rw [bP_t (by assumption)]; omega), if_pos (by assumption)]) | (rw [if_neg (by assumption), if_neg (by rw [bP_t (by assumption)]; omega), if_neg (by assumption)])) ?_
    exact z_ret hx hb hr hlocks hS dX7_endBefore_6

set_option maxHeartbeats 4000000 in
set_option maxRecDepth 100000 in
theorem c_X7_clear (l : Launch) (G : zG) (sz : Nat) (s0 : Nat) (sl : Nat) (se : Nat) (sc : Nat) (sn : Int) (lF : Nat → Int) (eF : Nat → Int) (cF : Nat → Int) (hO : sOK sn lF cF) : Met l yX7_clear (Cond.code yX7_clear cX7_clear 1 none :: zT) (zRm 0 0) (zPw G [.ref s0] [(s0, .inr (7, [.int (iV sn), .ref sl, .ref se, .ref sc])), (sl, .inl (G.2.1, 20, .inl (fun k => iV (lF k)))), (se, .inl (G.2.1, 20, .inl (fun k => iV (eF k)))), (sc, .inl (G.2.1, 120, .inl (fun k => iV (cF k))))] sz) (zQv G [(s0, .inr (7, [.int (iV sn), .ref sl, .ref se, .ref sc])), (sl, .inl (G.2.1, 20, .inl (fun k => iV (lF k)))), (se, .inl (G.2.1, 20, .inl (fun k => iV (eF k)))), (sc, .inl (G.2.1, 120, .inl (fun k => iV (cF k))))] [(s0, .inr (7, [.int (iV 0), .ref sl, .ref se, .ref sc])), (sl, .inl (G.2.1, 20, .inl (fun k => iV (lF k)))), (se, .inl (G.2.1, 20, .inl (fun k => iV (eF k)))), (sc, .inl (G.2.1, 120, .inl (fun k => iV (cF k))))] sz) 0 0 (va_A [(s0, .inr (7, [.int (iV sn), .ref sl, .ref se, .ref sc])), (sl, .inl (G.2.1, 20, .inl (fun k => iV (lF k)))), (se, .inl (G.2.1, 20, .inl (fun k => iV (eF k)))), (sc, .inl (G.2.1, 120, .inl (fun k => iV (cF k))))] sz) := by
  refine Met.ofW (cc := cX7_clear) (maxL := 1) (ret := none) (by decide) rfl ?_
  intro p e s m args below meth c s₁ B hml hv
  obtain ⟨rfl, hsz, hP, hK, hSt, hD0⟩ := hv
  have hx := B.exec
  have hb := B.bytes
  have hr := B.returns
  have hts : ∀ w ∈ zT, w.before _ s = true := fun w h => atoms_spec (ws := (Cond.code yX7_clear cX7_clear 1 none :: zT)) B.pre w (List.mem_cons_of_mem _ h)
  have hown : s.vm.findClass RX7 = some m.cls := findClass_of_methodNamed B.named
  have hlocks := B.notSynchronized
  subst hsz
  have hD : va_D (va_A [(s0, .inr (7, [.int (iV sn), .ref sl, .ref se, .ref sc])), (sl, .inl (G.2.1, 20, .inl (fun k => iV (lF k)))), (se, .inl (G.2.1, 20, .inl (fun k => iV (eF k)))), (sc, .inl (G.2.1, 120, .inl (fun k => iV (cF k))))] s.heap.size) [(s0, .inr (7, [.int (iV sn), .ref sl, .ref se, .ref sc])), (sl, .inl (G.2.1, 20, .inl (fun k => iV (lF k)))), (se, .inl (G.2.1, 20, .inl (fun k => iV (eF k)))), (sc, .inl (G.2.1, 120, .inl (fun k => iV (cF k))))] := hD0.self
  have hA : ∀ q : Nat, s.heap.size ≤ q → va_A [(s0, .inr (7, [.int (iV sn), .ref sl, .ref se, .ref sc])), (sl, .inl (G.2.1, 20, .inl (fun k => iV (lF k)))), (se, .inl (G.2.1, 20, .inl (fun k => iV (eF k)))), (sc, .inl (G.2.1, 120, .inl (fun k => iV (cF k))))] s.heap.size q := fun q h => Or.inr h
  have hS : va_S (va_A [(s0, .inr (7, [.int (iV sn), .ref sl, .ref se, .ref sc])), (sl, .inl (G.2.1, 20, .inl (fun k => iV (lF k)))), (se, .inl (G.2.1, 20, .inl (fun k => iV (eF k)))), (sc, .inl (G.2.1, 120, .inl (fun k => iV (cF k))))] s.heap.size) s.heap s.heap [] := va_S.rf
  have hP : va_P G.1 vwCl [(s0, .inr (7, [.int (iV sn), .ref sl, .ref se, .ref sc])), (sl, .inl (G.2.1, 20, .inl (fun k => iV (lF k)))), (se, .inl (G.2.1, 20, .inl (fun k => iV (eF k)))), (sc, .inl (G.2.1, 120, .inl (fun k => iV (cF k))))] s.heap := hP
  have X := And.intro hx (And.intro hb (And.intro hml (And.intro hown (And.intro hts (And.intro hK (And.intro hSt hA))))))
  have hl := lv_entry ([.ref s0]) (n := 1) (Nat.le_of_ble_eq_true rfl)
  rw [lg_entry_eq]
  generalize (lg_sl ([.ref s0]) ++ List.replicate (1 - (lg_sl ([.ref s0])).length) Slot.unset).toArray = ls at hl ⊢
  have hl : lv_has ls 1 [(0, .ref s0)] := hl
  obtain ⟨hn0, hn20, hlF, hcF⟩ := id hO
  refine lv_aload_n hx hb dX7_clear_0 rfl (lv_at hl 0 rfl) ?_
  refine lv_iconst (v := iV 0) hx hb dX7_clear_1 (by decide) ?_
  refine va_put (D := G.1) (ci := 7) (v := .int (iV 0)) (ty := .int) (C := RX7) (T := TX7) (N := 4) hx hb hts inX7 tyX7 tyX7_ok nmX7 hown hK hP hD hS 0 rfl rfl 0 (by decide) (hts _ wd_58) (fun _ h9 => h9) rfl (by decide +kernel) rfl rfl (Nat.le_of_ble_eq_true rfl) dX7_clear_2 (fun H locs hP hD hS => ?_)
  have hP : va_P G.1 vwCl [(s0, .inr (7, [.int (iV 0), .ref sl, .ref se, .ref sc])), (sl, .inl (G.2.1, 20, .inl (fun k => iV (lF k)))), (se, .inl (G.2.1, 20, .inl (fun k => iV (eF k)))), (sc, .inl (G.2.1, 120, .inl (fun k => iV (cF k))))] H := hP
  have hD : va_D _ [(s0, .inr (7, [.int (iV 0), .ref sl, .ref se, .ref sc])), (sl, .inl (G.2.1, 20, .inl (fun k => iV (lF k)))), (se, .inl (G.2.1, 20, .inl (fun k => iV (eF k)))), (sc, .inl (G.2.1, 120, .inl (fun k => iV (cF k))))] := hD
  exact z_retv hx hb hr hlocks hP hS dX7_clear_5

set_option maxHeartbeats 4000000 in
set_option maxRecDepth 100000 in
theorem c_X7_copyStroke (l : Launch) (G : zG) (sz : Nat) (s0 : Nat) (sl : Nat) (se : Nat) (sc : Nat) (sn : Int) (lF : Nat → Int) (eF : Nat → Int) (cF : Nat → Int) (s02 : Nat) (sl2 : Nat) (se2 : Nat) (sc2 : Nat) (sn2 : Int) (lF2 : Nat → Int) (eF2 : Nat → Int) (cF2 : Nat → Int) (fr : Int) (to : Int) (hO : sOK sn lF cF) (hO2 : sOK sn2 lF2 cF2) (hfr : 0 ≤ fr ∧ fr < 20) (hto : 0 ≤ to ∧ to < 20) : Met l yX7_copyStroke (Cond.code yX7_copyStroke cX7_copyStroke 4 none :: zT) (zRm 1 26) (zPw G [.ref s0, .ref s02, .int (iV fr), .int (iV to)] [(s0, .inr (7, [.int (iV sn), .ref sl, .ref se, .ref sc])), (sl, .inl (G.2.1, 20, .inl (fun k => iV (lF k)))), (se, .inl (G.2.1, 20, .inl (fun k => iV (eF k)))), (sc, .inl (G.2.1, 120, .inl (fun k => iV (cF k)))), (s02, .inr (7, [.int (iV sn2), .ref sl2, .ref se2, .ref sc2])), (sl2, .inl (G.2.1, 20, .inl (fun k => iV (lF2 k)))), (se2, .inl (G.2.1, 20, .inl (fun k => iV (eF2 k)))), (sc2, .inl (G.2.1, 120, .inl (fun k => iV (cF2 k))))] sz) (zQv G [(s0, .inr (7, [.int (iV sn), .ref sl, .ref se, .ref sc])), (sl, .inl (G.2.1, 20, .inl (fun k => iV (lF k)))), (se, .inl (G.2.1, 20, .inl (fun k => iV (eF k)))), (sc, .inl (G.2.1, 120, .inl (fun k => iV (cF k)))), (s02, .inr (7, [.int (iV sn2), .ref sl2, .ref se2, .ref sc2])), (sl2, .inl (G.2.1, 20, .inl (fun k => iV (lF2 k)))), (se2, .inl (G.2.1, 20, .inl (fun k => iV (eF2 k)))), (sc2, .inl (G.2.1, 120, .inl (fun k => iV (cF2 k))))] [(s0, .inr (7, [.int (iV sn), .ref sl, .ref se, .ref sc])), (sl, .inl (G.2.1, 20, .inl (fun k => iV (uI lF to.toNat (lF2 fr.toNat) k)))), (se, .inl (G.2.1, 20, .inl (fun k => iV (uI eF to.toNat (eF2 fr.toNat) k)))), (sc, .inl (G.2.1, 120, .inl (fun k => iV (zCp cF2 cF (fr * 6).toNat (to * 6).toNat 6 k)))), (s02, .inr (7, [.int (iV sn2), .ref sl2, .ref se2, .ref sc2])), (sl2, .inl (G.2.1, 20, .inl (fun k => iV (lF2 k)))), (se2, .inl (G.2.1, 20, .inl (fun k => iV (eF2 k)))), (sc2, .inl (G.2.1, 120, .inl (fun k => iV (cF2 k))))] sz) 0 0 (va_A [(s0, .inr (7, [.int (iV sn), .ref sl, .ref se, .ref sc])), (sl, .inl (G.2.1, 20, .inl (fun k => iV (lF k)))), (se, .inl (G.2.1, 20, .inl (fun k => iV (eF k)))), (sc, .inl (G.2.1, 120, .inl (fun k => iV (cF k)))), (s02, .inr (7, [.int (iV sn2), .ref sl2, .ref se2, .ref sc2])), (sl2, .inl (G.2.1, 20, .inl (fun k => iV (lF2 k)))), (se2, .inl (G.2.1, 20, .inl (fun k => iV (eF2 k)))), (sc2, .inl (G.2.1, 120, .inl (fun k => iV (cF2 k))))] sz) := by
  refine Met.ofW (cc := cX7_copyStroke) (maxL := 4) (ret := none) (by decide) rfl ?_
  intro p e s m args below meth c s₁ B hml hv
  obtain ⟨rfl, hsz, hP, hK, hSt, hD0⟩ := hv
  have hx := B.exec
  have hb := B.bytes
  have hr := B.returns
  have hts : ∀ w ∈ zT, w.before _ s = true := fun w h => atoms_spec (ws := (Cond.code yX7_copyStroke cX7_copyStroke 4 none :: zT)) B.pre w (List.mem_cons_of_mem _ h)
  have hown : s.vm.findClass RX7 = some m.cls := findClass_of_methodNamed B.named
  have hlocks := B.notSynchronized
  subst hsz
  have hD : va_D (va_A [(s0, .inr (7, [.int (iV sn), .ref sl, .ref se, .ref sc])), (sl, .inl (G.2.1, 20, .inl (fun k => iV (lF k)))), (se, .inl (G.2.1, 20, .inl (fun k => iV (eF k)))), (sc, .inl (G.2.1, 120, .inl (fun k => iV (cF k)))), (s02, .inr (7, [.int (iV sn2), .ref sl2, .ref se2, .ref sc2])), (sl2, .inl (G.2.1, 20, .inl (fun k => iV (lF2 k)))), (se2, .inl (G.2.1, 20, .inl (fun k => iV (eF2 k)))), (sc2, .inl (G.2.1, 120, .inl (fun k => iV (cF2 k))))] s.heap.size) [(s0, .inr (7, [.int (iV sn), .ref sl, .ref se, .ref sc])), (sl, .inl (G.2.1, 20, .inl (fun k => iV (lF k)))), (se, .inl (G.2.1, 20, .inl (fun k => iV (eF k)))), (sc, .inl (G.2.1, 120, .inl (fun k => iV (cF k)))), (s02, .inr (7, [.int (iV sn2), .ref sl2, .ref se2, .ref sc2])), (sl2, .inl (G.2.1, 20, .inl (fun k => iV (lF2 k)))), (se2, .inl (G.2.1, 20, .inl (fun k => iV (eF2 k)))), (sc2, .inl (G.2.1, 120, .inl (fun k => iV (cF2 k))))] := hD0.self
  have hA : ∀ q : Nat, s.heap.size ≤ q → va_A [(s0, .inr (7, [.int (iV sn), .ref sl, .ref se, .ref sc])), (sl, .inl (G.2.1, 20, .inl (fun k => iV (lF k)))), (se, .inl (G.2.1, 20, .inl (fun k => iV (eF k)))), (sc, .inl (G.2.1, 120, .inl (fun k => iV (cF k)))), (s02, .inr (7, [.int (iV sn2), .ref sl2, .ref se2, .ref sc2])), (sl2, .inl (G.2.1, 20, .inl (fun k => iV (lF2 k)))), (se2, .inl (G.2.1, 20, .inl (fun k => iV (eF2 k)))), (sc2, .inl (G.2.1, 120, .inl (fun k => iV (cF2 k))))] s.heap.size q := fun q h => Or.inr h
  have hS : va_S (va_A [(s0, .inr (7, [.int (iV sn), .ref sl, .ref se, .ref sc])), (sl, .inl (G.2.1, 20, .inl (fun k => iV (lF k)))), (se, .inl (G.2.1, 20, .inl (fun k => iV (eF k)))), (sc, .inl (G.2.1, 120, .inl (fun k => iV (cF k)))), (s02, .inr (7, [.int (iV sn2), .ref sl2, .ref se2, .ref sc2])), (sl2, .inl (G.2.1, 20, .inl (fun k => iV (lF2 k)))), (se2, .inl (G.2.1, 20, .inl (fun k => iV (eF2 k)))), (sc2, .inl (G.2.1, 120, .inl (fun k => iV (cF2 k))))] s.heap.size) s.heap s.heap [] := va_S.rf
  have hP : va_P G.1 vwCl [(s0, .inr (7, [.int (iV sn), .ref sl, .ref se, .ref sc])), (sl, .inl (G.2.1, 20, .inl (fun k => iV (lF k)))), (se, .inl (G.2.1, 20, .inl (fun k => iV (eF k)))), (sc, .inl (G.2.1, 120, .inl (fun k => iV (cF k)))), (s02, .inr (7, [.int (iV sn2), .ref sl2, .ref se2, .ref sc2])), (sl2, .inl (G.2.1, 20, .inl (fun k => iV (lF2 k)))), (se2, .inl (G.2.1, 20, .inl (fun k => iV (eF2 k)))), (sc2, .inl (G.2.1, 120, .inl (fun k => iV (cF2 k))))] s.heap := hP
  have X := And.intro hx (And.intro hb (And.intro hml (And.intro hown (And.intro hts (And.intro hK (And.intro hSt hA))))))
  have hl := lv_entry ([.ref s0, .ref s02, .int (iV fr), .int (iV to)]) (n := 4) (Nat.le_of_ble_eq_true rfl)
  rw [lg_entry_eq]
  generalize (lg_sl ([.ref s0, .ref s02, .int (iV fr), .int (iV to)]) ++ List.replicate (4 - (lg_sl ([.ref s0, .ref s02, .int (iV fr), .int (iV to)])).length) Slot.unset).toArray = ls at hl ⊢
  have hl : lv_has ls 4 [(0, .ref s0), (1, .ref s02), (2, .int (iV fr)), (3, .int (iV to))] := hl
  obtain ⟨hn0, hn20, hlF, hcF⟩ := id hO
  obtain ⟨hm0, hm20, hlF2, hcF2⟩ := id hO2
  refine lv_aload_n hx hb dX7_copyStroke_0 rfl (lv_at hl 0 rfl) ?_
  refine va_get (D := G.1) (ci := 7) (v := .ref sl) (C := RX7) (T := TX7) (N := 4) hx hb hts inX7 hown hK hP 0 rfl rfl 1 (by decide) (hts _ wd_60) (fun _ h9 => h9) rfl dX7_copyStroke_1 ?_
  refine lv_iload_n hx hb dX7_copyStroke_4 rfl (lv_at hl 3 rfl) ?_
  refine lv_aload_n hx hb dX7_copyStroke_5 rfl (lv_at hl 1 rfl) ?_
  refine va_get (D := G.1) (ci := 7) (v := .ref sl2) (C := RX7) (T := TX7) (N := 4) hx hb hts inX7 hown hK hP 4 rfl rfl 1 (by decide) (hts _ wd_60) (fun _ h9 => h9) rfl dX7_copyStroke_6 ?_
  refine lv_iload_n hx hb dX7_copyStroke_9 rfl (lv_at hl 2 rfl) ?_
  refine z_iald (G := G) (f := lF2) hx hb hK hP 5 rfl (by omega) (by omega) (by decide) dX7_copyStroke_10 ?_
  refine z_iast (G := G) (f := lF) hx hb hK hP hD hS 1 rfl (by omega) (by omega) (by decide) dX7_copyStroke_11 (fun H locs hP hD hS => ?_)
  have hP : va_P G.1 vwCl [(s0, .inr (7, [.int (iV sn), .ref sl, .ref se, .ref sc])), (sl, .inl (G.2.1, 20, .inl (fun k => iV ((uI lF to.toNat (lF2 fr.toNat)) k)))), (se, .inl (G.2.1, 20, .inl (fun k => iV (eF k)))), (sc, .inl (G.2.1, 120, .inl (fun k => iV (cF k)))), (s02, .inr (7, [.int (iV sn2), .ref sl2, .ref se2, .ref sc2])), (sl2, .inl (G.2.1, 20, .inl (fun k => iV (lF2 k)))), (se2, .inl (G.2.1, 20, .inl (fun k => iV (eF2 k)))), (sc2, .inl (G.2.1, 120, .inl (fun k => iV (cF2 k))))] H := hP
  have hD : va_D _ [(s0, .inr (7, [.int (iV sn), .ref sl, .ref se, .ref sc])), (sl, .inl (G.2.1, 20, .inl (fun k => iV ((uI lF to.toNat (lF2 fr.toNat)) k)))), (se, .inl (G.2.1, 20, .inl (fun k => iV (eF k)))), (sc, .inl (G.2.1, 120, .inl (fun k => iV (cF k)))), (s02, .inr (7, [.int (iV sn2), .ref sl2, .ref se2, .ref sc2])), (sl2, .inl (G.2.1, 20, .inl (fun k => iV (lF2 k)))), (se2, .inl (G.2.1, 20, .inl (fun k => iV (eF2 k)))), (sc2, .inl (G.2.1, 120, .inl (fun k => iV (cF2 k))))] := hD
  refine lv_aload_n hx hb dX7_copyStroke_12 rfl (lv_at hl 0 rfl) ?_
  refine va_get (D := G.1) (ci := 7) (v := .ref se) (C := RX7) (T := TX7) (N := 4) hx hb hts inX7 hown hK hP 0 rfl rfl 2 (by decide) (hts _ wd_62) (fun _ h9 => h9) rfl dX7_copyStroke_13 ?_
  refine lv_iload_n hx hb dX7_copyStroke_16 rfl (lv_at hl 3 rfl) ?_
  refine lv_aload_n hx hb dX7_copyStroke_17 rfl (lv_at hl 1 rfl) ?_
  refine va_get (D := G.1) (ci := 7) (v := .ref se2) (C := RX7) (T := TX7) (N := 4) hx hb hts inX7 hown hK hP 4 rfl rfl 2 (by decide) (hts _ wd_62) (fun _ h9 => h9) rfl dX7_copyStroke_18 ?_
  refine lv_iload_n hx hb dX7_copyStroke_21 rfl (lv_at hl 2 rfl) ?_
  refine z_iald (G := G) (f := eF2) hx hb hK hP 6 rfl (by omega) (by omega) (by decide) dX7_copyStroke_22 ?_
  refine z_iast (G := G) (f := eF) hx hb hK hP hD hS 2 rfl (by omega) (by omega) (by decide) dX7_copyStroke_23 (fun H locs hP hD hS => ?_)
  have hP : va_P G.1 vwCl [(s0, .inr (7, [.int (iV sn), .ref sl, .ref se, .ref sc])), (sl, .inl (G.2.1, 20, .inl (fun k => iV ((uI lF to.toNat (lF2 fr.toNat)) k)))), (se, .inl (G.2.1, 20, .inl (fun k => iV ((uI eF to.toNat (eF2 fr.toNat)) k)))), (sc, .inl (G.2.1, 120, .inl (fun k => iV (cF k)))), (s02, .inr (7, [.int (iV sn2), .ref sl2, .ref se2, .ref sc2])), (sl2, .inl (G.2.1, 20, .inl (fun k => iV (lF2 k)))), (se2, .inl (G.2.1, 20, .inl (fun k => iV (eF2 k)))), (sc2, .inl (G.2.1, 120, .inl (fun k => iV (cF2 k))))] H := hP
  have hD : va_D _ [(s0, .inr (7, [.int (iV sn), .ref sl, .ref se, .ref sc])), (sl, .inl (G.2.1, 20, .inl (fun k => iV ((uI lF to.toNat (lF2 fr.toNat)) k)))), (se, .inl (G.2.1, 20, .inl (fun k => iV ((uI eF to.toNat (eF2 fr.toNat)) k)))), (sc, .inl (G.2.1, 120, .inl (fun k => iV (cF k)))), (s02, .inr (7, [.int (iV sn2), .ref sl2, .ref se2, .ref sc2])), (sl2, .inl (G.2.1, 20, .inl (fun k => iV (lF2 k)))), (se2, .inl (G.2.1, 20, .inl (fun k => iV (eF2 k)))), (sc2, .inl (G.2.1, 120, .inl (fun k => iV (cF2 k))))] := hD
  refine lv_aload_n hx hb dX7_copyStroke_24 rfl (lv_at hl 1 rfl) ?_
  refine va_get (D := G.1) (ci := 7) (v := .ref sc2) (C := RX7) (T := TX7) (N := 4) hx hb hts inX7 hown hK hP 4 rfl rfl 3 (by decide) (hts _ wd_64) (fun _ h9 => h9) rfl dX7_copyStroke_25 ?_
  refine lv_iload_n hx hb dX7_copyStroke_28 rfl (lv_at hl 2 rfl) ?_
  refine lv_bipush (v := iV 6) hx hb dX7_copyStroke_29 (by decide) ?_
  refine z_imul hx hb dX7_copyStroke_31 ?_
  refine lv_aload_n hx hb dX7_copyStroke_32 rfl (lv_at hl 0 rfl) ?_
  refine va_get (D := G.1) (ci := 7) (v := .ref sc) (C := RX7) (T := TX7) (N := 4) hx hb hts inX7 hown hK hP 0 rfl rfl 3 (by decide) (hts _ wd_64) (fun _ h9 => h9) rfl dX7_copyStroke_33 ?_
  refine lv_iload_n hx hb dX7_copyStroke_36 rfl (lv_at hl 3 rfl) ?_
  refine lv_bipush (v := iV 6) hx hb dX7_copyStroke_37 (by decide) ?_
  refine z_imul hx hb dX7_copyStroke_39 ?_
  refine lv_bipush (v := iV 6) hx hb dX7_copyStroke_40 (by decide) ?_
  refine z_copyi (G := G) (f := cF2) (g := cF) hx hb (hml.trans hl.1.symm) hown (hts _ wd_366) (hts _ wd_357) (hts _ wd_356) (hts _ wd_15) hK hP hD hS 7 3 rfl rfl (by omega) (by omega) (Nat.le_of_ble_eq_true rfl) (Nat.le_of_ble_eq_true rfl) dX7_copyStroke_42 (fun H locs hP hD hS => ?_)
  have hP : va_P G.1 vwCl [(s0, .inr (7, [.int (iV sn), .ref sl, .ref se, .ref sc])), (sl, .inl (G.2.1, 20, .inl (fun k => iV ((uI lF to.toNat (lF2 fr.toNat)) k)))), (se, .inl (G.2.1, 20, .inl (fun k => iV ((uI eF to.toNat (eF2 fr.toNat)) k)))), (sc, .inl (G.2.1, 120, .inl (fun k => iV ((zCp cF2 cF (fr * 6).toNat (to * 6).toNat 6) k)))), (s02, .inr (7, [.int (iV sn2), .ref sl2, .ref se2, .ref sc2])), (sl2, .inl (G.2.1, 20, .inl (fun k => iV (lF2 k)))), (se2, .inl (G.2.1, 20, .inl (fun k => iV (eF2 k)))), (sc2, .inl (G.2.1, 120, .inl (fun k => iV (cF2 k))))] H := hP
  have hD : va_D _ [(s0, .inr (7, [.int (iV sn), .ref sl, .ref se, .ref sc])), (sl, .inl (G.2.1, 20, .inl (fun k => iV ((uI lF to.toNat (lF2 fr.toNat)) k)))), (se, .inl (G.2.1, 20, .inl (fun k => iV ((uI eF to.toNat (eF2 fr.toNat)) k)))), (sc, .inl (G.2.1, 120, .inl (fun k => iV ((zCp cF2 cF (fr * 6).toNat (to * 6).toNat 6) k)))), (s02, .inr (7, [.int (iV sn2), .ref sl2, .ref se2, .ref sc2])), (sl2, .inl (G.2.1, 20, .inl (fun k => iV (lF2 k)))), (se2, .inl (G.2.1, 20, .inl (fun k => iV (eF2 k)))), (sc2, .inl (G.2.1, 120, .inl (fun k => iV (cF2 k))))] := hD
  have hP : va_P G.1 vwCl [(s0, .inr (7, [.int (iV sn), .ref sl, .ref se, .ref sc])), (sl, .inl (G.2.1, 20, .inl (fun k => iV (uI lF to.toNat (lF2 fr.toNat) k)))), (se, .inl (G.2.1, 20, .inl (fun k => iV (uI eF to.toNat (eF2 fr.toNat) k)))), (sc, .inl (G.2.1, 120, .inl (fun k => iV (zCp cF2 cF (fr * 6).toNat (to * 6).toNat 6 k)))), (s02, .inr (7, [.int (iV sn2), .ref sl2, .ref se2, .ref sc2])), (sl2, .inl (G.2.1, 20, .inl (fun k => iV (lF2 k)))), (se2, .inl (G.2.1, 20, .inl (fun k => iV (eF2 k)))), (sc2, .inl (G.2.1, 120, .inl (fun k => iV (cF2 k))))] _ := z_castP (by rfl) hP
  exact z_retv hx hb hr hlocks hP hS dX7_copyStroke_45

set_option maxHeartbeats 4000000 in
set_option maxRecDepth 100000 in
theorem c_X7_copyFrom (l : Launch) (G : zG) (sz : Nat) (s0 : Nat) (sl : Nat) (se : Nat) (sc : Nat) (sn : Int) (lF : Nat → Int) (eF : Nat → Int) (cF : Nat → Int) (s02 : Nat) (sl2 : Nat) (se2 : Nat) (sc2 : Nat) (sn2 : Int) (lF2 : Nat → Int) (eF2 : Nat → Int) (cF2 : Nat → Int) (hO : sOK sn lF cF) (hO2 : sOK sn2 lF2 cF2) : Met l yX7_copyFrom (Cond.code yX7_copyFrom cX7_copyFrom 3 none :: zT) (zRm 2 49) (zPw G [.ref s0, .ref s02] [(s0, .inr (7, [.int (iV sn), .ref sl, .ref se, .ref sc])), (sl, .inl (G.2.1, 20, .inl (fun k => iV (lF k)))), (se, .inl (G.2.1, 20, .inl (fun k => iV (eF k)))), (sc, .inl (G.2.1, 120, .inl (fun k => iV (cF k)))), (s02, .inr (7, [.int (iV sn2), .ref sl2, .ref se2, .ref sc2])), (sl2, .inl (G.2.1, 20, .inl (fun k => iV (lF2 k)))), (se2, .inl (G.2.1, 20, .inl (fun k => iV (eF2 k)))), (sc2, .inl (G.2.1, 120, .inl (fun k => iV (cF2 k))))] sz) (zQv G [(s0, .inr (7, [.int (iV sn), .ref sl, .ref se, .ref sc])), (sl, .inl (G.2.1, 20, .inl (fun k => iV (lF k)))), (se, .inl (G.2.1, 20, .inl (fun k => iV (eF k)))), (sc, .inl (G.2.1, 120, .inl (fun k => iV (cF k)))), (s02, .inr (7, [.int (iV sn2), .ref sl2, .ref se2, .ref sc2])), (sl2, .inl (G.2.1, 20, .inl (fun k => iV (lF2 k)))), (se2, .inl (G.2.1, 20, .inl (fun k => iV (eF2 k)))), (sc2, .inl (G.2.1, 120, .inl (fun k => iV (cF2 k))))] [(s0, .inr (7, [.int (iV sn2), .ref sl, .ref se, .ref sc])), (sl, .inl (G.2.1, 20, .inl (fun k => iV (zTake sn2.toNat lF2 lF k)))), (se, .inl (G.2.1, 20, .inl (fun k => iV (zTake sn2.toNat eF2 eF k)))), (sc, .inl (G.2.1, 120, .inl (fun k => iV (zTake (6 * sn2.toNat) cF2 cF k)))), (s02, .inr (7, [.int (iV sn2), .ref sl2, .ref se2, .ref sc2])), (sl2, .inl (G.2.1, 20, .inl (fun k => iV (lF2 k)))), (se2, .inl (G.2.1, 20, .inl (fun k => iV (eF2 k)))), (sc2, .inl (G.2.1, 120, .inl (fun k => iV (cF2 k))))] sz) 0 0 (va_A [(s0, .inr (7, [.int (iV sn), .ref sl, .ref se, .ref sc])), (sl, .inl (G.2.1, 20, .inl (fun k => iV (lF k)))), (se, .inl (G.2.1, 20, .inl (fun k => iV (eF k)))), (sc, .inl (G.2.1, 120, .inl (fun k => iV (cF k)))), (s02, .inr (7, [.int (iV sn2), .ref sl2, .ref se2, .ref sc2])), (sl2, .inl (G.2.1, 20, .inl (fun k => iV (lF2 k)))), (se2, .inl (G.2.1, 20, .inl (fun k => iV (eF2 k)))), (sc2, .inl (G.2.1, 120, .inl (fun k => iV (cF2 k))))] sz) := by
  refine Met.ofW (cc := cX7_copyFrom) (maxL := 3) (ret := none) (by decide) rfl ?_
  intro p e s m args below meth c s₁ B hml hv
  obtain ⟨rfl, hsz, hP, hK, hSt, hD0⟩ := hv
  have hx := B.exec
  have hb := B.bytes
  have hr := B.returns
  have hts : ∀ w ∈ zT, w.before _ s = true := fun w h => atoms_spec (ws := (Cond.code yX7_copyFrom cX7_copyFrom 3 none :: zT)) B.pre w (List.mem_cons_of_mem _ h)
  have hown : s.vm.findClass RX7 = some m.cls := findClass_of_methodNamed B.named
  have hlocks := B.notSynchronized
  subst hsz
  have hD : va_D (va_A [(s0, .inr (7, [.int (iV sn), .ref sl, .ref se, .ref sc])), (sl, .inl (G.2.1, 20, .inl (fun k => iV (lF k)))), (se, .inl (G.2.1, 20, .inl (fun k => iV (eF k)))), (sc, .inl (G.2.1, 120, .inl (fun k => iV (cF k)))), (s02, .inr (7, [.int (iV sn2), .ref sl2, .ref se2, .ref sc2])), (sl2, .inl (G.2.1, 20, .inl (fun k => iV (lF2 k)))), (se2, .inl (G.2.1, 20, .inl (fun k => iV (eF2 k)))), (sc2, .inl (G.2.1, 120, .inl (fun k => iV (cF2 k))))] s.heap.size) [(s0, .inr (7, [.int (iV sn), .ref sl, .ref se, .ref sc])), (sl, .inl (G.2.1, 20, .inl (fun k => iV (lF k)))), (se, .inl (G.2.1, 20, .inl (fun k => iV (eF k)))), (sc, .inl (G.2.1, 120, .inl (fun k => iV (cF k)))), (s02, .inr (7, [.int (iV sn2), .ref sl2, .ref se2, .ref sc2])), (sl2, .inl (G.2.1, 20, .inl (fun k => iV (lF2 k)))), (se2, .inl (G.2.1, 20, .inl (fun k => iV (eF2 k)))), (sc2, .inl (G.2.1, 120, .inl (fun k => iV (cF2 k))))] := hD0.self
  have hA : ∀ q : Nat, s.heap.size ≤ q → va_A [(s0, .inr (7, [.int (iV sn), .ref sl, .ref se, .ref sc])), (sl, .inl (G.2.1, 20, .inl (fun k => iV (lF k)))), (se, .inl (G.2.1, 20, .inl (fun k => iV (eF k)))), (sc, .inl (G.2.1, 120, .inl (fun k => iV (cF k)))), (s02, .inr (7, [.int (iV sn2), .ref sl2, .ref se2, .ref sc2])), (sl2, .inl (G.2.1, 20, .inl (fun k => iV (lF2 k)))), (se2, .inl (G.2.1, 20, .inl (fun k => iV (eF2 k)))), (sc2, .inl (G.2.1, 120, .inl (fun k => iV (cF2 k))))] s.heap.size q := fun q h => Or.inr h
  have hS : va_S (va_A [(s0, .inr (7, [.int (iV sn), .ref sl, .ref se, .ref sc])), (sl, .inl (G.2.1, 20, .inl (fun k => iV (lF k)))), (se, .inl (G.2.1, 20, .inl (fun k => iV (eF k)))), (sc, .inl (G.2.1, 120, .inl (fun k => iV (cF k)))), (s02, .inr (7, [.int (iV sn2), .ref sl2, .ref se2, .ref sc2])), (sl2, .inl (G.2.1, 20, .inl (fun k => iV (lF2 k)))), (se2, .inl (G.2.1, 20, .inl (fun k => iV (eF2 k)))), (sc2, .inl (G.2.1, 120, .inl (fun k => iV (cF2 k))))] s.heap.size) s.heap s.heap [] := va_S.rf
  have hP : va_P G.1 vwCl [(s0, .inr (7, [.int (iV sn), .ref sl, .ref se, .ref sc])), (sl, .inl (G.2.1, 20, .inl (fun k => iV (lF k)))), (se, .inl (G.2.1, 20, .inl (fun k => iV (eF k)))), (sc, .inl (G.2.1, 120, .inl (fun k => iV (cF k)))), (s02, .inr (7, [.int (iV sn2), .ref sl2, .ref se2, .ref sc2])), (sl2, .inl (G.2.1, 20, .inl (fun k => iV (lF2 k)))), (se2, .inl (G.2.1, 20, .inl (fun k => iV (eF2 k)))), (sc2, .inl (G.2.1, 120, .inl (fun k => iV (cF2 k))))] s.heap := hP
  have X := And.intro hx (And.intro hb (And.intro hml (And.intro hown (And.intro hts (And.intro hK (And.intro hSt hA))))))
  have hl := lv_entry ([.ref s0, .ref s02]) (n := 3) (Nat.le_of_ble_eq_true rfl)
  rw [lg_entry_eq]
  generalize (lg_sl ([.ref s0, .ref s02]) ++ List.replicate (3 - (lg_sl ([.ref s0, .ref s02])).length) Slot.unset).toArray = ls at hl ⊢
  have hl : lv_has ls 3 [(0, .ref s0), (1, .ref s02)] := hl
  obtain ⟨hn0, hn20, hlF, hcF⟩ := id hO
  obtain ⟨hm0, hm20, hlF2, hcF2⟩ := id hO2
  refine lv_iconst (v := iV 0) hx hb dX7_copyFrom_0 (by decide) ?_
  refine lv_istore_n (lv' := [(2, .int (iV 0)), (0, .ref s0), (1, .ref s02)]) hx hb dX7_copyFrom_1 rfl hl (by decide) rfl (fun ls hl => ?_)
  have lp_2 : ∀ (k : Nat) (nq : Nat) , ((Nat.cast nq : Int) ≤ sn2) → (20 - nq) < k → ∀ (H : Heap) (locs : List Loc), va_P G.1 vwCl [(s0, .inr (7, [.int (iV sn), .ref sl, .ref se, .ref sc])), (sl, .inl (G.2.1, 20, .inl (fun k => iV (zTake nq lF2 lF k)))), (se, .inl (G.2.1, 20, .inl (fun k => iV (zTake nq eF2 eF k)))), (sc, .inl (G.2.1, 120, .inl (fun k => iV (zTake (6 * nq) cF2 cF k)))), (s02, .inr (7, [.int (iV sn2), .ref sl2, .ref se2, .ref sc2])), (sl2, .inl (G.2.1, 20, .inl (fun k => iV (lF2 k)))), (se2, .inl (G.2.1, 20, .inl (fun k => iV (eF2 k)))), (sc2, .inl (G.2.1, 120, .inl (fun k => iV (cF2 k))))] H → va_D (va_A [(s0, .inr (7, [.int (iV sn), .ref sl, .ref se, .ref sc])), (sl, .inl (G.2.1, 20, .inl (fun k => iV (lF k)))), (se, .inl (G.2.1, 20, .inl (fun k => iV (eF k)))), (sc, .inl (G.2.1, 120, .inl (fun k => iV (cF k)))), (s02, .inr (7, [.int (iV sn2), .ref sl2, .ref se2, .ref sc2])), (sl2, .inl (G.2.1, 20, .inl (fun k => iV (lF2 k)))), (se2, .inl (G.2.1, 20, .inl (fun k => iV (eF2 k)))), (sc2, .inl (G.2.1, 120, .inl (fun k => iV (cF2 k))))] s.heap.size) [(s0, .inr (7, [.int (iV sn), .ref sl, .ref se, .ref sc])), (sl, .inl (G.2.1, 20, .inl (fun k => iV (zTake nq lF2 lF k)))), (se, .inl (G.2.1, 20, .inl (fun k => iV (zTake nq eF2 eF k)))), (sc, .inl (G.2.1, 120, .inl (fun k => iV (zTake (6 * nq) cF2 cF k)))), (s02, .inr (7, [.int (iV sn2), .ref sl2, .ref se2, .ref sc2])), (sl2, .inl (G.2.1, 20, .inl (fun k => iV (lF2 k)))), (se2, .inl (G.2.1, 20, .inl (fun k => iV (eF2 k)))), (sc2, .inl (G.2.1, 120, .inl (fun k => iV (cF2 k))))] → va_S (va_A [(s0, .inr (7, [.int (iV sn), .ref sl, .ref se, .ref sc])), (sl, .inl (G.2.1, 20, .inl (fun k => iV (lF k)))), (se, .inl (G.2.1, 20, .inl (fun k => iV (eF k)))), (sc, .inl (G.2.1, 120, .inl (fun k => iV (cF k)))), (s02, .inr (7, [.int (iV sn2), .ref sl2, .ref se2, .ref sc2])), (sl2, .inl (G.2.1, 20, .inl (fun k => iV (lF2 k)))), (se2, .inl (G.2.1, 20, .inl (fun k => iV (eF2 k)))), (sc2, .inl (G.2.1, 120, .inl (fun k => iV (cF2 k))))] s.heap.size) s.heap H locs → ∀ ls : Array Slot, lv_has ls 3 [(0, .ref s0), (1, .ref s02), (2, .int (iV (Nat.cast nq : Int)))] → W p l e (headSpec (Cond.code yX7_copyFrom cX7_copyFrom 3 none :: zT) (zRm 2 49)).room s m ([Value.ref s0, Value.ref s02] : List Value).toArray below meth c H locs 0 0 (MQ below (zQv G [(s0, .inr (7, [.int (iV sn), .ref sl, .ref se, .ref sc])), (sl, .inl (G.2.1, 20, .inl (fun k => iV (lF k)))), (se, .inl (G.2.1, 20, .inl (fun k => iV (eF k)))), (sc, .inl (G.2.1, 120, .inl (fun k => iV (cF k)))), (s02, .inr (7, [.int (iV sn2), .ref sl2, .ref se2, .ref sc2])), (sl2, .inl (G.2.1, 20, .inl (fun k => iV (lF2 k)))), (se2, .inl (G.2.1, 20, .inl (fun k => iV (eF2 k)))), (sc2, .inl (G.2.1, 120, .inl (fun k => iV (cF2 k))))] [(s0, .inr (7, [.int (iV sn2), .ref sl, .ref se, .ref sc])), (sl, .inl (G.2.1, 20, .inl (fun k => iV (zTake sn2.toNat lF2 lF k)))), (se, .inl (G.2.1, 20, .inl (fun k => iV (zTake sn2.toNat eF2 eF k)))), (sc, .inl (G.2.1, 120, .inl (fun k => iV (zTake (6 * sn2.toNat) cF2 cF k)))), (s02, .inr (7, [.int (iV sn2), .ref sl2, .ref se2, .ref sc2])), (sl2, .inl (G.2.1, 20, .inl (fun k => iV (lF2 k)))), (se2, .inl (G.2.1, 20, .inl (fun k => iV (eF2 k)))), (sc2, .inl (G.2.1, 120, .inl (fun k => iV (cF2 k))))] s.heap.size) ([Value.ref s0, Value.ref s02] : List Value).toArray s 0 0 (va_A [(s0, .inr (7, [.int (iV sn), .ref sl, .ref se, .ref sc])), (sl, .inl (G.2.1, 20, .inl (fun k => iV (lF k)))), (se, .inl (G.2.1, 20, .inl (fun k => iV (eF k)))), (sc, .inl (G.2.1, 120, .inl (fun k => iV (cF k)))), (s02, .inr (7, [.int (iV sn2), .ref sl2, .ref se2, .ref sc2])), (sl2, .inl (G.2.1, 20, .inl (fun k => iV (lF2 k)))), (se2, .inl (G.2.1, 20, .inl (fun k => iV (eF2 k)))), (sc2, .inl (G.2.1, 120, .inl (fun k => iV (cF2 k))))] s.heap.size)) (F0 m 2 ls []) := by
    intro k
    induction k with
    | zero => intro nq hn hk_; exact absurd hk_ (Nat.not_lt_zero _)
    | succ k ih_2 =>
      intro nq hn hk_2 H locs hP hD hS ls hl
      refine lv_iload_n hx hb dX7_copyFrom_2 rfl (lv_at hl 2 rfl) ?_
      refine lv_aload_n hx hb dX7_copyFrom_3 rfl (lv_at hl 1 rfl) ?_
      refine va_get (D := G.1) (ci := 7) (v := .int (iV sn2)) (C := RX7) (T := TX7) (N := 4) hx hb hts inX7 hown hK hP 4 rfl rfl 0 (by decide) (hts _ wd_58) (fun _ h9 => h9) rfl dX7_copyFrom_4 ?_
      refine z_icmp_ge (tgt := 29) hx hb (by omega) (by omega) dX7_copyFrom_7 (by decide) (fun c_1 => ?_) (fun c_1 => ?_)
      · refine lv_aload_n hx hb dX7_copyFrom_29 rfl (lv_at hl 0 rfl) ?_
        refine lv_aload_n hx hb dX7_copyFrom_30 rfl (lv_at hl 1 rfl) ?_
        refine va_get (D := G.1) (ci := 7) (v := .int (iV sn2)) (C := RX7) (T := TX7) (N := 4) hx hb hts inX7 hown hK hP 4 rfl rfl 0 (by decide) (hts _ wd_58) (fun _ h9 => h9) rfl dX7_copyFrom_31 ?_
        refine va_put (D := G.1) (ci := 7) (v := .int (iV sn2)) (ty := .int) (C := RX7) (T := TX7) (N := 4) hx hb hts inX7 tyX7 tyX7_ok nmX7 hown hK hP hD hS 0 rfl rfl 0 (by decide) (hts _ wd_58) (fun _ h9 => h9) rfl (by decide +kernel) rfl rfl (Nat.le_of_ble_eq_true rfl) dX7_copyFrom_34 (fun H locs hP hD hS => ?_)
        have hP : va_P G.1 vwCl [(s0, .inr (7, [.int (iV sn2), .ref sl, .ref se, .ref sc])), (sl, .inl (G.2.1, 20, .inl (fun k => iV (zTake nq lF2 lF k)))), (se, .inl (G.2.1, 20, .inl (fun k => iV (zTake nq eF2 eF k)))), (sc, .inl (G.2.1, 120, .inl (fun k => iV (zTake (6 * nq) cF2 cF k)))), (s02, .inr (7, [.int (iV sn2), .ref sl2, .ref se2, .ref sc2])), (sl2, .inl (G.2.1, 20, .inl (fun k => iV (lF2 k)))), (se2, .inl (G.2.1, 20, .inl (fun k => iV (eF2 k)))), (sc2, .inl (G.2.1, 120, .inl (fun k => iV (cF2 k))))] H := hP
        have hD : va_D _ [(s0, .inr (7, [.int (iV sn2), .ref sl, .ref se, .ref sc])), (sl, .inl (G.2.1, 20, .inl (fun k => iV (zTake nq lF2 lF k)))), (se, .inl (G.2.1, 20, .inl (fun k => iV (zTake nq eF2 eF k)))), (sc, .inl (G.2.1, 120, .inl (fun k => iV (zTake (6 * nq) cF2 cF k)))), (s02, .inr (7, [.int (iV sn2), .ref sl2, .ref se2, .ref sc2])), (sl2, .inl (G.2.1, 20, .inl (fun k => iV (lF2 k)))), (se2, .inl (G.2.1, 20, .inl (fun k => iV (eF2 k)))), (sc2, .inl (G.2.1, 120, .inl (fun k => iV (cF2 k))))] := hD
        have hP : va_P G.1 vwCl [(s0, .inr (7, [.int (iV sn2), .ref sl, .ref se, .ref sc])), (sl, .inl (G.2.1, 20, .inl (fun k => iV (zTake sn2.toNat lF2 lF k)))), (se, .inl (G.2.1, 20, .inl (fun k => iV (zTake sn2.toNat eF2 eF k)))), (sc, .inl (G.2.1, 120, .inl (fun k => iV (zTake (6 * sn2.toNat) cF2 cF k)))), (s02, .inr (7, [.int (iV sn2), .ref sl2, .ref se2, .ref sc2])), (sl2, .inl (G.2.1, 20, .inl (fun k => iV (lF2 k)))), (se2, .inl (G.2.1, 20, .inl (fun k => iV (eF2 k)))), (sc2, .inl (G.2.1, 120, .inl (fun k => iV (cF2 k))))] _ := z_castP (by have h8 : nq = sn2.toNat := (by omega); rw [h8]) hP
        exact z_retv hx hb hr hlocks hP hS dX7_copyFrom_37
      · refine lv_iload_n hx hb dX7_copyFrom_10 rfl (lv_at hl 2 rfl) ?_
        refine lv_bipush (v := iV 20) hx hb dX7_copyFrom_11 (by decide) ?_
        refine z_icmp_ge (tgt := 29) hx hb (by omega) ⟨by decide, by decide⟩ dX7_copyFrom_13 (by decide) (fun c_2 => ?_) (fun c_2 => ?_)
        · refine lv_aload_n hx hb dX7_copyFrom_29 rfl (lv_at hl 0 rfl) ?_
          refine lv_aload_n hx hb dX7_copyFrom_30 rfl (lv_at hl 1 rfl) ?_
          refine va_get (D := G.1) (ci := 7) (v := .int (iV sn2)) (C := RX7) (T := TX7) (N := 4) hx hb hts inX7 hown hK hP 4 rfl rfl 0 (by decide) (hts _ wd_58) (fun _ h9 => h9) rfl dX7_copyFrom_31 ?_
          refine va_put (D := G.1) (ci := 7) (v := .int (iV sn2)) (ty := .int) (C := RX7) (T := TX7) (N := 4) hx hb hts inX7 tyX7 tyX7_ok nmX7 hown hK hP hD hS 0 rfl rfl 0 (by decide) (hts _ wd_58) (fun _ h9 => h9) rfl (by decide +kernel) rfl rfl (Nat.le_of_ble_eq_true rfl) dX7_copyFrom_34 (fun H locs hP hD hS => ?_)
          have hP : va_P G.1 vwCl [(s0, .inr (7, [.int (iV sn2), .ref sl, .ref se, .ref sc])), (sl, .inl (G.2.1, 20, .inl (fun k => iV (zTake nq lF2 lF k)))), (se, .inl (G.2.1, 20, .inl (fun k => iV (zTake nq eF2 eF k)))), (sc, .inl (G.2.1, 120, .inl (fun k => iV (zTake (6 * nq) cF2 cF k)))), (s02, .inr (7, [.int (iV sn2), .ref sl2, .ref se2, .ref sc2])), (sl2, .inl (G.2.1, 20, .inl (fun k => iV (lF2 k)))), (se2, .inl (G.2.1, 20, .inl (fun k => iV (eF2 k)))), (sc2, .inl (G.2.1, 120, .inl (fun k => iV (cF2 k))))] H := hP
          have hD : va_D _ [(s0, .inr (7, [.int (iV sn2), .ref sl, .ref se, .ref sc])), (sl, .inl (G.2.1, 20, .inl (fun k => iV (zTake nq lF2 lF k)))), (se, .inl (G.2.1, 20, .inl (fun k => iV (zTake nq eF2 eF k)))), (sc, .inl (G.2.1, 120, .inl (fun k => iV (zTake (6 * nq) cF2 cF k)))), (s02, .inr (7, [.int (iV sn2), .ref sl2, .ref se2, .ref sc2])), (sl2, .inl (G.2.1, 20, .inl (fun k => iV (lF2 k)))), (se2, .inl (G.2.1, 20, .inl (fun k => iV (eF2 k)))), (sc2, .inl (G.2.1, 120, .inl (fun k => iV (cF2 k))))] := hD
          have hP : va_P G.1 vwCl [(s0, .inr (7, [.int (iV sn2), .ref sl, .ref se, .ref sc])), (sl, .inl (G.2.1, 20, .inl (fun k => iV (zTake sn2.toNat lF2 lF k)))), (se, .inl (G.2.1, 20, .inl (fun k => iV (zTake sn2.toNat eF2 eF k)))), (sc, .inl (G.2.1, 120, .inl (fun k => iV (zTake (6 * sn2.toNat) cF2 cF k)))), (s02, .inr (7, [.int (iV sn2), .ref sl2, .ref se2, .ref sc2])), (sl2, .inl (G.2.1, 20, .inl (fun k => iV (lF2 k)))), (se2, .inl (G.2.1, 20, .inl (fun k => iV (eF2 k)))), (sc2, .inl (G.2.1, 120, .inl (fun k => iV (cF2 k))))] _ := z_castP (by have h8 : nq = sn2.toNat := (by omega); rw [h8]) hP
          exact z_retv hx hb hr hlocks hP hS dX7_copyFrom_37
        · refine lv_aload_n hx hb dX7_copyFrom_16 rfl (lv_at hl 0 rfl) ?_
          refine lv_aload_n hx hb dX7_copyFrom_17 rfl (lv_at hl 1 rfl) ?_
          refine lv_iload_n hx hb dX7_copyFrom_18 rfl (lv_at hl 2 rfl) ?_
          refine lv_iload_n hx hb dX7_copyFrom_19 rfl (lv_at hl 2 rfl) ?_
          refine z_callVwv (w2 := [(s0, .inr (7, [.int (iV sn), .ref sl, .ref se, .ref sc])), (sl, .inl (G.2.1, 20, .inl (fun k => iV (uI (zTake nq lF2 lF) (Nat.cast nq : Int).toNat (lF2 (Nat.cast nq : Int).toNat) k)))), (se, .inl (G.2.1, 20, .inl (fun k => iV (uI (zTake nq eF2 eF) (Nat.cast nq : Int).toNat (eF2 (Nat.cast nq : Int).toNat) k)))), (sc, .inl (G.2.1, 120, .inl (fun k => iV (zCp cF2 (zTake (6 * nq) cF2 cF) ((Nat.cast nq : Int) * 6).toNat ((Nat.cast nq : Int) * 6).toNat 6 k)))), (s02, .inr (7, [.int (iV sn2), .ref sl2, .ref se2, .ref sc2])), (sl2, .inl (G.2.1, 20, .inl (fun k => iV (lF2 k)))), (se2, .inl (G.2.1, 20, .inl (fun k => iV (eF2 k)))), (sc2, .inl (G.2.1, 120, .inl (fun k => iV (cF2 k))))]) X hP hD hS hl.1 (c_X7_copyStroke l G _ s0 sl se sc sn (zTake nq lF2 lF) (zTake nq eF2 eF) (zTake (6 * nq) cF2 cF) s02 sl2 se2 sc2 sn2 lF2 eF2 cF2 (Nat.cast nq : Int) (Nat.cast nq : Int) (by exact sOK_take hO hO2 nq (6 * nq)) (by first | assumption | omega) (by first | assumption | omega) (by first | assumption | omega)) wd_362 kX7_copyStroke ⟨rfl, rfl, Nat.le_of_ble_eq_true rfl, Nat.le_of_ble_eq_true rfl⟩ [0, 1, 2, 3, 4, 5, 6, 7] [] rfl rfl rfl ⟨rfl, rfl⟩ rfl (by decide) 0 rfl rfl rfl rfl (Nat.le_of_ble_eq_true rfl) dX7_copyFrom_20 ⟨Nat.zero_le _, Nat.zero_le _⟩ (fun H locs hP hD hS => ?_)
          refine z_iinc (lv' := [(2, .int (iV ((Nat.cast nq : Int) + 1))), (0, .ref s0), (1, .ref s02)]) hx hb dX7_copyFrom_23 hl (k := 2) rfl (by decide) rfl (fun ls hl => ?_)
          refine lv_goto (tgt := 2) hx hb dX7_copyFrom_26 (by decide) ?_
          have hP : va_P G.1 vwCl [(s0, .inr (7, [.int (iV sn), .ref sl, .ref se, .ref sc])), (sl, .inl (G.2.1, 20, .inl (fun k => iV (zTake (nq + 1) lF2 lF k)))), (se, .inl (G.2.1, 20, .inl (fun k => iV (zTake (nq + 1) eF2 eF k)))), (sc, .inl (G.2.1, 120, .inl (fun k => iV (zTake (6 * (nq + 1)) cF2 cF k)))), (s02, .inr (7, [.int (iV sn2), .ref sl2, .ref se2, .ref sc2])), (sl2, .inl (G.2.1, 20, .inl (fun k => iV (lF2 k)))), (se2, .inl (G.2.1, 20, .inl (fun k => iV (eF2 k)))), (sc2, .inl (G.2.1, 120, .inl (fun k => iV (cF2 k))))] _ := z_castP (by first | (rw [cst0, cst6, zTake_s, zTake_s, show (6 : Int).toNat = 6 from rfl, zTake_c]; rfl) | (rw [cst0, cst6, zTake_s, zTake_s, zTake_c]; rfl)) hP
          have hD : va_D _ [(s0, .inr (7, [.int (iV sn), .ref sl, .ref se, .ref sc])), (sl, .inl (G.2.1, 20, .inl (fun k => iV (zTake (nq + 1) lF2 lF k)))), (se, .inl (G.2.1, 20, .inl (fun k => iV (zTake (nq + 1) eF2 eF k)))), (sc, .inl (G.2.1, 120, .inl (fun k => iV (zTake (6 * (nq + 1)) cF2 cF k)))), (s02, .inr (7, [.int (iV sn2), .ref sl2, .ref se2, .ref sc2])), (sl2, .inl (G.2.1, 20, .inl (fun k => iV (lF2 k)))), (se2, .inl (G.2.1, 20, .inl (fun k => iV (eF2 k)))), (sc2, .inl (G.2.1, 120, .inl (fun k => iV (cF2 k))))] := z_castD (by first | (rw [cst0, cst6, zTake_s, zTake_s, show (6 : Int).toNat = 6 from rfl, zTake_c]; rfl) | (rw [cst0, cst6, zTake_s, zTake_s, zTake_c]; rfl)) hD
          exact ih_2 (nq + 1) (by first | assumption | omega) (by omega) _ _ hP hD hS _ (lv_cons (lv_at hl 1 rfl) (lv_cons (lv_at hl 2 rfl) (lv_cons (lv_i hl 0 rfl (by omega)) (lv_nil hl))))
  have hP : va_P G.1 vwCl [(s0, .inr (7, [.int (iV sn), .ref sl, .ref se, .ref sc])), (sl, .inl (G.2.1, 20, .inl (fun k => iV (zTake 0 lF2 lF k)))), (se, .inl (G.2.1, 20, .inl (fun k => iV (zTake 0 eF2 eF k)))), (sc, .inl (G.2.1, 120, .inl (fun k => iV (zTake (6 * 0) cF2 cF k)))), (s02, .inr (7, [.int (iV sn2), .ref sl2, .ref se2, .ref sc2])), (sl2, .inl (G.2.1, 20, .inl (fun k => iV (lF2 k)))), (se2, .inl (G.2.1, 20, .inl (fun k => iV (eF2 k)))), (sc2, .inl (G.2.1, 120, .inl (fun k => iV (cF2 k))))] _ := z_castP (by simp only [zTake_0, Nat.mul_zero]) hP
  have hD : va_D _ [(s0, .inr (7, [.int (iV sn), .ref sl, .ref se, .ref sc])), (sl, .inl (G.2.1, 20, .inl (fun k => iV (zTake 0 lF2 lF k)))), (se, .inl (G.2.1, 20, .inl (fun k => iV (zTake 0 eF2 eF k)))), (sc, .inl (G.2.1, 120, .inl (fun k => iV (zTake (6 * 0) cF2 cF k)))), (s02, .inr (7, [.int (iV sn2), .ref sl2, .ref se2, .ref sc2])), (sl2, .inl (G.2.1, 20, .inl (fun k => iV (lF2 k)))), (se2, .inl (G.2.1, 20, .inl (fun k => iV (eF2 k)))), (sc2, .inl (G.2.1, 120, .inl (fun k => iV (cF2 k))))] := z_castD (by simp only [zTake_0, Nat.mul_zero]) hD
  exact lp_2 _ 0 (by first | assumption | omega) (Nat.lt_succ_self _) _ _ hP hD hS _ (lv_cons (lv_at hl 1 rfl) (lv_cons (lv_at hl 2 rfl) (lv_cons (lv_i hl 0 rfl (by omega)) (lv_nil hl))))

set_option maxHeartbeats 4000000 in
set_option maxRecDepth 100000 in
theorem c_X7_copyStroke_s (l : Launch) (G : zG) (sz : Nat) (s0 : Nat) (sl : Nat) (se : Nat) (sc : Nat) (sn : Int) (lF : Nat → Int) (eF : Nat → Int) (cF : Nat → Int) (fr : Int) (to : Int) (hO : sOK sn lF cF) (hfr : 0 ≤ fr ∧ fr < 20) (hto : 0 ≤ to ∧ to < 20) : Met l yX7_copyStroke (Cond.code yX7_copyStroke cX7_copyStroke 4 none :: zT) (zRm 1 26) (zPw G [.ref s0, .ref s0, .int (iV fr), .int (iV to)] [(s0, .inr (7, [.int (iV sn), .ref sl, .ref se, .ref sc])), (sl, .inl (G.2.1, 20, .inl (fun k => iV (lF k)))), (se, .inl (G.2.1, 20, .inl (fun k => iV (eF k)))), (sc, .inl (G.2.1, 120, .inl (fun k => iV (cF k))))] sz) (zQv G [(s0, .inr (7, [.int (iV sn), .ref sl, .ref se, .ref sc])), (sl, .inl (G.2.1, 20, .inl (fun k => iV (lF k)))), (se, .inl (G.2.1, 20, .inl (fun k => iV (eF k)))), (sc, .inl (G.2.1, 120, .inl (fun k => iV (cF k))))] [(s0, .inr (7, [.int (iV sn), .ref sl, .ref se, .ref sc])), (sl, .inl (G.2.1, 20, .inl (fun k => iV (uI lF to.toNat (lF fr.toNat) k)))), (se, .inl (G.2.1, 20, .inl (fun k => iV (uI eF to.toNat (eF fr.toNat) k)))), (sc, .inl (G.2.1, 120, .inl (fun k => iV (zCp cF cF (fr * 6).toNat (to * 6).toNat 6 k))))] sz) 0 0 (va_A [(s0, .inr (7, [.int (iV sn), .ref sl, .ref se, .ref sc])), (sl, .inl (G.2.1, 20, .inl (fun k => iV (lF k)))), (se, .inl (G.2.1, 20, .inl (fun k => iV (eF k)))), (sc, .inl (G.2.1, 120, .inl (fun k => iV (cF k))))] sz) := by
  refine Met.ofW (cc := cX7_copyStroke) (maxL := 4) (ret := none) (by decide) rfl ?_
  intro p e s m args below meth c s₁ B hml hv
  obtain ⟨rfl, hsz, hP, hK, hSt, hD0⟩ := hv
  have hx := B.exec
  have hb := B.bytes
  have hr := B.returns
  have hts : ∀ w ∈ zT, w.before _ s = true := fun w h => atoms_spec (ws := (Cond.code yX7_copyStroke cX7_copyStroke 4 none :: zT)) B.pre w (List.mem_cons_of_mem _ h)
  have hown : s.vm.findClass RX7 = some m.cls := findClass_of_methodNamed B.named
  have hlocks := B.notSynchronized
  subst hsz
  have hD : va_D (va_A [(s0, .inr (7, [.int (iV sn), .ref sl, .ref se, .ref sc])), (sl, .inl (G.2.1, 20, .inl (fun k => iV (lF k)))), (se, .inl (G.2.1, 20, .inl (fun k => iV (eF k)))), (sc, .inl (G.2.1, 120, .inl (fun k => iV (cF k))))] s.heap.size) [(s0, .inr (7, [.int (iV sn), .ref sl, .ref se, .ref sc])), (sl, .inl (G.2.1, 20, .inl (fun k => iV (lF k)))), (se, .inl (G.2.1, 20, .inl (fun k => iV (eF k)))), (sc, .inl (G.2.1, 120, .inl (fun k => iV (cF k))))] := hD0.self
  have hA : ∀ q : Nat, s.heap.size ≤ q → va_A [(s0, .inr (7, [.int (iV sn), .ref sl, .ref se, .ref sc])), (sl, .inl (G.2.1, 20, .inl (fun k => iV (lF k)))), (se, .inl (G.2.1, 20, .inl (fun k => iV (eF k)))), (sc, .inl (G.2.1, 120, .inl (fun k => iV (cF k))))] s.heap.size q := fun q h => Or.inr h
  have hS : va_S (va_A [(s0, .inr (7, [.int (iV sn), .ref sl, .ref se, .ref sc])), (sl, .inl (G.2.1, 20, .inl (fun k => iV (lF k)))), (se, .inl (G.2.1, 20, .inl (fun k => iV (eF k)))), (sc, .inl (G.2.1, 120, .inl (fun k => iV (cF k))))] s.heap.size) s.heap s.heap [] := va_S.rf
  have hP : va_P G.1 vwCl [(s0, .inr (7, [.int (iV sn), .ref sl, .ref se, .ref sc])), (sl, .inl (G.2.1, 20, .inl (fun k => iV (lF k)))), (se, .inl (G.2.1, 20, .inl (fun k => iV (eF k)))), (sc, .inl (G.2.1, 120, .inl (fun k => iV (cF k))))] s.heap := hP
  have X := And.intro hx (And.intro hb (And.intro hml (And.intro hown (And.intro hts (And.intro hK (And.intro hSt hA))))))
  have hl := lv_entry ([.ref s0, .ref s0, .int (iV fr), .int (iV to)]) (n := 4) (Nat.le_of_ble_eq_true rfl)
  rw [lg_entry_eq]
  generalize (lg_sl ([.ref s0, .ref s0, .int (iV fr), .int (iV to)]) ++ List.replicate (4 - (lg_sl ([.ref s0, .ref s0, .int (iV fr), .int (iV to)])).length) Slot.unset).toArray = ls at hl ⊢
  have hl : lv_has ls 4 [(0, .ref s0), (1, .ref s0), (2, .int (iV fr)), (3, .int (iV to))] := hl
  obtain ⟨hn0, hn20, hlF, hcF⟩ := id hO
  refine lv_aload_n hx hb dX7_copyStroke_0 rfl (lv_at hl 0 rfl) ?_
  refine va_get (D := G.1) (ci := 7) (v := .ref sl) (C := RX7) (T := TX7) (N := 4) hx hb hts inX7 hown hK hP 0 rfl rfl 1 (by decide) (hts _ wd_60) (fun _ h9 => h9) rfl dX7_copyStroke_1 ?_
  refine lv_iload_n hx hb dX7_copyStroke_4 rfl (lv_at hl 3 rfl) ?_
  refine lv_aload_n hx hb dX7_copyStroke_5 rfl (lv_at hl 1 rfl) ?_
  refine va_get (D := G.1) (ci := 7) (v := .ref sl) (C := RX7) (T := TX7) (N := 4) hx hb hts inX7 hown hK hP 0 rfl rfl 1 (by decide) (hts _ wd_60) (fun _ h9 => h9) rfl dX7_copyStroke_6 ?_
  refine lv_iload_n hx hb dX7_copyStroke_9 rfl (lv_at hl 2 rfl) ?_
  refine z_iald (G := G) (f := lF) hx hb hK hP 1 rfl (by omega) (by omega) (by decide) dX7_copyStroke_10 ?_
  refine z_iast (G := G) (f := lF) hx hb hK hP hD hS 1 rfl (by omega) (by omega) (by decide) dX7_copyStroke_11 (fun H locs hP hD hS => ?_)
  have hP : va_P G.1 vwCl [(s0, .inr (7, [.int (iV sn), .ref sl, .ref se, .ref sc])), (sl, .inl (G.2.1, 20, .inl (fun k => iV ((uI lF to.toNat (lF fr.toNat)) k)))), (se, .inl (G.2.1, 20, .inl (fun k => iV (eF k)))), (sc, .inl (G.2.1, 120, .inl (fun k => iV (cF k))))] H := hP
  have hD : va_D _ [(s0, .inr (7, [.int (iV sn), .ref sl, .ref se, .ref sc])), (sl, .inl (G.2.1, 20, .inl (fun k => iV ((uI lF to.toNat (lF fr.toNat)) k)))), (se, .inl (G.2.1, 20, .inl (fun k => iV (eF k)))), (sc, .inl (G.2.1, 120, .inl (fun k => iV (cF k))))] := hD
  refine lv_aload_n hx hb dX7_copyStroke_12 rfl (lv_at hl 0 rfl) ?_
  refine va_get (D := G.1) (ci := 7) (v := .ref se) (C := RX7) (T := TX7) (N := 4) hx hb hts inX7 hown hK hP 0 rfl rfl 2 (by decide) (hts _ wd_62) (fun _ h9 => h9) rfl dX7_copyStroke_13 ?_
  refine lv_iload_n hx hb dX7_copyStroke_16 rfl (lv_at hl 3 rfl) ?_
  refine lv_aload_n hx hb dX7_copyStroke_17 rfl (lv_at hl 1 rfl) ?_
  refine va_get (D := G.1) (ci := 7) (v := .ref se) (C := RX7) (T := TX7) (N := 4) hx hb hts inX7 hown hK hP 0 rfl rfl 2 (by decide) (hts _ wd_62) (fun _ h9 => h9) rfl dX7_copyStroke_18 ?_
  refine lv_iload_n hx hb dX7_copyStroke_21 rfl (lv_at hl 2 rfl) ?_
  refine z_iald (G := G) (f := eF) hx hb hK hP 2 rfl (by omega) (by omega) (by decide) dX7_copyStroke_22 ?_
  refine z_iast (G := G) (f := eF) hx hb hK hP hD hS 2 rfl (by omega) (by omega) (by decide) dX7_copyStroke_23 (fun H locs hP hD hS => ?_)
  have hP : va_P G.1 vwCl [(s0, .inr (7, [.int (iV sn), .ref sl, .ref se, .ref sc])), (sl, .inl (G.2.1, 20, .inl (fun k => iV ((uI lF to.toNat (lF fr.toNat)) k)))), (se, .inl (G.2.1, 20, .inl (fun k => iV ((uI eF to.toNat (eF fr.toNat)) k)))), (sc, .inl (G.2.1, 120, .inl (fun k => iV (cF k))))] H := hP
  have hD : va_D _ [(s0, .inr (7, [.int (iV sn), .ref sl, .ref se, .ref sc])), (sl, .inl (G.2.1, 20, .inl (fun k => iV ((uI lF to.toNat (lF fr.toNat)) k)))), (se, .inl (G.2.1, 20, .inl (fun k => iV ((uI eF to.toNat (eF fr.toNat)) k)))), (sc, .inl (G.2.1, 120, .inl (fun k => iV (cF k))))] := hD
  refine lv_aload_n hx hb dX7_copyStroke_24 rfl (lv_at hl 1 rfl) ?_
  refine va_get (D := G.1) (ci := 7) (v := .ref sc) (C := RX7) (T := TX7) (N := 4) hx hb hts inX7 hown hK hP 0 rfl rfl 3 (by decide) (hts _ wd_64) (fun _ h9 => h9) rfl dX7_copyStroke_25 ?_
  refine lv_iload_n hx hb dX7_copyStroke_28 rfl (lv_at hl 2 rfl) ?_
  refine lv_bipush (v := iV 6) hx hb dX7_copyStroke_29 (by decide) ?_
  refine z_imul hx hb dX7_copyStroke_31 ?_
  refine lv_aload_n hx hb dX7_copyStroke_32 rfl (lv_at hl 0 rfl) ?_
  refine va_get (D := G.1) (ci := 7) (v := .ref sc) (C := RX7) (T := TX7) (N := 4) hx hb hts inX7 hown hK hP 0 rfl rfl 3 (by decide) (hts _ wd_64) (fun _ h9 => h9) rfl dX7_copyStroke_33 ?_
  refine lv_iload_n hx hb dX7_copyStroke_36 rfl (lv_at hl 3 rfl) ?_
  refine lv_bipush (v := iV 6) hx hb dX7_copyStroke_37 (by decide) ?_
  refine z_imul hx hb dX7_copyStroke_39 ?_
  refine lv_bipush (v := iV 6) hx hb dX7_copyStroke_40 (by decide) ?_
  refine z_copyi (G := G) (f := cF) (g := cF) hx hb (hml.trans hl.1.symm) hown (hts _ wd_366) (hts _ wd_357) (hts _ wd_356) (hts _ wd_15) hK hP hD hS 3 3 rfl rfl (by omega) (by omega) (Nat.le_of_ble_eq_true rfl) (Nat.le_of_ble_eq_true rfl) dX7_copyStroke_42 (fun H locs hP hD hS => ?_)
  have hP : va_P G.1 vwCl [(s0, .inr (7, [.int (iV sn), .ref sl, .ref se, .ref sc])), (sl, .inl (G.2.1, 20, .inl (fun k => iV ((uI lF to.toNat (lF fr.toNat)) k)))), (se, .inl (G.2.1, 20, .inl (fun k => iV ((uI eF to.toNat (eF fr.toNat)) k)))), (sc, .inl (G.2.1, 120, .inl (fun k => iV ((zCp cF cF (fr * 6).toNat (to * 6).toNat 6) k))))] H := hP
  have hD : va_D _ [(s0, .inr (7, [.int (iV sn), .ref sl, .ref se, .ref sc])), (sl, .inl (G.2.1, 20, .inl (fun k => iV ((uI lF to.toNat (lF fr.toNat)) k)))), (se, .inl (G.2.1, 20, .inl (fun k => iV ((uI eF to.toNat (eF fr.toNat)) k)))), (sc, .inl (G.2.1, 120, .inl (fun k => iV ((zCp cF cF (fr * 6).toNat (to * 6).toNat 6) k))))] := hD
  have hP : va_P G.1 vwCl [(s0, .inr (7, [.int (iV sn), .ref sl, .ref se, .ref sc])), (sl, .inl (G.2.1, 20, .inl (fun k => iV (uI lF to.toNat (lF fr.toNat) k)))), (se, .inl (G.2.1, 20, .inl (fun k => iV (uI eF to.toNat (eF fr.toNat) k)))), (sc, .inl (G.2.1, 120, .inl (fun k => iV (zCp cF cF (fr * 6).toNat (to * 6).toNat 6 k))))] _ := z_castP (by rfl) hP
  exact z_retv hx hb hr hlocks hP hS dX7_copyStroke_45

set_option maxHeartbeats 4000000 in
set_option maxRecDepth 100000 in
theorem c_X7_remove (l : Launch) (G : zG) (sz : Nat) (s0 : Nat) (sl : Nat) (se : Nat) (sc : Nat) (sn : Int) (lF : Nat → Int) (eF : Nat → Int) (cF : Nat → Int) (sI : Int) (hO : sOK sn lF cF) (hs : 0 ≤ sI ∧ sI < sn) : Met l yX7_remove (Cond.code yX7_remove cX7_remove 3 none :: zT) (zRm 2 49) (zPw G [.ref s0, .int (iV sI)] [(s0, .inr (7, [.int (iV sn), .ref sl, .ref se, .ref sc])), (sl, .inl (G.2.1, 20, .inl (fun k => iV (lF k)))), (se, .inl (G.2.1, 20, .inl (fun k => iV (eF k)))), (sc, .inl (G.2.1, 120, .inl (fun k => iV (cF k))))] sz) (zQv G [(s0, .inr (7, [.int (iV sn), .ref sl, .ref se, .ref sc])), (sl, .inl (G.2.1, 20, .inl (fun k => iV (lF k)))), (se, .inl (G.2.1, 20, .inl (fun k => iV (eF k)))), (sc, .inl (G.2.1, 120, .inl (fun k => iV (cF k))))] [(s0, .inr (7, [.int (iV (sn - 1)), .ref sl, .ref se, .ref sc])), (sl, .inl (G.2.1, 20, .inl (fun k => iV (zSh 1 sI.toNat (sn.toNat - 1 - sI.toNat) lF k)))), (se, .inl (G.2.1, 20, .inl (fun k => iV (zSh 1 sI.toNat (sn.toNat - 1 - sI.toNat) eF k)))), (sc, .inl (G.2.1, 120, .inl (fun k => iV (zSh 6 sI.toNat (sn.toNat - 1 - sI.toNat) cF k))))] sz) 0 0 (va_A [(s0, .inr (7, [.int (iV sn), .ref sl, .ref se, .ref sc])), (sl, .inl (G.2.1, 20, .inl (fun k => iV (lF k)))), (se, .inl (G.2.1, 20, .inl (fun k => iV (eF k)))), (sc, .inl (G.2.1, 120, .inl (fun k => iV (cF k))))] sz) := by
  refine Met.ofW (cc := cX7_remove) (maxL := 3) (ret := none) (by decide) rfl ?_
  intro p e s m args below meth c s₁ B hml hv
  obtain ⟨rfl, hsz, hP, hK, hSt, hD0⟩ := hv
  have hx := B.exec
  have hb := B.bytes
  have hr := B.returns
  have hts : ∀ w ∈ zT, w.before _ s = true := fun w h => atoms_spec (ws := (Cond.code yX7_remove cX7_remove 3 none :: zT)) B.pre w (List.mem_cons_of_mem _ h)
  have hown : s.vm.findClass RX7 = some m.cls := findClass_of_methodNamed B.named
  have hlocks := B.notSynchronized
  subst hsz
  have hD : va_D (va_A [(s0, .inr (7, [.int (iV sn), .ref sl, .ref se, .ref sc])), (sl, .inl (G.2.1, 20, .inl (fun k => iV (lF k)))), (se, .inl (G.2.1, 20, .inl (fun k => iV (eF k)))), (sc, .inl (G.2.1, 120, .inl (fun k => iV (cF k))))] s.heap.size) [(s0, .inr (7, [.int (iV sn), .ref sl, .ref se, .ref sc])), (sl, .inl (G.2.1, 20, .inl (fun k => iV (lF k)))), (se, .inl (G.2.1, 20, .inl (fun k => iV (eF k)))), (sc, .inl (G.2.1, 120, .inl (fun k => iV (cF k))))] := hD0.self
  have hA : ∀ q : Nat, s.heap.size ≤ q → va_A [(s0, .inr (7, [.int (iV sn), .ref sl, .ref se, .ref sc])), (sl, .inl (G.2.1, 20, .inl (fun k => iV (lF k)))), (se, .inl (G.2.1, 20, .inl (fun k => iV (eF k)))), (sc, .inl (G.2.1, 120, .inl (fun k => iV (cF k))))] s.heap.size q := fun q h => Or.inr h
  have hS : va_S (va_A [(s0, .inr (7, [.int (iV sn), .ref sl, .ref se, .ref sc])), (sl, .inl (G.2.1, 20, .inl (fun k => iV (lF k)))), (se, .inl (G.2.1, 20, .inl (fun k => iV (eF k)))), (sc, .inl (G.2.1, 120, .inl (fun k => iV (cF k))))] s.heap.size) s.heap s.heap [] := va_S.rf
  have hP : va_P G.1 vwCl [(s0, .inr (7, [.int (iV sn), .ref sl, .ref se, .ref sc])), (sl, .inl (G.2.1, 20, .inl (fun k => iV (lF k)))), (se, .inl (G.2.1, 20, .inl (fun k => iV (eF k)))), (sc, .inl (G.2.1, 120, .inl (fun k => iV (cF k))))] s.heap := hP
  have X := And.intro hx (And.intro hb (And.intro hml (And.intro hown (And.intro hts (And.intro hK (And.intro hSt hA))))))
  have hl := lv_entry ([.ref s0, .int (iV sI)]) (n := 3) (Nat.le_of_ble_eq_true rfl)
  rw [lg_entry_eq]
  generalize (lg_sl ([.ref s0, .int (iV sI)]) ++ List.replicate (3 - (lg_sl ([.ref s0, .int (iV sI)])).length) Slot.unset).toArray = ls at hl ⊢
  have hl : lv_has ls 3 [(0, .ref s0), (1, .int (iV sI))] := hl
  obtain ⟨hn0, hn20, hlF, hcF⟩ := id hO
  refine lv_aload_n hx hb dX7_remove_0 rfl (lv_at hl 0 rfl) ?_
  refine lv_iload_n hx hb dX7_remove_1 rfl (lv_at hl 1 rfl) ?_
  refine z_callV X hP hS hl.1 (c_X7_has l G _ s0 sl se sc sn lF eF cF sI (by first | assumption | omega) (by first | assumption | omega)) wd_408 kX7_has ⟨rfl, rfl, Nat.le_of_ble_eq_true rfl, Nat.le_of_ble_eq_true rfl⟩ [0, 1, 2, 3] rfl 0 rfl rfl rfl rfl (Nat.le_of_ble_eq_true rfl) dX7_remove_2 ⟨Nat.zero_le _, Nat.zero_le _⟩ (fun H locs hP hS => ?_)
  refine z_ifb_ne (tgt := 9) hx hb dX7_remove_5 (by decide) (fun c_1 => ?_) (fun c_1 => ?_)
  · refine lv_iload_n hx hb dX7_remove_9 rfl (lv_at hl 1 rfl) ?_
    refine lv_iconst (v := iV 1) hx hb dX7_remove_10 (by decide) ?_
    refine z_iadd hx hb dX7_remove_11 ?_
    refine lv_istore_n (lv' := [(2, .int (iV (sI + 1))), (0, .ref s0), (1, .int (iV sI))]) hx hb dX7_remove_12 rfl hl (by decide) rfl (fun ls hl => ?_)
    have lp_13 : ∀ (k : Nat) (nq : Nat) , (sI + 1 + (Nat.cast nq : Int) ≤ sn) → (20 - nq) < k → ∀ (H : Heap) (locs : List Loc), va_P G.1 vwCl [(s0, .inr (7, [.int (iV sn), .ref sl, .ref se, .ref sc])), (sl, .inl (G.2.1, 20, .inl (fun k => iV (zSh 1 sI.toNat nq lF k)))), (se, .inl (G.2.1, 20, .inl (fun k => iV (zSh 1 sI.toNat nq eF k)))), (sc, .inl (G.2.1, 120, .inl (fun k => iV (zSh 6 sI.toNat nq cF k))))] H → va_D (va_A [(s0, .inr (7, [.int (iV sn), .ref sl, .ref se, .ref sc])), (sl, .inl (G.2.1, 20, .inl (fun k => iV (lF k)))), (se, .inl (G.2.1, 20, .inl (fun k => iV (eF k)))), (sc, .inl (G.2.1, 120, .inl (fun k => iV (cF k))))] s.heap.size) [(s0, .inr (7, [.int (iV sn), .ref sl, .ref se, .ref sc])), (sl, .inl (G.2.1, 20, .inl (fun k => iV (zSh 1 sI.toNat nq lF k)))), (se, .inl (G.2.1, 20, .inl (fun k => iV (zSh 1 sI.toNat nq eF k)))), (sc, .inl (G.2.1, 120, .inl (fun k => iV (zSh 6 sI.toNat nq cF k))))] → va_S (va_A [(s0, .inr (7, [.int (iV sn), .ref sl, .ref se, .ref sc])), (sl, .inl (G.2.1, 20, .inl (fun k => iV (lF k)))), (se, .inl (G.2.1, 20, .inl (fun k => iV (eF k)))), (sc, .inl (G.2.1, 120, .inl (fun k => iV (cF k))))] s.heap.size) s.heap H locs → ∀ ls : Array Slot, lv_has ls 3 [(0, .ref s0), (1, .int (iV sI)), (2, .int (iV (sI + 1 + (Nat.cast nq : Int))))] → W p l e (headSpec (Cond.code yX7_remove cX7_remove 3 none :: zT) (zRm 2 49)).room s m ([Value.ref s0, Value.int (iV sI)] : List Value).toArray below meth c H locs 0 0 (MQ below (zQv G [(s0, .inr (7, [.int (iV sn), .ref sl, .ref se, .ref sc])), (sl, .inl (G.2.1, 20, .inl (fun k => iV (lF k)))), (se, .inl (G.2.1, 20, .inl (fun k => iV (eF k)))), (sc, .inl (G.2.1, 120, .inl (fun k => iV (cF k))))] [(s0, .inr (7, [.int (iV (sn - 1)), .ref sl, .ref se, .ref sc])), (sl, .inl (G.2.1, 20, .inl (fun k => iV (zSh 1 sI.toNat (sn.toNat - 1 - sI.toNat) lF k)))), (se, .inl (G.2.1, 20, .inl (fun k => iV (zSh 1 sI.toNat (sn.toNat - 1 - sI.toNat) eF k)))), (sc, .inl (G.2.1, 120, .inl (fun k => iV (zSh 6 sI.toNat (sn.toNat - 1 - sI.toNat) cF k))))] s.heap.size) ([Value.ref s0, Value.int (iV sI)] : List Value).toArray s 0 0 (va_A [(s0, .inr (7, [.int (iV sn), .ref sl, .ref se, .ref sc])), (sl, .inl (G.2.1, 20, .inl (fun k => iV (lF k)))), (se, .inl (G.2.1, 20, .inl (fun k => iV (eF k)))), (sc, .inl (G.2.1, 120, .inl (fun k => iV (cF k))))] s.heap.size)) (F0 m 13 ls []) := by
      intro k
      induction k with
      | zero => intro nq hn hk_; exact absurd hk_ (Nat.not_lt_zero _)
      | succ k ih_13 =>
        intro nq hn hk_13 H locs hP hD hS ls hl
        refine lv_iload_n hx hb dX7_remove_13 rfl (lv_at hl 2 rfl) ?_
        refine lv_aload_n hx hb dX7_remove_14 rfl (lv_at hl 0 rfl) ?_
        refine va_get (D := G.1) (ci := 7) (v := .int (iV sn)) (C := RX7) (T := TX7) (N := 4) hx hb hts inX7 hown hK hP 0 rfl rfl 0 (by decide) (hts _ wd_58) (fun _ h9 => h9) rfl dX7_remove_15 ?_
        refine z_icmp_ge (tgt := 42) hx hb (by omega) (by omega) dX7_remove_18 (by decide) (fun c_2 => ?_) (fun c_2 => ?_)
        · refine lv_aload_n hx hb dX7_remove_42 rfl (lv_at hl 0 rfl) ?_
          refine lv_dup hx hb dX7_remove_43 rfl ?_
          refine va_get (D := G.1) (ci := 7) (v := .int (iV sn)) (C := RX7) (T := TX7) (N := 4) hx hb hts inX7 hown hK hP 0 rfl rfl 0 (by decide) (hts _ wd_58) (fun _ h9 => h9) rfl dX7_remove_44 ?_
          refine lv_iconst (v := iV 1) hx hb dX7_remove_47 (by decide) ?_
          refine z_isub hx hb dX7_remove_48 ?_
          refine va_put (D := G.1) (ci := 7) (v := .int (iV (sn - 1))) (ty := .int) (C := RX7) (T := TX7) (N := 4) hx hb hts inX7 tyX7 tyX7_ok nmX7 hown hK hP hD hS 0 rfl rfl 0 (by decide) (hts _ wd_58) (fun _ h9 => h9) rfl (by decide +kernel) rfl rfl (Nat.le_of_ble_eq_true rfl) dX7_remove_49 (fun H locs hP hD hS => ?_)
          have hP : va_P G.1 vwCl [(s0, .inr (7, [.int (iV (sn - 1)), .ref sl, .ref se, .ref sc])), (sl, .inl (G.2.1, 20, .inl (fun k => iV (zSh 1 sI.toNat nq lF k)))), (se, .inl (G.2.1, 20, .inl (fun k => iV (zSh 1 sI.toNat nq eF k)))), (sc, .inl (G.2.1, 120, .inl (fun k => iV (zSh 6 sI.toNat nq cF k))))] H := hP
          have hD : va_D _ [(s0, .inr (7, [.int (iV (sn - 1)), .ref sl, .ref se, .ref sc])), (sl, .inl (G.2.1, 20, .inl (fun k => iV (zSh 1 sI.toNat nq lF k)))), (se, .inl (G.2.1, 20, .inl (fun k => iV (zSh 1 sI.toNat nq eF k)))), (sc, .inl (G.2.1, 120, .inl (fun k => iV (zSh 6 sI.toNat nq cF k))))] := hD
          have hP : va_P G.1 vwCl [(s0, .inr (7, [.int (iV (sn - 1)), .ref sl, .ref se, .ref sc])), (sl, .inl (G.2.1, 20, .inl (fun k => iV (zSh 1 sI.toNat (sn.toNat - 1 - sI.toNat) lF k)))), (se, .inl (G.2.1, 20, .inl (fun k => iV (zSh 1 sI.toNat (sn.toNat - 1 - sI.toNat) eF k)))), (sc, .inl (G.2.1, 120, .inl (fun k => iV (zSh 6 sI.toNat (sn.toNat - 1 - sI.toNat) cF k))))] _ := z_castP (by have h8 : nq = sn.toNat - 1 - sI.toNat := (by omega); rw [h8]) hP
          exact z_retv hx hb hr hlocks hP hS dX7_remove_52
        · refine lv_iload_n hx hb dX7_remove_21 rfl (lv_at hl 2 rfl) ?_
          refine lv_bipush (v := iV 20) hx hb dX7_remove_22 (by decide) ?_
          refine z_icmp_ge (tgt := 42) hx hb (by omega) ⟨by decide, by decide⟩ dX7_remove_24 (by decide) (fun c_3 => ?_) (fun c_3 => ?_)
          · refine lv_aload_n hx hb dX7_remove_42 rfl (lv_at hl 0 rfl) ?_
            refine lv_dup hx hb dX7_remove_43 rfl ?_
            refine va_get (D := G.1) (ci := 7) (v := .int (iV sn)) (C := RX7) (T := TX7) (N := 4) hx hb hts inX7 hown hK hP 0 rfl rfl 0 (by decide) (hts _ wd_58) (fun _ h9 => h9) rfl dX7_remove_44 ?_
            refine lv_iconst (v := iV 1) hx hb dX7_remove_47 (by decide) ?_
            refine z_isub hx hb dX7_remove_48 ?_
            refine va_put (D := G.1) (ci := 7) (v := .int (iV (sn - 1))) (ty := .int) (C := RX7) (T := TX7) (N := 4) hx hb hts inX7 tyX7 tyX7_ok nmX7 hown hK hP hD hS 0 rfl rfl 0 (by decide) (hts _ wd_58) (fun _ h9 => h9) rfl (by decide +kernel) rfl rfl (Nat.le_of_ble_eq_true rfl) dX7_remove_49 (fun H locs hP hD hS => ?_)
            have hP : va_P G.1 vwCl [(s0, .inr (7, [.int (iV (sn - 1)), .ref sl, .ref se, .ref sc])), (sl, .inl (G.2.1, 20, .inl (fun k => iV (zSh 1 sI.toNat nq lF k)))), (se, .inl (G.2.1, 20, .inl (fun k => iV (zSh 1 sI.toNat nq eF k)))), (sc, .inl (G.2.1, 120, .inl (fun k => iV (zSh 6 sI.toNat nq cF k))))] H := hP
            have hD : va_D _ [(s0, .inr (7, [.int (iV (sn - 1)), .ref sl, .ref se, .ref sc])), (sl, .inl (G.2.1, 20, .inl (fun k => iV (zSh 1 sI.toNat nq lF k)))), (se, .inl (G.2.1, 20, .inl (fun k => iV (zSh 1 sI.toNat nq eF k)))), (sc, .inl (G.2.1, 120, .inl (fun k => iV (zSh 6 sI.toNat nq cF k))))] := hD
            have hP : va_P G.1 vwCl [(s0, .inr (7, [.int (iV (sn - 1)), .ref sl, .ref se, .ref sc])), (sl, .inl (G.2.1, 20, .inl (fun k => iV (zSh 1 sI.toNat (sn.toNat - 1 - sI.toNat) lF k)))), (se, .inl (G.2.1, 20, .inl (fun k => iV (zSh 1 sI.toNat (sn.toNat - 1 - sI.toNat) eF k)))), (sc, .inl (G.2.1, 120, .inl (fun k => iV (zSh 6 sI.toNat (sn.toNat - 1 - sI.toNat) cF k))))] _ := z_castP (by have h8 : nq = sn.toNat - 1 - sI.toNat := (by omega); rw [h8]) hP
            exact z_retv hx hb hr hlocks hP hS dX7_remove_52
          · refine lv_aload_n hx hb dX7_remove_27 rfl (lv_at hl 0 rfl) ?_
            refine lv_aload_n hx hb dX7_remove_28 rfl (lv_at hl 0 rfl) ?_
            refine lv_iload_n hx hb dX7_remove_29 rfl (lv_at hl 2 rfl) ?_
            refine lv_iload_n hx hb dX7_remove_30 rfl (lv_at hl 2 rfl) ?_
            refine lv_iconst (v := iV 1) hx hb dX7_remove_31 (by decide) ?_
            refine z_isub hx hb dX7_remove_32 ?_
            refine z_callVwv (w2 := [(s0, .inr (7, [.int (iV sn), .ref sl, .ref se, .ref sc])), (sl, .inl (G.2.1, 20, .inl (fun k => iV (uI (zSh 1 sI.toNat nq lF) ((sI + 1 + (Nat.cast nq : Int)) - 1).toNat ((zSh 1 sI.toNat nq lF) (sI + 1 + (Nat.cast nq : Int)).toNat) k)))), (se, .inl (G.2.1, 20, .inl (fun k => iV (uI (zSh 1 sI.toNat nq eF) ((sI + 1 + (Nat.cast nq : Int)) - 1).toNat ((zSh 1 sI.toNat nq eF) (sI + 1 + (Nat.cast nq : Int)).toNat) k)))), (sc, .inl (G.2.1, 120, .inl (fun k => iV (zCp (zSh 6 sI.toNat nq cF) (zSh 6 sI.toNat nq cF) ((sI + 1 + (Nat.cast nq : Int)) * 6).toNat (((sI + 1 + (Nat.cast nq : Int)) - 1) * 6).toNat 6 k))))]) X hP hD hS hl.1 (c_X7_copyStroke_s l G _ s0 sl se sc sn (zSh 1 sI.toNat nq lF) (zSh 1 sI.toNat nq eF) (zSh 6 sI.toNat nq cF) (sI + 1 + (Nat.cast nq : Int)) ((sI + 1 + (Nat.cast nq : Int)) - 1) (by exact sOK_sh hO _ _) (by first | assumption | omega) (by first | assumption | omega)) wd_362 kX7_copyStroke ⟨rfl, rfl, Nat.le_of_ble_eq_true rfl, Nat.le_of_ble_eq_true rfl⟩ [0, 1, 2, 3] [] rfl rfl rfl ⟨rfl, rfl⟩ rfl (by decide) 0 rfl rfl rfl rfl (Nat.le_of_ble_eq_true rfl) dX7_remove_33 ⟨Nat.zero_le _, Nat.zero_le _⟩ (fun H locs hP hD hS => ?_)
            refine z_iinc (lv' := [(2, .int (iV ((sI + 1 + (Nat.cast nq : Int)) + 1))), (0, .ref s0), (1, .int (iV sI))]) hx hb dX7_remove_36 hl (k := 2) rfl (by decide) rfl (fun ls hl => ?_)
            refine lv_goto (tgt := 13) hx hb dX7_remove_39 (by decide) ?_
            have hP : va_P G.1 vwCl [(s0, .inr (7, [.int (iV sn), .ref sl, .ref se, .ref sc])), (sl, .inl (G.2.1, 20, .inl (fun k => iV (zSh 1 sI.toNat (nq + 1) lF k)))), (se, .inl (G.2.1, 20, .inl (fun k => iV (zSh 1 sI.toNat (nq + 1) eF k)))), (sc, .inl (G.2.1, 120, .inl (fun k => iV (zSh 6 sI.toNat (nq + 1) cF k))))] _ := z_castP (by (rw [show (sI + 1 + (Nat.cast nq : Int) - 1).toNat = sI.toNat + nq by omega, show (sI + 1 + (Nat.cast nq : Int)).toNat = sI.toNat + nq + 1 by omega, show ((sI + 1 + (Nat.cast nq : Int)) * 6).toNat = 6 * (sI.toNat + nq + 1) by omega, show ((sI + 1 + (Nat.cast nq : Int) - 1) * 6).toNat = 6 * (sI.toNat + nq) by omega, zSh_u, zSh_u, zSh_c])) hP
            have hD : va_D _ [(s0, .inr (7, [.int (iV sn), .ref sl, .ref se, .ref sc])), (sl, .inl (G.2.1, 20, .inl (fun k => iV (zSh 1 sI.toNat (nq + 1) lF k)))), (se, .inl (G.2.1, 20, .inl (fun k => iV (zSh 1 sI.toNat (nq + 1) eF k)))), (sc, .inl (G.2.1, 120, .inl (fun k => iV (zSh 6 sI.toNat (nq + 1) cF k))))] := z_castD (by (rw [show (sI + 1 + (Nat.cast nq : Int) - 1).toNat = sI.toNat + nq by omega, show (sI + 1 + (Nat.cast nq : Int)).toNat = sI.toNat + nq + 1 by omega, show ((sI + 1 + (Nat.cast nq : Int)) * 6).toNat = 6 * (sI.toNat + nq + 1) by omega, show ((sI + 1 + (Nat.cast nq : Int) - 1) * 6).toNat = 6 * (sI.toNat + nq) by omega, zSh_u, zSh_u, zSh_c])) hD
            exact ih_13 (nq + 1) (by first | assumption | omega) (by omega) _ _ hP hD hS _ (lv_cons (lv_at hl 1 rfl) (lv_cons (lv_at hl 2 rfl) (lv_cons (lv_i hl 0 rfl (by omega)) (lv_nil hl))))
    have hP : va_P G.1 vwCl [(s0, .inr (7, [.int (iV sn), .ref sl, .ref se, .ref sc])), (sl, .inl (G.2.1, 20, .inl (fun k => iV (zSh 1 sI.toNat 0 lF k)))), (se, .inl (G.2.1, 20, .inl (fun k => iV (zSh 1 sI.toNat 0 eF k)))), (sc, .inl (G.2.1, 120, .inl (fun k => iV (zSh 6 sI.toNat 0 cF k))))] _ := z_castP (by simp only [zSh_0]) hP
    have hD : va_D _ [(s0, .inr (7, [.int (iV sn), .ref sl, .ref se, .ref sc])), (sl, .inl (G.2.1, 20, .inl (fun k => iV (zSh 1 sI.toNat 0 lF k)))), (se, .inl (G.2.1, 20, .inl (fun k => iV (zSh 1 sI.toNat 0 eF k)))), (sc, .inl (G.2.1, 120, .inl (fun k => iV (zSh 6 sI.toNat 0 cF k))))] := z_castD (by simp only [zSh_0]) hD
    exact lp_13 _ 0 (by first | assumption | omega) (Nat.lt_succ_self _) _ _ hP hD hS _ (lv_cons (lv_at hl 1 rfl) (lv_cons (lv_at hl 2 rfl) (lv_cons (lv_i hl 0 rfl (by omega)) (lv_nil hl))))
  · have hP : va_P G.1 vwCl [(s0, .inr (7, [.int (iV (sn - 1)), .ref sl, .ref se, .ref sc])), (sl, .inl (G.2.1, 20, .inl (fun k => iV (zSh 1 sI.toNat (sn.toNat - 1 - sI.toNat) lF k)))), (se, .inl (G.2.1, 20, .inl (fun k => iV (zSh 1 sI.toNat (sn.toNat - 1 - sI.toNat) eF k)))), (sc, .inl (G.2.1, 120, .inl (fun k => iV (zSh 6 sI.toNat (sn.toNat - 1 - sI.toNat) cF k))))] _ := z_castP (by exfalso; omega) hP
    exact z_retv hx hb hr hlocks hP hS dX7_remove_8

set_option maxHeartbeats 4000000 in
set_option maxRecDepth 100000 in
theorem c_X7_removeNear (l : Launch) (G : zG) (sz : Nat) (s0 : Nat) (sl : Nat) (se : Nat) (sc : Nat) (sn : Int) (lF : Nat → Int) (eF : Nat → Int) (cF : Nat → Int) (cI : Int) (hO : sOK sn lF cF) (hc : 0 ≤ cI ∧ cI < 81) : Met l yX7_removeNear (Cond.code yX7_removeNear cX7_removeNear 3 none :: zT) (zRm 3 71) (zPw G [.ref s0, .int (iV cI)] [(s0, .inr (7, [.int (iV sn), .ref sl, .ref se, .ref sc])), (sl, .inl (G.2.1, 20, .inl (fun k => iV (lF k)))), (se, .inl (G.2.1, 20, .inl (fun k => iV (eF k)))), (sc, .inl (G.2.1, 120, .inl (fun k => iV (cF k))))] sz) (zQv G [(s0, .inr (7, [.int (iV sn), .ref sl, .ref se, .ref sc])), (sl, .inl (G.2.1, 20, .inl (fun k => iV (lF k)))), (se, .inl (G.2.1, 20, .inl (fun k => iV (eF k)))), (sc, .inl (G.2.1, 120, .inl (fun k => iV (cF k))))] [(s0, .inr (7, [.int (iV ((sRm cI sn.toNat (sn, lF, eF, cF)).1)), .ref sl, .ref se, .ref sc])), (sl, .inl (G.2.1, 20, .inl (fun k => iV ((sRm cI sn.toNat (sn, lF, eF, cF)).2.1 k)))), (se, .inl (G.2.1, 20, .inl (fun k => iV ((sRm cI sn.toNat (sn, lF, eF, cF)).2.2.1 k)))), (sc, .inl (G.2.1, 120, .inl (fun k => iV ((sRm cI sn.toNat (sn, lF, eF, cF)).2.2.2 k))))] sz) 0 0 (va_A [(s0, .inr (7, [.int (iV sn), .ref sl, .ref se, .ref sc])), (sl, .inl (G.2.1, 20, .inl (fun k => iV (lF k)))), (se, .inl (G.2.1, 20, .inl (fun k => iV (eF k)))), (sc, .inl (G.2.1, 120, .inl (fun k => iV (cF k))))] sz) := by
  refine Met.ofW (cc := cX7_removeNear) (maxL := 3) (ret := none) (by decide) rfl ?_
  intro p e s m args below meth c s₁ B hml hv
  obtain ⟨rfl, hsz, hP, hK, hSt, hD0⟩ := hv
  have hx := B.exec
  have hb := B.bytes
  have hr := B.returns
  have hts : ∀ w ∈ zT, w.before _ s = true := fun w h => atoms_spec (ws := (Cond.code yX7_removeNear cX7_removeNear 3 none :: zT)) B.pre w (List.mem_cons_of_mem _ h)
  have hown : s.vm.findClass RX7 = some m.cls := findClass_of_methodNamed B.named
  have hlocks := B.notSynchronized
  subst hsz
  have hD : va_D (va_A [(s0, .inr (7, [.int (iV sn), .ref sl, .ref se, .ref sc])), (sl, .inl (G.2.1, 20, .inl (fun k => iV (lF k)))), (se, .inl (G.2.1, 20, .inl (fun k => iV (eF k)))), (sc, .inl (G.2.1, 120, .inl (fun k => iV (cF k))))] s.heap.size) [(s0, .inr (7, [.int (iV sn), .ref sl, .ref se, .ref sc])), (sl, .inl (G.2.1, 20, .inl (fun k => iV (lF k)))), (se, .inl (G.2.1, 20, .inl (fun k => iV (eF k)))), (sc, .inl (G.2.1, 120, .inl (fun k => iV (cF k))))] := hD0.self
  have hA : ∀ q : Nat, s.heap.size ≤ q → va_A [(s0, .inr (7, [.int (iV sn), .ref sl, .ref se, .ref sc])), (sl, .inl (G.2.1, 20, .inl (fun k => iV (lF k)))), (se, .inl (G.2.1, 20, .inl (fun k => iV (eF k)))), (sc, .inl (G.2.1, 120, .inl (fun k => iV (cF k))))] s.heap.size q := fun q h => Or.inr h
  have hS : va_S (va_A [(s0, .inr (7, [.int (iV sn), .ref sl, .ref se, .ref sc])), (sl, .inl (G.2.1, 20, .inl (fun k => iV (lF k)))), (se, .inl (G.2.1, 20, .inl (fun k => iV (eF k)))), (sc, .inl (G.2.1, 120, .inl (fun k => iV (cF k))))] s.heap.size) s.heap s.heap [] := va_S.rf
  have hP : va_P G.1 vwCl [(s0, .inr (7, [.int (iV sn), .ref sl, .ref se, .ref sc])), (sl, .inl (G.2.1, 20, .inl (fun k => iV (lF k)))), (se, .inl (G.2.1, 20, .inl (fun k => iV (eF k)))), (sc, .inl (G.2.1, 120, .inl (fun k => iV (cF k))))] s.heap := hP
  have X := And.intro hx (And.intro hb (And.intro hml (And.intro hown (And.intro hts (And.intro hK (And.intro hSt hA))))))
  have hl := lv_entry ([.ref s0, .int (iV cI)]) (n := 3) (Nat.le_of_ble_eq_true rfl)
  rw [lg_entry_eq]
  generalize (lg_sl ([.ref s0, .int (iV cI)]) ++ List.replicate (3 - (lg_sl ([.ref s0, .int (iV cI)])).length) Slot.unset).toArray = ls at hl ⊢
  have hl : lv_has ls 3 [(0, .ref s0), (1, .int (iV cI))] := hl
  obtain ⟨hn0, hn20, hlF, hcF⟩ := id hO
  refine lv_aload_n hx hb dX7_removeNear_0 rfl (lv_at hl 0 rfl) ?_
  refine va_get (D := G.1) (ci := 7) (v := .int (iV sn)) (C := RX7) (T := TX7) (N := 4) hx hb hts inX7 hown hK hP 0 rfl rfl 0 (by decide) (hts _ wd_58) (fun _ h9 => h9) rfl dX7_removeNear_1 ?_
  refine lv_iconst (v := iV 1) hx hb dX7_removeNear_4 (by decide) ?_
  refine z_isub hx hb dX7_removeNear_5 ?_
  refine lv_istore_n (lv' := [(2, .int (iV (sn - 1))), (0, .ref s0), (1, .int (iV cI))]) hx hb dX7_removeNear_6 rfl hl (by decide) rfl (fun ls hl => ?_)
  have lp_7 : ∀ (k : Nat) (mq : Nat) (n2 : Int) (l2 : Nat → Int) (e2 : Nat → Int) (c2 : Nat → Int) , (sOK n2 l2 c2) → ((Nat.cast mq : Int) ≤ n2) → ((sRm cI sn.toNat (sn, lF, eF, cF)) = sRm cI mq (n2, l2, e2, c2)) → mq < k → ∀ (H : Heap) (locs : List Loc), va_P G.1 vwCl [(s0, .inr (7, [.int (iV n2), .ref sl, .ref se, .ref sc])), (sl, .inl (G.2.1, 20, .inl (fun k => iV (l2 k)))), (se, .inl (G.2.1, 20, .inl (fun k => iV (e2 k)))), (sc, .inl (G.2.1, 120, .inl (fun k => iV (c2 k))))] H → va_D (va_A [(s0, .inr (7, [.int (iV sn), .ref sl, .ref se, .ref sc])), (sl, .inl (G.2.1, 20, .inl (fun k => iV (lF k)))), (se, .inl (G.2.1, 20, .inl (fun k => iV (eF k)))), (sc, .inl (G.2.1, 120, .inl (fun k => iV (cF k))))] s.heap.size) [(s0, .inr (7, [.int (iV n2), .ref sl, .ref se, .ref sc])), (sl, .inl (G.2.1, 20, .inl (fun k => iV (l2 k)))), (se, .inl (G.2.1, 20, .inl (fun k => iV (e2 k)))), (sc, .inl (G.2.1, 120, .inl (fun k => iV (c2 k))))] → va_S (va_A [(s0, .inr (7, [.int (iV sn), .ref sl, .ref se, .ref sc])), (sl, .inl (G.2.1, 20, .inl (fun k => iV (lF k)))), (se, .inl (G.2.1, 20, .inl (fun k => iV (eF k)))), (sc, .inl (G.2.1, 120, .inl (fun k => iV (cF k))))] s.heap.size) s.heap H locs → ∀ ls : Array Slot, lv_has ls 3 [(0, .ref s0), (1, .int (iV cI)), (2, .int (iV ((Nat.cast mq : Int) - 1)))] → W p l e (headSpec (Cond.code yX7_removeNear cX7_removeNear 3 none :: zT) (zRm 3 71)).room s m ([Value.ref s0, Value.int (iV cI)] : List Value).toArray below meth c H locs 0 0 (MQ below (zQv G [(s0, .inr (7, [.int (iV sn), .ref sl, .ref se, .ref sc])), (sl, .inl (G.2.1, 20, .inl (fun k => iV (lF k)))), (se, .inl (G.2.1, 20, .inl (fun k => iV (eF k)))), (sc, .inl (G.2.1, 120, .inl (fun k => iV (cF k))))] [(s0, .inr (7, [.int (iV ((sRm cI sn.toNat (sn, lF, eF, cF)).1)), .ref sl, .ref se, .ref sc])), (sl, .inl (G.2.1, 20, .inl (fun k => iV ((sRm cI sn.toNat (sn, lF, eF, cF)).2.1 k)))), (se, .inl (G.2.1, 20, .inl (fun k => iV ((sRm cI sn.toNat (sn, lF, eF, cF)).2.2.1 k)))), (sc, .inl (G.2.1, 120, .inl (fun k => iV ((sRm cI sn.toNat (sn, lF, eF, cF)).2.2.2 k))))] s.heap.size) ([Value.ref s0, Value.int (iV cI)] : List Value).toArray s 0 0 (va_A [(s0, .inr (7, [.int (iV sn), .ref sl, .ref se, .ref sc])), (sl, .inl (G.2.1, 20, .inl (fun k => iV (lF k)))), (se, .inl (G.2.1, 20, .inl (fun k => iV (eF k)))), (sc, .inl (G.2.1, 120, .inl (fun k => iV (cF k))))] s.heap.size)) (F0 m 7 ls []) := by
    intro k
    induction k with
    | zero => intro mq n2 l2 e2 c2 hO2 hm hp hk_; exact absurd hk_ (Nat.not_lt_zero _)
    | succ k ih_7 =>
      intro mq n2 l2 e2 c2 hO2 hm hp hk_7 H locs hP hD hS ls hl
      have hmm := hO2.2.1
      refine lv_iload_n hx hb dX7_removeNear_7 rfl (lv_at hl 2 rfl) ?_
      refine z_if_lt (tgt := 31) hx hb (by omega) dX7_removeNear_8 (by decide) (fun c_1 => ?_) (fun c_1 => ?_)
      · have hP : va_P G.1 vwCl [(s0, .inr (7, [.int (iV ((sRm cI sn.toNat (sn, lF, eF, cF)).1)), .ref sl, .ref se, .ref sc])), (sl, .inl (G.2.1, 20, .inl (fun k => iV ((sRm cI sn.toNat (sn, lF, eF, cF)).2.1 k)))), (se, .inl (G.2.1, 20, .inl (fun k => iV ((sRm cI sn.toNat (sn, lF, eF, cF)).2.2.1 k)))), (sc, .inl (G.2.1, 120, .inl (fun k => iV ((sRm cI sn.toNat (sn, lF, eF, cF)).2.2.2 k))))] _ := z_castP (by have h8 : mq = 0 := (by omega); subst h8; rw [hp]; rfl) hP
        exact z_retv hx hb hr hlocks hP hS dX7_removeNear_31
      · refine lv_aload_n hx hb dX7_removeNear_11 rfl (lv_at hl 0 rfl) ?_
        refine lv_iload_n hx hb dX7_removeNear_12 rfl (lv_at hl 2 rfl) ?_
        refine lv_iload_n hx hb dX7_removeNear_13 rfl (lv_at hl 1 rfl) ?_
        refine z_callV X hP hS hl.1 (c_X7_isNear l G _ s0 sl se sc n2 l2 e2 c2 ((Nat.cast mq : Int) - 1) cI (by assumption) (by first | assumption | omega) (by first | assumption | omega)) wd_400 kX7_isNear ⟨rfl, rfl, Nat.le_of_ble_eq_true rfl, Nat.le_of_ble_eq_true rfl⟩ [0, 1, 2, 3] rfl 0 rfl rfl rfl rfl (Nat.le_of_ble_eq_true rfl) dX7_removeNear_14 ⟨Nat.zero_le _, Nat.zero_le _⟩ (fun H locs hP hS => ?_)
        refine z_eq (z := bP (sNear l2 (sT c2) (mq - 1) cI)) (by rw [show ((Nat.cast mq : Int) - 1).toNat = mq - 1 by omega]) ?_
        refine z_ifb_eq (tgt := 25) hx hb dX7_removeNear_17 (by decide) (fun c_2 => ?_) (fun c_2 => ?_)
        · refine z_iinc (lv' := [(2, .int (iV (((Nat.cast mq : Int) - 1) + (-1)))), (0, .ref s0), (1, .int (iV cI))]) hx hb dX7_removeNear_25 hl (k := 2) rfl (by decide) rfl (fun ls hl => ?_)
          refine lv_goto (tgt := 7) hx hb dX7_removeNear_28 (by decide) ?_
          exact ih_7 (mq - 1) n2 l2 e2 c2 (by first | assumption | exact sOK_del hO2 (by omega)) (by first | assumption | omega) (by first | rfl | (rw [hp]; exact sRm_f2 (by omega) (by assumption)) | (rw [hp]; exact sRm_t2 (by omega) (by assumption))) (by omega) _ _ hP hD hS _ (lv_cons (lv_at hl 1 rfl) (lv_cons (lv_at hl 2 rfl) (lv_cons (lv_i hl 0 rfl (by omega)) (lv_nil hl))))
        · refine lv_aload_n hx hb dX7_removeNear_20 rfl (lv_at hl 0 rfl) ?_
          refine lv_iload_n hx hb dX7_removeNear_21 rfl (lv_at hl 2 rfl) ?_
          refine z_callVwv (w2 := [(s0, .inr (7, [.int (iV (n2 - 1)), .ref sl, .ref se, .ref sc])), (sl, .inl (G.2.1, 20, .inl (fun k => iV (zSh 1 ((Nat.cast mq : Int) - 1).toNat (n2.toNat - 1 - ((Nat.cast mq : Int) - 1).toNat) l2 k)))), (se, .inl (G.2.1, 20, .inl (fun k => iV (zSh 1 ((Nat.cast mq : Int) - 1).toNat (n2.toNat - 1 - ((Nat.cast mq : Int) - 1).toNat) e2 k)))), (sc, .inl (G.2.1, 120, .inl (fun k => iV (zSh 6 ((Nat.cast mq : Int) - 1).toNat (n2.toNat - 1 - ((Nat.cast mq : Int) - 1).toNat) c2 k))))]) X hP hD hS hl.1 (c_X7_remove l G _ s0 sl se sc n2 l2 e2 c2 ((Nat.cast mq : Int) - 1) (by assumption) (by first | assumption | omega)) wd_415 kX7_remove ⟨rfl, rfl, Nat.le_of_ble_eq_true rfl, Nat.le_of_ble_eq_true rfl⟩ [0, 1, 2, 3] [] rfl rfl rfl ⟨rfl, rfl⟩ rfl (by decide) 0 rfl rfl rfl rfl (Nat.le_of_ble_eq_true rfl) dX7_removeNear_22 ⟨Nat.zero_le _, Nat.zero_le _⟩ (fun H locs hP hD hS => ?_)
          refine z_iinc (lv' := [(2, .int (iV (((Nat.cast mq : Int) - 1) + (-1)))), (0, .ref s0), (1, .int (iV cI))]) hx hb dX7_removeNear_25 hl (k := 2) rfl (by decide) rfl (fun ls hl => ?_)
          refine lv_goto (tgt := 7) hx hb dX7_removeNear_28 (by decide) ?_
          have hP : va_P G.1 vwCl [(s0, .inr (7, [.int (iV (n2 - 1)), .ref sl, .ref se, .ref sc])), (sl, .inl (G.2.1, 20, .inl (fun k => iV ((zSh 1 ((Nat.cast mq : Int) - 1).toNat (n2.toNat - 1 - ((Nat.cast mq : Int) - 1).toNat) l2) k)))), (se, .inl (G.2.1, 20, .inl (fun k => iV ((zSh 1 ((Nat.cast mq : Int) - 1).toNat (n2.toNat - 1 - ((Nat.cast mq : Int) - 1).toNat) e2) k)))), (sc, .inl (G.2.1, 120, .inl (fun k => iV ((zSh 6 ((Nat.cast mq : Int) - 1).toNat (n2.toNat - 1 - ((Nat.cast mq : Int) - 1).toNat) c2) k))))] _ := z_castP (by rfl) hP
          have hD : va_D _ [(s0, .inr (7, [.int (iV (n2 - 1)), .ref sl, .ref se, .ref sc])), (sl, .inl (G.2.1, 20, .inl (fun k => iV ((zSh 1 ((Nat.cast mq : Int) - 1).toNat (n2.toNat - 1 - ((Nat.cast mq : Int) - 1).toNat) l2) k)))), (se, .inl (G.2.1, 20, .inl (fun k => iV ((zSh 1 ((Nat.cast mq : Int) - 1).toNat (n2.toNat - 1 - ((Nat.cast mq : Int) - 1).toNat) e2) k)))), (sc, .inl (G.2.1, 120, .inl (fun k => iV ((zSh 6 ((Nat.cast mq : Int) - 1).toNat (n2.toNat - 1 - ((Nat.cast mq : Int) - 1).toNat) c2) k))))] := z_castD (by rfl) hD
          exact ih_7 (mq - 1) (n2 - 1) (zSh 1 ((Nat.cast mq : Int) - 1).toNat (n2.toNat - 1 - ((Nat.cast mq : Int) - 1).toNat) l2) (zSh 1 ((Nat.cast mq : Int) - 1).toNat (n2.toNat - 1 - ((Nat.cast mq : Int) - 1).toNat) e2) (zSh 6 ((Nat.cast mq : Int) - 1).toNat (n2.toNat - 1 - ((Nat.cast mq : Int) - 1).toNat) c2) (by first | assumption | exact sOK_del hO2 (by omega)) (by first | assumption | omega) (by first | rfl | (rw [hp]; exact sRm_f2 (by omega) (by assumption)) | (rw [hp]; exact sRm_t2 (by omega) (by assumption))) (by omega) _ _ hP hD hS _ (lv_cons (lv_at hl 1 rfl) (lv_cons (lv_at hl 2 rfl) (lv_cons (lv_i hl 0 rfl (by omega)) (lv_nil hl))))
  exact lp_7 _ sn.toNat sn lF eF cF (by first | assumption | exact sOK_del hO2 (by omega)) (by first | assumption | omega) (by first | rfl | (rw [hp]; exact sRm_f2 (by omega) (by assumption)) | (rw [hp]; exact sRm_t2 (by omega) (by assumption))) (Nat.lt_succ_self _) _ _ hP hD hS _ (lv_cons (lv_at hl 1 rfl) (lv_cons (lv_at hl 2 rfl) (lv_cons (lv_i hl 0 rfl (by omega)) (lv_nil hl))))

set_option maxHeartbeats 4000000 in
set_option maxRecDepth 100000 in
theorem c_X7_add (l : Launch) (G : zG) (sz : Nat) (s0 : Nat) (sl : Nat) (se : Nat) (sc : Nat) (sn : Int) (lF : Nat → Int) (eF : Nat → Int) (cF : Nat → Int) (h0 : Nat) (ha : Nat) (wI : Int) (hI : Int) (gI : Nat → Int) (cI : Int) (hO : sOK sn lF cF) (hG : gOK wI hI gI) (hc : 0 ≤ cI ∧ cI < 81) (hroom : sn < 20) : Met l yX7_add (Cond.code yX7_add cX7_add 6 none :: zT) (zRm 5 111) (zPw G [.ref s0, .ref h0, .int (iV cI)] [(s0, .inr (7, [.int (iV sn), .ref sl, .ref se, .ref sc])), (sl, .inl (G.2.1, 20, .inl (fun k => iV (lF k)))), (se, .inl (G.2.1, 20, .inl (fun k => iV (eF k)))), (sc, .inl (G.2.1, 120, .inl (fun k => iV (cF k)))), (h0, .inr (0, [.int (iV wI), .int (iV hI), .ref ha])), (ha, .inl (G.2.1, 81, .inl (fun k => iV (gI k))))] sz) (zQv G [(s0, .inr (7, [.int (iV sn), .ref sl, .ref se, .ref sc])), (sl, .inl (G.2.1, 20, .inl (fun k => iV (lF k)))), (se, .inl (G.2.1, 20, .inl (fun k => iV (eF k)))), (sc, .inl (G.2.1, 120, .inl (fun k => iV (cF k)))), (h0, .inr (0, [.int (iV wI), .int (iV hI), .ref ha])), (ha, .inl (G.2.1, 81, .inl (fun k => iV (gI k))))] [(s0, .inr (7, [.int (iV (sn + 1)), .ref sl, .ref se, .ref sc])), (sl, .inl (G.2.1, 20, .inl (fun k => iV (uI lF sn.toNat (Nat.cast (sGo sn lF (sT cF) (fun z => gNext wI hI gI z) 6 0 cI).1 : Int) k)))), (se, .inl (G.2.1, 20, .inl (fun k => iV (uI eF sn.toNat (sGo sn lF (sT cF) (fun z => gNext wI hI gI z) 6 0 cI).2 k)))), (sc, .inl (G.2.1, 120, .inl (fun k => iV (sPut cF (6 * sn.toNat) (sGo sn lF (sT cF) (fun z => gNext wI hI gI z) 6 0 cI).1 (gWk (fun z => gNext wI hI gI z) cI) k)))), (h0, .inr (0, [.int (iV wI), .int (iV hI), .ref ha])), (ha, .inl (G.2.1, 81, .inl (fun k => iV (gI k))))] sz) 0 0 (va_A [(s0, .inr (7, [.int (iV sn), .ref sl, .ref se, .ref sc])), (sl, .inl (G.2.1, 20, .inl (fun k => iV (lF k)))), (se, .inl (G.2.1, 20, .inl (fun k => iV (eF k)))), (sc, .inl (G.2.1, 120, .inl (fun k => iV (cF k)))), (h0, .inr (0, [.int (iV wI), .int (iV hI), .ref ha])), (ha, .inl (G.2.1, 81, .inl (fun k => iV (gI k))))] sz) := by
  refine Met.ofW (cc := cX7_add) (maxL := 6) (ret := none) (by decide) rfl ?_
  intro p e s m args below meth c s₁ B hml hv
  obtain ⟨rfl, hsz, hP, hK, hSt, hD0⟩ := hv
  have hx := B.exec
  have hb := B.bytes
  have hr := B.returns
  have hts : ∀ w ∈ zT, w.before _ s = true := fun w h => atoms_spec (ws := (Cond.code yX7_add cX7_add 6 none :: zT)) B.pre w (List.mem_cons_of_mem _ h)
  have hown : s.vm.findClass RX7 = some m.cls := findClass_of_methodNamed B.named
  have hlocks := B.notSynchronized
  subst hsz
  have hD : va_D (va_A [(s0, .inr (7, [.int (iV sn), .ref sl, .ref se, .ref sc])), (sl, .inl (G.2.1, 20, .inl (fun k => iV (lF k)))), (se, .inl (G.2.1, 20, .inl (fun k => iV (eF k)))), (sc, .inl (G.2.1, 120, .inl (fun k => iV (cF k)))), (h0, .inr (0, [.int (iV wI), .int (iV hI), .ref ha])), (ha, .inl (G.2.1, 81, .inl (fun k => iV (gI k))))] s.heap.size) [(s0, .inr (7, [.int (iV sn), .ref sl, .ref se, .ref sc])), (sl, .inl (G.2.1, 20, .inl (fun k => iV (lF k)))), (se, .inl (G.2.1, 20, .inl (fun k => iV (eF k)))), (sc, .inl (G.2.1, 120, .inl (fun k => iV (cF k)))), (h0, .inr (0, [.int (iV wI), .int (iV hI), .ref ha])), (ha, .inl (G.2.1, 81, .inl (fun k => iV (gI k))))] := hD0.self
  have hA : ∀ q : Nat, s.heap.size ≤ q → va_A [(s0, .inr (7, [.int (iV sn), .ref sl, .ref se, .ref sc])), (sl, .inl (G.2.1, 20, .inl (fun k => iV (lF k)))), (se, .inl (G.2.1, 20, .inl (fun k => iV (eF k)))), (sc, .inl (G.2.1, 120, .inl (fun k => iV (cF k)))), (h0, .inr (0, [.int (iV wI), .int (iV hI), .ref ha])), (ha, .inl (G.2.1, 81, .inl (fun k => iV (gI k))))] s.heap.size q := fun q h => Or.inr h
  have hS : va_S (va_A [(s0, .inr (7, [.int (iV sn), .ref sl, .ref se, .ref sc])), (sl, .inl (G.2.1, 20, .inl (fun k => iV (lF k)))), (se, .inl (G.2.1, 20, .inl (fun k => iV (eF k)))), (sc, .inl (G.2.1, 120, .inl (fun k => iV (cF k)))), (h0, .inr (0, [.int (iV wI), .int (iV hI), .ref ha])), (ha, .inl (G.2.1, 81, .inl (fun k => iV (gI k))))] s.heap.size) s.heap s.heap [] := va_S.rf
  have hP : va_P G.1 vwCl [(s0, .inr (7, [.int (iV sn), .ref sl, .ref se, .ref sc])), (sl, .inl (G.2.1, 20, .inl (fun k => iV (lF k)))), (se, .inl (G.2.1, 20, .inl (fun k => iV (eF k)))), (sc, .inl (G.2.1, 120, .inl (fun k => iV (cF k)))), (h0, .inr (0, [.int (iV wI), .int (iV hI), .ref ha])), (ha, .inl (G.2.1, 81, .inl (fun k => iV (gI k))))] s.heap := hP
  have X := And.intro hx (And.intro hb (And.intro hml (And.intro hown (And.intro hts (And.intro hK (And.intro hSt hA))))))
  have hl := lv_entry ([.ref s0, .ref h0, .int (iV cI)]) (n := 6) (Nat.le_of_ble_eq_true rfl)
  rw [lg_entry_eq]
  generalize (lg_sl ([.ref s0, .ref h0, .int (iV cI)]) ++ List.replicate (6 - (lg_sl ([.ref s0, .ref h0, .int (iV cI)])).length) Slot.unset).toArray = ls at hl ⊢
  have hl : lv_has ls 6 [(0, .ref s0), (1, .ref h0), (2, .int (iV cI))] := hl
  obtain ⟨hn0, hn20, hlF, hcF⟩ := id hO
  obtain ⟨hW0, hW9, hH0, hH9, hg⟩ := id hG
  refine lv_aload_n hx hb dX7_add_0 rfl (lv_at hl 0 rfl) ?_
  refine va_get (D := G.1) (ci := 7) (v := .int (iV sn)) (C := RX7) (T := TX7) (N := 4) hx hb hts inX7 hown hK hP 0 rfl rfl 0 (by decide) (hts _ wd_58) (fun _ h9 => h9) rfl dX7_add_1 ?_
  refine lv_bipush (v := iV 20) hx hb dX7_add_4 (by decide) ?_
  refine z_icmp_lt (tgt := 10) hx hb (by omega) ⟨by decide, by decide⟩ dX7_add_6 (by decide) (fun c_1 => ?_) (fun c_1 => ?_)
  · refine lv_iload_n hx hb dX7_add_10 rfl (lv_at hl 2 rfl) ?_
    refine lv_istore_n (lv' := [(3, .int (iV cI)), (0, .ref s0), (1, .ref h0), (2, .int (iV cI))]) hx hb dX7_add_11 rfl hl (by decide) rfl (fun ls hl => ?_)
    refine lv_iconst (v := iV 0) hx hb dX7_add_12 (by decide) ?_
    refine lv_istore (lv' := [(4, .int (iV 0)), (3, .int (iV cI)), (0, .ref s0), (1, .ref h0), (2, .int (iV cI))]) hx hb dX7_add_13 hl (by decide) rfl (fun ls hl => ?_)
    refine lv_iconst (v := iV 0) hx hb dX7_add_15 (by decide) ?_
    refine lv_istore (lv' := [(5, .int (iV 0)), (4, .int (iV 0)), (3, .int (iV cI)), (0, .ref s0), (1, .ref h0), (2, .int (iV cI))]) hx hb dX7_add_16 hl (by decide) rfl (fun ls hl => ?_)
    have lp_18 : ∀ (k : Nat) (jq : Nat) (en : Int) , (jq ≤ 6) → (0 ≤ en ∧ en ≤ 3) → (∀ i : Nat, i < jq → 0 ≤ gWk (fun z => gNext wI hI gI z) cI i ∧ gWk (fun z => gNext wI hI gI z) cI i < 81) → (en = 0 → 0 ≤ gWk (fun z => gNext wI hI gI z) cI jq ∧ gWk (fun z => gNext wI hI gI z) cI jq < 81 ∧ jq < 6) → ((en = 0 → (sGo sn lF (sT cF) (fun z => gNext wI hI gI z) 6 0 cI) = sGo sn lF (sT cF) (fun z => gNext wI hI gI z) (6 - jq) jq (gWk (fun z => gNext wI hI gI z) cI jq)) ∧ (¬ en = 0 → (sGo sn lF (sT cF) (fun z => gNext wI hI gI z) 6 0 cI) = (jq, en))) → (7 - jq) < k → ∀ (H : Heap) (locs : List Loc), va_P G.1 vwCl [(s0, .inr (7, [.int (iV sn), .ref sl, .ref se, .ref sc])), (sl, .inl (G.2.1, 20, .inl (fun k => iV (lF k)))), (se, .inl (G.2.1, 20, .inl (fun k => iV (eF k)))), (sc, .inl (G.2.1, 120, .inl (fun k => iV (sPut cF (6 * sn.toNat) jq (gWk (fun z => gNext wI hI gI z) cI) k)))), (h0, .inr (0, [.int (iV wI), .int (iV hI), .ref ha])), (ha, .inl (G.2.1, 81, .inl (fun k => iV (gI k))))] H → va_D (va_A [(s0, .inr (7, [.int (iV sn), .ref sl, .ref se, .ref sc])), (sl, .inl (G.2.1, 20, .inl (fun k => iV (lF k)))), (se, .inl (G.2.1, 20, .inl (fun k => iV (eF k)))), (sc, .inl (G.2.1, 120, .inl (fun k => iV (cF k)))), (h0, .inr (0, [.int (iV wI), .int (iV hI), .ref ha])), (ha, .inl (G.2.1, 81, .inl (fun k => iV (gI k))))] s.heap.size) [(s0, .inr (7, [.int (iV sn), .ref sl, .ref se, .ref sc])), (sl, .inl (G.2.1, 20, .inl (fun k => iV (lF k)))), (se, .inl (G.2.1, 20, .inl (fun k => iV (eF k)))), (sc, .inl (G.2.1, 120, .inl (fun k => iV (sPut cF (6 * sn.toNat) jq (gWk (fun z => gNext wI hI gI z) cI) k)))), (h0, .inr (0, [.int (iV wI), .int (iV hI), .ref ha])), (ha, .inl (G.2.1, 81, .inl (fun k => iV (gI k))))] → va_S (va_A [(s0, .inr (7, [.int (iV sn), .ref sl, .ref se, .ref sc])), (sl, .inl (G.2.1, 20, .inl (fun k => iV (lF k)))), (se, .inl (G.2.1, 20, .inl (fun k => iV (eF k)))), (sc, .inl (G.2.1, 120, .inl (fun k => iV (cF k)))), (h0, .inr (0, [.int (iV wI), .int (iV hI), .ref ha])), (ha, .inl (G.2.1, 81, .inl (fun k => iV (gI k))))] s.heap.size) s.heap H locs → ∀ ls : Array Slot, lv_has ls 6 [(0, .ref s0), (1, .ref h0), (2, .int (iV cI)), (3, .int (iV (gWk (fun z => gNext wI hI gI z) cI jq))), (4, .int (iV en)), (5, .int (iV (Nat.cast jq : Int)))] → W p l e (headSpec (Cond.code yX7_add cX7_add 6 none :: zT) (zRm 5 111)).room s m ([Value.ref s0, Value.ref h0, Value.int (iV cI)] : List Value).toArray below meth c H locs 0 0 (MQ below (zQv G [(s0, .inr (7, [.int (iV sn), .ref sl, .ref se, .ref sc])), (sl, .inl (G.2.1, 20, .inl (fun k => iV (lF k)))), (se, .inl (G.2.1, 20, .inl (fun k => iV (eF k)))), (sc, .inl (G.2.1, 120, .inl (fun k => iV (cF k)))), (h0, .inr (0, [.int (iV wI), .int (iV hI), .ref ha])), (ha, .inl (G.2.1, 81, .inl (fun k => iV (gI k))))] [(s0, .inr (7, [.int (iV (sn + 1)), .ref sl, .ref se, .ref sc])), (sl, .inl (G.2.1, 20, .inl (fun k => iV (uI lF sn.toNat (Nat.cast (sGo sn lF (sT cF) (fun z => gNext wI hI gI z) 6 0 cI).1 : Int) k)))), (se, .inl (G.2.1, 20, .inl (fun k => iV (uI eF sn.toNat (sGo sn lF (sT cF) (fun z => gNext wI hI gI z) 6 0 cI).2 k)))), (sc, .inl (G.2.1, 120, .inl (fun k => iV (sPut cF (6 * sn.toNat) (sGo sn lF (sT cF) (fun z => gNext wI hI gI z) 6 0 cI).1 (gWk (fun z => gNext wI hI gI z) cI) k)))), (h0, .inr (0, [.int (iV wI), .int (iV hI), .ref ha])), (ha, .inl (G.2.1, 81, .inl (fun k => iV (gI k))))] s.heap.size) ([Value.ref s0, Value.ref h0, Value.int (iV cI)] : List Value).toArray s 0 0 (va_A [(s0, .inr (7, [.int (iV sn), .ref sl, .ref se, .ref sc])), (sl, .inl (G.2.1, 20, .inl (fun k => iV (lF k)))), (se, .inl (G.2.1, 20, .inl (fun k => iV (eF k)))), (sc, .inl (G.2.1, 120, .inl (fun k => iV (cF k)))), (h0, .inr (0, [.int (iV wI), .int (iV hI), .ref ha])), (ha, .inl (G.2.1, 81, .inl (fun k => iV (gI k))))] s.heap.size)) (F0 m 18 ls []) := by
      intro k
      induction k with
      | zero => intro jq en hj hen hcs hcur hfin hk_; exact absurd hk_ (Nat.not_lt_zero _)
      | succ k ih_18 =>
        intro jq en hj hen hcs hcur hfin hk_18 H locs hP hD hS ls hl
        refine lv_iload hx hb dX7_add_18 (lv_at hl 4 rfl) ?_
        refine z_if_ne (tgt := 67) hx hb (by omega) dX7_add_20 (by decide) (fun c_2 => ?_) (fun c_2 => ?_)
        · refine lv_aload_n hx hb dX7_add_67 rfl (lv_at hl 0 rfl) ?_
          refine va_get (D := G.1) (ci := 7) (v := .ref sl) (C := RX7) (T := TX7) (N := 4) hx hb hts inX7 hown hK hP 0 rfl rfl 1 (by decide) (hts _ wd_60) (fun _ h9 => h9) rfl dX7_add_68 ?_
          refine lv_aload_n hx hb dX7_add_71 rfl (lv_at hl 0 rfl) ?_
          refine va_get (D := G.1) (ci := 7) (v := .int (iV sn)) (C := RX7) (T := TX7) (N := 4) hx hb hts inX7 hown hK hP 0 rfl rfl 0 (by decide) (hts _ wd_58) (fun _ h9 => h9) rfl dX7_add_72 ?_
          refine lv_iload hx hb dX7_add_75 (lv_at hl 5 rfl) ?_
          refine z_iast (G := G) (f := lF) hx hb hK hP hD hS 1 rfl (by omega) (by omega) (by decide) dX7_add_77 (fun H locs hP hD hS => ?_)
          have hP : va_P G.1 vwCl [(s0, .inr (7, [.int (iV sn), .ref sl, .ref se, .ref sc])), (sl, .inl (G.2.1, 20, .inl (fun k => iV ((uI lF sn.toNat (Nat.cast jq : Int)) k)))), (se, .inl (G.2.1, 20, .inl (fun k => iV (eF k)))), (sc, .inl (G.2.1, 120, .inl (fun k => iV (sPut cF (6 * sn.toNat) jq (gWk (fun z => gNext wI hI gI z) cI) k)))), (h0, .inr (0, [.int (iV wI), .int (iV hI), .ref ha])), (ha, .inl (G.2.1, 81, .inl (fun k => iV (gI k))))] H := hP
          have hD : va_D _ [(s0, .inr (7, [.int (iV sn), .ref sl, .ref se, .ref sc])), (sl, .inl (G.2.1, 20, .inl (fun k => iV ((uI lF sn.toNat (Nat.cast jq : Int)) k)))), (se, .inl (G.2.1, 20, .inl (fun k => iV (eF k)))), (sc, .inl (G.2.1, 120, .inl (fun k => iV (sPut cF (6 * sn.toNat) jq (gWk (fun z => gNext wI hI gI z) cI) k)))), (h0, .inr (0, [.int (iV wI), .int (iV hI), .ref ha])), (ha, .inl (G.2.1, 81, .inl (fun k => iV (gI k))))] := hD
          refine lv_aload_n hx hb dX7_add_78 rfl (lv_at hl 0 rfl) ?_
          refine va_get (D := G.1) (ci := 7) (v := .ref se) (C := RX7) (T := TX7) (N := 4) hx hb hts inX7 hown hK hP 0 rfl rfl 2 (by decide) (hts _ wd_62) (fun _ h9 => h9) rfl dX7_add_79 ?_
          refine lv_aload_n hx hb dX7_add_82 rfl (lv_at hl 0 rfl) ?_
          refine va_get (D := G.1) (ci := 7) (v := .int (iV sn)) (C := RX7) (T := TX7) (N := 4) hx hb hts inX7 hown hK hP 0 rfl rfl 0 (by decide) (hts _ wd_58) (fun _ h9 => h9) rfl dX7_add_83 ?_
          refine lv_iload hx hb dX7_add_86 (lv_at hl 4 rfl) ?_
          refine z_iast (G := G) (f := eF) hx hb hK hP hD hS 2 rfl (by omega) (by omega) (by decide) dX7_add_88 (fun H locs hP hD hS => ?_)
          have hP : va_P G.1 vwCl [(s0, .inr (7, [.int (iV sn), .ref sl, .ref se, .ref sc])), (sl, .inl (G.2.1, 20, .inl (fun k => iV ((uI lF sn.toNat (Nat.cast jq : Int)) k)))), (se, .inl (G.2.1, 20, .inl (fun k => iV ((uI eF sn.toNat en) k)))), (sc, .inl (G.2.1, 120, .inl (fun k => iV (sPut cF (6 * sn.toNat) jq (gWk (fun z => gNext wI hI gI z) cI) k)))), (h0, .inr (0, [.int (iV wI), .int (iV hI), .ref ha])), (ha, .inl (G.2.1, 81, .inl (fun k => iV (gI k))))] H := hP
          have hD : va_D _ [(s0, .inr (7, [.int (iV sn), .ref sl, .ref se, .ref sc])), (sl, .inl (G.2.1, 20, .inl (fun k => iV ((uI lF sn.toNat (Nat.cast jq : Int)) k)))), (se, .inl (G.2.1, 20, .inl (fun k => iV ((uI eF sn.toNat en) k)))), (sc, .inl (G.2.1, 120, .inl (fun k => iV (sPut cF (6 * sn.toNat) jq (gWk (fun z => gNext wI hI gI z) cI) k)))), (h0, .inr (0, [.int (iV wI), .int (iV hI), .ref ha])), (ha, .inl (G.2.1, 81, .inl (fun k => iV (gI k))))] := hD
          refine lv_aload_n hx hb dX7_add_89 rfl (lv_at hl 0 rfl) ?_
          refine lv_dup hx hb dX7_add_90 rfl ?_
          refine va_get (D := G.1) (ci := 7) (v := .int (iV sn)) (C := RX7) (T := TX7) (N := 4) hx hb hts inX7 hown hK hP 0 rfl rfl 0 (by decide) (hts _ wd_58) (fun _ h9 => h9) rfl dX7_add_91 ?_
          refine lv_iconst (v := iV 1) hx hb dX7_add_94 (by decide) ?_
          refine z_iadd hx hb dX7_add_95 ?_
          refine va_put (D := G.1) (ci := 7) (v := .int (iV (sn + 1))) (ty := .int) (C := RX7) (T := TX7) (N := 4) hx hb hts inX7 tyX7 tyX7_ok nmX7 hown hK hP hD hS 0 rfl rfl 0 (by decide) (hts _ wd_58) (fun _ h9 => h9) rfl (by decide +kernel) rfl rfl (Nat.le_of_ble_eq_true rfl) dX7_add_96 (fun H locs hP hD hS => ?_)
          have hP : va_P G.1 vwCl [(s0, .inr (7, [.int (iV (sn + 1)), .ref sl, .ref se, .ref sc])), (sl, .inl (G.2.1, 20, .inl (fun k => iV ((uI lF sn.toNat (Nat.cast jq : Int)) k)))), (se, .inl (G.2.1, 20, .inl (fun k => iV ((uI eF sn.toNat en) k)))), (sc, .inl (G.2.1, 120, .inl (fun k => iV (sPut cF (6 * sn.toNat) jq (gWk (fun z => gNext wI hI gI z) cI) k)))), (h0, .inr (0, [.int (iV wI), .int (iV hI), .ref ha])), (ha, .inl (G.2.1, 81, .inl (fun k => iV (gI k))))] H := hP
          have hD : va_D _ [(s0, .inr (7, [.int (iV (sn + 1)), .ref sl, .ref se, .ref sc])), (sl, .inl (G.2.1, 20, .inl (fun k => iV ((uI lF sn.toNat (Nat.cast jq : Int)) k)))), (se, .inl (G.2.1, 20, .inl (fun k => iV ((uI eF sn.toNat en) k)))), (sc, .inl (G.2.1, 120, .inl (fun k => iV (sPut cF (6 * sn.toNat) jq (gWk (fun z => gNext wI hI gI z) cI) k)))), (h0, .inr (0, [.int (iV wI), .int (iV hI), .ref ha])), (ha, .inl (G.2.1, 81, .inl (fun k => iV (gI k))))] := hD
          have hP : va_P G.1 vwCl [(s0, .inr (7, [.int (iV (sn + 1)), .ref sl, .ref se, .ref sc])), (sl, .inl (G.2.1, 20, .inl (fun k => iV (uI lF sn.toNat (Nat.cast (sGo sn lF (sT cF) (fun z => gNext wI hI gI z) 6 0 cI).1 : Int) k)))), (se, .inl (G.2.1, 20, .inl (fun k => iV (uI eF sn.toNat (sGo sn lF (sT cF) (fun z => gNext wI hI gI z) 6 0 cI).2 k)))), (sc, .inl (G.2.1, 120, .inl (fun k => iV (sPut cF (6 * sn.toNat) (sGo sn lF (sT cF) (fun z => gNext wI hI gI z) 6 0 cI).1 (gWk (fun z => gNext wI hI gI z) cI) k)))), (h0, .inr (0, [.int (iV wI), .int (iV hI), .ref ha])), (ha, .inl (G.2.1, 81, .inl (fun k => iV (gI k))))] _ := z_castP (by rw [hfin.2 (by assumption)]) hP
          exact z_retv hx hb hr hlocks hP hS dX7_add_99
        · refine lv_iload hx hb dX7_add_23 (lv_at hl 5 rfl) ?_
          refine lv_bipush (v := iV 6) hx hb dX7_add_25 (by decide) ?_
          refine z_icmp_ge (tgt := 67) hx hb (by omega) ⟨by decide, by decide⟩ dX7_add_27 (by decide) (fun c_3 => ?_) (fun c_3 => ?_)
          · exact absurd (hcur (by assumption)).2.2 (by omega)
          · refine lv_aload_n hx hb dX7_add_30 rfl (lv_at hl 0 rfl) ?_
            refine va_get (D := G.1) (ci := 7) (v := .ref sc) (C := RX7) (T := TX7) (N := 4) hx hb hts inX7 hown hK hP 0 rfl rfl 3 (by decide) (hts _ wd_64) (fun _ h9 => h9) rfl dX7_add_31 ?_
            refine lv_aload_n hx hb dX7_add_34 rfl (lv_at hl 0 rfl) ?_
            refine va_get (D := G.1) (ci := 7) (v := .int (iV sn)) (C := RX7) (T := TX7) (N := 4) hx hb hts inX7 hown hK hP 0 rfl rfl 0 (by decide) (hts _ wd_58) (fun _ h9 => h9) rfl dX7_add_35 ?_
            refine lv_bipush (v := iV 6) hx hb dX7_add_38 (by decide) ?_
            refine z_imul hx hb dX7_add_40 ?_
            refine lv_iload hx hb dX7_add_41 (lv_at hl 5 rfl) ?_
            refine z_iadd hx hb dX7_add_43 ?_
            refine lv_iload_n hx hb dX7_add_44 rfl (lv_at hl 3 rfl) ?_
            refine z_iast (G := G) (f := sPut cF (6 * sn.toNat) jq (gWk (fun z => gNext wI hI gI z) cI)) hx hb hK hP hD hS 3 rfl (by omega) (by omega) (by decide) dX7_add_45 (fun H locs hP hD hS => ?_)
            have hP : va_P G.1 vwCl [(s0, .inr (7, [.int (iV sn), .ref sl, .ref se, .ref sc])), (sl, .inl (G.2.1, 20, .inl (fun k => iV (lF k)))), (se, .inl (G.2.1, 20, .inl (fun k => iV (eF k)))), (sc, .inl (G.2.1, 120, .inl (fun k => iV ((uI (sPut cF (6 * sn.toNat) jq (gWk (fun z => gNext wI hI gI z) cI)) ((sn * 6) + (Nat.cast jq : Int)).toNat (gWk (fun z => gNext wI hI gI z) cI jq)) k)))), (h0, .inr (0, [.int (iV wI), .int (iV hI), .ref ha])), (ha, .inl (G.2.1, 81, .inl (fun k => iV (gI k))))] H := hP
            have hD : va_D _ [(s0, .inr (7, [.int (iV sn), .ref sl, .ref se, .ref sc])), (sl, .inl (G.2.1, 20, .inl (fun k => iV (lF k)))), (se, .inl (G.2.1, 20, .inl (fun k => iV (eF k)))), (sc, .inl (G.2.1, 120, .inl (fun k => iV ((uI (sPut cF (6 * sn.toNat) jq (gWk (fun z => gNext wI hI gI z) cI)) ((sn * 6) + (Nat.cast jq : Int)).toNat (gWk (fun z => gNext wI hI gI z) cI jq)) k)))), (h0, .inr (0, [.int (iV wI), .int (iV hI), .ref ha])), (ha, .inl (G.2.1, 81, .inl (fun k => iV (gI k))))] := hD
            have hcu := hcur (by assumption)
            have hP : va_P G.1 vwCl [(s0, .inr (7, [.int (iV sn), .ref sl, .ref se, .ref sc])), (sl, .inl (G.2.1, 20, .inl (fun k => iV (lF k)))), (se, .inl (G.2.1, 20, .inl (fun k => iV (eF k)))), (sc, .inl (G.2.1, 120, .inl (fun k => iV (sPut cF (6 * sn.toNat) (jq + 1) (gWk (fun z => gNext wI hI gI z) cI) k)))), (h0, .inr (0, [.int (iV wI), .int (iV hI), .ref ha])), (ha, .inl (G.2.1, 81, .inl (fun k => iV (gI k))))] _ := z_castP (by rw [show (sn * 6 + (Nat.cast jq : Int)).toNat = 6 * sn.toNat + jq by omega, sPut_s]) hP
            have hD : va_D _ [(s0, .inr (7, [.int (iV sn), .ref sl, .ref se, .ref sc])), (sl, .inl (G.2.1, 20, .inl (fun k => iV (lF k)))), (se, .inl (G.2.1, 20, .inl (fun k => iV (eF k)))), (sc, .inl (G.2.1, 120, .inl (fun k => iV (sPut cF (6 * sn.toNat) (jq + 1) (gWk (fun z => gNext wI hI gI z) cI) k)))), (h0, .inr (0, [.int (iV wI), .int (iV hI), .ref ha])), (ha, .inl (G.2.1, 81, .inl (fun k => iV (gI k))))] := z_castD (by rw [show (sn * 6 + (Nat.cast jq : Int)).toNat = 6 * sn.toNat + jq by omega, sPut_s]) hD
            refine z_iinc (lv' := [(5, .int (iV ((Nat.cast jq : Int) + 1))), (0, .ref s0), (1, .ref h0), (2, .int (iV cI)), (3, .int (iV (gWk (fun z => gNext wI hI gI z) cI jq))), (4, .int (iV en))]) hx hb dX7_add_46 hl (k := 5) rfl (by decide) rfl (fun ls hl => ?_)
            refine lv_aload_n hx hb dX7_add_49 rfl (lv_at hl 2 rfl) ?_
            refine lv_iload_n hx hb dX7_add_50 rfl (lv_at hl 4 rfl) ?_
            refine z_callV X hP hS hl.1 (c_X0_nextDown l G _ h0 ha wI hI gI (gWk (fun z => gNext wI hI gI z) cI jq) (by first | assumption | omega) (by first | assumption | omega)) wd_688 kX0_nextDown ⟨rfl, rfl, Nat.le_of_ble_eq_true rfl, Nat.le_of_ble_eq_true rfl⟩ [4, 5] rfl 0 rfl rfl rfl rfl (Nat.le_of_ble_eq_true rfl) dX7_add_51 ⟨Nat.zero_le _, Nat.zero_le _⟩ (fun H locs hP hS => ?_)
            have f_4 := gNext_r hG (gWk (fun z => gNext wI hI gI z) cI jq)
            refine lv_istore_n (lv' := [(3, .int (iV (gNext wI hI gI (gWk (fun z => gNext wI hI gI z) cI jq)))), (5, .int (iV ((Nat.cast jq : Int) + 1))), (0, .ref s0), (1, .ref h0), (2, .int (iV cI)), (4, .int (iV en))]) hx hb dX7_add_54 rfl hl (by decide) rfl (fun ls hl => ?_)
            refine lv_aload_n hx hb dX7_add_55 rfl (lv_at hl 2 rfl) ?_
            refine lv_iload_n hx hb dX7_add_56 rfl (lv_at hl 0 rfl) ?_
            refine lv_iload hx hb dX7_add_57 (lv_at hl 1 rfl) ?_
            refine z_callV X hP hS hl.1 (c_X7_endBefore l G _ s0 sl se sc sn lF eF (sPut cF (6 * sn.toNat) (jq + 1) (gWk (fun z => gNext wI hI gI z) cI)) (gNext wI hI gI (gWk (fun z => gNext wI hI gI z) cI jq)) ((Nat.cast jq : Int) + 1) (by exact sOK_put hO (all_s hcs ⟨hcu.1, hcu.2.1⟩)) (by first | assumption | omega) (by first | assumption | omega)) wd_689 kX7_endBefore ⟨rfl, rfl, Nat.le_of_ble_eq_true rfl, Nat.le_of_ble_eq_true rfl⟩ [0, 1, 2, 3] rfl 0 rfl rfl rfl rfl (Nat.le_of_ble_eq_true rfl) dX7_add_59 ⟨Nat.zero_le _, Nat.zero_le _⟩ (fun H locs hP hS => ?_)
            have f_5 := sEnd_r sn lF (sT (sPut cF (6 * sn.toNat) (jq + 1) (gWk (fun z => gNext wI hI gI z) cI))) (gNext wI hI gI (gWk (fun z => gNext wI hI gI z) cI jq)) ((Nat.cast jq : Int) + 1)
            refine z_eq (z := sEnd sn lF (sT cF) (gNext wI hI gI (gWk (fun z => gNext wI hI gI z) cI jq)) (Nat.cast (jq + 1) : Int)) (by rw [show (Nat.cast jq : Int) + 1 = (Nat.cast (jq + 1) : Int) by omega]; exact sEnd_put (fun k => (hlF k).2)) ?_
            have hse := sEnd_r sn lF (sT cF) (gNext wI hI gI (gWk (fun z => gNext wI hI gI z) cI jq)) (Nat.cast (jq + 1) : Int)
            refine lv_istore (lv' := [(4, .int (iV (sEnd sn lF (sT cF) (gNext wI hI gI (gWk (fun z => gNext wI hI gI z) cI jq)) (Nat.cast (jq + 1) : Int)))), (3, .int (iV (gNext wI hI gI (gWk (fun z => gNext wI hI gI z) cI jq)))), (5, .int (iV ((Nat.cast jq : Int) + 1))), (0, .ref s0), (1, .ref h0), (2, .int (iV cI))]) hx hb dX7_add_62 hl (by decide) rfl (fun ls hl => ?_)
            refine lv_goto (tgt := 18) hx hb dX7_add_64 (by decide) ?_
            exact ih_18 (jq + 1) (sEnd sn lF (sT cF) (gNext wI hI gI (gWk (fun z => gNext wI hI gI z) cI jq)) (Nat.cast (jq + 1) : Int)) (by first | assumption | omega) (by first | assumption | omega) (all_s hcs ⟨hcu.1, hcu.2.1⟩) (fun h0 => by have h9 := sEnd_0 h0; have h10 := gNext_r hG (gWk (fun z => gNext wI hI gI z) cI jq); show 0 ≤ gNext wI hI gI (gWk (fun z => gNext wI hI gI z) cI jq) ∧ gNext wI hI gI (gWk (fun z => gNext wI hI gI z) cI jq) < 81 ∧ jq + 1 < 6; omega) (by have h9 := hfin.1 (by assumption); rw [sGo_s hcu.2.2] at h9; exact ⟨fun h0 => by rw [if_pos h0] at h9; exact h9, fun h0 => by rw [if_neg h0] at h9; exact h9⟩) (by omega) _ _ hP hD hS _ (lv_cons (lv_at hl 3 rfl) (lv_cons (lv_at hl 4 rfl) (lv_cons (lv_at hl 5 rfl) (lv_cons (lv_i hl 1 rfl (by first | rfl | omega)) (lv_cons (lv_i hl 0 rfl (by first | rfl | omega)) (lv_cons (lv_i hl 2 rfl (by first | rfl | omega)) (lv_nil hl)))))))
    have hP : va_P G.1 vwCl [(s0, .inr (7, [.int (iV sn), .ref sl, .ref se, .ref sc])), (sl, .inl (G.2.1, 20, .inl (fun k => iV (lF k)))), (se, .inl (G.2.1, 20, .inl (fun k => iV (eF k)))), (sc, .inl (G.2.1, 120, .inl (fun k => iV (sPut cF (6 * sn.toNat) 0 (gWk (fun z => gNext wI hI gI z) cI) k)))), (h0, .inr (0, [.int (iV wI), .int (iV hI), .ref ha])), (ha, .inl (G.2.1, 81, .inl (fun k => iV (gI k))))] _ := z_castP (by rw [sPut_0]) hP
    have hD : va_D _ [(s0, .inr (7, [.int (iV sn), .ref sl, .ref se, .ref sc])), (sl, .inl (G.2.1, 20, .inl (fun k => iV (lF k)))), (se, .inl (G.2.1, 20, .inl (fun k => iV (eF k)))), (sc, .inl (G.2.1, 120, .inl (fun k => iV (sPut cF (6 * sn.toNat) 0 (gWk (fun z => gNext wI hI gI z) cI) k)))), (h0, .inr (0, [.int (iV wI), .int (iV hI), .ref ha])), (ha, .inl (G.2.1, 81, .inl (fun k => iV (gI k))))] := z_castD (by rw [sPut_0]) hD
    exact lp_18 _ 0 0 (by first | assumption | omega) (by first | assumption | omega) (fun i hi => absurd hi (Nat.not_lt_zero i)) (fun _ => ⟨hc.1, hc.2, by omega⟩) (⟨fun _ => rfl, fun h => absurd rfl h⟩) (Nat.lt_succ_self _) _ _ hP hD hS _ (lv_cons (lv_at hl 3 rfl) (lv_cons (lv_at hl 4 rfl) (lv_cons (lv_at hl 5 rfl) (lv_cons (lv_i hl 2 rfl (by first | rfl | omega)) (lv_cons (lv_at hl 1 rfl) (lv_cons (lv_i hl 0 rfl (by first | rfl | omega)) (lv_nil hl)))))))
  · exact absurd hroom (by omega)
